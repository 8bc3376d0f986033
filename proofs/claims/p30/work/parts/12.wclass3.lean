abbrev rm_X2_countRest : Room := { frames := 3, cells := 0, slots := 0, locals := 83 }
theorem ok_X2_countRest : okY yX2_countRest 1 := ⟨by decide +kernel, by decide +kernel, by decide +kernel⟩
set_option maxHeartbeats 4000000 in
set_option maxRecDepth 100000 in
theorem c_X2_countRest (l : Launch) (z0 : Nat) (D : va_G) (t : Nat → ClassId) (A : Nat → Nat) (B : Nat → Nat) (μ : VS) (a1 : Int64) (res : (Nat → Nat → Int32) × (Nat → Int32)) (sz : Nat) (h : f_X2_countRest μ a1 = some res) : Met l yX2_countRest (ws_ yX2_countRest cX2_countRest 6 none) rm_X2_countRest (PM z0 D t [.ref (A 0), .long a1] (VW A B t μ) (VL A B μ) sz) (QM none D (VW A B t (v_takes' (v_rest' μ res.1) res.2)) (VL A B μ) sz) 0 0 (OA (VL A B μ) sz) := by
  refine Met.ofW (cc := cX2_countRest) (maxL := 6) (ret := none) (by decide) rfl ?_
  intro p e s m args below meth c s₁ Bo hml hv
  obtain ⟨rfl, hC, hsz, hP, hD, hZ⟩ := hv
  have hx := Bo.exec
  have hb := Bo.bytes
  have hr := Bo.returns
  have hts : ∀ w ∈ LA, w.before _ s = true := fun w hw => atoms_spec (ws := ws_ yX2_countRest cX2_countRest 6 none) Bo.pre w (List.mem_cons_of_mem _ hw)
  have hown : s.vm.findClass RX2 = some m.cls := findClass_of_methodNamed Bo.named
  have hlocks := Bo.notSynchronized
  have hK := hC.1
  subst hsz
  have hl := lv_entry ([.ref (A 0), .long a1]) (n := 6) (Nat.le_of_ble_eq_true rfl)
  rw [lg_entry_eq]
  generalize (lg_sl ([.ref (A 0), .long a1]) ++ List.replicate (6 - (lg_sl ([.ref (A 0), .long a1])).length) Slot.unset).toArray = ls at hl ⊢
  have hl : lv_has ls 6 [(0, .ref (A 0)), (1, .long a1)] := hl
  suffices K9 : ∀ (H : Heap) (locs : List Loc), va_P D vwCl (VW A B t μ) H → va_S (OA (VL A B μ) s.heap.size) s.heap H locs → W p l e (headSpec (ws_ yX2_countRest cX2_countRest 6 none) rm_X2_countRest).room s m ([.ref (A 0), .long a1] : List Value).toArray below meth c H locs 0 0 (MQ below (QM none D (VW A B t (v_takes' (v_rest' μ res.1) res.2)) (VL A B μ) s.heap.size) ([.ref (A 0), .long a1] : List Value).toArray s 0 0 (OA (VL A B μ) s.heap.size)) (F0 m 0 ls []) from K9 s.heap [] hP va_S.rf
  intro H locs hP hS
  have hSz : s.heap.size ≤ H.size := hS.1
  unfold f_X2_countRest at h
  refine lv_lload_n hx hb dX2_countRest_0 rfl (lv_at hl 1 rfl) ?_
  obtain ⟨r1, er1, h⟩ := obind h
  refine call_R (va_runS (As := [.long a1]) (rest := []) ⟨hx, hb, hml, hown, hts⟩ (c_X2_endOf l z0 D t a1 _ er1) (kS hts qw275 qw276 qw6 qw277 ok_X2_endOf ⟨Nat.le_of_ble_eq_true rfl, Nat.le_of_ble_eq_true rfl⟩) ⟨PR.blind, fun U hU hW => ⟨rfl, by rw [hU]; exact (hC.at hS hZ).warm hW, by rw [hU]; exact va_P_nil⟩⟩ rfl rfl hl.1 rfl (lv_room (Nat.le_of_ble_eq_true rfl)) dX2_countRest_1 ⟨Nat.le_of_ble_eq_true rfl, Nat.le_of_ble_eq_true rfl⟩) ?_
  refine lv_istore_n (lv' := [(3, .int r1), (0, .ref (A 0)), (1, .long a1)]) hx hb dX2_countRest_4 rfl hl (by decide) rfl (fun ls hl => ?_)
  refine lv_aload_n hx hb dX2_countRest_5 rfl (lv_at hl 1 rfl) ?_
  refine lv_iload_n hx hb dX2_countRest_6 rfl (lv_at hl 0 rfl) ?_
  obtain ⟨r2, er2, h⟩ := obind h
  refine call_R (va_runV (As := [.int r1]) (rest := []) ⟨hx, hb, hml, hown, hts⟩ (c_X2_restOf l z0 D t A B μ r1 _ er2) (kV hts qw341 qw343 qs9 qw6 qw344 ok_X2_restOf ⟨Nat.le_of_ble_eq_true rfl, Nat.le_of_ble_eq_true rfl⟩) ⟨PR.blind, va_recv hK hP (ci := 3) (q0 := 0) rfl rfl, fun U hU hW => ⟨rfl, by rw [hU]; exact (hC.at hS hZ).warm hW, by rw [hU]; exact hP⟩⟩ rfl rfl hl.1 rfl (lv_room (Nat.le_of_ble_eq_true rfl)) dX2_countRest_7 ⟨Nat.le_of_ble_eq_true rfl, Nat.le_of_ble_eq_true rfl⟩) ?_
  refine lv_astore (lv' := [(4, .ref (B r2)), (3, .int r1), (0, .ref (A 0)), (1, .long a1)]) hx hb dX2_countRest_10 hl (by decide) rfl (fun ls hl => ?_)
  refine lv_aload hx hb dX2_countRest_12 (lv_at hl 0 rfl) ?_
  refine lv_iconst (v := (0)) hx hb dX2_countRest_14 (by decide) ?_
  obtain ⟨r3, er3, h⟩ := obind h
  refine call_M (va_runS (As := [.ref (B r2), .int (0 : Int32)]) (rest := []) ⟨hx, hb, hml, hown, hts⟩ (c_J7_fill_53178 l z0 D t (B r2) ((v_rest μ) r2) (0 : Int32) _ H.size er3) (kS hts qw351 qw352 qw19 qw353 ok_J7_fill_53178 ⟨Nat.le_of_ble_eq_true rfl, Nat.le_of_ble_eq_true rfl⟩) ⟨PM.blind, fun U hU hW => ⟨rfl, by rw [hU]; exact (hC.at hS hZ).warm hW, by rw [hU], by rw [hU]; exact (sub_V_Fr (μ := μ) (lt_X2_restOf er2) hP), ⟨(subD_V_Fr (μ := μ) (lt_X2_restOf er2) hD).1, fun _ _ h9 => Or.inl (in_map (L := (FL (B r2))) rfl h9)⟩, fun q hq => hZ q (OA.ofD (subD_V_Fr (μ := μ) (lt_X2_restOf er2) hD) rfl hSz q hq)⟩⟩ rfl rfl hl.1 rfl (lv_room (Nat.le_of_ble_eq_true rfl)) dX2_countRest_15 ⟨Nat.le_of_ble_eq_true rfl, Nat.le_of_ble_eq_true rfl⟩) hS (OA.ofD (subD_V_Fr (μ := μ) (lt_X2_restOf er2) hD) rfl hSz) (fun H locs hP1 hD1 hS _ hk1 => ?_)
  obtain ⟨hP, hD⟩ := back_V_Fr (μ := μ) (lt_X2_restOf er2) hP hD hk1 hP1
  have hP : va_P D vwCl (VW A B t (v_rest' μ (va_up (v_rest μ) r2 r3))) H := hP
  have hD : va_D (OA (VL A B μ) s.heap.size) (VW A B t (v_rest' μ (va_up (v_rest μ) r2 r3))) := hD
  have hSz : s.heap.size ≤ H.size := hS.1
  refine lv_aload hx hb dX2_countRest_18 (lv_at hl 0 rfl) ?_
  refine lv_iconst (v := (0)) hx hb dX2_countRest_20 (by decide) ?_
  refine lv_iconst (v := (1)) hx hb dX2_countRest_21 (by decide) ?_
  obtain ⟨f4, ef4, h⟩ := obind h
  refine k_iast (ws' := (VW A B t (v_rest' μ (va_up (va_up (v_rest μ) r2 r3) r2 f4)))) hx hb hK hP hD hS (9 + r2) (row_V (lt_X2_restOf er2)) ef4 (rowset_V (lt_X2_restOf er2)) dX2_countRest_22 (fun H locs hP hD hS => ?_)
  have hSz : s.heap.size ≤ H.size := hS.1
  refine lv_iload_n hx hb dX2_countRest_23 rfl (lv_at hl 1 rfl) ?_
  refine lv_iconst (v := (1)) hx hb dX2_countRest_24 (by decide) ?_
  refine lv_isub hx hb dX2_countRest_25 ?_
  obtain ⟨x5, ex5, h⟩ := jlet_some h
  refine topI ex5 ?_
  refine lv_istore (lv' := [(5, .int x5), (4, .ref (B r2)), (3, .int r1), (0, .ref (A 0)), (1, .long a1)]) hx hb dX2_countRest_26 hl (by decide) rfl (fun ls hl => ?_)
  obtain ⟨o20, eo20, h⟩ := obind h
  have hL28 : ∀ (n : Nat) (y5_28 : Int32) (rest_28 : Nat → Nat → Int32) (takes_28 : Nat → Int32) (o20 : (Nat → Nat → Int32) × (Nat → Int32)), f_X2_countRest_L28 a1 μ n y5_28 rest_28 takes_28 = some o20 → (∀ (ls : Array Slot) (H : Heap) (locs : List Loc), lv_has ls 6 [] → va_P D vwCl (VW A B t (v_takes' (v_rest' μ o20.1) o20.2)) H → va_D (OA (VL A B μ) s.heap.size) (VW A B t (v_takes' (v_rest' μ o20.1) o20.2)) → va_S (OA (VL A B μ) s.heap.size) s.heap H locs → W p l e (headSpec (ws_ yX2_countRest cX2_countRest 6 none) rm_X2_countRest).room s m ([.ref (A 0), .long a1] : List Value).toArray below meth c H locs 0 0 (MQ below (QM none D (VW A B t (v_takes' (v_rest' μ res.1) res.2)) (VL A B μ) s.heap.size) ([.ref (A 0), .long a1] : List Value).toArray s 0 0 (OA (VL A B μ) s.heap.size)) (F0 m 70 ls [])) → ∀ (ls : Array Slot) (H : Heap) (locs : List Loc), lv_has ls 6 [(0, .ref (A 0)), (1, .long a1), (5, .int y5_28)] → va_P D vwCl (VW A B t (v_takes' (v_rest' μ rest_28) takes_28)) H → va_D (OA (VL A B μ) s.heap.size) (VW A B t (v_takes' (v_rest' μ rest_28) takes_28)) → va_S (OA (VL A B μ) s.heap.size) s.heap H locs → W p l e (headSpec (ws_ yX2_countRest cX2_countRest 6 none) rm_X2_countRest).room s m ([.ref (A 0), .long a1] : List Value).toArray below meth c H locs 0 0 (MQ below (QM none D (VW A B t (v_takes' (v_rest' μ res.1) res.2)) (VL A B μ) s.heap.size) ([.ref (A 0), .long a1] : List Value).toArray s 0 0 (OA (VL A B μ) s.heap.size)) (F0 m 28 ls []) := by
    intro n
    induction n with
    | zero => intro y5_28 rest_28 takes_28 o20 h; exact absurd h (fun z => by cases z)
    | succ n ih =>
      intro y5_28 rest_28 takes_28 o20 h hK28 ls H locs hl hP hD hS
      replace h : f_X2_countRest_L28_b a1 μ (f_X2_countRest_L28 a1 μ n) y5_28 rest_28 takes_28 = some o20 := h
      unfold f_X2_countRest_L28_b at h
      have hSz : s.heap.size ≤ H.size := hS.1
      refine lv_iload hx hb dX2_countRest_28 (lv_at hl 2 rfl) ?_
      refine lv_if_lt (tgt := 70) hx hb dX2_countRest_30 (by decide) (fun hc => ?_) (fun hc => ?_)
      · have h := iteT hc h
        obtain rfl := Option.some.inj h
        exact hK28 ls H locs (lv_sub hl [] rfl) hP hD hS
      · have h := iteF hc h
        refine lv_aload_n hx hb dX2_countRest_33 rfl (lv_at hl 0 rfl) ?_
        refine lv_lload_n hx hb dX2_countRest_34 rfl (lv_at hl 1 rfl) ?_
        refine lv_iload hx hb dX2_countRest_35 (lv_at hl 2 rfl) ?_
        obtain ⟨r21, er21, h⟩ := obind h
        refine call_M (va_runV (As := [.long a1, .int y5_28]) (rest := []) ⟨hx, hb, hml, hown, hts⟩ (c_X2_findTakes l z0 D t A (takes_28, (v_u1 μ), (v_u2 μ)) a1 y5_28 _ H.size er21) (kV hts qw298 qw300 qs4 qw6 qw301 ok_X2_findTakes ⟨Nat.le_of_ble_eq_true rfl, Nat.le_of_ble_eq_true rfl⟩) ⟨PM.blind, va_recv hK (sub_V_P (μ := v_takes' (v_rest' μ rest_28) takes_28) hP) (ci := 3) (q0 := 0) rfl rfl, fun U hU hW => ⟨rfl, by rw [hU]; exact (hC.at hS hZ).warm hW, by rw [hU], by rw [hU]; exact (sub_V_P (μ := v_takes' (v_rest' μ rest_28) takes_28) hP), ⟨(subD_V_P (μ := v_takes' (v_rest' μ rest_28) takes_28) hD).1, fun _ _ h9 => Or.inl (in_map (L := (PL A)) rfl h9)⟩, fun q hq => hZ q (OA.ofD (subD_V_P (μ := v_takes' (v_rest' μ rest_28) takes_28) hD) rfl hSz q hq)⟩⟩ rfl rfl hl.1 rfl (lv_room (Nat.le_of_ble_eq_true rfl)) dX2_countRest_37 ⟨Nat.le_of_ble_eq_true rfl, Nat.le_of_ble_eq_true rfl⟩) hS (OA.ofD (subD_V_P (μ := v_takes' (v_rest' μ rest_28) takes_28) hD) rfl hSz) (fun H locs hP1 hD1 hS _ hk1 => ?_)
        obtain ⟨hP, hD⟩ := back_V_P (μ := v_takes' (v_rest' μ rest_28) takes_28) hP hD hk1 hP1
        have hP : va_P D vwCl (VW A B t (v_takes' (v_rest' μ rest_28) r21)) H := hP
        have hD : va_D (OA (VL A B μ) s.heap.size) (VW A B t (v_takes' (v_rest' μ rest_28) r21)) := hD
        have hSz : s.heap.size ≤ H.size := hS.1
        refine lv_aload_n hx hb dX2_countRest_40 rfl (lv_at hl 0 rfl) ?_
        refine lv_lload_n hx hb dX2_countRest_41 rfl (lv_at hl 1 rfl) ?_
        refine lv_iload hx hb dX2_countRest_42 (lv_at hl 2 rfl) ?_
        obtain ⟨r22, er22, h⟩ := obind h
        refine call_R (va_runSN (As := [.long a1, .int y5_28]) (rest := [.ref (A 0)]) ⟨hx, hb, hml, hown, hts⟩ (c_X4_holds l z0 D t a1 y5_28 _ er22) ⟨kN hts (hC.2.1 _ qw295) qw1 qw297 ok_X4_holds ⟨Nat.le_of_ble_eq_true rfl, Nat.le_of_ble_eq_true rfl⟩, hts _ qw296, trivial⟩ ⟨PR.blind, fun U hU hW => ⟨rfl, by rw [hU]; exact (hC.at hS hZ).warm hW, by rw [hU]; exact va_P_nil⟩⟩ rfl rfl hl.1 rfl (lv_room (Nat.le_of_ble_eq_true rfl)) dX2_countRest_44 ⟨Nat.le_of_ble_eq_true rfl, Nat.le_of_ble_eq_true rfl⟩) ?_
        refine lv_aload_n hx hb dX2_countRest_47 rfl (lv_at hl 0 rfl) ?_
        refine lv_iload hx hb dX2_countRest_48 (lv_at hl 2 rfl) ?_
        obtain ⟨r23, er23, h⟩ := obind h
        refine call_R (va_runV (As := [.int y5_28]) (rest := [.int r22, .ref (A 0)]) ⟨hx, hb, hml, hown, hts⟩ (c_X2_restOf l z0 D t A B (v_takes' (v_rest' μ rest_28) r21) y5_28 _ er23) (kV hts qw341 qw343 qs9 qw6 qw344 ok_X2_restOf ⟨Nat.le_of_ble_eq_true rfl, Nat.le_of_ble_eq_true rfl⟩) ⟨PR.blind, va_recv hK hP (ci := 3) (q0 := 0) rfl rfl, fun U hU hW => ⟨rfl, by rw [hU]; exact (hC.at hS hZ).warm hW, by rw [hU]; exact hP⟩⟩ rfl rfl hl.1 rfl (lv_room (Nat.le_of_ble_eq_true rfl)) dX2_countRest_50 ⟨Nat.le_of_ble_eq_true rfl, Nat.le_of_ble_eq_true rfl⟩) ?_
        refine lv_aload_n hx hb dX2_countRest_53 rfl (lv_at hl 0 rfl) ?_
        refine lv_iload hx hb dX2_countRest_54 (lv_at hl 2 rfl) ?_
        refine lv_iconst (v := (1)) hx hb dX2_countRest_56 (by decide) ?_
        refine lv_iadd hx hb dX2_countRest_57 ?_
        obtain ⟨r24, er24, h⟩ := obind h
        refine call_R (va_runV (As := [.int (y5_28 + (1 : Int32))]) (rest := [.ref (B r23), .int r22, .ref (A 0)]) ⟨hx, hb, hml, hown, hts⟩ (c_X2_restOf l z0 D t A B (v_takes' (v_rest' μ rest_28) r21) (y5_28 + (1 : Int32)) _ er24) (kV hts qw341 qw343 qs9 qw6 qw344 ok_X2_restOf ⟨Nat.le_of_ble_eq_true rfl, Nat.le_of_ble_eq_true rfl⟩) ⟨PR.blind, va_recv hK hP (ci := 3) (q0 := 0) rfl rfl, fun U hU hW => ⟨rfl, by rw [hU]; exact (hC.at hS hZ).warm hW, by rw [hU]; exact hP⟩⟩ rfl rfl hl.1 rfl (lv_room (Nat.le_of_ble_eq_true rfl)) dX2_countRest_58 ⟨Nat.le_of_ble_eq_true rfl, Nat.le_of_ble_eq_true rfl⟩) ?_
        have hn26 : ¬ (r23 = r24) := fun z => absurd (iteT z h) (fun z => by cases z)
        have h := iteF hn26 h
        obtain ⟨r25, er25, h⟩ := obind h
        refine call_M (va_runV (As := [.int r22, .ref (B r23), .ref (B r24)]) (rest := []) ⟨hx, hb, hml, hown, hts⟩ (c_X2_countPlace l z0 D t A (B r23) (B r24) (r21, (v_u1 μ), (v_u2 μ), rest_28 r23, rest_28 r24) r22 _ H.size er25) (kV hts qw354 qw356 qs10 qw6 qw357 ok_X2_countPlace ⟨Nat.le_of_ble_eq_true rfl, Nat.le_of_ble_eq_true rfl⟩) ⟨PM.blind, va_recv hK (sub_V_PH (μ := v_takes' (v_rest' μ rest_28) r21) (lt_X2_restOf er23) (lt_X2_restOf er24) hP) (ci := 3) (q0 := 0) rfl rfl, fun U hU hW => ⟨rfl, by rw [hU]; exact (hC.at hS hZ).warm hW, by rw [hU], by rw [hU]; exact (sub_V_PH (μ := v_takes' (v_rest' μ rest_28) r21) (lt_X2_restOf er23) (lt_X2_restOf er24) hP), ⟨(subD_V_PH (μ := v_takes' (v_rest' μ rest_28) r21) (lt_X2_restOf er23) (lt_X2_restOf er24) hn26 hD).1, fun _ _ h9 => Or.inl (in_map (L := (PHL A (B r23) (B r24))) rfl h9)⟩, fun q hq => hZ q (OA.ofD (subD_V_PH (μ := v_takes' (v_rest' μ rest_28) r21) (lt_X2_restOf er23) (lt_X2_restOf er24) hn26 hD) rfl hSz q hq)⟩⟩ rfl rfl hl.1 rfl (lv_room (Nat.le_of_ble_eq_true rfl)) dX2_countRest_61 ⟨Nat.le_of_ble_eq_true rfl, Nat.le_of_ble_eq_true rfl⟩) hS (OA.ofD (subD_V_PH (μ := v_takes' (v_rest' μ rest_28) r21) (lt_X2_restOf er23) (lt_X2_restOf er24) hn26 hD) rfl hSz) (fun H locs hP1 hD1 hS _ hk1 => ?_)
        obtain ⟨hP, hD⟩ := back_V_PH (μ := v_takes' (v_rest' μ rest_28) r21) (lt_X2_restOf er23) (lt_X2_restOf er24) hn26 hP hD hk1 hP1
        have hP : va_P D vwCl (VW A B t (v_takes' (v_rest' μ (va_up rest_28 r23 r25)) r21)) H := hP
        have hD : va_D (OA (VL A B μ) s.heap.size) (VW A B t (v_takes' (v_rest' μ (va_up rest_28 r23 r25)) r21)) := hD
        have hSz : s.heap.size ≤ H.size := hS.1
        obtain ⟨x27, ex27, h⟩ := jlet_some h
        refine lv_iinc (v := x27) (lv' := [(5, .int x27), (0, .ref (A 0)), (1, .long a1)]) hx hb dX2_countRest_64 hl (k := 2) rfl (by rw [ex27]; rfl) (by decide) rfl (fun ls hl => ?_)
        refine lv_goto (tgt := 28) hx hb dX2_countRest_67 (by decide) ?_
        exact ih _ _ _ _ h hK28 ls H locs (lv_sub hl [1, 2, 0] rfl) hP hD hS
  refine hL28 _ _ _ _ _ eo20 (fun ls H locs hl hP hD hS => ?_) ls H locs (lv_sub hl [3, 4, 0] rfl) hP hD hS
  have hSz : s.heap.size ≤ H.size := hS.1
  obtain rfl := Option.some.inj h
  exact W.vret hx hb hr (fun t ht hW => ⟨rfl, by rw [ht]; exact hP, hD, hS.F ht⟩) hS.2.2 dX2_countRest_70

abbrev rm_X2_restFrom : Room := { frames := 2, cells := 0, slots := 0, locals := 61 }
theorem ok_X2_restFrom : okY yX2_restFrom 2 := ⟨by decide +kernel, by decide +kernel, by decide +kernel⟩
set_option maxHeartbeats 4000000 in
set_option maxRecDepth 100000 in
theorem c_X2_restFrom (l : Launch) (z0 : Nat) (D : va_G) (t : Nat → ClassId) (A : Nat → Nat) (B : Nat → Nat) (μ : VS) (a1 : Int32) (a2 : Int32) (res : Int32) (h : f_X2_restFrom μ a1 a2 = some res) : Met l yX2_restFrom (ws_ yX2_restFrom cX2_restFrom 3 (some .int)) rm_X2_restFrom (PR z0 D t [.ref (A 0), .int a1, .int a2] (VW A B t μ)) (QR (some (.int res))) 0 0 FN := by
  refine Met.ofW (cc := cX2_restFrom) (maxL := 3) (ret := (some .int)) (by decide) rfl ?_
  intro p e s m args below meth c s₁ Bo hml hv
  obtain ⟨rfl, hC, hP⟩ := hv
  have hx := Bo.exec
  have hb := Bo.bytes
  have hr := Bo.returns
  have hts : ∀ w ∈ LA, w.before _ s = true := fun w hw => atoms_spec (ws := ws_ yX2_restFrom cX2_restFrom 3 (some .int)) Bo.pre w (List.mem_cons_of_mem _ hw)
  have hown : s.vm.findClass RX2 = some m.cls := findClass_of_methodNamed Bo.named
  have hlocks := Bo.notSynchronized
  have hK := hC.1
  have hl := lv_entry ([.ref (A 0), .int a1, .int a2]) (n := 3) (Nat.le_of_ble_eq_true rfl)
  rw [lg_entry_eq]
  generalize (lg_sl ([.ref (A 0), .int a1, .int a2]) ++ List.replicate (3 - (lg_sl ([.ref (A 0), .int a1, .int a2])).length) Slot.unset).toArray = ls at hl ⊢
  have hl : lv_has ls 3 [(0, .ref (A 0)), (1, .int a1), (2, .int a2)] := hl
  unfold f_X2_restFrom at h
  refine lv_iload_n hx hb dX2_restFrom_0 rfl (lv_at hl 2 rfl) ?_
  refine lv_if_lt (tgt := 21) hx hb dX2_restFrom_1 (by decide) (fun hc => ?_) (fun hc => ?_)
  · have h := iteT hc h
    refine lv_iconst (v := (0)) hx hb dX2_restFrom_21 (by decide) ?_
    obtain rfl := Option.some.inj h
    exact W.iret hx hb hr (fun t ht hW => ⟨rfl, ht⟩) (fun q hq => absurd hq List.not_mem_nil) dX2_restFrom_22
  · have h := iteF hc h
    refine lv_iload_n hx hb dX2_restFrom_4 rfl (lv_at hl 2 rfl) ?_
    refine lv_sipush (v := (512)) hx hb dX2_restFrom_5 (by decide) ?_
    refine lv_icmp_ge (tgt := 21) hx hb dX2_restFrom_8 (by decide) (fun hc => ?_) (fun hc => ?_)
    · have h := iteT hc h
      refine lv_iconst (v := (0)) hx hb dX2_restFrom_21 (by decide) ?_
      obtain rfl := Option.some.inj h
      exact W.iret hx hb hr (fun t ht hW => ⟨rfl, ht⟩) (fun q hq => absurd hq List.not_mem_nil) dX2_restFrom_22
    · have h := iteF hc h
      refine lv_aload_n hx hb dX2_restFrom_11 rfl (lv_at hl 0 rfl) ?_
      refine lv_iload_n hx hb dX2_restFrom_12 rfl (lv_at hl 1 rfl) ?_
      obtain ⟨r1, er1, h⟩ := obind h
      refine call_R (va_runV (As := [.int a1]) (rest := []) ⟨hx, hb, hml, hown, hts⟩ (c_X2_restOf l z0 D t A B μ a1 _ er1) (kV hts qw341 qw343 qs9 qw6 qw344 ok_X2_restOf ⟨Nat.le_of_ble_eq_true rfl, Nat.le_of_ble_eq_true rfl⟩) ⟨PR.blind, va_recv hK hP (ci := 3) (q0 := 0) rfl rfl, fun U hU hW => ⟨rfl, by rw [hU]; exact hC.warm hW, by rw [hU]; exact hP⟩⟩ rfl rfl hl.1 rfl (lv_room (Nat.le_of_ble_eq_true rfl)) dX2_restFrom_13 ⟨Nat.le_of_ble_eq_true rfl, Nat.le_of_ble_eq_true rfl⟩) ?_
      refine lv_iload_n hx hb dX2_restFrom_16 rfl (lv_at hl 2 rfl) ?_
      obtain ⟨v2, ev2, h⟩ := obind h
      refine k_iald hx hb hK hP (9 + r1) (row_V (lt_X2_restOf er1)) ev2 dX2_restFrom_17 ?_
      refine lv_goto (tgt := 22) hx hb dX2_restFrom_18 (by decide) ?_
      obtain rfl := Option.some.inj h
      exact W.iret hx hb hr (fun t ht hW => ⟨rfl, ht⟩) (fun q hq => absurd hq List.not_mem_nil) dX2_restFrom_22

abbrev rm_X2_waysAround : Room := { frames := 3, cells := 0, slots := 0, locals := 83 }
theorem ok_X2_waysAround : okY yX2_waysAround 1 := ⟨by decide +kernel, by decide +kernel, by decide +kernel⟩
set_option maxHeartbeats 4000000 in
set_option maxRecDepth 100000 in
theorem c_X2_waysAround (l : Launch) (z0 : Nat) (D : va_G) (t : Nat → ClassId) (A : Nat → Nat) (B : Nat → Nat) (μ : VS) (a1 : Int32) (res : Int32) (h : f_X2_waysAround μ a1 = some res) : Met l yX2_waysAround (ws_ yX2_waysAround cX2_waysAround 5 (some .int)) rm_X2_waysAround (PR z0 D t [.ref (A 0), .int a1] (VW A B t μ)) (QR (some (.int res))) 0 0 FN := by
  refine Met.ofW (cc := cX2_waysAround) (maxL := 5) (ret := (some .int)) (by decide) rfl ?_
  intro p e s m args below meth c s₁ Bo hml hv
  obtain ⟨rfl, hC, hP⟩ := hv
  have hx := Bo.exec
  have hb := Bo.bytes
  have hr := Bo.returns
  have hts : ∀ w ∈ LA, w.before _ s = true := fun w hw => atoms_spec (ws := ws_ yX2_waysAround cX2_waysAround 5 (some .int)) Bo.pre w (List.mem_cons_of_mem _ hw)
  have hown : s.vm.findClass RX2 = some m.cls := findClass_of_methodNamed Bo.named
  have hlocks := Bo.notSynchronized
  have hK := hC.1
  have hl := lv_entry ([.ref (A 0), .int a1]) (n := 5) (Nat.le_of_ble_eq_true rfl)
  rw [lg_entry_eq]
  generalize (lg_sl ([.ref (A 0), .int a1]) ++ List.replicate (5 - (lg_sl ([.ref (A 0), .int a1])).length) Slot.unset).toArray = ls at hl ⊢
  have hl : lv_has ls 5 [(0, .ref (A 0)), (1, .int a1)] := hl
  unfold f_X2_waysAround at h
  refine lv_iconst (v := (0)) hx hb dX2_waysAround_0 (by decide) ?_
  refine lv_istore_n (lv' := [(2, .int (0 : Int32)), (0, .ref (A 0)), (1, .int a1)]) hx hb dX2_waysAround_1 rfl hl (by decide) rfl (fun ls hl => ?_)
  refine lv_iconst (v := (0)) hx hb dX2_waysAround_2 (by decide) ?_
  refine lv_istore_n (lv' := [(3, .int (0 : Int32)), (2, .int (0 : Int32)), (0, .ref (A 0)), (1, .int a1)]) hx hb dX2_waysAround_3 rfl hl (by decide) rfl (fun ls hl => ?_)
  obtain ⟨o19, eo19, h⟩ := obind h
  have hL4 : ∀ (n : Nat) (y2_4 : Int32) (y3_4 : Int32) (o19 : Int32), f_X2_waysAround_L4 a1 μ n y2_4 y3_4 = some o19 → (∀ (ls : Array Slot), lv_has ls 5 [(2, .int o19)] → W p l e (headSpec (ws_ yX2_waysAround cX2_waysAround 5 (some .int)) rm_X2_waysAround).room s m ([.ref (A 0), .int a1] : List Value).toArray below meth c s.heap [] 0 0 (MQ below (QR (some (.int res))) ([.ref (A 0), .int a1] : List Value).toArray s 0 0 FN) (F0 m 62 ls [])) → ∀ (ls : Array Slot), lv_has ls 5 [(0, .ref (A 0)), (1, .int a1), (2, .int y2_4), (3, .int y3_4)] → W p l e (headSpec (ws_ yX2_waysAround cX2_waysAround 5 (some .int)) rm_X2_waysAround).room s m ([.ref (A 0), .int a1] : List Value).toArray below meth c s.heap [] 0 0 (MQ below (QR (some (.int res))) ([.ref (A 0), .int a1] : List Value).toArray s 0 0 FN) (F0 m 4 ls []) := by
    intro n
    induction n with
    | zero => intro y2_4 y3_4 o19 h; exact absurd h (fun z => by cases z)
    | succ n ih =>
      intro y2_4 y3_4 o19 h hK4 ls hl
      replace h : f_X2_waysAround_L4_b a1 μ (f_X2_waysAround_L4 a1 μ n) y2_4 y3_4 = some o19 := h
      unfold f_X2_waysAround_L4_b at h
      refine lv_iload_n hx hb dX2_waysAround_4 rfl (lv_at hl 3 rfl) ?_
      refine lv_aload_n hx hb dX2_waysAround_5 rfl (lv_at hl 0 rfl) ?_
      refine va_get hx hb hts inX2 hown hK hP 0 rfl rfl 2 (by decide) (hts _ qw103) (fun _ h9 => h9) rfl dX2_waysAround_6 ?_
      refine va_get hx hb hts inX6 hown hK hP 3 rfl rfl 0 (by decide) (hts _ qw91) (fun _ h9 => h9) rfl dX2_waysAround_9 ?_
      refine lv_icmp_ge (tgt := 62) hx hb dX2_waysAround_12 (by decide) (fun hc => ?_) (fun hc => ?_)
      · have h := iteT hc h
        obtain rfl := Option.some.inj h
        exact hK4 ls (lv_sub hl [2] rfl)
      · have h := iteF hc h
        refine lv_aload_n hx hb dX2_waysAround_15 rfl (lv_at hl 0 rfl) ?_
        refine va_get hx hb hts inX2 hown hK hP 0 rfl rfl 2 (by decide) (hts _ qw103) (fun _ h9 => h9) rfl dX2_waysAround_16 ?_
        refine lv_iload_n hx hb dX2_waysAround_19 rfl (lv_at hl 3 rfl) ?_
        obtain ⟨r20, er20, h⟩ := obind h
        refine call_R (va_runV (As := [.int y3_4]) (rest := []) ⟨hx, hb, hml, hown, hts⟩ (c_X6_windowAt l z0 D t (v_u1 μ) ((v_hsz μ), (v_hwin μ), (v_hway μ)) y3_4 _ er20) (kV hts qw311 qw268 qw269 qw7 qw270 ok_X6_windowAt ⟨Nat.le_of_ble_eq_true rfl, Nat.le_of_ble_eq_true rfl⟩) ⟨PR.blind, va_recv hK (sub_V_RE_h (μ := μ) hP) (ci := 6) (q0 := 0) rfl rfl, fun U hU hW => ⟨rfl, by rw [hU]; exact hC.warm hW, by rw [hU]; exact (sub_V_RE_h (μ := μ) hP)⟩⟩ rfl rfl hl.1 rfl (lv_room (Nat.le_of_ble_eq_true rfl)) dX2_waysAround_20 ⟨Nat.le_of_ble_eq_true rfl, Nat.le_of_ble_eq_true rfl⟩) ?_
        refine lv_istore (lv' := [(4, .int r20), (0, .ref (A 0)), (1, .int a1), (2, .int y2_4), (3, .int y3_4)]) hx hb dX2_waysAround_23 hl (by decide) rfl (fun ls hl => ?_)
        refine lv_iload hx hb dX2_waysAround_25 (lv_at hl 0 rfl) ?_
        refine lv_iconst (v := (1)) hx hb dX2_waysAround_27 (by decide) ?_
        refine lv_iand hx hb dX2_waysAround_28 ?_
        obtain ⟨o24, eo24, h⟩ := obind h
        have hJ56_o24 : ∀ ls : Array Slot, lv_has ls 5 [(0, .ref (A 0)), (1, .int a1), (2, .int o24), (3, .int y3_4)] → W p l e (headSpec (ws_ yX2_waysAround cX2_waysAround 5 (some .int)) rm_X2_waysAround).room s m ([.ref (A 0), .int a1] : List Value).toArray below meth c s.heap [] 0 0 (MQ below (QR (some (.int res))) ([.ref (A 0), .int a1] : List Value).toArray s 0 0 FN) (F0 m 56 ls []) := by
          intro ls hl
          obtain ⟨x28, ex28, h⟩ := jlet_some h
          refine lv_iinc (v := x28) (lv' := [(3, .int x28), (0, .ref (A 0)), (1, .int a1), (2, .int o24)]) hx hb dX2_waysAround_56 hl (k := 3) rfl (by rw [ex28]; rfl) (by decide) rfl (fun ls hl => ?_)
          refine lv_goto (tgt := 4) hx hb dX2_waysAround_59 (by decide) ?_
          exact ih _ _ _ h hK4 ls (lv_sub hl [1, 2, 3, 0] rfl)
        have h := eo24
        clear eo24
        refine lv_if_ne (tgt := 56) hx hb dX2_waysAround_29 (by decide) (fun hc => ?_) (fun hc => ?_)
        · have h := iteF hc h
          obtain rfl := Option.some.inj h
          exact hJ56_o24 ls (lv_sub hl [1, 2, 3, 4] rfl)
        · have h := iteT hc h
          refine lv_iload_n hx hb dX2_waysAround_32 rfl (lv_at hl 3 rfl) ?_
          refine lv_aload_n hx hb dX2_waysAround_33 rfl (lv_at hl 1 rfl) ?_
          refine va_get hx hb hts inX2 hown hK hP 0 rfl rfl 2 (by decide) (hts _ qw103) (fun _ h9 => h9) rfl dX2_waysAround_34 ?_
          refine lv_iload hx hb dX2_waysAround_37 (lv_at hl 0 rfl) ?_
          obtain ⟨r25, er25, h⟩ := obind h
          refine call_R (va_runV (As := [.int r20]) (rest := [.int y2_4]) ⟨hx, hb, hml, hown, hts⟩ (c_X6_waysTo l z0 D t (v_u1 μ) ((v_hsz μ), (v_hwin μ), (v_hway μ)) r20 _ er25) (kV hts qw324 qw325 qw326 qw7 qw327 ok_X6_waysTo ⟨Nat.le_of_ble_eq_true rfl, Nat.le_of_ble_eq_true rfl⟩) ⟨PR.blind, va_recv hK (sub_V_RE_h (μ := μ) hP) (ci := 6) (q0 := 0) rfl rfl, fun U hU hW => ⟨rfl, by rw [hU]; exact hC.warm hW, by rw [hU]; exact (sub_V_RE_h (μ := μ) hP)⟩⟩ rfl rfl hl.1 rfl (lv_room (Nat.le_of_ble_eq_true rfl)) dX2_waysAround_39 ⟨Nat.le_of_ble_eq_true rfl, Nat.le_of_ble_eq_true rfl⟩) ?_
          refine lv_aload_n hx hb dX2_waysAround_42 rfl (lv_at hl 1 rfl) ?_
          refine lv_iload_n hx hb dX2_waysAround_43 rfl (lv_at hl 2 rfl) ?_
          refine lv_iconst (v := (1)) hx hb dX2_waysAround_44 (by decide) ?_
          refine lv_iadd hx hb dX2_waysAround_45 ?_
          refine lv_iload hx hb dX2_waysAround_46 (lv_at hl 0 rfl) ?_
          refine lv_iconst (v := (1)) hx hb dX2_waysAround_48 (by decide) ?_
          refine lv_ishr hx hb dX2_waysAround_49 ?_
          obtain ⟨r26, er26, h⟩ := obind h
          refine call_R (va_runV (As := [.int (a1 + (1 : Int32)), .int (r20 >>> ((1 : Int32) &&& 31))]) (rest := [.int r25, .int y2_4]) ⟨hx, hb, hml, hown, hts⟩ (c_X2_restFrom l z0 D t A B μ (a1 + (1 : Int32)) (r20 >>> ((1 : Int32) &&& 31)) _ er26) (kV hts qw366 qw368 qs13 qw6 qw369 ok_X2_restFrom ⟨Nat.le_of_ble_eq_true rfl, Nat.le_of_ble_eq_true rfl⟩) ⟨PR.blind, va_recv hK hP (ci := 3) (q0 := 0) rfl rfl, fun U hU hW => ⟨rfl, by rw [hU]; exact hC.warm hW, by rw [hU]; exact hP⟩⟩ rfl rfl hl.1 rfl (lv_room (Nat.le_of_ble_eq_true rfl)) dX2_waysAround_50 ⟨Nat.le_of_ble_eq_true rfl, Nat.le_of_ble_eq_true rfl⟩) ?_
          refine lv_imul hx hb dX2_waysAround_53 ?_
          refine lv_iadd hx hb dX2_waysAround_54 ?_
          obtain ⟨x27, ex27, h⟩ := jlet_some h
          refine topI ex27 ?_
          refine lv_istore_n (lv' := [(2, .int x27), (4, .int r20), (0, .ref (A 0)), (1, .int a1), (3, .int y3_4)]) hx hb dX2_waysAround_55 rfl hl (by decide) rfl (fun ls hl => ?_)
          obtain rfl := Option.some.inj h
          exact hJ56_o24 ls (lv_sub hl [2, 3, 0, 4] rfl)
  refine hL4 _ _ _ _ eo19 (fun ls hl => ?_) ls (lv_sub hl [2, 3, 1, 0] rfl)
  refine lv_iload_n hx hb dX2_waysAround_62 rfl (lv_at hl 0 rfl) ?_
  obtain rfl := Option.some.inj h
  exact W.iret hx hb hr (fun t ht hW => ⟨rfl, ht⟩) (fun q hq => absurd hq List.not_mem_nil) dX2_waysAround_63

abbrev rm_X2_bestGap : Room := { frames := 4, cells := 0, slots := 0, locals := 108 }
theorem ok_X2_bestGap : okY yX2_bestGap 1 := ⟨by decide +kernel, by decide +kernel, by decide +kernel⟩
set_option maxHeartbeats 4000000 in
set_option maxRecDepth 100000 in
theorem c_X2_bestGap (l : Launch) (z0 : Nat) (D : va_G) (t : Nat → ClassId) (A : Nat → Nat) (B : Nat → Nat) (μ : VS) (a1 : Int64) (res : Int32 × (Nat → Nat → Int32) × (Nat → Int32) × (Nat → Nat) × (Nat → Nat) × (Int32) × (Nat → Int32) × (Nat → Int32) × (Int32) × (Nat → Int32) × (Nat → Int32)) (sz : Nat) (h : f_X2_bestGap μ a1 = some res) : Met l yX2_bestGap (ws_ yX2_bestGap cX2_bestGap 8 (some .int)) rm_X2_bestGap (PM z0 D t [.ref (A 0), .long a1] (VW A B t μ) (VL A B μ) sz) (QM (some (.int res.1)) D (VW A B t (res.2.1, res.2.2.1, res.2.2.2.1, res.2.2.2.2.1, res.2.2.2.2.2.1, res.2.2.2.2.2.2.1, res.2.2.2.2.2.2.2.1, res.2.2.2.2.2.2.2.2.1, res.2.2.2.2.2.2.2.2.2.1, res.2.2.2.2.2.2.2.2.2.2)) (VL A B μ) sz) 0 0 (OA (VL A B μ) sz) := by
  refine Met.ofW (cc := cX2_bestGap) (maxL := 8) (ret := (some .int)) (by decide) rfl ?_
  intro p e s m args below meth c s₁ Bo hml hv
  obtain ⟨rfl, hC, hsz, hP, hD, hZ⟩ := hv
  have hx := Bo.exec
  have hb := Bo.bytes
  have hr := Bo.returns
  have hts : ∀ w ∈ LA, w.before _ s = true := fun w hw => atoms_spec (ws := ws_ yX2_bestGap cX2_bestGap 8 (some .int)) Bo.pre w (List.mem_cons_of_mem _ hw)
  have hown : s.vm.findClass RX2 = some m.cls := findClass_of_methodNamed Bo.named
  have hlocks := Bo.notSynchronized
  have hK := hC.1
  subst hsz
  have hl := lv_entry ([.ref (A 0), .long a1]) (n := 8) (Nat.le_of_ble_eq_true rfl)
  rw [lg_entry_eq]
  generalize (lg_sl ([.ref (A 0), .long a1]) ++ List.replicate (8 - (lg_sl ([.ref (A 0), .long a1])).length) Slot.unset).toArray = ls at hl ⊢
  have hl : lv_has ls 8 [(0, .ref (A 0)), (1, .long a1)] := hl
  suffices K9 : ∀ (H : Heap) (locs : List Loc), va_P D vwCl (VW A B t μ) H → va_S (OA (VL A B μ) s.heap.size) s.heap H locs → W p l e (headSpec (ws_ yX2_bestGap cX2_bestGap 8 (some .int)) rm_X2_bestGap).room s m ([.ref (A 0), .long a1] : List Value).toArray below meth c H locs 0 0 (MQ below (QM (some (.int res.1)) D (VW A B t (res.2.1, res.2.2.1, res.2.2.2.1, res.2.2.2.2.1, res.2.2.2.2.2.1, res.2.2.2.2.2.2.1, res.2.2.2.2.2.2.2.1, res.2.2.2.2.2.2.2.2.1, res.2.2.2.2.2.2.2.2.2.1, res.2.2.2.2.2.2.2.2.2.2)) (VL A B μ) s.heap.size) ([.ref (A 0), .long a1] : List Value).toArray s 0 0 (OA (VL A B μ) s.heap.size)) (F0 m 0 ls []) from K9 s.heap [] hP va_S.rf
  intro H locs hP hS
  have hSz : s.heap.size ≤ H.size := hS.1
  unfold f_X2_bestGap at h
  refine lv_aload_n hx hb dX2_bestGap_0 rfl (lv_at hl 0 rfl) ?_
  refine lv_lload_n hx hb dX2_bestGap_1 rfl (lv_at hl 1 rfl) ?_
  obtain ⟨r1, er1, h⟩ := obind h
  refine call_M (va_runV (As := [.long a1]) (rest := []) ⟨hx, hb, hml, hown, hts⟩ (c_X2_countRest l z0 D t A B μ a1 _ H.size er1) (kV hts qw337 qw339 qs8 qw6 qw340 ok_X2_countRest ⟨Nat.le_of_ble_eq_true rfl, Nat.le_of_ble_eq_true rfl⟩) ⟨PM.blind, va_recv hK hP (ci := 3) (q0 := 0) rfl rfl, fun U hU hW => ⟨rfl, by rw [hU]; exact (hC.at hS hZ).warm hW, by rw [hU], by rw [hU]; exact hP, ⟨hD.1, fun _ _ h9 => Or.inl (in_map (L := (VL A B μ)) rfl h9)⟩, fun q hq => hZ q (OA.ofD hD rfl hSz q hq)⟩⟩ rfl rfl hl.1 rfl (lv_room (Nat.le_of_ble_eq_true rfl)) dX2_bestGap_2 ⟨Nat.le_of_ble_eq_true rfl, Nat.le_of_ble_eq_true rfl⟩) hS (OA.ofD hD rfl hSz) (fun H locs hP hD1 hS _ _ => ?_)
  have hP : va_P D vwCl (VW A B t (v_takes' (v_rest' μ r1.1) r1.2)) H := hP
  have hD : va_D (OA (VL A B μ) s.heap.size) (VW A B t (v_takes' (v_rest' μ r1.1) r1.2)) := hD1.weaken (fun _ q _ h9 => OA.ofD hD rfl hSz q.1 h9)
  have hSz : s.heap.size ≤ H.size := hS.1
  refine lv_aload_n hx hb dX2_bestGap_5 rfl (lv_at hl 0 rfl) ?_
  obtain ⟨r2, er2, h⟩ := obind h
  refine call_M (va_runV (As := []) (rest := []) ⟨hx, hb, hml, hown, hts⟩ (c_X2_begin l z0 D t A B (v_takes' (v_rest' μ r1.1) r1.2) _ H.size er2) (kV hts qw259 qw261 qs2 qw6 qw262 ok_X2_begin ⟨Nat.le_of_ble_eq_true rfl, Nat.le_of_ble_eq_true rfl⟩) ⟨PM.blind, va_recv hK hP (ci := 3) (q0 := 0) rfl rfl, fun U hU hW => ⟨rfl, by rw [hU]; exact (hC.at hS hZ).warm hW, by rw [hU], by rw [hU]; exact hP, ⟨hD.1, fun _ _ h9 => Or.inl (in_map (L := (VL A B (v_takes' (v_rest' μ r1.1) r1.2))) rfl h9)⟩, fun q hq => hZ q (OA.ofD hD rfl hSz q hq)⟩⟩ rfl rfl hl.1 rfl (lv_room (Nat.le_of_ble_eq_true rfl)) dX2_bestGap_6 ⟨Nat.le_of_ble_eq_true rfl, Nat.le_of_ble_eq_true rfl⟩) hS (OA.ofD hD rfl hSz) (fun H locs hP hD1 hS _ _ => ?_)
  have hP : va_P D vwCl (VW A B t (r1.1, r1.2, v_u1 μ, v_u2 μ, r2.1, r2.2.1, r2.2.2, v_nsz μ, v_nwin μ, v_nway μ)) H := hP
  have hD : va_D (OA (VL A B μ) s.heap.size) (VW A B t (r1.1, r1.2, v_u1 μ, v_u2 μ, r2.1, r2.2.1, r2.2.2, v_nsz μ, v_nwin μ, v_nway μ)) := hD1.weaken (fun _ q _ h9 => OA.ofD hD rfl hSz q.1 h9)
  have hSz : s.heap.size ≤ H.size := hS.1
  refine lv_iconst (v := (-1)) hx hb dX2_bestGap_9 (by decide) ?_
  refine lv_istore_n (lv' := [(3, .int (-1 : Int32)), (0, .ref (A 0)), (1, .long a1)]) hx hb dX2_bestGap_10 rfl hl (by decide) rfl (fun ls hl => ?_)
  refine lv_iconst (v := (0)) hx hb dX2_bestGap_11 (by decide) ?_
  refine lv_istore (lv' := [(4, .int (0 : Int32)), (3, .int (-1 : Int32)), (0, .ref (A 0)), (1, .long a1)]) hx hb dX2_bestGap_12 hl (by decide) rfl (fun ls hl => ?_)
  refine lv_lload_n hx hb dX2_bestGap_14 rfl (lv_at hl 3 rfl) ?_
  obtain ⟨r3, er3, h⟩ := obind h
  refine call_R (va_runS (As := [.long a1]) (rest := []) ⟨hx, hb, hml, hown, hts⟩ (c_X2_endOf l z0 D t a1 _ er3) (kS hts qw275 qw276 qw6 qw277 ok_X2_endOf ⟨Nat.le_of_ble_eq_true rfl, Nat.le_of_ble_eq_true rfl⟩) ⟨PR.blind, fun U hU hW => ⟨rfl, by rw [hU]; exact (hC.at hS hZ).warm hW, by rw [hU]; exact va_P_nil⟩⟩ rfl rfl hl.1 rfl (lv_room (Nat.le_of_ble_eq_true rfl)) dX2_bestGap_15 ⟨Nat.le_of_ble_eq_true rfl, Nat.le_of_ble_eq_true rfl⟩) ?_
  refine lv_istore (lv' := [(5, .int r3), (4, .int (0 : Int32)), (3, .int (-1 : Int32)), (0, .ref (A 0)), (1, .long a1)]) hx hb dX2_bestGap_18 hl (by decide) rfl (fun ls hl => ?_)
  refine lv_iconst (v := (0)) hx hb dX2_bestGap_20 (by decide) ?_
  refine lv_istore (lv' := [(6, .int (0 : Int32)), (5, .int r3), (4, .int (0 : Int32)), (3, .int (-1 : Int32)), (0, .ref (A 0)), (1, .long a1)]) hx hb dX2_bestGap_21 hl (by decide) rfl (fun ls hl => ?_)
  obtain ⟨o18, eo18, h⟩ := obind h
  have hL23 : ∀ (n : Nat) (y3_23 : Int32) (y4_23 : Int32) (y6_23 : Int32) (takes_23 : Nat → Int32) (u1_23 : Nat → Nat) (u2_23 : Nat → Nat) (hsz_23 : Int32) (hwin_23 : Nat → Int32) (hway_23 : Nat → Int32) (nsz_23 : Int32) (nwin_23 : Nat → Int32) (nway_23 : Nat → Int32) (o18 : Int32 × (Nat → Int32) × (Nat → Nat) × (Nat → Nat) × (Int32) × (Nat → Int32) × (Nat → Int32) × (Int32) × (Nat → Int32) × (Nat → Int32)), f_X2_bestGap_L23 a1 r1 r3 n y3_23 y4_23 y6_23 takes_23 u1_23 u2_23 hsz_23 hwin_23 hway_23 nsz_23 nwin_23 nway_23 = some o18 → (∀ (ls : Array Slot) (H : Heap) (locs : List Loc), lv_has ls 8 [(3, .int o18.1)] → va_P D vwCl (VW A B t (r1.1, o18.2.1, o18.2.2.1, o18.2.2.2.1, o18.2.2.2.2.1, o18.2.2.2.2.2.1, o18.2.2.2.2.2.2.1, o18.2.2.2.2.2.2.2.1, o18.2.2.2.2.2.2.2.2.1, o18.2.2.2.2.2.2.2.2.2)) H → va_D (OA (VL A B μ) s.heap.size) (VW A B t (r1.1, o18.2.1, o18.2.2.1, o18.2.2.2.1, o18.2.2.2.2.1, o18.2.2.2.2.2.1, o18.2.2.2.2.2.2.1, o18.2.2.2.2.2.2.2.1, o18.2.2.2.2.2.2.2.2.1, o18.2.2.2.2.2.2.2.2.2)) → va_S (OA (VL A B μ) s.heap.size) s.heap H locs → W p l e (headSpec (ws_ yX2_bestGap cX2_bestGap 8 (some .int)) rm_X2_bestGap).room s m ([.ref (A 0), .long a1] : List Value).toArray below meth c H locs 0 0 (MQ below (QM (some (.int res.1)) D (VW A B t (res.2.1, res.2.2.1, res.2.2.2.1, res.2.2.2.2.1, res.2.2.2.2.2.1, res.2.2.2.2.2.2.1, res.2.2.2.2.2.2.2.1, res.2.2.2.2.2.2.2.2.1, res.2.2.2.2.2.2.2.2.2.1, res.2.2.2.2.2.2.2.2.2.2)) (VL A B μ) s.heap.size) ([.ref (A 0), .long a1] : List Value).toArray s 0 0 (OA (VL A B μ) s.heap.size)) (F0 m 78 ls [])) → ∀ (ls : Array Slot) (H : Heap) (locs : List Loc), lv_has ls 8 [(0, .ref (A 0)), (1, .long a1), (3, .int y3_23), (4, .int y4_23), (5, .int r3), (6, .int y6_23)] → va_P D vwCl (VW A B t (r1.1, takes_23, u1_23, u2_23, hsz_23, hwin_23, hway_23, nsz_23, nwin_23, nway_23)) H → va_D (OA (VL A B μ) s.heap.size) (VW A B t (r1.1, takes_23, u1_23, u2_23, hsz_23, hwin_23, hway_23, nsz_23, nwin_23, nway_23)) → va_S (OA (VL A B μ) s.heap.size) s.heap H locs → W p l e (headSpec (ws_ yX2_bestGap cX2_bestGap 8 (some .int)) rm_X2_bestGap).room s m ([.ref (A 0), .long a1] : List Value).toArray below meth c H locs 0 0 (MQ below (QM (some (.int res.1)) D (VW A B t (res.2.1, res.2.2.1, res.2.2.2.1, res.2.2.2.2.1, res.2.2.2.2.2.1, res.2.2.2.2.2.2.1, res.2.2.2.2.2.2.2.1, res.2.2.2.2.2.2.2.2.1, res.2.2.2.2.2.2.2.2.2.1, res.2.2.2.2.2.2.2.2.2.2)) (VL A B μ) s.heap.size) ([.ref (A 0), .long a1] : List Value).toArray s 0 0 (OA (VL A B μ) s.heap.size)) (F0 m 23 ls []) := by
    intro n
    induction n with
    | zero => intro y3_23 y4_23 y6_23 takes_23 u1_23 u2_23 hsz_23 hwin_23 hway_23 nsz_23 nwin_23 nway_23 o18 h; exact absurd h (fun z => by cases z)
    | succ n ih =>
      intro y3_23 y4_23 y6_23 takes_23 u1_23 u2_23 hsz_23 hwin_23 hway_23 nsz_23 nwin_23 nway_23 o18 h hK23 ls H locs hl hP hD hS
      replace h : f_X2_bestGap_L23_b a1 r1 r3 (f_X2_bestGap_L23 a1 r1 r3 n) y3_23 y4_23 y6_23 takes_23 u1_23 u2_23 hsz_23 hwin_23 hway_23 nsz_23 nwin_23 nway_23 = some o18 := h
      unfold f_X2_bestGap_L23_b at h
      have hSz : s.heap.size ≤ H.size := hS.1
      refine lv_iload hx hb dX2_bestGap_23 (lv_at hl 5 rfl) ?_
      refine lv_iload hx hb dX2_bestGap_25 (lv_at hl 4 rfl) ?_
      refine lv_icmp_ge (tgt := 78) hx hb dX2_bestGap_27 (by decide) (fun hc => ?_) (fun hc => ?_)
      · have h := iteT hc h
        obtain rfl := Option.some.inj h
        exact hK23 ls H locs (lv_sub hl [2] rfl) hP hD hS
      · have h := iteF hc h
        refine lv_lload_n hx hb dX2_bestGap_30 rfl (lv_at hl 1 rfl) ?_
        refine lv_iload hx hb dX2_bestGap_31 (lv_at hl 5 rfl) ?_
        obtain ⟨r19, er19, h⟩ := obind h
        refine call_R (va_runSN (As := [.long a1, .int y6_23]) (rest := []) ⟨hx, hb, hml, hown, hts⟩ (c_X4_holds l z0 D t a1 y6_23 _ er19) ⟨kN hts (hC.2.1 _ qw295) qw1 qw297 ok_X4_holds ⟨Nat.le_of_ble_eq_true rfl, Nat.le_of_ble_eq_true rfl⟩, hts _ qw296, trivial⟩ ⟨PR.blind, fun U hU hW => ⟨rfl, by rw [hU]; exact (hC.at hS hZ).warm hW, by rw [hU]; exact va_P_nil⟩⟩ rfl rfl hl.1 rfl (lv_room (Nat.le_of_ble_eq_true rfl)) dX2_bestGap_33 ⟨Nat.le_of_ble_eq_true rfl, Nat.le_of_ble_eq_true rfl⟩) ?_
        obtain ⟨o21, eo21, h⟩ := obind h
        have hJ49_o21 : ∀ (ls : Array Slot) (H : Heap) (locs : List Loc), lv_has ls 8 [(0, .ref (A 0)), (1, .long a1), (3, .int y3_23), (4, .int y4_23), (5, .int r3), (6, .int y6_23)] → va_P D vwCl (VW A B t (r1.1, takes_23, u1_23, u2_23, hsz_23, hwin_23, hway_23, nsz_23, nwin_23, nway_23)) H → va_D (OA (VL A B μ) s.heap.size) (VW A B t (r1.1, takes_23, u1_23, u2_23, hsz_23, hwin_23, hway_23, nsz_23, nwin_23, nway_23)) → va_S (OA (VL A B μ) s.heap.size) s.heap H locs → W p l e (headSpec (ws_ yX2_bestGap cX2_bestGap 8 (some .int)) rm_X2_bestGap).room s m ([.ref (A 0), .long a1] : List Value).toArray below meth c H locs 0 0 (MQ below (QM (some (.int res.1)) D (VW A B t (res.2.1, res.2.2.1, res.2.2.2.1, res.2.2.2.2.1, res.2.2.2.2.2.1, res.2.2.2.2.2.2.1, res.2.2.2.2.2.2.2.1, res.2.2.2.2.2.2.2.2.1, res.2.2.2.2.2.2.2.2.2.1, res.2.2.2.2.2.2.2.2.2.2)) (VL A B μ) s.heap.size) ([.ref (A 0), .long a1] : List Value).toArray s 0 0 (OA (VL A B μ) s.heap.size)) (F0 m 49 ls [.int o21]) := by
          intro ls H locs hl hP hD hS
          have hSz : s.heap.size ≤ H.size := hS.1
          refine lv_istore (lv' := [(7, .int o21), (0, .ref (A 0)), (1, .long a1), (3, .int y3_23), (4, .int y4_23), (5, .int r3), (6, .int y6_23)]) hx hb dX2_bestGap_49 hl (by decide) rfl (fun ls hl => ?_)
          refine lv_iload hx hb dX2_bestGap_51 (lv_at hl 0 rfl) ?_
          refine lv_iload hx hb dX2_bestGap_53 (lv_at hl 4 rfl) ?_
          obtain ⟨o23, eo23, h⟩ := obind h
          have hJ65_o23 : ∀ (ls : Array Slot) (H : Heap) (locs : List Loc), lv_has ls 8 [(0, .ref (A 0)), (1, .long a1), (3, .int o23.1), (4, .int o23.2), (5, .int r3), (6, .int y6_23)] → va_P D vwCl (VW A B t (r1.1, takes_23, u1_23, u2_23, hsz_23, hwin_23, hway_23, nsz_23, nwin_23, nway_23)) H → va_D (OA (VL A B μ) s.heap.size) (VW A B t (r1.1, takes_23, u1_23, u2_23, hsz_23, hwin_23, hway_23, nsz_23, nwin_23, nway_23)) → va_S (OA (VL A B μ) s.heap.size) s.heap H locs → W p l e (headSpec (ws_ yX2_bestGap cX2_bestGap 8 (some .int)) rm_X2_bestGap).room s m ([.ref (A 0), .long a1] : List Value).toArray below meth c H locs 0 0 (MQ below (QM (some (.int res.1)) D (VW A B t (res.2.1, res.2.2.1, res.2.2.2.1, res.2.2.2.2.1, res.2.2.2.2.2.1, res.2.2.2.2.2.2.1, res.2.2.2.2.2.2.2.1, res.2.2.2.2.2.2.2.2.1, res.2.2.2.2.2.2.2.2.2.1, res.2.2.2.2.2.2.2.2.2.2)) (VL A B μ) s.heap.size) ([.ref (A 0), .long a1] : List Value).toArray s 0 0 (OA (VL A B μ) s.heap.size)) (F0 m 65 ls []) := by
            intro ls H locs hl hP hD hS
            have hSz : s.heap.size ≤ H.size := hS.1
            refine lv_aload_n hx hb dX2_bestGap_65 rfl (lv_at hl 0 rfl) ?_
            refine lv_lload_n hx hb dX2_bestGap_66 rfl (lv_at hl 1 rfl) ?_
            refine lv_iload hx hb dX2_bestGap_67 (lv_at hl 5 rfl) ?_
            obtain ⟨r24, er24, h⟩ := obind h
            refine call_M (va_runV (As := [.long a1, .int y6_23]) (rest := []) ⟨hx, hb, hml, hown, hts⟩ (c_X2_goOn l z0 D t A B (r1.1, takes_23, u1_23, u2_23, hsz_23, hwin_23, hway_23, nsz_23, nwin_23, nway_23) a1 y6_23 _ H.size er24) (kV hts qw291 qw293 qs3 qw6 qw294 ok_X2_goOn ⟨Nat.le_of_ble_eq_true rfl, Nat.le_of_ble_eq_true rfl⟩) ⟨PM.blind, va_recv hK hP (ci := 3) (q0 := 0) rfl rfl, fun U hU hW => ⟨rfl, by rw [hU]; exact (hC.at hS hZ).warm hW, by rw [hU], by rw [hU]; exact hP, ⟨hD.1, fun _ _ h9 => Or.inl (in_map (L := (VL A B (r1.1, takes_23, u1_23, u2_23, hsz_23, hwin_23, hway_23, nsz_23, nwin_23, nway_23))) rfl h9)⟩, fun q hq => hZ q (OA.ofD hD rfl hSz q hq)⟩⟩ rfl rfl hl.1 rfl (lv_room (Nat.le_of_ble_eq_true rfl)) dX2_bestGap_69 ⟨Nat.le_of_ble_eq_true rfl, Nat.le_of_ble_eq_true rfl⟩) hS (OA.ofD hD rfl hSz) (fun H locs hP hD1 hS _ _ => ?_)
            have hP : va_P D vwCl (VW A B t (r1.1, r24.1, r24.2.1, r24.2.2.1, r24.2.2.2.1, r24.2.2.2.2.1, r24.2.2.2.2.2.1, r24.2.2.2.2.2.2.1, r24.2.2.2.2.2.2.2.1, r24.2.2.2.2.2.2.2.2)) H := hP
            have hD : va_D (OA (VL A B μ) s.heap.size) (VW A B t (r1.1, r24.1, r24.2.1, r24.2.2.1, r24.2.2.2.1, r24.2.2.2.2.1, r24.2.2.2.2.2.1, r24.2.2.2.2.2.2.1, r24.2.2.2.2.2.2.2.1, r24.2.2.2.2.2.2.2.2)) := hD1.weaken (fun _ q _ h9 => OA.ofD hD rfl hSz q.1 h9)
            have hSz : s.heap.size ≤ H.size := hS.1
            obtain ⟨x25, ex25, h⟩ := jlet_some h
            refine lv_iinc (v := x25) (lv' := [(6, .int x25), (0, .ref (A 0)), (1, .long a1), (3, .int o23.1), (4, .int o23.2), (5, .int r3)]) hx hb dX2_bestGap_72 hl (k := 5) rfl (by rw [ex25]; rfl) (by decide) rfl (fun ls hl => ?_)
            refine lv_goto (tgt := 23) hx hb dX2_bestGap_75 (by decide) ?_
            exact ih _ _ _ _ _ _ _ _ _ _ _ _ _ h hK23 ls H locs (lv_sub hl [1, 2, 3, 4, 5, 0] rfl) hP hD hS
          have h := eo23
          clear eo23
          refine lv_icmp_le (tgt := 65) hx hb dX2_bestGap_55 (by decide) (fun hc => ?_) (fun hc => ?_)
          · have h := iteT hc h
            obtain rfl := Option.some.inj h
            exact hJ65_o23 ls H locs (lv_sub hl [1, 2, 3, 4, 5, 6] rfl) hP hD hS
          · have h := iteF hc h
            refine lv_iload hx hb dX2_bestGap_58 (lv_at hl 0 rfl) ?_
            refine lv_istore (lv' := [(4, .int o21), (7, .int o21), (0, .ref (A 0)), (1, .long a1), (3, .int y3_23), (5, .int r3), (6, .int y6_23)]) hx hb dX2_bestGap_60 hl (by decide) rfl (fun ls hl => ?_)
            refine lv_iload hx hb dX2_bestGap_62 (lv_at hl 6 rfl) ?_
            refine lv_istore_n (lv' := [(3, .int y6_23), (4, .int o21), (7, .int o21), (0, .ref (A 0)), (1, .long a1), (5, .int r3), (6, .int y6_23)]) hx hb dX2_bestGap_64 rfl hl (by decide) rfl (fun ls hl => ?_)
            obtain rfl := Option.some.inj h
            exact hJ65_o23 ls H locs (lv_sub hl [3, 4, 0, 1, 5, 6] rfl) hP hD hS
        have h := eo21
        clear eo21
        refine lv_if_eq (tgt := 48) hx hb dX2_bestGap_36 (by decide) (fun hc => ?_) (fun hc => ?_)
        · have h := iteT hc h
          refine lv_iconst (v := (0)) hx hb dX2_bestGap_48 (by decide) ?_
          obtain rfl := Option.some.inj h
          exact hJ49_o21 ls H locs (lv_sub hl [0, 1, 2, 3, 4, 5] rfl) hP hD hS
        · have h := iteF hc h
          refine lv_aload_n hx hb dX2_bestGap_39 rfl (lv_at hl 0 rfl) ?_
          refine lv_iload hx hb dX2_bestGap_40 (lv_at hl 5 rfl) ?_
          obtain ⟨r22, er22, h⟩ := obind h
          refine call_R (va_runV (As := [.int y6_23]) (rest := []) ⟨hx, hb, hml, hown, hts⟩ (c_X2_waysAround l z0 D t A B (r1.1, takes_23, u1_23, u2_23, hsz_23, hwin_23, hway_23, nsz_23, nwin_23, nway_23) y6_23 _ er22) (kV hts qw362 qw364 qs12 qw6 qw365 ok_X2_waysAround ⟨Nat.le_of_ble_eq_true rfl, Nat.le_of_ble_eq_true rfl⟩) ⟨PR.blind, va_recv hK hP (ci := 3) (q0 := 0) rfl rfl, fun U hU hW => ⟨rfl, by rw [hU]; exact (hC.at hS hZ).warm hW, by rw [hU]; exact hP⟩⟩ rfl rfl hl.1 rfl (lv_room (Nat.le_of_ble_eq_true rfl)) dX2_bestGap_42 ⟨Nat.le_of_ble_eq_true rfl, Nat.le_of_ble_eq_true rfl⟩) ?_
          refine lv_goto (tgt := 49) hx hb dX2_bestGap_45 (by decide) ?_
          obtain rfl := Option.some.inj h
          exact hJ49_o21 ls H locs (lv_sub hl [0, 1, 2, 3, 4, 5] rfl) hP hD hS
  refine hL23 _ _ _ _ _ _ _ _ _ _ _ _ _ _ eo18 (fun ls H locs hl hP hD hS => ?_) ls H locs (lv_sub hl [4, 5, 3, 2, 1, 0] rfl) hP hD hS
  have hSz : s.heap.size ≤ H.size := hS.1
  refine lv_iload_n hx hb dX2_bestGap_78 rfl (lv_at hl 0 rfl) ?_
  obtain rfl := Option.some.inj h
  exact W.iret hx hb hr (fun t ht hW => ⟨rfl, by rw [ht]; exact hP, hD, hS.F ht⟩) hS.2.2 dX2_bestGap_79

abbrev rm_X4_cellName : Room := { frames := 0, cells := 0, slots := 0, locals := 0 }
theorem ok_X4_cellName : okY yX4_cellName 1 := ⟨by decide +kernel, by decide +kernel, by decide +kernel⟩
set_option maxHeartbeats 4000000 in
set_option maxRecDepth 100000 in
theorem c_X4_cellName (l : Launch) (z0 : Nat) (D : va_G) (t : Nat → ClassId) (a1 : Int32) (res : Int32) (h : f_X4_cellName a1 = some res) : Met l yX4_cellName (ws_ yX4_cellName cX4_cellName 1 (some .int)) rm_X4_cellName (PR z0 D t [.int a1] []) (QR (some (.int res))) 0 0 FN := by
  refine Met.ofW (cc := cX4_cellName) (maxL := 1) (ret := (some .int)) (by decide) rfl ?_
  intro p e s m args below meth c s₁ Bo hml hv
  obtain ⟨rfl, hC, hP⟩ := hv
  have hx := Bo.exec
  have hb := Bo.bytes
  have hr := Bo.returns
  have hts : ∀ w ∈ LA, w.before _ s = true := fun w hw => atoms_spec (ws := ws_ yX4_cellName cX4_cellName 1 (some .int)) Bo.pre w (List.mem_cons_of_mem _ hw)
  have hown : s.vm.findClass RX4 = some m.cls := findClass_of_methodNamed Bo.named
  have hlocks := Bo.notSynchronized
  have hK := hC.1
  have hl := lv_entry ([.int a1]) (n := 1) (Nat.le_of_ble_eq_true rfl)
  rw [lg_entry_eq]
  generalize (lg_sl ([.int a1]) ++ List.replicate (1 - (lg_sl ([.int a1])).length) Slot.unset).toArray = ls at hl ⊢
  have hl : lv_has ls 1 [(0, .int a1)] := hl
  unfold f_X4_cellName at h
  refine lv_iload_n hx hb dX4_cellName_0 rfl (lv_at hl 0 rfl) ?_
  refine lv_bipush (v := (8)) hx hb dX4_cellName_1 (by decide) ?_
  refine lv_irem hx hb dX4_cellName_3 (by decide) ?_
  refine lv_bipush (v := (10)) hx hb dX4_cellName_4 (by decide) ?_
  refine lv_iload_n hx hb dX4_cellName_6 rfl (lv_at hl 0 rfl) ?_
  refine lv_bipush (v := (8)) hx hb dX4_cellName_7 (by decide) ?_
  refine lv_idiv hx hb dX4_cellName_9 (by decide) ?_
  refine lv_imul hx hb dX4_cellName_10 ?_
  refine lv_iadd hx hb dX4_cellName_11 ?_
  obtain rfl := Option.some.inj h
  exact W.iret hx hb hr (fun t ht hW => ⟨rfl, ht⟩) (fun q hq => absurd hq List.not_mem_nil) dX4_cellName_12

abbrev rm_X4_isSide : Room := { frames := 0, cells := 0, slots := 0, locals := 0 }
theorem ok_X4_isSide : okY yX4_isSide 1 := ⟨by decide +kernel, by decide +kernel, by decide +kernel⟩
set_option maxHeartbeats 4000000 in
set_option maxRecDepth 100000 in
theorem c_X4_isSide (l : Launch) (z0 : Nat) (D : va_G) (t : Nat → ClassId) (a1 : Int32) (res : Int32) (h : f_X4_isSide a1 = some res) : Met l yX4_isSide (ws_ yX4_isSide cX4_isSide 1 (some .boolean)) rm_X4_isSide (PR z0 D t [.int a1] []) (QR (some (.int res))) 0 0 FN := by
  refine Met.ofW (cc := cX4_isSide) (maxL := 1) (ret := (some .boolean)) (by decide) rfl ?_
  intro p e s m args below meth c s₁ Bo hml hv
  obtain ⟨rfl, hC, hP⟩ := hv
  have hx := Bo.exec
  have hb := Bo.bytes
  have hr := Bo.returns
  have hts : ∀ w ∈ LA, w.before _ s = true := fun w hw => atoms_spec (ws := ws_ yX4_isSide cX4_isSide 1 (some .boolean)) Bo.pre w (List.mem_cons_of_mem _ hw)
  have hown : s.vm.findClass RX4 = some m.cls := findClass_of_methodNamed Bo.named
  have hlocks := Bo.notSynchronized
  have hK := hC.1
  have hl := lv_entry ([.int a1]) (n := 1) (Nat.le_of_ble_eq_true rfl)
  rw [lg_entry_eq]
  generalize (lg_sl ([.int a1]) ++ List.replicate (1 - (lg_sl ([.int a1])).length) Slot.unset).toArray = ls at hl ⊢
  have hl : lv_has ls 1 [(0, .int a1)] := hl
  unfold f_X4_isSide at h
  refine lv_iload_n hx hb dX4_isSide_0 rfl (lv_at hl 0 rfl) ?_
  refine lv_iconst (v := (2)) hx hb dX4_isSide_1 (by decide) ?_
  refine lv_icmp_lt (tgt := 15) hx hb dX4_isSide_2 (by decide) (fun hc => ?_) (fun hc => ?_)
  · have h := iteT hc h
    refine lv_iconst (v := (0)) hx hb dX4_isSide_15 (by decide) ?_
    obtain rfl := Option.some.inj h
    exact W.zret hx hb hr rfl (fun t ht hW => ⟨rfl, ht⟩) (fun q hq => absurd hq List.not_mem_nil) dX4_isSide_16
  · have h := iteF hc h
    refine lv_iload_n hx hb dX4_isSide_5 rfl (lv_at hl 0 rfl) ?_
    refine lv_bipush (v := (8)) hx hb dX4_isSide_6 (by decide) ?_
    refine lv_icmp_gt (tgt := 15) hx hb dX4_isSide_8 (by decide) (fun hc => ?_) (fun hc => ?_)
    · have h := iteT hc h
      refine lv_iconst (v := (0)) hx hb dX4_isSide_15 (by decide) ?_
      obtain rfl := Option.some.inj h
      exact W.zret hx hb hr rfl (fun t ht hW => ⟨rfl, ht⟩) (fun q hq => absurd hq List.not_mem_nil) dX4_isSide_16
    · have h := iteF hc h
      refine lv_iconst (v := (1)) hx hb dX4_isSide_11 (by decide) ?_
      refine lv_goto (tgt := 16) hx hb dX4_isSide_12 (by decide) ?_
      obtain rfl := Option.some.inj h
      exact W.zret hx hb hr rfl (fun t ht hW => ⟨rfl, ht⟩) (fun q hq => absurd hq List.not_mem_nil) dX4_isSide_16

abbrev rm_X1_layOut : Room := { frames := 0, cells := 0, slots := 0, locals := 0 }
theorem ok_X1_layOut : okY yX1_layOut 4 := ⟨by decide +kernel, by decide +kernel, by decide +kernel⟩
set_option maxHeartbeats 4000000 in
set_option maxRecDepth 100000 in
theorem c_X1_layOut (l : Launch) (z0 : Nat) (D : va_G) (t : Nat → ClassId) (G : Nat → Nat) (μ : GS) (a1 : Int32) (a2 : Int32) (a3 : Int32) (a4 : Int64) (res : (Int32) × (Int32) × (Int32) × (Int64) × (Int64) × (Int32)) (sz : Nat) (h : f_X1_layOut μ a1 a2 a3 a4 = some res) : Met l yX1_layOut (ws_ yX1_layOut cX1_layOut 6 none) rm_X1_layOut (PM z0 D t [.ref (G 0), .int a1, .int a2, .int a3, .long a4] (GW G t μ) (GL G) sz) (QM none D (GW G t (g_tc' (g_paved' (g_walls' (g_pond' (g_high' (g_wide' μ res.1) res.2.1) res.2.2.1) res.2.2.2.1) res.2.2.2.2.1) res.2.2.2.2.2)) (GL G) sz) 0 0 (OA (GL G) sz) := by
  refine Met.ofW (cc := cX1_layOut) (maxL := 6) (ret := none) (by decide) rfl ?_
  intro p e s m args below meth c s₁ Bo hml hv
  obtain ⟨rfl, hC, hsz, hP, hD, hZ⟩ := hv
  have hx := Bo.exec
  have hb := Bo.bytes
  have hr := Bo.returns
  have hts : ∀ w ∈ LA, w.before _ s = true := fun w hw => atoms_spec (ws := ws_ yX1_layOut cX1_layOut 6 none) Bo.pre w (List.mem_cons_of_mem _ hw)
  have hown : s.vm.findClass RX1 = some m.cls := findClass_of_methodNamed Bo.named
  have hlocks := Bo.notSynchronized
  have hK := hC.1
  subst hsz
  have hl := lv_entry ([.ref (G 0), .int a1, .int a2, .int a3, .long a4]) (n := 6) (Nat.le_of_ble_eq_true rfl)
  rw [lg_entry_eq]
  generalize (lg_sl ([.ref (G 0), .int a1, .int a2, .int a3, .long a4]) ++ List.replicate (6 - (lg_sl ([.ref (G 0), .int a1, .int a2, .int a3, .long a4])).length) Slot.unset).toArray = ls at hl ⊢
  have hl : lv_has ls 6 [(0, .ref (G 0)), (1, .int a1), (2, .int a2), (3, .int a3), (4, .long a4)] := hl
  suffices K9 : ∀ (H : Heap) (locs : List Loc), va_P D vwCl (GW G t μ) H → va_S (OA (GL G) s.heap.size) s.heap H locs → W p l e (headSpec (ws_ yX1_layOut cX1_layOut 6 none) rm_X1_layOut).room s m ([.ref (G 0), .int a1, .int a2, .int a3, .long a4] : List Value).toArray below meth c H locs 0 0 (MQ below (QM none D (GW G t (g_tc' (g_paved' (g_walls' (g_pond' (g_high' (g_wide' μ res.1) res.2.1) res.2.2.1) res.2.2.2.1) res.2.2.2.2.1) res.2.2.2.2.2)) (GL G) s.heap.size) ([.ref (G 0), .int a1, .int a2, .int a3, .long a4] : List Value).toArray s 0 0 (OA (GL G) s.heap.size)) (F0 m 0 ls []) from K9 s.heap [] hP va_S.rf
  intro H locs hP hS
  have hSz : s.heap.size ≤ H.size := hS.1
  unfold f_X1_layOut at h
  refine lv_aload_n hx hb dX1_layOut_0 rfl (lv_at hl 0 rfl) ?_
  refine lv_iload_n hx hb dX1_layOut_1 rfl (lv_at hl 1 rfl) ?_
  refine va_put (D := D) (ci := 2) (v := .int a1) (ty := .int) hx hb hts inX1 tyX1 tyX1_ok nmX1 hown hK hP hD hS 0 rfl rfl 0 (by decide) (hts _ qw119) (fun _ h9 => h9) rfl (by decide +kernel) rfl rfl (Nat.le_of_ble_eq_true rfl) dX1_layOut_2 (fun H locs hP hD hS => ?_)
  have hP : va_P D vwCl (GW G t (g_wide' μ a1)) H := hP
  have hD : va_D (OA (GL G) s.heap.size) (GW G t (g_wide' μ a1)) := hD
  have hSz : s.heap.size ≤ H.size := hS.1
  refine lv_aload_n hx hb dX1_layOut_5 rfl (lv_at hl 0 rfl) ?_
  refine lv_iload_n hx hb dX1_layOut_6 rfl (lv_at hl 2 rfl) ?_
  refine va_put (D := D) (ci := 2) (v := .int a2) (ty := .int) hx hb hts inX1 tyX1 tyX1_ok nmX1 hown hK hP hD hS 0 rfl rfl 1 (by decide) (hts _ qw121) (fun _ h9 => h9) rfl (by decide +kernel) rfl rfl (Nat.le_of_ble_eq_true rfl) dX1_layOut_7 (fun H locs hP hD hS => ?_)
  have hP : va_P D vwCl (GW G t (g_high' (g_wide' μ a1) a2)) H := hP
  have hD : va_D (OA (GL G) s.heap.size) (GW G t (g_high' (g_wide' μ a1) a2)) := hD
  have hSz : s.heap.size ≤ H.size := hS.1
  refine lv_aload_n hx hb dX1_layOut_10 rfl (lv_at hl 0 rfl) ?_
  refine lv_iload_n hx hb dX1_layOut_11 rfl (lv_at hl 3 rfl) ?_
  refine va_put (D := D) (ci := 2) (v := .int a3) (ty := .int) hx hb hts inX1 tyX1 tyX1_ok nmX1 hown hK hP hD hS 0 rfl rfl 2 (by decide) (hts _ qw123) (fun _ h9 => h9) rfl (by decide +kernel) rfl rfl (Nat.le_of_ble_eq_true rfl) dX1_layOut_12 (fun H locs hP hD hS => ?_)
  have hP : va_P D vwCl (GW G t (g_pond' (g_high' (g_wide' μ a1) a2) a3)) H := hP
  have hD : va_D (OA (GL G) s.heap.size) (GW G t (g_pond' (g_high' (g_wide' μ a1) a2) a3)) := hD
  have hSz : s.heap.size ≤ H.size := hS.1
  refine lv_aload_n hx hb dX1_layOut_15 rfl (lv_at hl 0 rfl) ?_
  refine lv_lload hx hb dX1_layOut_16 (lv_at hl 4 rfl) ?_
  refine va_put (D := D) (ci := 2) (v := .long a4) (ty := .long) hx hb hts inX1 tyX1 tyX1_ok nmX1 hown hK hP hD hS 0 rfl rfl 3 (by decide) (hts _ qw125) (fun _ h9 => h9) rfl (by decide +kernel) rfl rfl (Nat.le_of_ble_eq_true rfl) dX1_layOut_18 (fun H locs hP hD hS => ?_)
  have hP : va_P D vwCl (GW G t (g_walls' (g_pond' (g_high' (g_wide' μ a1) a2) a3) a4)) H := hP
  have hD : va_D (OA (GL G) s.heap.size) (GW G t (g_walls' (g_pond' (g_high' (g_wide' μ a1) a2) a3) a4)) := hD
  have hSz : s.heap.size ≤ H.size := hS.1
  refine lv_aload_n hx hb dX1_layOut_21 rfl (lv_at hl 0 rfl) ?_
  refine lv_lconst (v := (0)) hx hb dX1_layOut_22 (by decide) ?_
  refine va_put (D := D) (ci := 2) (v := .long (0 : Int64)) (ty := .long) hx hb hts inX1 tyX1 tyX1_ok nmX1 hown hK hP hD hS 0 rfl rfl 4 (by decide) (hts _ qw127) (fun _ h9 => h9) rfl (by decide +kernel) rfl rfl (Nat.le_of_ble_eq_true rfl) dX1_layOut_23 (fun H locs hP hD hS => ?_)
  have hP : va_P D vwCl (GW G t (g_paved' (g_walls' (g_pond' (g_high' (g_wide' μ a1) a2) a3) a4) (0 : Int64))) H := hP
  have hD : va_D (OA (GL G) s.heap.size) (GW G t (g_paved' (g_walls' (g_pond' (g_high' (g_wide' μ a1) a2) a3) a4) (0 : Int64))) := hD
  have hSz : s.heap.size ≤ H.size := hS.1
  refine lv_aload_n hx hb dX1_layOut_26 rfl (lv_at hl 0 rfl) ?_
  refine lv_iconst (v := (0)) hx hb dX1_layOut_27 (by decide) ?_
  refine va_put (D := D) (ci := 2) (v := .int (0 : Int32)) (ty := .int) hx hb hts inX1 tyX1 tyX1_ok nmX1 hown hK hP hD hS 0 rfl rfl 5 (by decide) (hts _ qw129) (fun _ h9 => h9) rfl (by decide +kernel) rfl rfl (Nat.le_of_ble_eq_true rfl) dX1_layOut_28 (fun H locs hP hD hS => ?_)
  have hP : va_P D vwCl (GW G t (g_tc' (g_paved' (g_walls' (g_pond' (g_high' (g_wide' μ a1) a2) a3) a4) (0 : Int64)) (0 : Int32))) H := hP
  have hD : va_D (OA (GL G) s.heap.size) (GW G t (g_tc' (g_paved' (g_walls' (g_pond' (g_high' (g_wide' μ a1) a2) a3) a4) (0 : Int64)) (0 : Int32))) := hD
  have hSz : s.heap.size ≤ H.size := hS.1
  obtain rfl := Option.some.inj h
  exact W.vret hx hb hr (fun t ht hW => ⟨rfl, by rw [ht]; exact hP, hD, hS.F ht⟩) hS.2.2 dX1_layOut_31

abbrev rm_X1_hasBlock : Room := { frames := 0, cells := 0, slots := 0, locals := 0 }
theorem ok_X1_hasBlock : okY yX1_hasBlock 4 := ⟨by decide +kernel, by decide +kernel, by decide +kernel⟩
set_option maxHeartbeats 4000000 in
set_option maxRecDepth 100000 in
theorem c_X1_hasBlock (l : Launch) (z0 : Nat) (D : va_G) (t : Nat → ClassId) (G : Nat → Nat) (μ : GS) (a1 : Int32) (a2 : Int32) (a3 : Int32) (a4 : Int32) (res : Int32) (h : f_X1_hasBlock μ a1 a2 a3 a4 = some res) : Met l yX1_hasBlock (ws_ yX1_hasBlock cX1_hasBlock 5 (some .boolean)) rm_X1_hasBlock (PR z0 D t [.ref (G 0), .int a1, .int a2, .int a3, .int a4] (GW G t μ)) (QR (some (.int res))) 0 0 FN := by
  refine Met.ofW (cc := cX1_hasBlock) (maxL := 5) (ret := (some .boolean)) (by decide) rfl ?_
  intro p e s m args below meth c s₁ Bo hml hv
  obtain ⟨rfl, hC, hP⟩ := hv
  have hx := Bo.exec
  have hb := Bo.bytes
  have hr := Bo.returns
  have hts : ∀ w ∈ LA, w.before _ s = true := fun w hw => atoms_spec (ws := ws_ yX1_hasBlock cX1_hasBlock 5 (some .boolean)) Bo.pre w (List.mem_cons_of_mem _ hw)
  have hown : s.vm.findClass RX1 = some m.cls := findClass_of_methodNamed Bo.named
  have hlocks := Bo.notSynchronized
  have hK := hC.1
  have hl := lv_entry ([.ref (G 0), .int a1, .int a2, .int a3, .int a4]) (n := 5) (Nat.le_of_ble_eq_true rfl)
  rw [lg_entry_eq]
  generalize (lg_sl ([.ref (G 0), .int a1, .int a2, .int a3, .int a4]) ++ List.replicate (5 - (lg_sl ([.ref (G 0), .int a1, .int a2, .int a3, .int a4])).length) Slot.unset).toArray = ls at hl ⊢
  have hl : lv_has ls 5 [(0, .ref (G 0)), (1, .int a1), (2, .int a2), (3, .int a3), (4, .int a4)] := hl
  unfold f_X1_hasBlock at h
  refine lv_iload_n hx hb dX1_hasBlock_0 rfl (lv_at hl 1 rfl) ?_
  refine lv_if_lt (tgt := 33) hx hb dX1_hasBlock_1 (by decide) (fun hc => ?_) (fun hc => ?_)
  · have h := iteT hc h
    refine lv_iconst (v := (0)) hx hb dX1_hasBlock_33 (by decide) ?_
    obtain rfl := Option.some.inj h
    exact W.zret hx hb hr rfl (fun t ht hW => ⟨rfl, ht⟩) (fun q hq => absurd hq List.not_mem_nil) dX1_hasBlock_34
  · have h := iteF hc h
    refine lv_iload_n hx hb dX1_hasBlock_4 rfl (lv_at hl 2 rfl) ?_
    refine lv_if_lt (tgt := 33) hx hb dX1_hasBlock_5 (by decide) (fun hc => ?_) (fun hc => ?_)
    · have h := iteT hc h
      refine lv_iconst (v := (0)) hx hb dX1_hasBlock_33 (by decide) ?_
      obtain rfl := Option.some.inj h
      exact W.zret hx hb hr rfl (fun t ht hW => ⟨rfl, ht⟩) (fun q hq => absurd hq List.not_mem_nil) dX1_hasBlock_34
    · have h := iteF hc h
      refine lv_iload_n hx hb dX1_hasBlock_8 rfl (lv_at hl 1 rfl) ?_
      refine lv_aload_n hx hb dX1_hasBlock_9 rfl (lv_at hl 0 rfl) ?_
      refine va_get hx hb hts inX1 hown hK hP 0 rfl rfl 0 (by decide) (hts _ qw119) (fun _ h9 => h9) rfl dX1_hasBlock_10 ?_
      refine lv_iload_n hx hb dX1_hasBlock_13 rfl (lv_at hl 3 rfl) ?_
      refine lv_isub hx hb dX1_hasBlock_14 ?_
      refine lv_icmp_gt (tgt := 33) hx hb dX1_hasBlock_15 (by decide) (fun hc => ?_) (fun hc => ?_)
      · have h := iteT hc h
        refine lv_iconst (v := (0)) hx hb dX1_hasBlock_33 (by decide) ?_
        obtain rfl := Option.some.inj h
        exact W.zret hx hb hr rfl (fun t ht hW => ⟨rfl, ht⟩) (fun q hq => absurd hq List.not_mem_nil) dX1_hasBlock_34
      · have h := iteF hc h
        refine lv_iload_n hx hb dX1_hasBlock_18 rfl (lv_at hl 2 rfl) ?_
        refine lv_aload_n hx hb dX1_hasBlock_19 rfl (lv_at hl 0 rfl) ?_
        refine va_get hx hb hts inX1 hown hK hP 0 rfl rfl 1 (by decide) (hts _ qw121) (fun _ h9 => h9) rfl dX1_hasBlock_20 ?_
        refine lv_iload hx hb dX1_hasBlock_23 (lv_at hl 4 rfl) ?_
        refine lv_isub hx hb dX1_hasBlock_25 ?_
        refine lv_icmp_gt (tgt := 33) hx hb dX1_hasBlock_26 (by decide) (fun hc => ?_) (fun hc => ?_)
        · have h := iteT hc h
          refine lv_iconst (v := (0)) hx hb dX1_hasBlock_33 (by decide) ?_
          obtain rfl := Option.some.inj h
          exact W.zret hx hb hr rfl (fun t ht hW => ⟨rfl, ht⟩) (fun q hq => absurd hq List.not_mem_nil) dX1_hasBlock_34
        · have h := iteF hc h
          refine lv_iconst (v := (1)) hx hb dX1_hasBlock_29 (by decide) ?_
          refine lv_goto (tgt := 34) hx hb dX1_hasBlock_30 (by decide) ?_
          obtain rfl := Option.some.inj h
          exact W.zret hx hb hr rfl (fun t ht hW => ⟨rfl, ht⟩) (fun q hq => absurd hq List.not_mem_nil) dX1_hasBlock_34

abbrev rm_X1_whyRefused : Room := { frames := 1, cells := 0, slots := 0, locals := 40 }
theorem ok_X1_whyRefused : okY yX1_whyRefused 3 := ⟨by decide +kernel, by decide +kernel, by decide +kernel⟩
set_option maxHeartbeats 4000000 in
set_option maxRecDepth 100000 in
theorem c_X1_whyRefused (l : Launch) (z0 : Nat) (D : va_G) (t : Nat → ClassId) (G : Nat → Nat) (μ : GS) (a1 : Int32) (a2 : Int32) (a3 : Int32) (res : Int32) (h : f_X1_whyRefused μ a1 a2 a3 = some res) : Met l yX1_whyRefused (ws_ yX1_whyRefused cX1_whyRefused 6 (some .int)) rm_X1_whyRefused (PR z0 D t [.ref (G 0), .int a1, .int a2, .int a3] (GW G t μ)) (QR (some (.int res))) 0 0 FN := by
  refine Met.ofW (cc := cX1_whyRefused) (maxL := 6) (ret := (some .int)) (by decide) rfl ?_
  intro p e s m args below meth c s₁ Bo hml hv
  obtain ⟨rfl, hC, hP⟩ := hv
  have hx := Bo.exec
  have hb := Bo.bytes
  have hr := Bo.returns
  have hts : ∀ w ∈ LA, w.before _ s = true := fun w hw => atoms_spec (ws := ws_ yX1_whyRefused cX1_whyRefused 6 (some .int)) Bo.pre w (List.mem_cons_of_mem _ hw)
  have hown : s.vm.findClass RX1 = some m.cls := findClass_of_methodNamed Bo.named
  have hlocks := Bo.notSynchronized
  have hK := hC.1
  have hl := lv_entry ([.ref (G 0), .int a1, .int a2, .int a3]) (n := 6) (Nat.le_of_ble_eq_true rfl)
  rw [lg_entry_eq]
  generalize (lg_sl ([.ref (G 0), .int a1, .int a2, .int a3]) ++ List.replicate (6 - (lg_sl ([.ref (G 0), .int a1, .int a2, .int a3])).length) Slot.unset).toArray = ls at hl ⊢
  have hl : lv_has ls 6 [(0, .ref (G 0)), (1, .int a1), (2, .int a2), (3, .int a3)] := hl
  unfold f_X1_whyRefused at h
  refine lv_aload_n hx hb dX1_whyRefused_0 rfl (lv_at hl 0 rfl) ?_
  refine lv_iload_n hx hb dX1_whyRefused_1 rfl (lv_at hl 1 rfl) ?_
  refine lv_iload_n hx hb dX1_whyRefused_2 rfl (lv_at hl 2 rfl) ?_
  refine lv_iconst (v := (2)) hx hb dX1_whyRefused_3 (by decide) ?_
  refine lv_iconst (v := (2)) hx hb dX1_whyRefused_4 (by decide) ?_
  obtain ⟨r1, er1, h⟩ := obind h
  refine call_R (va_runV (As := [.int a1, .int a2, .int (2 : Int32), .int (2 : Int32)]) (rest := []) ⟨hx, hb, hml, hown, hts⟩ (c_X1_hasBlock l z0 D t G μ a1 a2 (2 : Int32) (2 : Int32) _ er1) (kV hts qw620 qw559 qw560 qw8 qw561 ok_X1_hasBlock ⟨Nat.le_of_ble_eq_true rfl, Nat.le_of_ble_eq_true rfl⟩) ⟨PR.blind, va_recv hK hP (ci := 2) (q0 := 0) rfl rfl, fun U hU hW => ⟨rfl, by rw [hU]; exact hC.warm hW, by rw [hU]; exact hP⟩⟩ rfl rfl hl.1 rfl (lv_room (Nat.le_of_ble_eq_true rfl)) dX1_whyRefused_5 ⟨Nat.le_of_ble_eq_true rfl, Nat.le_of_ble_eq_true rfl⟩) ?_
  refine lv_if_ne (tgt := 13) hx hb dX1_whyRefused_8 (by decide) (fun hc => ?_) (fun hc => ?_)
  · have h := iteF hc h
    refine lv_iload_n hx hb dX1_whyRefused_13 rfl (lv_at hl 1 rfl) ?_
    refine lv_iload_n hx hb dX1_whyRefused_14 rfl (lv_at hl 2 rfl) ?_
    refine lv_iload_n hx hb dX1_whyRefused_15 rfl (lv_at hl 3 rfl) ?_
    obtain ⟨r2, er2, h⟩ := obind h
    refine call_R (va_runSN (As := [.int a1, .int a2, .int a3]) (rest := []) ⟨hx, hb, hml, hown, hts⟩ (c_X4_cellsOf l z0 D t a1 a2 a3 _ er2) ⟨kN hts (hC.2.1 _ qw621) qw1 qw307 ok_X4_cellsOf ⟨Nat.le_of_ble_eq_true rfl, Nat.le_of_ble_eq_true rfl⟩, hts _ qw306, trivial⟩ ⟨PR.blind, fun U hU hW => ⟨rfl, by rw [hU]; exact hC.warm hW, by rw [hU]; exact va_P_nil⟩⟩ rfl rfl hl.1 rfl (lv_room (Nat.le_of_ble_eq_true rfl)) dX1_whyRefused_16 ⟨Nat.le_of_ble_eq_true rfl, Nat.le_of_ble_eq_true rfl⟩) ?_
    refine lv_lstore (lv' := [(4, .long r2), (0, .ref (G 0)), (1, .int a1), (2, .int a2), (3, .int a3)]) hx hb dX1_whyRefused_19 hl (by decide) rfl (fun ls hl => ?_)
    refine lv_lload hx hb dX1_whyRefused_21 (lv_at hl 0 rfl) ?_
    refine lv_aload_n hx hb dX1_whyRefused_23 rfl (lv_at hl 1 rfl) ?_
    obtain ⟨r3, er3, h⟩ := obind h
    refine call_R (va_runV (As := []) (rest := [.long r2]) ⟨hx, hb, hml, hown, hts⟩ (c_X1_pondCell l z0 D t G μ _ er3) (kV hts qw244 qw245 qw246 qw8 qw247 ok_X1_pondCell ⟨Nat.le_of_ble_eq_true rfl, Nat.le_of_ble_eq_true rfl⟩) ⟨PR.blind, va_recv hK hP (ci := 2) (q0 := 0) rfl rfl, fun U hU hW => ⟨rfl, by rw [hU]; exact hC.warm hW, by rw [hU]; exact hP⟩⟩ rfl rfl hl.1 rfl (lv_room (Nat.le_of_ble_eq_true rfl)) dX1_whyRefused_24 ⟨Nat.le_of_ble_eq_true rfl, Nat.le_of_ble_eq_true rfl⟩) ?_
    refine lv_land hx hb dX1_whyRefused_27 ?_
    refine lv_lconst (v := (0)) hx hb dX1_whyRefused_28 (by decide) ?_
    refine W.lcmp hx hb dX1_whyRefused_29 ?_
    refine lv_if_eq (tgt := 35) hx hb dX1_whyRefused_30 (by decide) (fun hc => ?_) (fun hc => ?_)
    · have h := iteT hc h
      refine lv_lload hx hb dX1_whyRefused_35 (lv_at hl 0 rfl) ?_
      refine lv_aload_n hx hb dX1_whyRefused_37 rfl (lv_at hl 1 rfl) ?_
      refine va_get hx hb hts inX1 hown hK hP 0 rfl rfl 3 (by decide) (hts _ qw125) (fun _ h9 => h9) rfl dX1_whyRefused_38 ?_
      refine lv_land hx hb dX1_whyRefused_41 ?_
      refine lv_lconst (v := (0)) hx hb dX1_whyRefused_42 (by decide) ?_
      refine W.lcmp hx hb dX1_whyRefused_43 ?_
      refine lv_if_eq (tgt := 49) hx hb dX1_whyRefused_44 (by decide) (fun hc => ?_) (fun hc => ?_)
      · have h := iteT hc h
        refine lv_lload hx hb dX1_whyRefused_49 (lv_at hl 0 rfl) ?_
        refine lv_aload_n hx hb dX1_whyRefused_51 rfl (lv_at hl 1 rfl) ?_
        refine va_get hx hb hts inX1 hown hK hP 0 rfl rfl 4 (by decide) (hts _ qw127) (fun _ h9 => h9) rfl dX1_whyRefused_52 ?_
        refine lv_land hx hb dX1_whyRefused_55 ?_
        refine lv_lconst (v := (0)) hx hb dX1_whyRefused_56 (by decide) ?_
        refine W.lcmp hx hb dX1_whyRefused_57 ?_
        refine lv_if_eq (tgt := 65) hx hb dX1_whyRefused_58 (by decide) (fun hc => ?_) (fun hc => ?_)
        · have h := iteT hc h
          refine lv_iconst (v := (0)) hx hb dX1_whyRefused_65 (by decide) ?_
          obtain rfl := Option.some.inj h
          exact W.iret hx hb hr (fun t ht hW => ⟨rfl, ht⟩) (fun q hq => absurd hq List.not_mem_nil) dX1_whyRefused_66
        · have h := iteF hc h
          refine lv_iconst (v := (4)) hx hb dX1_whyRefused_61 (by decide) ?_
          refine lv_goto (tgt := 66) hx hb dX1_whyRefused_62 (by decide) ?_
          obtain rfl := Option.some.inj h
          exact W.iret hx hb hr (fun t ht hW => ⟨rfl, ht⟩) (fun q hq => absurd hq List.not_mem_nil) dX1_whyRefused_66
      · have h := iteF hc h
        refine lv_iconst (v := (3)) hx hb dX1_whyRefused_47 (by decide) ?_
        obtain rfl := Option.some.inj h
        exact W.iret hx hb hr (fun t ht hW => ⟨rfl, ht⟩) (fun q hq => absurd hq List.not_mem_nil) dX1_whyRefused_48
    · have h := iteF hc h
      refine lv_iconst (v := (2)) hx hb dX1_whyRefused_33 (by decide) ?_
      obtain rfl := Option.some.inj h
      exact W.iret hx hb hr (fun t ht hW => ⟨rfl, ht⟩) (fun q hq => absurd hq List.not_mem_nil) dX1_whyRefused_34
  · have h := iteT hc h
    refine lv_iconst (v := (1)) hx hb dX1_whyRefused_11 (by decide) ?_
    obtain rfl := Option.some.inj h
    exact W.iret hx hb hr (fun t ht hW => ⟨rfl, ht⟩) (fun q hq => absurd hq List.not_mem_nil) dX1_whyRefused_12

abbrev rm_X4_nameOf : Room := { frames := 0, cells := 0, slots := 0, locals := 0 }
theorem ok_X4_nameOf : okY yX4_nameOf 3 := ⟨by decide +kernel, by decide +kernel, by decide +kernel⟩
set_option maxHeartbeats 4000000 in
set_option maxRecDepth 100000 in
theorem c_X4_nameOf (l : Launch) (z0 : Nat) (D : va_G) (t : Nat → ClassId) (a1 : Int32) (a2 : Int32) (a3 : Int32) (res : Int32) (h : f_X4_nameOf a1 a2 a3 = some res) : Met l yX4_nameOf (ws_ yX4_nameOf cX4_nameOf 3 (some .int)) rm_X4_nameOf (PR z0 D t [.int a1, .int a2, .int a3] []) (QR (some (.int res))) 0 0 FN := by
  refine Met.ofW (cc := cX4_nameOf) (maxL := 3) (ret := (some .int)) (by decide) rfl ?_
  intro p e s m args below meth c s₁ Bo hml hv
  obtain ⟨rfl, hC, hP⟩ := hv
  have hx := Bo.exec
  have hb := Bo.bytes
  have hr := Bo.returns
  have hts : ∀ w ∈ LA, w.before _ s = true := fun w hw => atoms_spec (ws := ws_ yX4_nameOf cX4_nameOf 3 (some .int)) Bo.pre w (List.mem_cons_of_mem _ hw)
  have hown : s.vm.findClass RX4 = some m.cls := findClass_of_methodNamed Bo.named
  have hlocks := Bo.notSynchronized
  have hK := hC.1
  have hl := lv_entry ([.int a1, .int a2, .int a3]) (n := 3) (Nat.le_of_ble_eq_true rfl)
  rw [lg_entry_eq]
  generalize (lg_sl ([.int a1, .int a2, .int a3]) ++ List.replicate (3 - (lg_sl ([.int a1, .int a2, .int a3])).length) Slot.unset).toArray = ls at hl ⊢
  have hl : lv_has ls 3 [(0, .int a1), (1, .int a2), (2, .int a3)] := hl
  unfold f_X4_nameOf at h
  refine lv_iload_n hx hb dX4_nameOf_0 rfl (lv_at hl 0 rfl) ?_
  refine lv_bipush (v := (10)) hx hb dX4_nameOf_1 (by decide) ?_
  refine lv_iload_n hx hb dX4_nameOf_3 rfl (lv_at hl 1 rfl) ?_
  refine lv_imul hx hb dX4_nameOf_4 ?_
  refine lv_iadd hx hb dX4_nameOf_5 ?_
  refine lv_bipush (v := (100)) hx hb dX4_nameOf_6 (by decide) ?_
  refine lv_iload_n hx hb dX4_nameOf_8 rfl (lv_at hl 2 rfl) ?_
  refine lv_imul hx hb dX4_nameOf_9 ?_
  refine lv_iadd hx hb dX4_nameOf_10 ?_
  obtain rfl := Option.some.inj h
  exact W.iret hx hb hr (fun t ht hW => ⟨rfl, ht⟩) (fun q hq => absurd hq List.not_mem_nil) dX4_nameOf_11

abbrev rm_X1_putTriple : Room := { frames := 1, cells := 0, slots := 0, locals := 40 }
theorem ok_X1_putTriple : okY yX1_putTriple 3 := ⟨by decide +kernel, by decide +kernel, by decide +kernel⟩
set_option maxHeartbeats 4000000 in
set_option maxRecDepth 100000 in
theorem c_X1_putTriple (l : Launch) (z0 : Nat) (D : va_G) (t : Nat → ClassId) (G : Nat → Nat) (μ : GS) (a1 : Int32) (a2 : Int32) (a3 : Int32) (res : (Int64) × (Int32) × (Nat → Int32)) (sz : Nat) (h : f_X1_putTriple μ a1 a2 a3 = some res) : Met l yX1_putTriple (ws_ yX1_putTriple cX1_putTriple 4 none) rm_X1_putTriple (PM z0 D t [.ref (G 0), .int a1, .int a2, .int a3] (GW G t μ) (GL G) sz) (QM none D (GW G t (g_names' (g_tc' (g_paved' μ res.1) res.2.1) res.2.2)) (GL G) sz) 0 0 (OA (GL G) sz) := by
  refine Met.ofW (cc := cX1_putTriple) (maxL := 4) (ret := none) (by decide) rfl ?_
  intro p e s m args below meth c s₁ Bo hml hv
  obtain ⟨rfl, hC, hsz, hP, hD, hZ⟩ := hv
  have hx := Bo.exec
  have hb := Bo.bytes
  have hr := Bo.returns
  have hts : ∀ w ∈ LA, w.before _ s = true := fun w hw => atoms_spec (ws := ws_ yX1_putTriple cX1_putTriple 4 none) Bo.pre w (List.mem_cons_of_mem _ hw)
  have hown : s.vm.findClass RX1 = some m.cls := findClass_of_methodNamed Bo.named
  have hlocks := Bo.notSynchronized
  have hK := hC.1
  subst hsz
  have hl := lv_entry ([.ref (G 0), .int a1, .int a2, .int a3]) (n := 4) (Nat.le_of_ble_eq_true rfl)
  rw [lg_entry_eq]
  generalize (lg_sl ([.ref (G 0), .int a1, .int a2, .int a3]) ++ List.replicate (4 - (lg_sl ([.ref (G 0), .int a1, .int a2, .int a3])).length) Slot.unset).toArray = ls at hl ⊢
  have hl : lv_has ls 4 [(0, .ref (G 0)), (1, .int a1), (2, .int a2), (3, .int a3)] := hl
  suffices K9 : ∀ (H : Heap) (locs : List Loc), va_P D vwCl (GW G t μ) H → va_S (OA (GL G) s.heap.size) s.heap H locs → W p l e (headSpec (ws_ yX1_putTriple cX1_putTriple 4 none) rm_X1_putTriple).room s m ([.ref (G 0), .int a1, .int a2, .int a3] : List Value).toArray below meth c H locs 0 0 (MQ below (QM none D (GW G t (g_names' (g_tc' (g_paved' μ res.1) res.2.1) res.2.2)) (GL G) s.heap.size) ([.ref (G 0), .int a1, .int a2, .int a3] : List Value).toArray s 0 0 (OA (GL G) s.heap.size)) (F0 m 0 ls []) from K9 s.heap [] hP va_S.rf
  intro H locs hP hS
  have hSz : s.heap.size ≤ H.size := hS.1
  unfold f_X1_putTriple at h
  refine lv_aload_n hx hb dX1_putTriple_0 rfl (lv_at hl 0 rfl) ?_
  refine va_get hx hb hts inX1 hown hK hP 0 rfl rfl 5 (by decide) (hts _ qw129) (fun _ h9 => h9) rfl dX1_putTriple_1 ?_
  refine lv_aload_n hx hb dX1_putTriple_4 rfl (lv_at hl 0 rfl) ?_
  refine va_get hx hb hts inX1 hown hK hP 0 rfl rfl 8 (by decide) (hts _ qw135) (fun _ h9 => h9) rfl dX1_putTriple_5 ?_
  refine va_alen hx hb hK hP 1 0 rfl rfl (v := 21) rfl dX1_putTriple_8 ?_
  refine lv_icmp_ge (tgt := 52) hx hb dX1_putTriple_9 (by decide) (fun hc => ?_) (fun hc => ?_)
  · have h := iteT hc h
    obtain rfl := Option.some.inj h
    exact W.vret hx hb hr (fun t ht hW => ⟨rfl, by rw [ht]; exact hP, hD, hS.F ht⟩) hS.2.2 dX1_putTriple_52
  · have h := iteF hc h
    refine lv_aload_n hx hb dX1_putTriple_12 rfl (lv_at hl 0 rfl) ?_
    refine va_get hx hb hts inX1 hown hK hP 0 rfl rfl 8 (by decide) (hts _ qw135) (fun _ h9 => h9) rfl dX1_putTriple_13 ?_
    refine lv_aload_n hx hb dX1_putTriple_16 rfl (lv_at hl 0 rfl) ?_
    refine va_get hx hb hts inX1 hown hK hP 0 rfl rfl 5 (by decide) (hts _ qw129) (fun _ h9 => h9) rfl dX1_putTriple_17 ?_
    refine lv_iload_n hx hb dX1_putTriple_20 rfl (lv_at hl 1 rfl) ?_
    refine lv_iload_n hx hb dX1_putTriple_21 rfl (lv_at hl 2 rfl) ?_
    refine lv_iload_n hx hb dX1_putTriple_22 rfl (lv_at hl 3 rfl) ?_
    obtain ⟨r1, er1, h⟩ := obind h
    refine call_R (va_runSN (As := [.int a1, .int a2, .int a3]) (rest := [.int (g_tc μ), .ref (G 1)]) ⟨hx, hb, hml, hown, hts⟩ (c_X4_nameOf l z0 D t a1 a2 a3 _ er1) ⟨kN hts (hC.2.1 _ qw626) qw1 qw628 ok_X4_nameOf ⟨Nat.le_of_ble_eq_true rfl, Nat.le_of_ble_eq_true rfl⟩, hts _ qw627, trivial⟩ ⟨PR.blind, fun U hU hW => ⟨rfl, by rw [hU]; exact (hC.at hS hZ).warm hW, by rw [hU]; exact va_P_nil⟩⟩ rfl rfl hl.1 rfl (lv_room (Nat.le_of_ble_eq_true rfl)) dX1_putTriple_23 ⟨Nat.le_of_ble_eq_true rfl, Nat.le_of_ble_eq_true rfl⟩) ?_
    obtain ⟨f2, ef2, h⟩ := obind h
    refine k_iast (ws' := (GW G t (g_names' μ f2))) hx hb hK hP hD hS 1 rfl ef2 rfl dX1_putTriple_26 (fun H locs hP hD hS => ?_)
    have hSz : s.heap.size ≤ H.size := hS.1
    refine lv_aload_n hx hb dX1_putTriple_27 rfl (lv_at hl 0 rfl) ?_
    refine lv_dup hx hb dX1_putTriple_28 rfl ?_
    refine va_get hx hb hts inX1 hown hK hP 0 rfl rfl 5 (by decide) (hts _ qw129) (fun _ h9 => h9) rfl dX1_putTriple_29 ?_
    refine lv_iconst (v := (1)) hx hb dX1_putTriple_32 (by decide) ?_
    refine lv_iadd hx hb dX1_putTriple_33 ?_
    obtain ⟨x3, ex3, h⟩ := jlet_some h
    refine topI ex3 ?_
    refine va_put (D := D) (ci := 2) (v := .int x3) (ty := .int) hx hb hts inX1 tyX1 tyX1_ok nmX1 hown hK hP hD hS 0 rfl rfl 5 (by decide) (hts _ qw129) (fun _ h9 => h9) rfl (by decide +kernel) rfl rfl (Nat.le_of_ble_eq_true rfl) dX1_putTriple_34 (fun H locs hP hD hS => ?_)
    have hP : va_P D vwCl (GW G t (g_names' (g_tc' μ x3) f2)) H := hP
    have hD : va_D (OA (GL G) s.heap.size) (GW G t (g_names' (g_tc' μ x3) f2)) := hD
    have hSz : s.heap.size ≤ H.size := hS.1
    refine lv_aload_n hx hb dX1_putTriple_37 rfl (lv_at hl 0 rfl) ?_
    refine lv_dup hx hb dX1_putTriple_38 rfl ?_
    refine va_get hx hb hts inX1 hown hK hP 0 rfl rfl 4 (by decide) (hts _ qw127) (fun _ h9 => h9) rfl dX1_putTriple_39 ?_
    refine lv_iload_n hx hb dX1_putTriple_42 rfl (lv_at hl 1 rfl) ?_
    refine lv_iload_n hx hb dX1_putTriple_43 rfl (lv_at hl 2 rfl) ?_
    refine lv_iload_n hx hb dX1_putTriple_44 rfl (lv_at hl 3 rfl) ?_
    obtain ⟨r4, er4, h⟩ := obind h
    refine call_R (va_runSN (As := [.int a1, .int a2, .int a3]) (rest := [.long (g_paved μ), .ref (G 0)]) ⟨hx, hb, hml, hown, hts⟩ (c_X4_cellsOf l z0 D t a1 a2 a3 _ er4) ⟨kN hts (hC.2.1 _ qw621) qw1 qw307 ok_X4_cellsOf ⟨Nat.le_of_ble_eq_true rfl, Nat.le_of_ble_eq_true rfl⟩, hts _ qw306, trivial⟩ ⟨PR.blind, fun U hU hW => ⟨rfl, by rw [hU]; exact (hC.at hS hZ).warm hW, by rw [hU]; exact va_P_nil⟩⟩ rfl rfl hl.1 rfl (lv_room (Nat.le_of_ble_eq_true rfl)) dX1_putTriple_45 ⟨Nat.le_of_ble_eq_true rfl, Nat.le_of_ble_eq_true rfl⟩) ?_
    refine lv_lor hx hb dX1_putTriple_48 ?_
    obtain ⟨x5, ex5, h⟩ := jlet_some h
    refine topJ ex5 ?_
    refine va_put (D := D) (ci := 2) (v := .long x5) (ty := .long) hx hb hts inX1 tyX1 tyX1_ok nmX1 hown hK hP hD hS 0 rfl rfl 4 (by decide) (hts _ qw127) (fun _ h9 => h9) rfl (by decide +kernel) rfl rfl (Nat.le_of_ble_eq_true rfl) dX1_putTriple_49 (fun H locs hP hD hS => ?_)
    have hP : va_P D vwCl (GW G t (g_names' (g_tc' (g_paved' μ x5) x3) f2)) H := hP
    have hD : va_D (OA (GL G) s.heap.size) (GW G t (g_names' (g_tc' (g_paved' μ x5) x3) f2)) := hD
    have hSz : s.heap.size ≤ H.size := hS.1
    obtain rfl := Option.some.inj h
    exact W.vret hx hb hr (fun t ht hW => ⟨rfl, by rw [ht]; exact hP, hD, hS.F ht⟩) hS.2.2 dX1_putTriple_52

abbrev rm_X1_tripleName : Room := { frames := 0, cells := 0, slots := 0, locals := 0 }
theorem ok_X1_tripleName : okY yX1_tripleName 1 := ⟨by decide +kernel, by decide +kernel, by decide +kernel⟩
set_option maxHeartbeats 4000000 in
set_option maxRecDepth 100000 in
theorem c_X1_tripleName (l : Launch) (z0 : Nat) (D : va_G) (t : Nat → ClassId) (G : Nat → Nat) (μ : GS) (a1 : Int32) (res : Int32) (h : f_X1_tripleName μ a1 = some res) : Met l yX1_tripleName (ws_ yX1_tripleName cX1_tripleName 2 (some .int)) rm_X1_tripleName (PR z0 D t [.ref (G 0), .int a1] (GW G t μ)) (QR (some (.int res))) 0 0 FN := by
  refine Met.ofW (cc := cX1_tripleName) (maxL := 2) (ret := (some .int)) (by decide) rfl ?_
  intro p e s m args below meth c s₁ Bo hml hv
  obtain ⟨rfl, hC, hP⟩ := hv
  have hx := Bo.exec
  have hb := Bo.bytes
  have hr := Bo.returns
  have hts : ∀ w ∈ LA, w.before _ s = true := fun w hw => atoms_spec (ws := ws_ yX1_tripleName cX1_tripleName 2 (some .int)) Bo.pre w (List.mem_cons_of_mem _ hw)
  have hown : s.vm.findClass RX1 = some m.cls := findClass_of_methodNamed Bo.named
  have hlocks := Bo.notSynchronized
  have hK := hC.1
  have hl := lv_entry ([.ref (G 0), .int a1]) (n := 2) (Nat.le_of_ble_eq_true rfl)
  rw [lg_entry_eq]
  generalize (lg_sl ([.ref (G 0), .int a1]) ++ List.replicate (2 - (lg_sl ([.ref (G 0), .int a1])).length) Slot.unset).toArray = ls at hl ⊢
  have hl : lv_has ls 2 [(0, .ref (G 0)), (1, .int a1)] := hl
  unfold f_X1_tripleName at h
  refine lv_iload_n hx hb dX1_tripleName_0 rfl (lv_at hl 1 rfl) ?_
  refine lv_if_lt (tgt := 30) hx hb dX1_tripleName_1 (by decide) (fun hc => ?_) (fun hc => ?_)
  · have h := iteT hc h
    refine lv_iconst (v := (0)) hx hb dX1_tripleName_30 (by decide) ?_
    obtain rfl := Option.some.inj h
    exact W.iret hx hb hr (fun t ht hW => ⟨rfl, ht⟩) (fun q hq => absurd hq List.not_mem_nil) dX1_tripleName_31
  · have h := iteF hc h
    refine lv_iload_n hx hb dX1_tripleName_4 rfl (lv_at hl 1 rfl) ?_
    refine lv_aload_n hx hb dX1_tripleName_5 rfl (lv_at hl 0 rfl) ?_
    refine va_get hx hb hts inX1 hown hK hP 0 rfl rfl 5 (by decide) (hts _ qw129) (fun _ h9 => h9) rfl dX1_tripleName_6 ?_
    refine lv_icmp_ge (tgt := 30) hx hb dX1_tripleName_9 (by decide) (fun hc => ?_) (fun hc => ?_)
    · have h := iteT hc h
      refine lv_iconst (v := (0)) hx hb dX1_tripleName_30 (by decide) ?_
      obtain rfl := Option.some.inj h
      exact W.iret hx hb hr (fun t ht hW => ⟨rfl, ht⟩) (fun q hq => absurd hq List.not_mem_nil) dX1_tripleName_31
    · have h := iteF hc h
      refine lv_iload_n hx hb dX1_tripleName_12 rfl (lv_at hl 1 rfl) ?_
      refine lv_aload_n hx hb dX1_tripleName_13 rfl (lv_at hl 0 rfl) ?_
      refine va_get hx hb hts inX1 hown hK hP 0 rfl rfl 8 (by decide) (hts _ qw135) (fun _ h9 => h9) rfl dX1_tripleName_14 ?_
      refine va_alen hx hb hK hP 1 0 rfl rfl (v := 21) rfl dX1_tripleName_17 ?_
      refine lv_icmp_ge (tgt := 30) hx hb dX1_tripleName_18 (by decide) (fun hc => ?_) (fun hc => ?_)
      · have h := iteT hc h
        refine lv_iconst (v := (0)) hx hb dX1_tripleName_30 (by decide) ?_
        obtain rfl := Option.some.inj h
        exact W.iret hx hb hr (fun t ht hW => ⟨rfl, ht⟩) (fun q hq => absurd hq List.not_mem_nil) dX1_tripleName_31
      · have h := iteF hc h
        refine lv_aload_n hx hb dX1_tripleName_21 rfl (lv_at hl 0 rfl) ?_
        refine va_get hx hb hts inX1 hown hK hP 0 rfl rfl 8 (by decide) (hts _ qw135) (fun _ h9 => h9) rfl dX1_tripleName_22 ?_
        refine lv_iload_n hx hb dX1_tripleName_25 rfl (lv_at hl 1 rfl) ?_
        obtain ⟨v1, ev1, h⟩ := obind h
        refine k_iald hx hb hK hP 1 rfl ev1 dX1_tripleName_26 ?_
        refine lv_goto (tgt := 31) hx hb dX1_tripleName_27 (by decide) ?_
        obtain rfl := Option.some.inj h
        exact W.iret hx hb hr (fun t ht hW => ⟨rfl, ht⟩) (fun q hq => absurd hq List.not_mem_nil) dX1_tripleName_31

abbrev rm_X4_columnOf : Room := { frames := 0, cells := 0, slots := 0, locals := 0 }
theorem ok_X4_columnOf : okY yX4_columnOf 1 := ⟨by decide +kernel, by decide +kernel, by decide +kernel⟩
set_option maxHeartbeats 4000000 in
set_option maxRecDepth 100000 in
theorem c_X4_columnOf (l : Launch) (z0 : Nat) (D : va_G) (t : Nat → ClassId) (a1 : Int32) (res : Int32) (h : f_X4_columnOf a1 = some res) : Met l yX4_columnOf (ws_ yX4_columnOf cX4_columnOf 1 (some .int)) rm_X4_columnOf (PR z0 D t [.int a1] []) (QR (some (.int res))) 0 0 FN := by
  refine Met.ofW (cc := cX4_columnOf) (maxL := 1) (ret := (some .int)) (by decide) rfl ?_
  intro p e s m args below meth c s₁ Bo hml hv
  obtain ⟨rfl, hC, hP⟩ := hv
  have hx := Bo.exec
  have hb := Bo.bytes
  have hr := Bo.returns
  have hts : ∀ w ∈ LA, w.before _ s = true := fun w hw => atoms_spec (ws := ws_ yX4_columnOf cX4_columnOf 1 (some .int)) Bo.pre w (List.mem_cons_of_mem _ hw)
  have hown : s.vm.findClass RX4 = some m.cls := findClass_of_methodNamed Bo.named
  have hlocks := Bo.notSynchronized
  have hK := hC.1
  have hl := lv_entry ([.int a1]) (n := 1) (Nat.le_of_ble_eq_true rfl)
  rw [lg_entry_eq]
  generalize (lg_sl ([.int a1]) ++ List.replicate (1 - (lg_sl ([.int a1])).length) Slot.unset).toArray = ls at hl ⊢
  have hl : lv_has ls 1 [(0, .int a1)] := hl
  unfold f_X4_columnOf at h
  refine lv_iload_n hx hb dX4_columnOf_0 rfl (lv_at hl 0 rfl) ?_
  refine lv_bipush (v := (10)) hx hb dX4_columnOf_1 (by decide) ?_
  refine lv_irem hx hb dX4_columnOf_3 (by decide) ?_
  obtain rfl := Option.some.inj h
  exact W.iret hx hb hr (fun t ht hW => ⟨rfl, ht⟩) (fun q hq => absurd hq List.not_mem_nil) dX4_columnOf_4

abbrev rm_X4_rowOf : Room := { frames := 0, cells := 0, slots := 0, locals := 0 }
theorem ok_X4_rowOf : okY yX4_rowOf 1 := ⟨by decide +kernel, by decide +kernel, by decide +kernel⟩
set_option maxHeartbeats 4000000 in
set_option maxRecDepth 100000 in
theorem c_X4_rowOf (l : Launch) (z0 : Nat) (D : va_G) (t : Nat → ClassId) (a1 : Int32) (res : Int32) (h : f_X4_rowOf a1 = some res) : Met l yX4_rowOf (ws_ yX4_rowOf cX4_rowOf 1 (some .int)) rm_X4_rowOf (PR z0 D t [.int a1] []) (QR (some (.int res))) 0 0 FN := by
  refine Met.ofW (cc := cX4_rowOf) (maxL := 1) (ret := (some .int)) (by decide) rfl ?_
  intro p e s m args below meth c s₁ Bo hml hv
  obtain ⟨rfl, hC, hP⟩ := hv
  have hx := Bo.exec
  have hb := Bo.bytes
  have hr := Bo.returns
  have hts : ∀ w ∈ LA, w.before _ s = true := fun w hw => atoms_spec (ws := ws_ yX4_rowOf cX4_rowOf 1 (some .int)) Bo.pre w (List.mem_cons_of_mem _ hw)
  have hown : s.vm.findClass RX4 = some m.cls := findClass_of_methodNamed Bo.named
  have hlocks := Bo.notSynchronized
  have hK := hC.1
  have hl := lv_entry ([.int a1]) (n := 1) (Nat.le_of_ble_eq_true rfl)
  rw [lg_entry_eq]
  generalize (lg_sl ([.int a1]) ++ List.replicate (1 - (lg_sl ([.int a1])).length) Slot.unset).toArray = ls at hl ⊢
  have hl : lv_has ls 1 [(0, .int a1)] := hl
  unfold f_X4_rowOf at h
  refine lv_iload_n hx hb dX4_rowOf_0 rfl (lv_at hl 0 rfl) ?_
  refine lv_bipush (v := (10)) hx hb dX4_rowOf_1 (by decide) ?_
  refine lv_idiv hx hb dX4_rowOf_3 (by decide) ?_
  refine lv_bipush (v := (10)) hx hb dX4_rowOf_4 (by decide) ?_
  refine lv_irem hx hb dX4_rowOf_6 (by decide) ?_
  obtain rfl := Option.some.inj h
  exact W.iret hx hb hr (fun t ht hW => ⟨rfl, ht⟩) (fun q hq => absurd hq List.not_mem_nil) dX4_rowOf_7

abbrev rm_X4_turnOf : Room := { frames := 0, cells := 0, slots := 0, locals := 0 }
theorem ok_X4_turnOf : okY yX4_turnOf 1 := ⟨by decide +kernel, by decide +kernel, by decide +kernel⟩
set_option maxHeartbeats 4000000 in
set_option maxRecDepth 100000 in
theorem c_X4_turnOf (l : Launch) (z0 : Nat) (D : va_G) (t : Nat → ClassId) (a1 : Int32) (res : Int32) (h : f_X4_turnOf a1 = some res) : Met l yX4_turnOf (ws_ yX4_turnOf cX4_turnOf 1 (some .int)) rm_X4_turnOf (PR z0 D t [.int a1] []) (QR (some (.int res))) 0 0 FN := by
  refine Met.ofW (cc := cX4_turnOf) (maxL := 1) (ret := (some .int)) (by decide) rfl ?_
  intro p e s m args below meth c s₁ Bo hml hv
  obtain ⟨rfl, hC, hP⟩ := hv
  have hx := Bo.exec
  have hb := Bo.bytes
  have hr := Bo.returns
  have hts : ∀ w ∈ LA, w.before _ s = true := fun w hw => atoms_spec (ws := ws_ yX4_turnOf cX4_turnOf 1 (some .int)) Bo.pre w (List.mem_cons_of_mem _ hw)
  have hown : s.vm.findClass RX4 = some m.cls := findClass_of_methodNamed Bo.named
  have hlocks := Bo.notSynchronized
  have hK := hC.1
  have hl := lv_entry ([.int a1]) (n := 1) (Nat.le_of_ble_eq_true rfl)
  rw [lg_entry_eq]
  generalize (lg_sl ([.int a1]) ++ List.replicate (1 - (lg_sl ([.int a1])).length) Slot.unset).toArray = ls at hl ⊢
  have hl : lv_has ls 1 [(0, .int a1)] := hl
  unfold f_X4_turnOf at h
  refine lv_iload_n hx hb dX4_turnOf_0 rfl (lv_at hl 0 rfl) ?_
  refine lv_bipush (v := (100)) hx hb dX4_turnOf_1 (by decide) ?_
  refine lv_idiv hx hb dX4_turnOf_3 (by decide) ?_
  obtain rfl := Option.some.inj h
  exact W.iret hx hb hr (fun t ht hW => ⟨rfl, ht⟩) (fun q hq => absurd hq List.not_mem_nil) dX4_turnOf_4

abbrev rm_X1_tripleCells : Room := { frames := 1, cells := 0, slots := 0, locals := 40 }
theorem ok_X1_tripleCells : okY yX1_tripleCells 1 := ⟨by decide +kernel, by decide +kernel, by decide +kernel⟩
set_option maxHeartbeats 4000000 in
set_option maxRecDepth 100000 in
theorem c_X1_tripleCells (l : Launch) (z0 : Nat) (D : va_G) (t : Nat → ClassId) (G : Nat → Nat) (μ : GS) (a1 : Int32) (res : Int64) (h : f_X1_tripleCells μ a1 = some res) : Met l yX1_tripleCells (ws_ yX1_tripleCells cX1_tripleCells 3 (some .long)) rm_X1_tripleCells (PR z0 D t [.ref (G 0), .int a1] (GW G t μ)) (QR (some (.long res))) 0 0 FN := by
  refine Met.ofW (cc := cX1_tripleCells) (maxL := 3) (ret := (some .long)) (by decide) rfl ?_
  intro p e s m args below meth c s₁ Bo hml hv
  obtain ⟨rfl, hC, hP⟩ := hv
  have hx := Bo.exec
  have hb := Bo.bytes
  have hr := Bo.returns
  have hts : ∀ w ∈ LA, w.before _ s = true := fun w hw => atoms_spec (ws := ws_ yX1_tripleCells cX1_tripleCells 3 (some .long)) Bo.pre w (List.mem_cons_of_mem _ hw)
  have hown : s.vm.findClass RX1 = some m.cls := findClass_of_methodNamed Bo.named
  have hlocks := Bo.notSynchronized
  have hK := hC.1
  have hl := lv_entry ([.ref (G 0), .int a1]) (n := 3) (Nat.le_of_ble_eq_true rfl)
  rw [lg_entry_eq]
  generalize (lg_sl ([.ref (G 0), .int a1]) ++ List.replicate (3 - (lg_sl ([.ref (G 0), .int a1])).length) Slot.unset).toArray = ls at hl ⊢
  have hl : lv_has ls 3 [(0, .ref (G 0)), (1, .int a1)] := hl
  unfold f_X1_tripleCells at h
  refine lv_aload_n hx hb dX1_tripleCells_0 rfl (lv_at hl 0 rfl) ?_
  refine lv_iload_n hx hb dX1_tripleCells_1 rfl (lv_at hl 1 rfl) ?_
  obtain ⟨r1, er1, h⟩ := obind h
  refine call_R (va_runV (As := [.int a1]) (rest := []) ⟨hx, hb, hml, hown, hts⟩ (c_X1_tripleName l z0 D t G μ a1 _ er1) (kV hts qw644 qw645 qw646 qw8 qw647 ok_X1_tripleName ⟨Nat.le_of_ble_eq_true rfl, Nat.le_of_ble_eq_true rfl⟩) ⟨PR.blind, va_recv hK hP (ci := 2) (q0 := 0) rfl rfl, fun U hU hW => ⟨rfl, by rw [hU]; exact hC.warm hW, by rw [hU]; exact hP⟩⟩ rfl rfl hl.1 rfl (lv_room (Nat.le_of_ble_eq_true rfl)) dX1_tripleCells_2 ⟨Nat.le_of_ble_eq_true rfl, Nat.le_of_ble_eq_true rfl⟩) ?_
  refine lv_istore_n (lv' := [(2, .int r1), (0, .ref (G 0)), (1, .int a1)]) hx hb dX1_tripleCells_5 rfl hl (by decide) rfl (fun ls hl => ?_)
  refine lv_iload_n hx hb dX1_tripleCells_6 rfl (lv_at hl 0 rfl) ?_
  obtain ⟨r2, er2, h⟩ := obind h
  refine call_R (va_runSN (As := [.int r1]) (rest := []) ⟨hx, hb, hml, hown, hts⟩ (c_X4_columnOf l z0 D t r1 _ er2) ⟨kN hts (hC.2.1 _ qw648) qw1 qw650 ok_X4_columnOf ⟨Nat.le_of_ble_eq_true rfl, Nat.le_of_ble_eq_true rfl⟩, hts _ qw649, trivial⟩ ⟨PR.blind, fun U hU hW => ⟨rfl, by rw [hU]; exact hC.warm hW, by rw [hU]; exact va_P_nil⟩⟩ rfl rfl hl.1 rfl (lv_room (Nat.le_of_ble_eq_true rfl)) dX1_tripleCells_7 ⟨Nat.le_of_ble_eq_true rfl, Nat.le_of_ble_eq_true rfl⟩) ?_
  refine lv_iload_n hx hb dX1_tripleCells_10 rfl (lv_at hl 0 rfl) ?_
  obtain ⟨r3, er3, h⟩ := obind h
  refine call_R (va_runSN (As := [.int r1]) (rest := [.int r2]) ⟨hx, hb, hml, hown, hts⟩ (c_X4_rowOf l z0 D t r1 _ er3) ⟨kN hts (hC.2.1 _ qw651) qw1 qw653 ok_X4_rowOf ⟨Nat.le_of_ble_eq_true rfl, Nat.le_of_ble_eq_true rfl⟩, hts _ qw652, trivial⟩ ⟨PR.blind, fun U hU hW => ⟨rfl, by rw [hU]; exact hC.warm hW, by rw [hU]; exact va_P_nil⟩⟩ rfl rfl hl.1 rfl (lv_room (Nat.le_of_ble_eq_true rfl)) dX1_tripleCells_11 ⟨Nat.le_of_ble_eq_true rfl, Nat.le_of_ble_eq_true rfl⟩) ?_
  refine lv_iload_n hx hb dX1_tripleCells_14 rfl (lv_at hl 0 rfl) ?_
  obtain ⟨r4, er4, h⟩ := obind h
  refine call_R (va_runSN (As := [.int r1]) (rest := [.int r3, .int r2]) ⟨hx, hb, hml, hown, hts⟩ (c_X4_turnOf l z0 D t r1 _ er4) ⟨kN hts (hC.2.1 _ qw654) qw1 qw656 ok_X4_turnOf ⟨Nat.le_of_ble_eq_true rfl, Nat.le_of_ble_eq_true rfl⟩, hts _ qw655, trivial⟩ ⟨PR.blind, fun U hU hW => ⟨rfl, by rw [hU]; exact hC.warm hW, by rw [hU]; exact va_P_nil⟩⟩ rfl rfl hl.1 rfl (lv_room (Nat.le_of_ble_eq_true rfl)) dX1_tripleCells_15 ⟨Nat.le_of_ble_eq_true rfl, Nat.le_of_ble_eq_true rfl⟩) ?_
  obtain ⟨r5, er5, h⟩ := obind h
  refine call_R (va_runSN (As := [.int r2, .int r3, .int r4]) (rest := []) ⟨hx, hb, hml, hown, hts⟩ (c_X4_cellsOf l z0 D t r2 r3 r4 _ er5) ⟨kN hts (hC.2.1 _ qw621) qw1 qw307 ok_X4_cellsOf ⟨Nat.le_of_ble_eq_true rfl, Nat.le_of_ble_eq_true rfl⟩, hts _ qw306, trivial⟩ ⟨PR.blind, fun U hU hW => ⟨rfl, by rw [hU]; exact hC.warm hW, by rw [hU]; exact va_P_nil⟩⟩ rfl rfl hl.1 rfl (lv_room (Nat.le_of_ble_eq_true rfl)) dX1_tripleCells_18 ⟨Nat.le_of_ble_eq_true rfl, Nat.le_of_ble_eq_true rfl⟩) ?_
  obtain rfl := Option.some.inj h
  exact W.lret hx hb hr (fun t ht hW => ⟨rfl, ht⟩) (fun q hq => absurd hq List.not_mem_nil) dX1_tripleCells_21

abbrev rm_X1_tripleOver : Room := { frames := 2, cells := 0, slots := 0, locals := 62 }
theorem ok_X1_tripleOver : okY yX1_tripleOver 1 := ⟨by decide +kernel, by decide +kernel, by decide +kernel⟩
set_option maxHeartbeats 4000000 in
set_option maxRecDepth 100000 in
theorem c_X1_tripleOver (l : Launch) (z0 : Nat) (D : va_G) (t : Nat → ClassId) (G : Nat → Nat) (μ : GS) (a1 : Int64) (res : Int32) (h : f_X1_tripleOver μ a1 = some res) : Met l yX1_tripleOver (ws_ yX1_tripleOver cX1_tripleOver 4 (some .int)) rm_X1_tripleOver (PR z0 D t [.ref (G 0), .long a1] (GW G t μ)) (QR (some (.int res))) 0 0 FN := by
  refine Met.ofW (cc := cX1_tripleOver) (maxL := 4) (ret := (some .int)) (by decide) rfl ?_
  intro p e s m args below meth c s₁ Bo hml hv
  obtain ⟨rfl, hC, hP⟩ := hv
  have hx := Bo.exec
  have hb := Bo.bytes
  have hr := Bo.returns
  have hts : ∀ w ∈ LA, w.before _ s = true := fun w hw => atoms_spec (ws := ws_ yX1_tripleOver cX1_tripleOver 4 (some .int)) Bo.pre w (List.mem_cons_of_mem _ hw)
  have hown : s.vm.findClass RX1 = some m.cls := findClass_of_methodNamed Bo.named
  have hlocks := Bo.notSynchronized
  have hK := hC.1
  have hl := lv_entry ([.ref (G 0), .long a1]) (n := 4) (Nat.le_of_ble_eq_true rfl)
  rw [lg_entry_eq]
  generalize (lg_sl ([.ref (G 0), .long a1]) ++ List.replicate (4 - (lg_sl ([.ref (G 0), .long a1])).length) Slot.unset).toArray = ls at hl ⊢
  have hl : lv_has ls 4 [(0, .ref (G 0)), (1, .long a1)] := hl
  unfold f_X1_tripleOver at h
  refine lv_iconst (v := (0)) hx hb dX1_tripleOver_0 (by decide) ?_
  refine lv_istore_n (lv' := [(3, .int (0 : Int32)), (0, .ref (G 0)), (1, .long a1)]) hx hb dX1_tripleOver_1 rfl hl (by decide) rfl (fun ls hl => ?_)
  obtain ⟨o5, eo5, h⟩ := obind h
  have hL2 : ∀ (n : Nat) (y3_2 : Int32) (o5 : (Unit) ⊕ (Int32)), f_X1_tripleOver_L2 a1 μ n y3_2 = some o5 → (∀ o5l, o5 = .inl o5l → ∀ (ls : Array Slot), lv_has ls 4 [] → W p l e (headSpec (ws_ yX1_tripleOver cX1_tripleOver 4 (some .int)) rm_X1_tripleOver).room s m ([.ref (G 0), .long a1] : List Value).toArray below meth c s.heap [] 0 0 (MQ below (QR (some (.int res))) ([.ref (G 0), .long a1] : List Value).toArray s 0 0 FN) (F0 m 30 ls [])) → (∀ r9, o5 = .inr r9 → r9 = res) → ∀ (ls : Array Slot), lv_has ls 4 [(0, .ref (G 0)), (1, .long a1), (3, .int y3_2)] → W p l e (headSpec (ws_ yX1_tripleOver cX1_tripleOver 4 (some .int)) rm_X1_tripleOver).room s m ([.ref (G 0), .long a1] : List Value).toArray below meth c s.heap [] 0 0 (MQ below (QR (some (.int res))) ([.ref (G 0), .long a1] : List Value).toArray s 0 0 FN) (F0 m 2 ls []) := by
    intro n
    induction n with
    | zero => intro y3_2 o5 h; exact absurd h (fun z => by cases z)
    | succ n ih =>
      intro y3_2 o5 h hK2 hR2 ls hl
      replace h : f_X1_tripleOver_L2_b a1 μ (f_X1_tripleOver_L2 a1 μ n) y3_2 = some o5 := h
      unfold f_X1_tripleOver_L2_b at h
      refine lv_iload_n hx hb dX1_tripleOver_2 rfl (lv_at hl 2 rfl) ?_
      refine lv_aload_n hx hb dX1_tripleOver_3 rfl (lv_at hl 0 rfl) ?_
      refine va_get hx hb hts inX1 hown hK hP 0 rfl rfl 5 (by decide) (hts _ qw129) (fun _ h9 => h9) rfl dX1_tripleOver_4 ?_
      refine lv_icmp_ge (tgt := 30) hx hb dX1_tripleOver_7 (by decide) (fun hc => ?_) (fun hc => ?_)
      · have h := iteT hc h
        obtain rfl := Option.some.inj h
        exact hK2 _ rfl ls (lv_sub hl [] rfl)
      · have h := iteF hc h
        refine lv_aload_n hx hb dX1_tripleOver_10 rfl (lv_at hl 0 rfl) ?_
        refine lv_iload_n hx hb dX1_tripleOver_11 rfl (lv_at hl 2 rfl) ?_
        obtain ⟨r6, er6, h⟩ := obind h
        refine call_R (va_runV (As := [.int y3_2]) (rest := []) ⟨hx, hb, hml, hown, hts⟩ (c_X1_tripleCells l z0 D t G μ y3_2 _ er6) (kV hts qw640 qw642 qs21 qw8 qw643 ok_X1_tripleCells ⟨Nat.le_of_ble_eq_true rfl, Nat.le_of_ble_eq_true rfl⟩) ⟨PR.blind, va_recv hK hP (ci := 2) (q0 := 0) rfl rfl, fun U hU hW => ⟨rfl, by rw [hU]; exact hC.warm hW, by rw [hU]; exact hP⟩⟩ rfl rfl hl.1 rfl (lv_room (Nat.le_of_ble_eq_true rfl)) dX1_tripleOver_12 ⟨Nat.le_of_ble_eq_true rfl, Nat.le_of_ble_eq_true rfl⟩) ?_
        refine lv_lload_n hx hb dX1_tripleOver_15 rfl (lv_at hl 1 rfl) ?_
        refine lv_land hx hb dX1_tripleOver_16 ?_
        refine lv_lconst (v := (0)) hx hb dX1_tripleOver_17 (by decide) ?_
        refine W.lcmp hx hb dX1_tripleOver_18 ?_
        refine lv_if_eq (tgt := 24) hx hb dX1_tripleOver_19 (by decide) (fun hc => ?_) (fun hc => ?_)
        · have h := iteT hc h
          obtain ⟨x7, ex7, h⟩ := jlet_some h
          refine lv_iinc (v := x7) (lv' := [(3, .int x7), (0, .ref (G 0)), (1, .long a1)]) hx hb dX1_tripleOver_24 hl (k := 2) rfl (by rw [ex7]; rfl) (by decide) rfl (fun ls hl => ?_)
          refine lv_goto (tgt := 2) hx hb dX1_tripleOver_27 (by decide) ?_
          exact ih _ _ h hK2 hR2 ls (lv_sub hl [1, 2, 0] rfl)
        · have h := iteF hc h
          refine lv_iload_n hx hb dX1_tripleOver_22 rfl (lv_at hl 2 rfl) ?_
          have e9 := hR2 _ (Option.some.inj h).symm
          subst e9
          exact W.iret hx hb hr (fun t ht hW => ⟨rfl, ht⟩) (fun q hq => absurd hq List.not_mem_nil) dX1_tripleOver_23
  refine hL2 _ _ _ eo5 (fun o5l eq9 ls hl => ?_) (fun r9 eq9 => ?_) ls (lv_sub hl [1, 2, 0] rfl)
  · subst eq9
    replace h := sumL h
    refine lv_iconst (v := (-1)) hx hb dX1_tripleOver_30 (by decide) ?_
    obtain rfl := Option.some.inj h
    exact W.iret hx hb hr (fun t ht hW => ⟨rfl, ht⟩) (fun q hq => absurd hq List.not_mem_nil) dX1_tripleOver_31
  · subst eq9
    replace h := sumR h
    exact Option.some.inj h

abbrev rm_X1_takeTriple : Room := { frames := 2, cells := 0, slots := 0, locals := 62 }
theorem ok_X1_takeTriple : okY yX1_takeTriple 1 := ⟨by decide +kernel, by decide +kernel, by decide +kernel⟩
set_option maxHeartbeats 4000000 in
set_option maxRecDepth 100000 in
theorem c_X1_takeTriple (l : Launch) (z0 : Nat) (D : va_G) (t : Nat → ClassId) (G : Nat → Nat) (μ : GS) (a1 : Int32) (res : (Int64) × (Int32) × (Nat → Int32)) (sz : Nat) (h : f_X1_takeTriple μ a1 = some res) : Met l yX1_takeTriple (ws_ yX1_takeTriple cX1_takeTriple 3 none) rm_X1_takeTriple (PM z0 D t [.ref (G 0), .int a1] (GW G t μ) (GL G) sz) (QM none D (GW G t (g_names' (g_tc' (g_paved' μ res.1) res.2.1) res.2.2)) (GL G) sz) 0 0 (OA (GL G) sz) := by
  refine Met.ofW (cc := cX1_takeTriple) (maxL := 3) (ret := none) (by decide) rfl ?_
  intro p e s m args below meth c s₁ Bo hml hv
  obtain ⟨rfl, hC, hsz, hP, hD, hZ⟩ := hv
  have hx := Bo.exec
  have hb := Bo.bytes
  have hr := Bo.returns
  have hts : ∀ w ∈ LA, w.before _ s = true := fun w hw => atoms_spec (ws := ws_ yX1_takeTriple cX1_takeTriple 3 none) Bo.pre w (List.mem_cons_of_mem _ hw)
  have hown : s.vm.findClass RX1 = some m.cls := findClass_of_methodNamed Bo.named
  have hlocks := Bo.notSynchronized
  have hK := hC.1
  subst hsz
  have hl := lv_entry ([.ref (G 0), .int a1]) (n := 3) (Nat.le_of_ble_eq_true rfl)
  rw [lg_entry_eq]
  generalize (lg_sl ([.ref (G 0), .int a1]) ++ List.replicate (3 - (lg_sl ([.ref (G 0), .int a1])).length) Slot.unset).toArray = ls at hl ⊢
  have hl : lv_has ls 3 [(0, .ref (G 0)), (1, .int a1)] := hl
  suffices K9 : ∀ (H : Heap) (locs : List Loc), va_P D vwCl (GW G t μ) H → va_S (OA (GL G) s.heap.size) s.heap H locs → W p l e (headSpec (ws_ yX1_takeTriple cX1_takeTriple 3 none) rm_X1_takeTriple).room s m ([.ref (G 0), .int a1] : List Value).toArray below meth c H locs 0 0 (MQ below (QM none D (GW G t (g_names' (g_tc' (g_paved' μ res.1) res.2.1) res.2.2)) (GL G) s.heap.size) ([.ref (G 0), .int a1] : List Value).toArray s 0 0 (OA (GL G) s.heap.size)) (F0 m 0 ls []) from K9 s.heap [] hP va_S.rf
  intro H locs hP hS
  have hSz : s.heap.size ≤ H.size := hS.1
  unfold f_X1_takeTriple at h
  refine lv_iload_n hx hb dX1_takeTriple_0 rfl (lv_at hl 1 rfl) ?_
  refine lv_if_lt (tgt := 12) hx hb dX1_takeTriple_1 (by decide) (fun hc => ?_) (fun hc => ?_)
  · have h := iteT hc h
    obtain rfl := Option.some.inj h
    exact W.vret hx hb hr (fun t ht hW => ⟨rfl, by rw [ht]; exact hP, hD, hS.F ht⟩) hS.2.2 dX1_takeTriple_12
  · have h := iteF hc h
    refine lv_iload_n hx hb dX1_takeTriple_4 rfl (lv_at hl 1 rfl) ?_
    refine lv_aload_n hx hb dX1_takeTriple_5 rfl (lv_at hl 0 rfl) ?_
    refine va_get hx hb hts inX1 hown hK hP 0 rfl rfl 5 (by decide) (hts _ qw129) (fun _ h9 => h9) rfl dX1_takeTriple_6 ?_
    refine lv_icmp_lt (tgt := 13) hx hb dX1_takeTriple_9 (by decide) (fun hc => ?_) (fun hc => ?_)
    · have h := iteT hc h
      refine lv_aload_n hx hb dX1_takeTriple_13 rfl (lv_at hl 0 rfl) ?_
      refine lv_dup hx hb dX1_takeTriple_14 rfl ?_
      refine va_get hx hb hts inX1 hown hK hP 0 rfl rfl 4 (by decide) (hts _ qw127) (fun _ h9 => h9) rfl dX1_takeTriple_15 ?_
      refine lv_aload_n hx hb dX1_takeTriple_18 rfl (lv_at hl 0 rfl) ?_
      refine lv_iload_n hx hb dX1_takeTriple_19 rfl (lv_at hl 1 rfl) ?_
      obtain ⟨r1, er1, h⟩ := obind h
      refine call_R (va_runV (As := [.int a1]) (rest := [.long (g_paved μ), .ref (G 0)]) ⟨hx, hb, hml, hown, hts⟩ (c_X1_tripleCells l z0 D t G μ a1 _ er1) (kV hts qw640 qw642 qs21 qw8 qw643 ok_X1_tripleCells ⟨Nat.le_of_ble_eq_true rfl, Nat.le_of_ble_eq_true rfl⟩) ⟨PR.blind, va_recv hK hP (ci := 2) (q0 := 0) rfl rfl, fun U hU hW => ⟨rfl, by rw [hU]; exact (hC.at hS hZ).warm hW, by rw [hU]; exact hP⟩⟩ rfl rfl hl.1 rfl (lv_room (Nat.le_of_ble_eq_true rfl)) dX1_takeTriple_20 ⟨Nat.le_of_ble_eq_true rfl, Nat.le_of_ble_eq_true rfl⟩) ?_
      refine lv_ldc2 (v := (-1)) hx hb hown (hts _ qw248) dX1_takeTriple_23 ?_
      refine lv_lxor hx hb dX1_takeTriple_26 ?_
      refine lv_land hx hb dX1_takeTriple_27 ?_
      obtain ⟨x2, ex2, h⟩ := jlet_some h
      refine topJ ex2 ?_
      refine va_put (D := D) (ci := 2) (v := .long x2) (ty := .long) hx hb hts inX1 tyX1 tyX1_ok nmX1 hown hK hP hD hS 0 rfl rfl 4 (by decide) (hts _ qw127) (fun _ h9 => h9) rfl (by decide +kernel) rfl rfl (Nat.le_of_ble_eq_true rfl) dX1_takeTriple_28 (fun H locs hP hD hS => ?_)
      have hP : va_P D vwCl (GW G t (g_paved' μ x2)) H := hP
      have hD : va_D (OA (GL G) s.heap.size) (GW G t (g_paved' μ x2)) := hD
      have hSz : s.heap.size ≤ H.size := hS.1
      refine lv_aload_n hx hb dX1_takeTriple_31 rfl (lv_at hl 0 rfl) ?_
      refine lv_dup hx hb dX1_takeTriple_32 rfl ?_
      refine va_get hx hb hts inX1 hown hK hP 0 rfl rfl 5 (by decide) (hts _ qw129) (fun _ h9 => h9) rfl dX1_takeTriple_33 ?_
      refine lv_iconst (v := (1)) hx hb dX1_takeTriple_36 (by decide) ?_
      refine lv_isub hx hb dX1_takeTriple_37 ?_
      obtain ⟨x3, ex3, h⟩ := jlet_some h
      refine topI ex3 ?_
      refine va_put (D := D) (ci := 2) (v := .int x3) (ty := .int) hx hb hts inX1 tyX1 tyX1_ok nmX1 hown hK hP hD hS 0 rfl rfl 5 (by decide) (hts _ qw129) (fun _ h9 => h9) rfl (by decide +kernel) rfl rfl (Nat.le_of_ble_eq_true rfl) dX1_takeTriple_38 (fun H locs hP hD hS => ?_)
      have hP : va_P D vwCl (GW G t (g_tc' (g_paved' μ x2) x3)) H := hP
      have hD : va_D (OA (GL G) s.heap.size) (GW G t (g_tc' (g_paved' μ x2) x3)) := hD
      have hSz : s.heap.size ≤ H.size := hS.1
      refine lv_iload_n hx hb dX1_takeTriple_41 rfl (lv_at hl 1 rfl) ?_
      refine lv_istore_n (lv' := [(2, .int a1), (0, .ref (G 0)), (1, .int a1)]) hx hb dX1_takeTriple_42 rfl hl (by decide) rfl (fun ls hl => ?_)
      obtain ⟨o10, eo10, h⟩ := obind h
      have hL43 : ∀ (n : Nat) (y2_43 : Int32) (names_43 : Nat → Int32) (o10 : (Nat → Int32)), f_X1_takeTriple_L43 x3 n y2_43 names_43 = some o10 → (∀ (ls : Array Slot) (H : Heap) (locs : List Loc), lv_has ls 3 [] → va_P D vwCl (GW G t (g_names' (g_tc' (g_paved' μ x2) x3) o10)) H → va_D (OA (GL G) s.heap.size) (GW G t (g_names' (g_tc' (g_paved' μ x2) x3) o10)) → va_S (OA (GL G) s.heap.size) s.heap H locs → W p l e (headSpec (ws_ yX1_takeTriple cX1_takeTriple 3 none) rm_X1_takeTriple).room s m ([.ref (G 0), .int a1] : List Value).toArray below meth c H locs 0 0 (MQ below (QM none D (GW G t (g_names' (g_tc' (g_paved' μ res.1) res.2.1) res.2.2)) (GL G) s.heap.size) ([.ref (G 0), .int a1] : List Value).toArray s 0 0 (OA (GL G) s.heap.size)) (F0 m 82 ls [])) → ∀ (ls : Array Slot) (H : Heap) (locs : List Loc), lv_has ls 3 [(0, .ref (G 0)), (2, .int y2_43)] → va_P D vwCl (GW G t (g_names' (g_tc' (g_paved' μ x2) x3) names_43)) H → va_D (OA (GL G) s.heap.size) (GW G t (g_names' (g_tc' (g_paved' μ x2) x3) names_43)) → va_S (OA (GL G) s.heap.size) s.heap H locs → W p l e (headSpec (ws_ yX1_takeTriple cX1_takeTriple 3 none) rm_X1_takeTriple).room s m ([.ref (G 0), .int a1] : List Value).toArray below meth c H locs 0 0 (MQ below (QM none D (GW G t (g_names' (g_tc' (g_paved' μ res.1) res.2.1) res.2.2)) (GL G) s.heap.size) ([.ref (G 0), .int a1] : List Value).toArray s 0 0 (OA (GL G) s.heap.size)) (F0 m 43 ls []) := by
        intro n
        induction n with
        | zero => intro y2_43 names_43 o10 h; exact absurd h (fun z => by cases z)
        | succ n ih =>
          intro y2_43 names_43 o10 h hK43 ls H locs hl hP hD hS
          replace h : f_X1_takeTriple_L43_b x3 (f_X1_takeTriple_L43 x3 n) y2_43 names_43 = some o10 := h
          unfold f_X1_takeTriple_L43_b at h
          have hSz : s.heap.size ≤ H.size := hS.1
          refine lv_iload_n hx hb dX1_takeTriple_43 rfl (lv_at hl 1 rfl) ?_
          refine lv_aload_n hx hb dX1_takeTriple_44 rfl (lv_at hl 0 rfl) ?_
          refine va_get hx hb hts inX1 hown hK hP 0 rfl rfl 5 (by decide) (hts _ qw129) (fun _ h9 => h9) rfl dX1_takeTriple_45 ?_
          refine lv_icmp_ge (tgt := 82) hx hb dX1_takeTriple_48 (by decide) (fun hc => ?_) (fun hc => ?_)
          · have h := iteT hc h
            obtain rfl := Option.some.inj h
            exact hK43 ls H locs (lv_sub hl [] rfl) hP hD hS
          · have h := iteF hc h
            refine lv_iload_n hx hb dX1_takeTriple_51 rfl (lv_at hl 1 rfl) ?_
            refine lv_iconst (v := (1)) hx hb dX1_takeTriple_52 (by decide) ?_
            refine lv_iadd hx hb dX1_takeTriple_53 ?_
            refine lv_aload_n hx hb dX1_takeTriple_54 rfl (lv_at hl 0 rfl) ?_
            refine va_get hx hb hts inX1 hown hK hP 0 rfl rfl 8 (by decide) (hts _ qw135) (fun _ h9 => h9) rfl dX1_takeTriple_55 ?_
            refine va_alen hx hb hK hP 1 0 rfl rfl (v := 21) rfl dX1_takeTriple_58 ?_
            refine lv_icmp_ge (tgt := 82) hx hb dX1_takeTriple_59 (by decide) (fun hc => ?_) (fun hc => ?_)
            · have h := iteT hc h
              obtain rfl := Option.some.inj h
              exact hK43 ls H locs (lv_sub hl [] rfl) hP hD hS
            · have h := iteF hc h
              refine lv_aload_n hx hb dX1_takeTriple_62 rfl (lv_at hl 0 rfl) ?_
              refine va_get hx hb hts inX1 hown hK hP 0 rfl rfl 8 (by decide) (hts _ qw135) (fun _ h9 => h9) rfl dX1_takeTriple_63 ?_
              refine lv_iload_n hx hb dX1_takeTriple_66 rfl (lv_at hl 1 rfl) ?_
              refine lv_aload_n hx hb dX1_takeTriple_67 rfl (lv_at hl 0 rfl) ?_
              refine va_get hx hb hts inX1 hown hK hP 0 rfl rfl 8 (by decide) (hts _ qw135) (fun _ h9 => h9) rfl dX1_takeTriple_68 ?_
              refine lv_iload_n hx hb dX1_takeTriple_71 rfl (lv_at hl 1 rfl) ?_
              refine lv_iconst (v := (1)) hx hb dX1_takeTriple_72 (by decide) ?_
              refine lv_iadd hx hb dX1_takeTriple_73 ?_
              obtain ⟨v11, ev11, h⟩ := obind h
              refine k_iald hx hb hK hP 1 rfl ev11 dX1_takeTriple_74 ?_
              obtain ⟨f12, ef12, h⟩ := obind h
              refine k_iast (ws' := (GW G t (g_names' (g_tc' (g_paved' μ x2) x3) f12))) hx hb hK hP hD hS 1 rfl ef12 rfl dX1_takeTriple_75 (fun H locs hP hD hS => ?_)
              have hSz : s.heap.size ≤ H.size := hS.1
              obtain ⟨x13, ex13, h⟩ := jlet_some h
              refine lv_iinc (v := x13) (lv' := [(2, .int x13), (0, .ref (G 0))]) hx hb dX1_takeTriple_76 hl (k := 1) rfl (by rw [ex13]; rfl) (by decide) rfl (fun ls hl => ?_)
              refine lv_goto (tgt := 43) hx hb dX1_takeTriple_79 (by decide) ?_
              exact ih _ _ _ h hK43 ls H locs (lv_sub hl [1, 0] rfl) hP hD hS
      refine hL43 _ _ _ _ eo10 (fun ls H locs hl hP hD hS => ?_) ls H locs (lv_sub hl [1, 0] rfl) hP hD hS
      have hSz : s.heap.size ≤ H.size := hS.1
      obtain rfl := Option.some.inj h
      exact W.vret hx hb hr (fun t ht hW => ⟨rfl, by rw [ht]; exact hP, hD, hS.F ht⟩) hS.2.2 dX1_takeTriple_82
    · have h := iteF hc h
      obtain rfl := Option.some.inj h
      exact W.vret hx hb hr (fun t ht hW => ⟨rfl, by rw [ht]; exact hP, hD, hS.F ht⟩) hS.2.2 dX1_takeTriple_12

abbrev rm_X1_hasFlipBlock : Room := { frames := 1, cells := 0, slots := 0, locals := 24 }
theorem ok_X1_hasFlipBlock : okY yX1_hasFlipBlock 3 := ⟨by decide +kernel, by decide +kernel, by decide +kernel⟩
set_option maxHeartbeats 4000000 in
set_option maxRecDepth 100000 in
theorem c_X1_hasFlipBlock (l : Launch) (z0 : Nat) (D : va_G) (t : Nat → ClassId) (G : Nat → Nat) (μ : GS) (a1 : Int32) (a2 : Int32) (a3 : Int32) (res : Int32) (h : f_X1_hasFlipBlock μ a1 a2 a3 = some res) : Met l yX1_hasFlipBlock (ws_ yX1_hasFlipBlock cX1_hasFlipBlock 4 (some .boolean)) rm_X1_hasFlipBlock (PR z0 D t [.ref (G 0), .int a1, .int a2, .int a3] (GW G t μ)) (QR (some (.int res))) 0 0 FN := by
  refine Met.ofW (cc := cX1_hasFlipBlock) (maxL := 4) (ret := (some .boolean)) (by decide) rfl ?_
  intro p e s m args below meth c s₁ Bo hml hv
  obtain ⟨rfl, hC, hP⟩ := hv
  have hx := Bo.exec
  have hb := Bo.bytes
  have hr := Bo.returns
  have hts : ∀ w ∈ LA, w.before _ s = true := fun w hw => atoms_spec (ws := ws_ yX1_hasFlipBlock cX1_hasFlipBlock 4 (some .boolean)) Bo.pre w (List.mem_cons_of_mem _ hw)
  have hown : s.vm.findClass RX1 = some m.cls := findClass_of_methodNamed Bo.named
  have hlocks := Bo.notSynchronized
  have hK := hC.1
  have hl := lv_entry ([.ref (G 0), .int a1, .int a2, .int a3]) (n := 4) (Nat.le_of_ble_eq_true rfl)
  rw [lg_entry_eq]
  generalize (lg_sl ([.ref (G 0), .int a1, .int a2, .int a3]) ++ List.replicate (4 - (lg_sl ([.ref (G 0), .int a1, .int a2, .int a3])).length) Slot.unset).toArray = ls at hl ⊢
  have hl : lv_has ls 4 [(0, .ref (G 0)), (1, .int a1), (2, .int a2), (3, .int a3)] := hl
  unfold f_X1_hasFlipBlock at h
  refine lv_aload_n hx hb dX1_hasFlipBlock_0 rfl (lv_at hl 0 rfl) ?_
  refine lv_iload_n hx hb dX1_hasFlipBlock_1 rfl (lv_at hl 1 rfl) ?_
  refine lv_iload_n hx hb dX1_hasFlipBlock_2 rfl (lv_at hl 2 rfl) ?_
  refine lv_iload_n hx hb dX1_hasFlipBlock_3 rfl (lv_at hl 3 rfl) ?_
  obtain ⟨o1, eo1, h⟩ := obind h
  have hJ12_o1 : ∀ ls : Array Slot, lv_has ls 4 [(3, .int a3)] → W p l e (headSpec (ws_ yX1_hasFlipBlock cX1_hasFlipBlock 4 (some .boolean)) rm_X1_hasFlipBlock).room s m ([.ref (G 0), .int a1, .int a2, .int a3] : List Value).toArray below meth c s.heap [] 0 0 (MQ below (QR (some (.int res))) ([.ref (G 0), .int a1, .int a2, .int a3] : List Value).toArray s 0 0 FN) (F0 m 12 ls [.int o1, .int a2, .int a1, .ref (G 0)]) := by
    intro ls hl
    refine lv_iload_n hx hb dX1_hasFlipBlock_12 rfl (lv_at hl 0 rfl) ?_
    obtain ⟨o2, eo2, h⟩ := obind h
    have hJ21_o2 : ∀ ls : Array Slot, lv_has ls 4 [] → W p l e (headSpec (ws_ yX1_hasFlipBlock cX1_hasFlipBlock 4 (some .boolean)) rm_X1_hasFlipBlock).room s m ([.ref (G 0), .int a1, .int a2, .int a3] : List Value).toArray below meth c s.heap [] 0 0 (MQ below (QR (some (.int res))) ([.ref (G 0), .int a1, .int a2, .int a3] : List Value).toArray s 0 0 FN) (F0 m 21 ls [.int o2, .int o1, .int a2, .int a1, .ref (G 0)]) := by
      intro ls hl
      obtain ⟨r3, er3, h⟩ := obind h
      refine call_R (va_runV (As := [.int a1, .int a2, .int o1, .int o2]) (rest := []) ⟨hx, hb, hml, hown, hts⟩ (c_X1_hasBlock l z0 D t G μ a1 a2 o1 o2 _ er3) (kV hts qw620 qw559 qw560 qw8 qw561 ok_X1_hasBlock ⟨Nat.le_of_ble_eq_true rfl, Nat.le_of_ble_eq_true rfl⟩) ⟨PR.blind, va_recv hK hP (ci := 2) (q0 := 0) rfl rfl, fun U hU hW => ⟨rfl, by rw [hU]; exact hC.warm hW, by rw [hU]; exact hP⟩⟩ rfl rfl hl.1 rfl (lv_room (Nat.le_of_ble_eq_true rfl)) dX1_hasFlipBlock_21 ⟨Nat.le_of_ble_eq_true rfl, Nat.le_of_ble_eq_true rfl⟩) ?_
      obtain ⟨z4, ez4, h⟩ := obind h
      refine topI (jz_some ez4).1 ?_
      obtain rfl := Option.some.inj h
      exact W.zret hx hb hr (jz_some ez4).2 (fun t ht hW => ⟨rfl, ht⟩) (fun q hq => absurd hq List.not_mem_nil) dX1_hasFlipBlock_24
    have h := eo2
    clear eo2
    refine lv_if_eq (tgt := 20) hx hb dX1_hasFlipBlock_13 (by decide) (fun hc => ?_) (fun hc => ?_)
    · have h := iteT hc h
      refine lv_iconst (v := (2)) hx hb dX1_hasFlipBlock_20 (by decide) ?_
      obtain rfl := Option.some.inj h
      exact hJ21_o2 ls (lv_sub hl [] rfl)
    · have h := iteF hc h
      refine lv_iconst (v := (3)) hx hb dX1_hasFlipBlock_16 (by decide) ?_
      refine lv_goto (tgt := 21) hx hb dX1_hasFlipBlock_17 (by decide) ?_
      obtain rfl := Option.some.inj h
      exact hJ21_o2 ls (lv_sub hl [] rfl)
  have h := eo1
  clear eo1
  refine lv_if_eq (tgt := 11) hx hb dX1_hasFlipBlock_4 (by decide) (fun hc => ?_) (fun hc => ?_)
  · have h := iteT hc h
    refine lv_iconst (v := (3)) hx hb dX1_hasFlipBlock_11 (by decide) ?_
    obtain rfl := Option.some.inj h
    exact hJ12_o1 ls (lv_sub hl [3] rfl)
  · have h := iteF hc h
    refine lv_iconst (v := (2)) hx hb dX1_hasFlipBlock_7 (by decide) ?_
    refine lv_goto (tgt := 12) hx hb dX1_hasFlipBlock_8 (by decide) ?_
    obtain rfl := Option.some.inj h
    exact hJ12_o1 ls (lv_sub hl [3] rfl)

abbrev rm_X1_lastFlipCell : Room := { frames := 2, cells := 0, slots := 0, locals := 61 }
theorem ok_X1_lastFlipCell : okY yX1_lastFlipCell 3 := ⟨by decide +kernel, by decide +kernel, by decide +kernel⟩
set_option maxHeartbeats 4000000 in
set_option maxRecDepth 100000 in
theorem c_X1_lastFlipCell (l : Launch) (z0 : Nat) (D : va_G) (t : Nat → ClassId) (a1 : Int32) (a2 : Int32) (a3 : Int32) (res : Int64) (h : f_X1_lastFlipCell a1 a2 a3 = some res) : Met l yX1_lastFlipCell (ws_ yX1_lastFlipCell cX1_lastFlipCell 3 (some .long)) rm_X1_lastFlipCell (PR z0 D t [.int a1, .int a2, .int a3] []) (QR (some (.long res))) 0 0 FN := by
  refine Met.ofW (cc := cX1_lastFlipCell) (maxL := 3) (ret := (some .long)) (by decide) rfl ?_
  intro p e s m args below meth c s₁ Bo hml hv
  obtain ⟨rfl, hC, hP⟩ := hv
  have hx := Bo.exec
  have hb := Bo.bytes
  have hr := Bo.returns
  have hts : ∀ w ∈ LA, w.before _ s = true := fun w hw => atoms_spec (ws := ws_ yX1_lastFlipCell cX1_lastFlipCell 3 (some .long)) Bo.pre w (List.mem_cons_of_mem _ hw)
  have hown : s.vm.findClass RX1 = some m.cls := findClass_of_methodNamed Bo.named
  have hlocks := Bo.notSynchronized
  have hK := hC.1
  have hl := lv_entry ([.int a1, .int a2, .int a3]) (n := 3) (Nat.le_of_ble_eq_true rfl)
  rw [lg_entry_eq]
  generalize (lg_sl ([.int a1, .int a2, .int a3]) ++ List.replicate (3 - (lg_sl ([.int a1, .int a2, .int a3])).length) Slot.unset).toArray = ls at hl ⊢
  have hl : lv_has ls 3 [(0, .int a1), (1, .int a2), (2, .int a3)] := hl
  unfold f_X1_lastFlipCell at h
  refine lv_iload_n hx hb dX1_lastFlipCell_0 rfl (lv_at hl 2 rfl) ?_
  refine lv_if_eq (tgt := 16) hx hb dX1_lastFlipCell_1 (by decide) (fun hc => ?_) (fun hc => ?_)
  · have h := iteT hc h
    refine lv_iload_n hx hb dX1_lastFlipCell_16 rfl (lv_at hl 0 rfl) ?_
    refine lv_iconst (v := (2)) hx hb dX1_lastFlipCell_17 (by decide) ?_
    refine lv_iadd hx hb dX1_lastFlipCell_18 ?_
    refine lv_iload_n hx hb dX1_lastFlipCell_19 rfl (lv_at hl 1 rfl) ?_
    refine lv_iconst (v := (1)) hx hb dX1_lastFlipCell_20 (by decide) ?_
    refine lv_iadd hx hb dX1_lastFlipCell_21 ?_
    obtain ⟨r1, er1, h⟩ := obind h
    refine call_R (va_runSN (As := [.int (a1 + (2 : Int32)), .int (a2 + (1 : Int32))]) (rest := []) ⟨hx, hb, hml, hown, hts⟩ (c_X4_cellAt l z0 D t (a1 + (2 : Int32)) (a2 + (1 : Int32)) _ er1) ⟨kN hts (hC.2.1 _ qw678) qw1 qw230 ok_X4_cellAt ⟨Nat.le_of_ble_eq_true rfl, Nat.le_of_ble_eq_true rfl⟩, hts _ qw229, trivial⟩ ⟨PR.blind, fun U hU hW => ⟨rfl, by rw [hU]; exact hC.warm hW, by rw [hU]; exact va_P_nil⟩⟩ rfl rfl hl.1 rfl (lv_room (Nat.le_of_ble_eq_true rfl)) dX1_lastFlipCell_22 ⟨Nat.le_of_ble_eq_true rfl, Nat.le_of_ble_eq_true rfl⟩) ?_
    obtain rfl := Option.some.inj h
    exact W.lret hx hb hr (fun t ht hW => ⟨rfl, ht⟩) (fun q hq => absurd hq List.not_mem_nil) dX1_lastFlipCell_25
  · have h := iteF hc h
    refine lv_iload_n hx hb dX1_lastFlipCell_4 rfl (lv_at hl 0 rfl) ?_
    refine lv_iconst (v := (1)) hx hb dX1_lastFlipCell_5 (by decide) ?_
    refine lv_iadd hx hb dX1_lastFlipCell_6 ?_
    refine lv_iload_n hx hb dX1_lastFlipCell_7 rfl (lv_at hl 1 rfl) ?_
    refine lv_iconst (v := (2)) hx hb dX1_lastFlipCell_8 (by decide) ?_
    refine lv_iadd hx hb dX1_lastFlipCell_9 ?_
    obtain ⟨r2, er2, h⟩ := obind h
    refine call_R (va_runSN (As := [.int (a1 + (1 : Int32)), .int (a2 + (2 : Int32))]) (rest := []) ⟨hx, hb, hml, hown, hts⟩ (c_X4_cellAt l z0 D t (a1 + (1 : Int32)) (a2 + (2 : Int32)) _ er2) ⟨kN hts (hC.2.1 _ qw678) qw1 qw230 ok_X4_cellAt ⟨Nat.le_of_ble_eq_true rfl, Nat.le_of_ble_eq_true rfl⟩, hts _ qw229, trivial⟩ ⟨PR.blind, fun U hU hW => ⟨rfl, by rw [hU]; exact hC.warm hW, by rw [hU]; exact va_P_nil⟩⟩ rfl rfl hl.1 rfl (lv_room (Nat.le_of_ble_eq_true rfl)) dX1_lastFlipCell_10 ⟨Nat.le_of_ble_eq_true rfl, Nat.le_of_ble_eq_true rfl⟩) ?_
    refine lv_goto (tgt := 25) hx hb dX1_lastFlipCell_13 (by decide) ?_
    obtain rfl := Option.some.inj h
    exact W.lret hx hb hr (fun t ht hW => ⟨rfl, ht⟩) (fun q hq => absurd hq List.not_mem_nil) dX1_lastFlipCell_25
