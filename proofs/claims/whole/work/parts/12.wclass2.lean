abbrev rm_X2_countTurns : Room := { frames := 1, cells := 0, slots := 0, locals := 22 }
theorem ok_X2_countTurns : okY yX2_countTurns 2 := ⟨by decide +kernel, by decide +kernel, by decide +kernel⟩
set_option maxHeartbeats 4000000 in
set_option maxRecDepth 100000 in
theorem c_X2_countTurns (l : Launch) (z0 : Nat) (D : va_G) (t : Nat → ClassId) (A : Nat → Nat) (u1 : Nat) (u2 : Nat) (n0 : Nat) (μ : PNS) (a1 : Int32) (res : Int32) (h : f_X2_countTurns μ a1 = some res) : Met l yX2_countTurns (ws_ yX2_countTurns cX2_countTurns 5 (some .int)) rm_X2_countTurns (PR z0 D t [.ref (A 0), .int a1, .ref n0] (PNW A u1 u2 n0 t μ)) (QR (some (.int res))) 0 0 FN := by
  refine Met.ofW (cc := cX2_countTurns) (maxL := 5) (ret := (some .int)) (by decide) rfl ?_
  intro p e s m args below meth c s₁ Bo hml hv
  obtain ⟨rfl, hC, hP⟩ := hv
  have hx := Bo.exec
  have hb := Bo.bytes
  have hr := Bo.returns
  have hts : ∀ w ∈ LA, w.before _ s = true := fun w hw => atoms_spec (ws := ws_ yX2_countTurns cX2_countTurns 5 (some .int)) Bo.pre w (List.mem_cons_of_mem _ hw)
  have hown : s.vm.findClass RX2 = some m.cls := findClass_of_methodNamed Bo.named
  have hlocks := Bo.notSynchronized
  have hK := hC.1
  have hl := lv_entry ([.ref (A 0), .int a1, .ref n0]) (n := 5) (Nat.le_of_ble_eq_true rfl)
  rw [lg_entry_eq]
  generalize (lg_sl ([.ref (A 0), .int a1, .ref n0]) ++ List.replicate (5 - (lg_sl ([.ref (A 0), .int a1, .ref n0])).length) Slot.unset).toArray = ls at hl ⊢
  have hl : lv_has ls 5 [(0, .ref (A 0)), (1, .int a1), (2, .ref n0)] := hl
  unfold f_X2_countTurns at h
  refine lv_iconst (v := (0)) hx hb dX2_countTurns_0 (by decide) ?_
  refine lv_istore_n (lv' := [(3, .int (0 : Int32)), (0, .ref (A 0)), (1, .int a1), (2, .ref n0)]) hx hb dX2_countTurns_1 rfl hl (by decide) rfl (fun ls hl => ?_)
  refine lv_iconst (v := (0)) hx hb dX2_countTurns_2 (by decide) ?_
  refine lv_istore (lv' := [(4, .int (0 : Int32)), (3, .int (0 : Int32)), (0, .ref (A 0)), (1, .int a1), (2, .ref n0)]) hx hb dX2_countTurns_3 hl (by decide) rfl (fun ls hl => ?_)
  obtain ⟨o19, eo19, h⟩ := obind h
  have hL5 : ∀ (n : Nat) (y3_5 : Int32) (y4_5 : Int32) (o19 : Int32), f_X2_countTurns_L5 a1 μ n y3_5 y4_5 = some o19 → (∀ (ls : Array Slot), lv_has ls 5 [(3, .int o19)] → W p l e (headSpec (ws_ yX2_countTurns cX2_countTurns 5 (some .int)) rm_X2_countTurns).room s m ([.ref (A 0), .int a1, .ref n0] : List Value).toArray below meth c s.heap [] 0 0 (MQ below (QR (some (.int res))) ([.ref (A 0), .int a1, .ref n0] : List Value).toArray s 0 0 FN) (F0 m 39 ls [])) → ∀ (ls : Array Slot), lv_has ls 5 [(0, .ref (A 0)), (1, .int a1), (2, .ref n0), (3, .int y3_5), (4, .int y4_5)] → W p l e (headSpec (ws_ yX2_countTurns cX2_countTurns 5 (some .int)) rm_X2_countTurns).room s m ([.ref (A 0), .int a1, .ref n0] : List Value).toArray below meth c s.heap [] 0 0 (MQ below (QR (some (.int res))) ([.ref (A 0), .int a1, .ref n0] : List Value).toArray s 0 0 FN) (F0 m 5 ls []) := by
    intro n
    induction n with
    | zero => intro y3_5 y4_5 o19 h; exact absurd h (fun z => by cases z)
    | succ n ih =>
      intro y3_5 y4_5 o19 h hK5 ls hl
      replace h : f_X2_countTurns_L5_b a1 μ (f_X2_countTurns_L5 a1 μ n) y3_5 y4_5 = some o19 := h
      unfold f_X2_countTurns_L5_b at h
      refine lv_iload hx hb dX2_countTurns_5 (lv_at hl 4 rfl) ?_
      refine lv_iconst (v := (4)) hx hb dX2_countTurns_7 (by decide) ?_
      refine lv_icmp_ge (tgt := 39) hx hb dX2_countTurns_8 (by decide) (fun hc => ?_) (fun hc => ?_)
      · have h := iteT hc h
        obtain rfl := Option.some.inj h
        exact hK5 ls (lv_sub hl [3] rfl)
      · have h := iteF hc h
        refine lv_aload_n hx hb dX2_countTurns_11 rfl (lv_at hl 0 rfl) ?_
        refine lv_iload hx hb dX2_countTurns_12 (lv_at hl 4 rfl) ?_
        refine lv_iload_n hx hb dX2_countTurns_14 rfl (lv_at hl 1 rfl) ?_
        obtain ⟨r20, er20, h⟩ := obind h
        refine call_R (va_runV (As := [.int y4_5, .int a1]) (rest := []) ⟨hx, hb, hml, hown, hts⟩ (c_X2_isOpen l z0 D t A u1 u2 (pn_takes μ) y4_5 a1 _ er20) (kV hts qw288 qw290 qs6 qw6 qw291 ok_X2_isOpen ⟨Nat.le_of_ble_eq_true rfl, Nat.le_of_ble_eq_true rfl⟩) ⟨PR.blind, va_recv hK (sub_PN_P (μ := μ) hP) (ci := 3) (q0 := 0) rfl rfl, fun U hU hW => ⟨rfl, by rw [hU]; exact hC.warm hW, by rw [hU]; exact (sub_PN_P (μ := μ) hP)⟩⟩ rfl rfl hl.1 rfl (lv_room (Nat.le_of_ble_eq_true rfl)) dX2_countTurns_15 ⟨Nat.le_of_ble_eq_true rfl, Nat.le_of_ble_eq_true rfl⟩) ?_
        obtain ⟨o24, eo24, h⟩ := obind h
        have hJ33_o24 : ∀ ls : Array Slot, lv_has ls 5 [(0, .ref (A 0)), (1, .int a1), (2, .ref n0), (3, .int o24), (4, .int y4_5)] → W p l e (headSpec (ws_ yX2_countTurns cX2_countTurns 5 (some .int)) rm_X2_countTurns).room s m ([.ref (A 0), .int a1, .ref n0] : List Value).toArray below meth c s.heap [] 0 0 (MQ below (QR (some (.int res))) ([.ref (A 0), .int a1, .ref n0] : List Value).toArray s 0 0 FN) (F0 m 33 ls []) := by
          intro ls hl
          obtain ⟨x28, ex28, h⟩ := jlet_some h
          refine lv_iinc (v := x28) (lv' := [(4, .int x28), (0, .ref (A 0)), (1, .int a1), (2, .ref n0), (3, .int o24)]) hx hb dX2_countTurns_33 hl (k := 4) rfl (by rw [ex28]; rfl) (by decide) rfl (fun ls hl => ?_)
          refine lv_goto (tgt := 5) hx hb dX2_countTurns_36 (by decide) ?_
          exact ih _ _ _ h hK5 ls (lv_sub hl [1, 2, 3, 4, 0] rfl)
        have h := eo24
        clear eo24
        refine lv_if_eq (tgt := 33) hx hb dX2_countTurns_18 (by decide) (fun hc => ?_) (fun hc => ?_)
        · have h := iteT hc h
          obtain rfl := Option.some.inj h
          exact hJ33_o24 ls (lv_sub hl [0, 1, 2, 3, 4] rfl)
        · have h := iteF hc h
          refine lv_iload_n hx hb dX2_countTurns_21 rfl (lv_at hl 3 rfl) ?_
          refine lv_aload_n hx hb dX2_countTurns_22 rfl (lv_at hl 2 rfl) ?_
          refine lv_aload_n hx hb dX2_countTurns_23 rfl (lv_at hl 0 rfl) ?_
          refine lv_iload hx hb dX2_countTurns_24 (lv_at hl 4 rfl) ?_
          refine lv_iload_n hx hb dX2_countTurns_26 rfl (lv_at hl 1 rfl) ?_
          obtain ⟨r25, er25, h⟩ := obind h
          refine call_R (va_runV (As := [.int y4_5, .int a1]) (rest := [.ref n0, .int y3_5]) ⟨hx, hb, hml, hown, hts⟩ (c_X2_windowAfter l z0 D t A u1 u2 (pn_takes μ) y4_5 a1 _ er25) (kV hts qw292 qw294 qs7 qw6 qw295 ok_X2_windowAfter ⟨Nat.le_of_ble_eq_true rfl, Nat.le_of_ble_eq_true rfl⟩) ⟨PR.blind, va_recv hK (sub_PN_P (μ := μ) hP) (ci := 3) (q0 := 0) rfl rfl, fun U hU hW => ⟨rfl, by rw [hU]; exact hC.warm hW, by rw [hU]; exact (sub_PN_P (μ := μ) hP)⟩⟩ rfl rfl hl.1 rfl (lv_room (Nat.le_of_ble_eq_true rfl)) dX2_countTurns_27 ⟨Nat.le_of_ble_eq_true rfl, Nat.le_of_ble_eq_true rfl⟩) ?_
          obtain ⟨v26, ev26, h⟩ := obind h
          refine k_iald hx hb hK hP 2 rfl ev26 dX2_countTurns_30 ?_
          refine lv_iadd hx hb dX2_countTurns_31 ?_
          obtain ⟨x27, ex27, h⟩ := jlet_some h
          refine topI ex27 ?_
          refine lv_istore_n (lv' := [(3, .int x27), (0, .ref (A 0)), (1, .int a1), (2, .ref n0), (4, .int y4_5)]) hx hb dX2_countTurns_32 rfl hl (by decide) rfl (fun ls hl => ?_)
          obtain rfl := Option.some.inj h
          exact hJ33_o24 ls (lv_sub hl [1, 2, 3, 0, 4] rfl)
  refine hL5 _ _ _ _ eo19 (fun ls hl => ?_) ls (lv_sub hl [2, 3, 4, 1, 0] rfl)
  refine lv_iload_n hx hb dX2_countTurns_39 rfl (lv_at hl 0 rfl) ?_
  obtain rfl := Option.some.inj h
  exact W.iret hx hb hr (fun t ht hW => ⟨rfl, ht⟩) (fun q hq => absurd hq List.not_mem_nil) dX2_countTurns_40

abbrev rm_X2_countPlace : Room := { frames := 2, cells := 0, slots := 0, locals := 46 }
theorem ok_X2_countPlace : okY yX2_countPlace 3 := ⟨by decide +kernel, by decide +kernel, by decide +kernel⟩
set_option maxHeartbeats 4000000 in
set_option maxRecDepth 100000 in
theorem c_X2_countPlace (l : Launch) (z0 : Nat) (D : va_G) (t : Nat → ClassId) (A : Nat → Nat) (u1 : Nat) (u2 : Nat) (h0 : Nat) (n0 : Nat) (μ : PHS) (a1 : Int32) (res : (Nat → Int32)) (sz : Nat) (h : f_X2_countPlace μ a1 = some res) : Met l yX2_countPlace (ws_ yX2_countPlace cX2_countPlace 5 none) rm_X2_countPlace (PM z0 D t [.ref (A 0), .int a1, .ref h0, .ref n0] (PHW A u1 u2 h0 n0 t μ) (PHL A u1 u2 h0 n0) sz) (QM none D (PHW A u1 u2 h0 n0 t (ph_hr' μ res)) (PHL A u1 u2 h0 n0) sz) 0 0 (OA (PHL A u1 u2 h0 n0) sz) := by
  refine Met.ofW (cc := cX2_countPlace) (maxL := 5) (ret := none) (by decide) rfl ?_
  intro p e s m args below meth c s₁ Bo hml hv
  obtain ⟨rfl, hC, hsz, hP, hD, hZ⟩ := hv
  have hx := Bo.exec
  have hb := Bo.bytes
  have hr := Bo.returns
  have hts : ∀ w ∈ LA, w.before _ s = true := fun w hw => atoms_spec (ws := ws_ yX2_countPlace cX2_countPlace 5 none) Bo.pre w (List.mem_cons_of_mem _ hw)
  have hown : s.vm.findClass RX2 = some m.cls := findClass_of_methodNamed Bo.named
  have hlocks := Bo.notSynchronized
  have hK := hC.1
  subst hsz
  have hl := lv_entry ([.ref (A 0), .int a1, .ref h0, .ref n0]) (n := 5) (Nat.le_of_ble_eq_true rfl)
  rw [lg_entry_eq]
  generalize (lg_sl ([.ref (A 0), .int a1, .ref h0, .ref n0]) ++ List.replicate (5 - (lg_sl ([.ref (A 0), .int a1, .ref h0, .ref n0])).length) Slot.unset).toArray = ls at hl ⊢
  have hl : lv_has ls 5 [(0, .ref (A 0)), (1, .int a1), (2, .ref h0), (3, .ref n0)] := hl
  suffices K9 : ∀ (H : Heap) (locs : List Loc), va_P D vwCl (PHW A u1 u2 h0 n0 t μ) H → va_S (OA (PHL A u1 u2 h0 n0) s.heap.size) s.heap H locs → W p l e (headSpec (ws_ yX2_countPlace cX2_countPlace 5 none) rm_X2_countPlace).room s m ([.ref (A 0), .int a1, .ref h0, .ref n0] : List Value).toArray below meth c H locs 0 0 (MQ below (QM none D (PHW A u1 u2 h0 n0 t (ph_hr' μ res)) (PHL A u1 u2 h0 n0) s.heap.size) ([.ref (A 0), .int a1, .ref h0, .ref n0] : List Value).toArray s 0 0 (OA (PHL A u1 u2 h0 n0) s.heap.size)) (F0 m 0 ls []) from K9 s.heap [] hP va_S.rf
  intro H locs hP hS
  have hSz : s.heap.size ≤ H.size := hS.1
  unfold f_X2_countPlace at h
  refine lv_iconst (v := (0)) hx hb dX2_countPlace_0 (by decide) ?_
  refine lv_istore (lv' := [(4, .int (0 : Int32)), (0, .ref (A 0)), (1, .int a1), (2, .ref h0), (3, .ref n0)]) hx hb dX2_countPlace_1 hl (by decide) rfl (fun ls hl => ?_)
  obtain ⟨o29, eo29, h⟩ := obind h
  have hL3 : ∀ (n : Nat) (y4_3 : Int32) (hr_3 : Nat → Int32) (o29 : (Nat → Int32)), f_X2_countPlace_L3 a1 μ n y4_3 hr_3 = some o29 → (∀ (ls : Array Slot) (H : Heap) (locs : List Loc), lv_has ls 5 [] → va_P D vwCl (PHW A u1 u2 h0 n0 t (ph_hr' μ o29)) H → va_D (OA (PHL A u1 u2 h0 n0) s.heap.size) (PHW A u1 u2 h0 n0 t (ph_hr' μ o29)) → va_S (OA (PHL A u1 u2 h0 n0) s.heap.size) s.heap H locs → W p l e (headSpec (ws_ yX2_countPlace cX2_countPlace 5 none) rm_X2_countPlace).room s m ([.ref (A 0), .int a1, .ref h0, .ref n0] : List Value).toArray below meth c H locs 0 0 (MQ below (QM none D (PHW A u1 u2 h0 n0 t (ph_hr' μ res)) (PHL A u1 u2 h0 n0) s.heap.size) ([.ref (A 0), .int a1, .ref h0, .ref n0] : List Value).toArray s 0 0 (OA (PHL A u1 u2 h0 n0) s.heap.size)) (F0 m 52 ls [])) → ∀ (ls : Array Slot) (H : Heap) (locs : List Loc), lv_has ls 5 [(0, .ref (A 0)), (1, .int a1), (2, .ref h0), (3, .ref n0), (4, .int y4_3)] → va_P D vwCl (PHW A u1 u2 h0 n0 t (ph_hr' μ hr_3)) H → va_D (OA (PHL A u1 u2 h0 n0) s.heap.size) (PHW A u1 u2 h0 n0 t (ph_hr' μ hr_3)) → va_S (OA (PHL A u1 u2 h0 n0) s.heap.size) s.heap H locs → W p l e (headSpec (ws_ yX2_countPlace cX2_countPlace 5 none) rm_X2_countPlace).room s m ([.ref (A 0), .int a1, .ref h0, .ref n0] : List Value).toArray below meth c H locs 0 0 (MQ below (QM none D (PHW A u1 u2 h0 n0 t (ph_hr' μ res)) (PHL A u1 u2 h0 n0) s.heap.size) ([.ref (A 0), .int a1, .ref h0, .ref n0] : List Value).toArray s 0 0 (OA (PHL A u1 u2 h0 n0) s.heap.size)) (F0 m 3 ls []) := by
    intro n
    induction n with
    | zero => intro y4_3 hr_3 o29 h; exact absurd h (fun z => by cases z)
    | succ n ih =>
      intro y4_3 hr_3 o29 h hK3 ls H locs hl hP hD hS
      replace h : f_X2_countPlace_L3_b a1 μ (f_X2_countPlace_L3 a1 μ n) y4_3 hr_3 = some o29 := h
      unfold f_X2_countPlace_L3_b at h
      have hSz : s.heap.size ≤ H.size := hS.1
      refine lv_iload hx hb dX2_countPlace_3 (lv_at hl 4 rfl) ?_
      refine lv_sipush (v := (512)) hx hb dX2_countPlace_5 (by decide) ?_
      refine lv_icmp_ge (tgt := 52) hx hb dX2_countPlace_8 (by decide) (fun hc => ?_) (fun hc => ?_)
      · have h := iteT hc h
        obtain rfl := Option.some.inj h
        exact hK3 ls H locs (lv_sub hl [] rfl) hP hD hS
      · have h := iteF hc h
        refine lv_iload_n hx hb dX2_countPlace_11 rfl (lv_at hl 1 rfl) ?_
        obtain ⟨o36, eo36, h⟩ := obind h
        have hJ46_o36 : ∀ (ls : Array Slot) (H : Heap) (locs : List Loc), lv_has ls 5 [(0, .ref (A 0)), (1, .int a1), (2, .ref h0), (3, .ref n0), (4, .int y4_3)] → va_P D vwCl (PHW A u1 u2 h0 n0 t (ph_hr' μ o36)) H → va_D (OA (PHL A u1 u2 h0 n0) s.heap.size) (PHW A u1 u2 h0 n0 t (ph_hr' μ o36)) → va_S (OA (PHL A u1 u2 h0 n0) s.heap.size) s.heap H locs → W p l e (headSpec (ws_ yX2_countPlace cX2_countPlace 5 none) rm_X2_countPlace).room s m ([.ref (A 0), .int a1, .ref h0, .ref n0] : List Value).toArray below meth c H locs 0 0 (MQ below (QM none D (PHW A u1 u2 h0 n0 t (ph_hr' μ res)) (PHL A u1 u2 h0 n0) s.heap.size) ([.ref (A 0), .int a1, .ref h0, .ref n0] : List Value).toArray s 0 0 (OA (PHL A u1 u2 h0 n0) s.heap.size)) (F0 m 46 ls []) := by
          intro ls H locs hl hP hD hS
          have hSz : s.heap.size ≤ H.size := hS.1
          obtain ⟨x43, ex43, h⟩ := jlet_some h
          refine lv_iinc (v := x43) (lv' := [(4, .int x43), (0, .ref (A 0)), (1, .int a1), (2, .ref h0), (3, .ref n0)]) hx hb dX2_countPlace_46 hl (k := 4) rfl (by rw [ex43]; rfl) (by decide) rfl (fun ls hl => ?_)
          refine lv_goto (tgt := 3) hx hb dX2_countPlace_49 (by decide) ?_
          exact ih _ _ _ h hK3 ls H locs (lv_sub hl [1, 2, 3, 4, 0] rfl) hP hD hS
        have h := eo36
        clear eo36
        refine lv_if_eq (tgt := 36) hx hb dX2_countPlace_12 (by decide) (fun hc => ?_) (fun hc => ?_)
        · have h := iteT hc h
          refine lv_aload_n hx hb dX2_countPlace_36 rfl (lv_at hl 2 rfl) ?_
          refine lv_iload hx hb dX2_countPlace_37 (lv_at hl 4 rfl) ?_
          refine lv_aload_n hx hb dX2_countPlace_39 rfl (lv_at hl 3 rfl) ?_
          refine lv_iload hx hb dX2_countPlace_40 (lv_at hl 4 rfl) ?_
          refine lv_iconst (v := (1)) hx hb dX2_countPlace_42 (by decide) ?_
          refine lv_ishr hx hb dX2_countPlace_43 ?_
          obtain ⟨v37, ev37, h⟩ := obind h
          refine k_iald hx hb hK hP 3 rfl ev37 dX2_countPlace_44 ?_
          obtain ⟨f38, ef38, h⟩ := obind h
          refine k_iast (ws' := (PHW A u1 u2 h0 n0 t (ph_hr' μ f38))) hx hb hK hP hD hS 2 rfl ef38 rfl dX2_countPlace_45 (fun H locs hP hD hS => ?_)
          have hSz : s.heap.size ≤ H.size := hS.1
          obtain rfl := Option.some.inj h
          exact hJ46_o36 ls H locs (lv_sub hl [0, 1, 2, 3, 4] rfl) hP hD hS
        · have h := iteF hc h
          refine lv_iload hx hb dX2_countPlace_15 (lv_at hl 4 rfl) ?_
          refine lv_iconst (v := (1)) hx hb dX2_countPlace_17 (by decide) ?_
          refine lv_iand hx hb dX2_countPlace_18 ?_
          refine lv_if_ne (tgt := 36) hx hb dX2_countPlace_19 (by decide) (fun hc => ?_) (fun hc => ?_)
          · have h := iteF hc h
            refine lv_aload_n hx hb dX2_countPlace_36 rfl (lv_at hl 2 rfl) ?_
            refine lv_iload hx hb dX2_countPlace_37 (lv_at hl 4 rfl) ?_
            refine lv_aload_n hx hb dX2_countPlace_39 rfl (lv_at hl 3 rfl) ?_
            refine lv_iload hx hb dX2_countPlace_40 (lv_at hl 4 rfl) ?_
            refine lv_iconst (v := (1)) hx hb dX2_countPlace_42 (by decide) ?_
            refine lv_ishr hx hb dX2_countPlace_43 ?_
            obtain ⟨v39, ev39, h⟩ := obind h
            refine k_iald hx hb hK hP 3 rfl ev39 dX2_countPlace_44 ?_
            obtain ⟨f40, ef40, h⟩ := obind h
            refine k_iast (ws' := (PHW A u1 u2 h0 n0 t (ph_hr' μ f40))) hx hb hK hP hD hS 2 rfl ef40 rfl dX2_countPlace_45 (fun H locs hP hD hS => ?_)
            have hSz : s.heap.size ≤ H.size := hS.1
            obtain rfl := Option.some.inj h
            exact hJ46_o36 ls H locs (lv_sub hl [0, 1, 2, 3, 4] rfl) hP hD hS
          · have h := iteT hc h
            refine lv_aload_n hx hb dX2_countPlace_22 rfl (lv_at hl 2 rfl) ?_
            refine lv_iload hx hb dX2_countPlace_23 (lv_at hl 4 rfl) ?_
            refine lv_aload_n hx hb dX2_countPlace_25 rfl (lv_at hl 0 rfl) ?_
            refine lv_iload hx hb dX2_countPlace_26 (lv_at hl 4 rfl) ?_
            refine lv_aload_n hx hb dX2_countPlace_28 rfl (lv_at hl 3 rfl) ?_
            obtain ⟨r41, er41, h⟩ := obind h
            refine call_R (va_runV (As := [.int y4_3, .ref n0]) (rest := [.int y4_3, .ref h0]) ⟨hx, hb, hml, hown, hts⟩ (c_X2_countTurns l z0 D t A u1 u2 n0 ((ph_takes μ), (ph_nx μ)) y4_3 _ er41) (kV hts qw284 qw286 qs5 qw6 qw287 ok_X2_countTurns ⟨Nat.le_of_ble_eq_true rfl, Nat.le_of_ble_eq_true rfl⟩) ⟨PR.blind, va_recv hK (sub_PH_PN (μ := ph_hr' μ hr_3) hP) (ci := 3) (q0 := 0) rfl rfl, fun U hU hW => ⟨rfl, by rw [hU]; exact (hC.at hS hZ).warm hW, by rw [hU]; exact (sub_PH_PN (μ := ph_hr' μ hr_3) hP)⟩⟩ rfl rfl hl.1 rfl (lv_room (Nat.le_of_ble_eq_true rfl)) dX2_countPlace_29 ⟨Nat.le_of_ble_eq_true rfl, Nat.le_of_ble_eq_true rfl⟩) ?_
            obtain ⟨f42, ef42, h⟩ := obind h
            refine k_iast (ws' := (PHW A u1 u2 h0 n0 t (ph_hr' μ f42))) hx hb hK hP hD hS 2 rfl ef42 rfl dX2_countPlace_32 (fun H locs hP hD hS => ?_)
            have hSz : s.heap.size ≤ H.size := hS.1
            refine lv_goto (tgt := 46) hx hb dX2_countPlace_33 (by decide) ?_
            obtain rfl := Option.some.inj h
            exact hJ46_o36 ls H locs (lv_sub hl [0, 1, 2, 3, 4] rfl) hP hD hS
  refine hL3 _ _ _ _ eo29 (fun ls H locs hl hP hD hS => ?_) ls H locs (lv_sub hl [1, 2, 3, 4, 0] rfl) hP hD hS
  have hSz : s.heap.size ≤ H.size := hS.1
  obtain rfl := Option.some.inj h
  exact W.vret hx hb hr (fun t ht hW => ⟨rfl, by rw [ht]; exact hP, hD, hS.F ht⟩) hS.2.2 dX2_countPlace_52

abbrev rm_X2_countRest : Room := { frames := 3, cells := 0, slots := 0, locals := 83 }
theorem ok_X2_countRest : okY yX2_countRest 1 := ⟨by decide +kernel, by decide +kernel, by decide +kernel⟩
set_option maxHeartbeats 4000000 in
set_option maxRecDepth 100000 in
theorem c_X2_countRest (l : Launch) (z0 : Nat) (D : va_G) (t : Nat → ClassId) (A : Nat → Nat) (u1 : Nat) (u2 : Nat) (B : Nat → Nat) (μ : VS) (a1 : Int64) (res : (Nat → Nat → Int32) × (Nat → Int32)) (sz : Nat) (h : f_X2_countRest μ a1 = some res) : Met l yX2_countRest (ws_ yX2_countRest cX2_countRest 5 none) rm_X2_countRest (PM z0 D t [.ref (A 0), .long a1] (VW A u1 u2 B t μ) (VL A u1 u2 B) sz) (QM none D (VW A u1 u2 B t (v_takes' (v_rest' μ res.1) res.2)) (VL A u1 u2 B) sz) 0 0 (OA (VL A u1 u2 B) sz) := by
  refine Met.ofW (cc := cX2_countRest) (maxL := 5) (ret := none) (by decide) rfl ?_
  intro p e s m args below meth c s₁ Bo hml hv
  obtain ⟨rfl, hC, hsz, hP, hD, hZ⟩ := hv
  have hx := Bo.exec
  have hb := Bo.bytes
  have hr := Bo.returns
  have hts : ∀ w ∈ LA, w.before _ s = true := fun w hw => atoms_spec (ws := ws_ yX2_countRest cX2_countRest 5 none) Bo.pre w (List.mem_cons_of_mem _ hw)
  have hown : s.vm.findClass RX2 = some m.cls := findClass_of_methodNamed Bo.named
  have hlocks := Bo.notSynchronized
  have hK := hC.1
  subst hsz
  have hl := lv_entry ([.ref (A 0), .long a1]) (n := 5) (Nat.le_of_ble_eq_true rfl)
  rw [lg_entry_eq]
  generalize (lg_sl ([.ref (A 0), .long a1]) ++ List.replicate (5 - (lg_sl ([.ref (A 0), .long a1])).length) Slot.unset).toArray = ls at hl ⊢
  have hl : lv_has ls 5 [(0, .ref (A 0)), (1, .long a1)] := hl
  suffices K9 : ∀ (H : Heap) (locs : List Loc), va_P D vwCl (VW A u1 u2 B t μ) H → va_S (OA (VL A u1 u2 B) s.heap.size) s.heap H locs → W p l e (headSpec (ws_ yX2_countRest cX2_countRest 5 none) rm_X2_countRest).room s m ([.ref (A 0), .long a1] : List Value).toArray below meth c H locs 0 0 (MQ below (QM none D (VW A u1 u2 B t (v_takes' (v_rest' μ res.1) res.2)) (VL A u1 u2 B) s.heap.size) ([.ref (A 0), .long a1] : List Value).toArray s 0 0 (OA (VL A u1 u2 B) s.heap.size)) (F0 m 0 ls []) from K9 s.heap [] hP va_S.rf
  intro H locs hP hS
  have hSz : s.heap.size ≤ H.size := hS.1
  unfold f_X2_countRest at h
  refine lv_lload_n hx hb dX2_countRest_0 rfl (lv_at hl 1 rfl) ?_
  obtain ⟨r1, er1, h⟩ := obind h
  refine call_R (va_runS (As := [.long a1]) (rest := []) ⟨hx, hb, hml, hown, hts⟩ (c_X2_endOf l z0 D t a1 _ er1) (kS hts qw251 qw252 qw6 qw253 ok_X2_endOf ⟨Nat.le_of_ble_eq_true rfl, Nat.le_of_ble_eq_true rfl⟩) ⟨PR.blind, fun U hU hW => ⟨rfl, by rw [hU]; exact (hC.at hS hZ).warm hW, by rw [hU]; exact va_P_nil⟩⟩ rfl rfl hl.1 rfl (lv_room (Nat.le_of_ble_eq_true rfl)) dX2_countRest_1 ⟨Nat.le_of_ble_eq_true rfl, Nat.le_of_ble_eq_true rfl⟩) ?_
  refine lv_istore_n (lv' := [(3, .int r1), (0, .ref (A 0)), (1, .long a1)]) hx hb dX2_countRest_4 rfl hl (by decide) rfl (fun ls hl => ?_)
  refine lv_aload_n hx hb dX2_countRest_5 rfl (lv_at hl 1 rfl) ?_
  refine va_get hx hb hts inX2 hown hK hP 0 rfl rfl 0 (by decide) (hts _ qw85) (fun _ h9 => h9) rfl dX2_countRest_6 ?_
  refine lv_iload_n hx hb dX2_countRest_9 rfl (lv_at hl 0 rfl) ?_
  obtain ⟨k2, ek2, h⟩ := obind h
  refine k_aaldR hx hb hK hP 2 rfl ek2 dX2_countRest_10 ?_
  refine lv_iconst (v := (0)) hx hb dX2_countRest_11 (by decide) ?_
  obtain ⟨r3, er3, h⟩ := obind h
  refine call_M (va_runS (As := [.ref (B k2), .int (0 : Int32)]) (rest := []) ⟨hx, hb, hml, hown, hts⟩ (c_J7_fill_53178 l z0 D t (B k2) ((v_rest μ) k2) (0 : Int32) _ H.size er3) (kS hts qw261 qw262 qw18 qw263 ok_J7_fill_53178 ⟨Nat.le_of_ble_eq_true rfl, Nat.le_of_ble_eq_true rfl⟩) ⟨PM.blind, fun U hU hW => ⟨rfl, by rw [hU]; exact (hC.at hS hZ).warm hW, by rw [hU], by rw [hU]; exact (sub_V_Fr (μ := μ) (jix_lt ek2) hP), ⟨(subD_V_Fr (μ := μ) (jix_lt ek2) hD).1, fun _ _ h9 => Or.inl (in_map (L := (FL (B k2))) rfl h9)⟩, fun q hq => hZ q (OA.ofD (subD_V_Fr (μ := μ) (jix_lt ek2) hD) rfl hSz q hq)⟩⟩ rfl rfl hl.1 rfl (lv_room (Nat.le_of_ble_eq_true rfl)) dX2_countRest_12 ⟨Nat.le_of_ble_eq_true rfl, Nat.le_of_ble_eq_true rfl⟩) hS (OA.ofD (subD_V_Fr (μ := μ) (jix_lt ek2) hD) rfl hSz) (fun H locs hP1 hD1 hS _ hk1 => ?_)
  obtain ⟨hP, hD⟩ := back_V_Fr (μ := μ) (jix_lt ek2) hP hD hk1 hP1
  have hP : va_P D vwCl (VW A u1 u2 B t (v_rest' μ (va_up (v_rest μ) k2 r3))) H := hP
  have hD : va_D (OA (VL A u1 u2 B) s.heap.size) (VW A u1 u2 B t (v_rest' μ (va_up (v_rest μ) k2 r3))) := hD
  have hSz : s.heap.size ≤ H.size := hS.1
  refine lv_aload_n hx hb dX2_countRest_15 rfl (lv_at hl 1 rfl) ?_
  refine va_get hx hb hts inX2 hown hK hP 0 rfl rfl 0 (by decide) (hts _ qw85) (fun _ h9 => h9) rfl dX2_countRest_16 ?_
  refine lv_iload_n hx hb dX2_countRest_19 rfl (lv_at hl 0 rfl) ?_
  obtain ⟨k4, ek4, h⟩ := obind h
  refine k_aaldR hx hb hK hP 2 rfl ek4 dX2_countRest_20 ?_
  refine lv_iconst (v := (0)) hx hb dX2_countRest_21 (by decide) ?_
  refine lv_iconst (v := (1)) hx hb dX2_countRest_22 (by decide) ?_
  obtain ⟨f5, ef5, h⟩ := obind h
  refine k_iast (ws' := (VW A u1 u2 B t (v_rest' μ (va_up (va_up (v_rest μ) k2 r3) k4 f5)))) hx hb hK hP hD hS (5 + k4) (row_V (jix_lt ek4)) ef5 (rowset_V (jix_lt ek4)) dX2_countRest_23 (fun H locs hP hD hS => ?_)
  have hSz : s.heap.size ≤ H.size := hS.1
  refine lv_iload_n hx hb dX2_countRest_24 rfl (lv_at hl 0 rfl) ?_
  refine lv_iconst (v := (1)) hx hb dX2_countRest_25 (by decide) ?_
  refine lv_isub hx hb dX2_countRest_26 ?_
  obtain ⟨x6, ex6, h⟩ := jlet_some h
  refine topI ex6 ?_
  refine lv_istore (lv' := [(4, .int x6), (3, .int r1), (0, .ref (A 0)), (1, .long a1)]) hx hb dX2_countRest_27 hl (by decide) rfl (fun ls hl => ?_)
  obtain ⟨o21, eo21, h⟩ := obind h
  have hL29 : ∀ (n : Nat) (y4_29 : Int32) (rest_29 : Nat → Nat → Int32) (takes_29 : Nat → Int32) (o21 : (Nat → Nat → Int32) × (Nat → Int32)), f_X2_countRest_L29 a1 n y4_29 rest_29 takes_29 = some o21 → (∀ (ls : Array Slot) (H : Heap) (locs : List Loc), lv_has ls 5 [] → va_P D vwCl (VW A u1 u2 B t (v_takes' (v_rest' μ o21.1) o21.2)) H → va_D (OA (VL A u1 u2 B) s.heap.size) (VW A u1 u2 B t (v_takes' (v_rest' μ o21.1) o21.2)) → va_S (OA (VL A u1 u2 B) s.heap.size) s.heap H locs → W p l e (headSpec (ws_ yX2_countRest cX2_countRest 5 none) rm_X2_countRest).room s m ([.ref (A 0), .long a1] : List Value).toArray below meth c H locs 0 0 (MQ below (QM none D (VW A u1 u2 B t (v_takes' (v_rest' μ res.1) res.2)) (VL A u1 u2 B) s.heap.size) ([.ref (A 0), .long a1] : List Value).toArray s 0 0 (OA (VL A u1 u2 B) s.heap.size)) (F0 m 73 ls [])) → ∀ (ls : Array Slot) (H : Heap) (locs : List Loc), lv_has ls 5 [(0, .ref (A 0)), (1, .long a1), (4, .int y4_29)] → va_P D vwCl (VW A u1 u2 B t (v_takes' (v_rest' μ rest_29) takes_29)) H → va_D (OA (VL A u1 u2 B) s.heap.size) (VW A u1 u2 B t (v_takes' (v_rest' μ rest_29) takes_29)) → va_S (OA (VL A u1 u2 B) s.heap.size) s.heap H locs → W p l e (headSpec (ws_ yX2_countRest cX2_countRest 5 none) rm_X2_countRest).room s m ([.ref (A 0), .long a1] : List Value).toArray below meth c H locs 0 0 (MQ below (QM none D (VW A u1 u2 B t (v_takes' (v_rest' μ res.1) res.2)) (VL A u1 u2 B) s.heap.size) ([.ref (A 0), .long a1] : List Value).toArray s 0 0 (OA (VL A u1 u2 B) s.heap.size)) (F0 m 29 ls []) := by
    intro n
    induction n with
    | zero => intro y4_29 rest_29 takes_29 o21 h; exact absurd h (fun z => by cases z)
    | succ n ih =>
      intro y4_29 rest_29 takes_29 o21 h hK29 ls H locs hl hP hD hS
      replace h : f_X2_countRest_L29_b a1 (f_X2_countRest_L29 a1 n) y4_29 rest_29 takes_29 = some o21 := h
      unfold f_X2_countRest_L29_b at h
      have hSz : s.heap.size ≤ H.size := hS.1
      refine lv_iload hx hb dX2_countRest_29 (lv_at hl 2 rfl) ?_
      refine lv_if_lt (tgt := 73) hx hb dX2_countRest_31 (by decide) (fun hc => ?_) (fun hc => ?_)
      · have h := iteT hc h
        obtain rfl := Option.some.inj h
        exact hK29 ls H locs (lv_sub hl [] rfl) hP hD hS
      · have h := iteF hc h
        refine lv_aload_n hx hb dX2_countRest_34 rfl (lv_at hl 0 rfl) ?_
        refine lv_lload_n hx hb dX2_countRest_35 rfl (lv_at hl 1 rfl) ?_
        refine lv_iload hx hb dX2_countRest_36 (lv_at hl 2 rfl) ?_
        obtain ⟨r22, er22, h⟩ := obind h
        refine call_M (va_runV (As := [.long a1, .int y4_29]) (rest := []) ⟨hx, hb, hml, hown, hts⟩ (c_X2_findTakes l z0 D t A u1 u2 takes_29 a1 y4_29 _ H.size er22) (kV hts qw264 qw266 qs3 qw6 qw267 ok_X2_findTakes ⟨Nat.le_of_ble_eq_true rfl, Nat.le_of_ble_eq_true rfl⟩) ⟨PM.blind, va_recv hK (sub_V_P (μ := v_takes' (v_rest' μ rest_29) takes_29) hP) (ci := 3) (q0 := 0) rfl rfl, fun U hU hW => ⟨rfl, by rw [hU]; exact (hC.at hS hZ).warm hW, by rw [hU], by rw [hU]; exact (sub_V_P (μ := v_takes' (v_rest' μ rest_29) takes_29) hP), ⟨(subD_V_P (μ := v_takes' (v_rest' μ rest_29) takes_29) hD).1, fun _ _ h9 => Or.inl (in_map (L := (PL A u1 u2)) rfl h9)⟩, fun q hq => hZ q (OA.ofD (subD_V_P (μ := v_takes' (v_rest' μ rest_29) takes_29) hD) rfl hSz q hq)⟩⟩ rfl rfl hl.1 rfl (lv_room (Nat.le_of_ble_eq_true rfl)) dX2_countRest_38 ⟨Nat.le_of_ble_eq_true rfl, Nat.le_of_ble_eq_true rfl⟩) hS (OA.ofD (subD_V_P (μ := v_takes' (v_rest' μ rest_29) takes_29) hD) rfl hSz) (fun H locs hP1 hD1 hS _ hk1 => ?_)
        obtain ⟨hP, hD⟩ := back_V_P (μ := v_takes' (v_rest' μ rest_29) takes_29) hP hD hk1 hP1
        have hP : va_P D vwCl (VW A u1 u2 B t (v_takes' (v_rest' μ rest_29) r22)) H := hP
        have hD : va_D (OA (VL A u1 u2 B) s.heap.size) (VW A u1 u2 B t (v_takes' (v_rest' μ rest_29) r22)) := hD
        have hSz : s.heap.size ≤ H.size := hS.1
        refine lv_aload_n hx hb dX2_countRest_41 rfl (lv_at hl 0 rfl) ?_
        refine lv_lload_n hx hb dX2_countRest_42 rfl (lv_at hl 1 rfl) ?_
        refine lv_iload hx hb dX2_countRest_43 (lv_at hl 2 rfl) ?_
        obtain ⟨r23, er23, h⟩ := obind h
        refine call_R (va_runSN (As := [.long a1, .int y4_29]) (rest := [.ref (A 0)]) ⟨hx, hb, hml, hown, hts⟩ (c_X4_holds l z0 D t a1 y4_29 _ er23) ⟨kN hts (hC.2.1 _ qw277) qw1 qw279 ok_X4_holds ⟨Nat.le_of_ble_eq_true rfl, Nat.le_of_ble_eq_true rfl⟩, hts _ qw278, trivial⟩ ⟨PR.blind, fun U hU hW => ⟨rfl, by rw [hU]; exact (hC.at hS hZ).warm hW, by rw [hU]; exact va_P_nil⟩⟩ rfl rfl hl.1 rfl (lv_room (Nat.le_of_ble_eq_true rfl)) dX2_countRest_45 ⟨Nat.le_of_ble_eq_true rfl, Nat.le_of_ble_eq_true rfl⟩) ?_
        refine lv_aload_n hx hb dX2_countRest_48 rfl (lv_at hl 0 rfl) ?_
        refine va_get hx hb hts inX2 hown hK hP 0 rfl rfl 0 (by decide) (hts _ qw85) (fun _ h9 => h9) rfl dX2_countRest_49 ?_
        refine lv_iload hx hb dX2_countRest_52 (lv_at hl 2 rfl) ?_
        obtain ⟨k24, ek24, h⟩ := obind h
        refine k_aaldR hx hb hK hP 2 rfl ek24 dX2_countRest_54 ?_
        refine lv_aload_n hx hb dX2_countRest_55 rfl (lv_at hl 0 rfl) ?_
        refine va_get hx hb hts inX2 hown hK hP 0 rfl rfl 0 (by decide) (hts _ qw85) (fun _ h9 => h9) rfl dX2_countRest_56 ?_
        refine lv_iload hx hb dX2_countRest_59 (lv_at hl 2 rfl) ?_
        refine lv_iconst (v := (1)) hx hb dX2_countRest_61 (by decide) ?_
        refine lv_iadd hx hb dX2_countRest_62 ?_
        obtain ⟨k25, ek25, h⟩ := obind h
        refine k_aaldR hx hb hK hP 2 rfl ek25 dX2_countRest_63 ?_
        have hn27 : ¬ (k24 = k25) := fun z => absurd (iteT z h) (fun z => by cases z)
        have h := iteF hn27 h
        obtain ⟨r26, er26, h⟩ := obind h
        refine call_M (va_runV (As := [.int r23, .ref (B k24), .ref (B k25)]) (rest := []) ⟨hx, hb, hml, hown, hts⟩ (c_X2_countPlace l z0 D t A u1 u2 (B k24) (B k25) (r22, rest_29 k24, rest_29 k25) r23 _ H.size er26) (kV hts qw280 qw282 qs4 qw6 qw283 ok_X2_countPlace ⟨Nat.le_of_ble_eq_true rfl, Nat.le_of_ble_eq_true rfl⟩) ⟨PM.blind, va_recv hK (sub_V_PH (μ := v_takes' (v_rest' μ rest_29) r22) (jix_lt ek24) (jix_lt ek25) hP) (ci := 3) (q0 := 0) rfl rfl, fun U hU hW => ⟨rfl, by rw [hU]; exact (hC.at hS hZ).warm hW, by rw [hU], by rw [hU]; exact (sub_V_PH (μ := v_takes' (v_rest' μ rest_29) r22) (jix_lt ek24) (jix_lt ek25) hP), ⟨(subD_V_PH (μ := v_takes' (v_rest' μ rest_29) r22) (jix_lt ek24) (jix_lt ek25) hn27 hD).1, fun _ _ h9 => Or.inl (in_map (L := (PHL A u1 u2 (B k24) (B k25))) rfl h9)⟩, fun q hq => hZ q (OA.ofD (subD_V_PH (μ := v_takes' (v_rest' μ rest_29) r22) (jix_lt ek24) (jix_lt ek25) hn27 hD) rfl hSz q hq)⟩⟩ rfl rfl hl.1 rfl (lv_room (Nat.le_of_ble_eq_true rfl)) dX2_countRest_64 ⟨Nat.le_of_ble_eq_true rfl, Nat.le_of_ble_eq_true rfl⟩) hS (OA.ofD (subD_V_PH (μ := v_takes' (v_rest' μ rest_29) r22) (jix_lt ek24) (jix_lt ek25) hn27 hD) rfl hSz) (fun H locs hP1 hD1 hS _ hk1 => ?_)
        obtain ⟨hP, hD⟩ := back_V_PH (μ := v_takes' (v_rest' μ rest_29) r22) (jix_lt ek24) (jix_lt ek25) hn27 hP hD hk1 hP1
        have hP : va_P D vwCl (VW A u1 u2 B t (v_takes' (v_rest' μ (va_up rest_29 k24 r26)) r22)) H := hP
        have hD : va_D (OA (VL A u1 u2 B) s.heap.size) (VW A u1 u2 B t (v_takes' (v_rest' μ (va_up rest_29 k24 r26)) r22)) := hD
        have hSz : s.heap.size ≤ H.size := hS.1
        obtain ⟨x28, ex28, h⟩ := jlet_some h
        refine lv_iinc (v := x28) (lv' := [(4, .int x28), (0, .ref (A 0)), (1, .long a1)]) hx hb dX2_countRest_67 hl (k := 2) rfl (by rw [ex28]; rfl) (by decide) rfl (fun ls hl => ?_)
        refine lv_goto (tgt := 29) hx hb dX2_countRest_70 (by decide) ?_
        exact ih _ _ _ _ h hK29 ls H locs (lv_sub hl [1, 2, 0] rfl) hP hD hS
  refine hL29 _ _ _ _ _ eo21 (fun ls H locs hl hP hD hS => ?_) ls H locs (lv_sub hl [2, 3, 0] rfl) hP hD hS
  have hSz : s.heap.size ≤ H.size := hS.1
  obtain rfl := Option.some.inj h
  exact W.vret hx hb hr (fun t ht hW => ⟨rfl, by rw [ht]; exact hP, hD, hS.F ht⟩) hS.2.2 dX2_countRest_73

abbrev rm_X2_waysToPave : Room := { frames := 4, cells := 0, slots := 0, locals := 107 }
theorem ok_X2_waysToPave : okY yX2_waysToPave 1 := ⟨by decide +kernel, by decide +kernel, by decide +kernel⟩
set_option maxHeartbeats 4000000 in
set_option maxRecDepth 100000 in
theorem c_X2_waysToPave (l : Launch) (z0 : Nat) (D : va_G) (t : Nat → ClassId) (A : Nat → Nat) (u1 : Nat) (u2 : Nat) (B : Nat → Nat) (μ : VS) (a1 : Int64) (res : Int32 × (Nat → Nat → Int32) × (Nat → Int32)) (sz : Nat) (h : f_X2_waysToPave μ a1 = some res) : Met l yX2_waysToPave (ws_ yX2_waysToPave cX2_waysToPave 3 (some .int)) rm_X2_waysToPave (PM z0 D t [.ref (A 0), .long a1] (VW A u1 u2 B t μ) (VL A u1 u2 B) sz) (QM (some (.int res.1)) D (VW A u1 u2 B t (v_takes' (v_rest' μ res.2.1) res.2.2)) (VL A u1 u2 B) sz) 0 0 (OA (VL A u1 u2 B) sz) := by
  refine Met.ofW (cc := cX2_waysToPave) (maxL := 3) (ret := (some .int)) (by decide) rfl ?_
  intro p e s m args below meth c s₁ Bo hml hv
  obtain ⟨rfl, hC, hsz, hP, hD, hZ⟩ := hv
  have hx := Bo.exec
  have hb := Bo.bytes
  have hr := Bo.returns
  have hts : ∀ w ∈ LA, w.before _ s = true := fun w hw => atoms_spec (ws := ws_ yX2_waysToPave cX2_waysToPave 3 (some .int)) Bo.pre w (List.mem_cons_of_mem _ hw)
  have hown : s.vm.findClass RX2 = some m.cls := findClass_of_methodNamed Bo.named
  have hlocks := Bo.notSynchronized
  have hK := hC.1
  subst hsz
  have hl := lv_entry ([.ref (A 0), .long a1]) (n := 3) (Nat.le_of_ble_eq_true rfl)
  rw [lg_entry_eq]
  generalize (lg_sl ([.ref (A 0), .long a1]) ++ List.replicate (3 - (lg_sl ([.ref (A 0), .long a1])).length) Slot.unset).toArray = ls at hl ⊢
  have hl : lv_has ls 3 [(0, .ref (A 0)), (1, .long a1)] := hl
  suffices K9 : ∀ (H : Heap) (locs : List Loc), va_P D vwCl (VW A u1 u2 B t μ) H → va_S (OA (VL A u1 u2 B) s.heap.size) s.heap H locs → W p l e (headSpec (ws_ yX2_waysToPave cX2_waysToPave 3 (some .int)) rm_X2_waysToPave).room s m ([.ref (A 0), .long a1] : List Value).toArray below meth c H locs 0 0 (MQ below (QM (some (.int res.1)) D (VW A u1 u2 B t (v_takes' (v_rest' μ res.2.1) res.2.2)) (VL A u1 u2 B) s.heap.size) ([.ref (A 0), .long a1] : List Value).toArray s 0 0 (OA (VL A u1 u2 B) s.heap.size)) (F0 m 0 ls []) from K9 s.heap [] hP va_S.rf
  intro H locs hP hS
  have hSz : s.heap.size ≤ H.size := hS.1
  unfold f_X2_waysToPave at h
  refine lv_lload_n hx hb dX2_waysToPave_0 rfl (lv_at hl 1 rfl) ?_
  obtain ⟨r1, er1, h⟩ := obind h
  refine call_R (va_runS (As := [.long a1]) (rest := []) ⟨hx, hb, hml, hown, hts⟩ (c_J13_bitCount_95d88 l z0 D t a1 _ er1) (kS hts qw241 qw242 qw22 qw243 ok_J13_bitCount_95d88 ⟨Nat.le_of_ble_eq_true rfl, Nat.le_of_ble_eq_true rfl⟩) ⟨PR.blind, fun U hU hW => ⟨rfl, by rw [hU]; exact (hC.at hS hZ).warm hW, by rw [hU]; exact va_P_nil⟩⟩ rfl rfl hl.1 rfl (lv_room (Nat.le_of_ble_eq_true rfl)) dX2_waysToPave_1 ⟨Nat.le_of_ble_eq_true rfl, Nat.le_of_ble_eq_true rfl⟩) ?_
  refine lv_iconst (v := (3)) hx hb dX2_waysToPave_4 (by decide) ?_
  refine lv_irem hx hb dX2_waysToPave_5 (by decide) ?_
  refine lv_if_eq (tgt := 11) hx hb dX2_waysToPave_6 (by decide) (fun hc => ?_) (fun hc => ?_)
  · have h := iteT hc h
    refine lv_aload_n hx hb dX2_waysToPave_11 rfl (lv_at hl 0 rfl) ?_
    refine lv_lload_n hx hb dX2_waysToPave_12 rfl (lv_at hl 1 rfl) ?_
    obtain ⟨r2, er2, h⟩ := obind h
    refine call_M (va_runV (As := [.long a1]) (rest := []) ⟨hx, hb, hml, hown, hts⟩ (c_X2_countRest l z0 D t A u1 u2 B μ a1 _ H.size er2) (kV hts qw247 qw249 qs2 qw6 qw250 ok_X2_countRest ⟨Nat.le_of_ble_eq_true rfl, Nat.le_of_ble_eq_true rfl⟩) ⟨PM.blind, va_recv hK hP (ci := 3) (q0 := 0) rfl rfl, fun U hU hW => ⟨rfl, by rw [hU]; exact (hC.at hS hZ).warm hW, by rw [hU], by rw [hU]; exact hP, ⟨hD.1, fun _ _ h9 => Or.inl (in_map (L := (VL A u1 u2 B)) rfl h9)⟩, fun q hq => hZ q (OA.ofD hD rfl hSz q hq)⟩⟩ rfl rfl hl.1 rfl (lv_room (Nat.le_of_ble_eq_true rfl)) dX2_waysToPave_13 ⟨Nat.le_of_ble_eq_true rfl, Nat.le_of_ble_eq_true rfl⟩) hS (OA.ofD hD rfl hSz) (fun H locs hP hD1 hS _ _ => ?_)
    have hP : va_P D vwCl (VW A u1 u2 B t (v_takes' (v_rest' μ r2.1) r2.2)) H := hP
    have hD : va_D (OA (VL A u1 u2 B) s.heap.size) (VW A u1 u2 B t (v_takes' (v_rest' μ r2.1) r2.2)) := hD1.weaken (fun _ q _ h9 => OA.ofD hD rfl hSz q.1 h9)
    have hSz : s.heap.size ≤ H.size := hS.1
    refine lv_aload_n hx hb dX2_waysToPave_16 rfl (lv_at hl 0 rfl) ?_
    refine va_get hx hb hts inX2 hown hK hP 0 rfl rfl 0 (by decide) (hts _ qw85) (fun _ h9 => h9) rfl dX2_waysToPave_17 ?_
    refine lv_iconst (v := (0)) hx hb dX2_waysToPave_20 (by decide) ?_
    obtain ⟨k3, ek3, h⟩ := obind h
    refine k_aaldR hx hb hK hP 2 rfl ek3 dX2_waysToPave_21 ?_
    refine lv_iconst (v := (0)) hx hb dX2_waysToPave_22 (by decide) ?_
    obtain ⟨v4, ev4, h⟩ := obind h
    refine k_iald hx hb hK hP (5 + k3) (row_V (jix_lt ek3)) ev4 dX2_waysToPave_23 ?_
    obtain rfl := Option.some.inj h
    exact W.iret hx hb hr (fun t ht hW => ⟨rfl, by rw [ht]; exact hP, hD, hS.F ht⟩) hS.2.2 dX2_waysToPave_24
  · have h := iteF hc h
    refine lv_iconst (v := (0)) hx hb dX2_waysToPave_9 (by decide) ?_
    obtain rfl := Option.some.inj h
    exact W.iret hx hb hr (fun t ht hW => ⟨rfl, by rw [ht]; exact hP, hD, hS.F ht⟩) hS.2.2 dX2_waysToPave_10

abbrev rm_X1_coverX : Room := { frames := 0, cells := 0, slots := 0, locals := 0 }
theorem ok_X1_coverX : okY yX1_coverX 2 := ⟨by decide +kernel, by decide +kernel, by decide +kernel⟩
set_option maxHeartbeats 4000000 in
set_option maxRecDepth 100000 in
theorem c_X1_coverX (l : Launch) (z0 : Nat) (D : va_G) (t : Nat → ClassId) (a1 : Int32) (a2 : Int32) (res : Int32) (h : f_X1_coverX a1 a2 = some res) : Met l yX1_coverX (ws_ yX1_coverX cX1_coverX 2 (some .int)) rm_X1_coverX (PR z0 D t [.int a1, .int a2] []) (QR (some (.int res))) 0 0 FN := by
  refine Met.ofW (cc := cX1_coverX) (maxL := 2) (ret := (some .int)) (by decide) rfl ?_
  intro p e s m args below meth c s₁ Bo hml hv
  obtain ⟨rfl, hC, hP⟩ := hv
  have hx := Bo.exec
  have hb := Bo.bytes
  have hr := Bo.returns
  have hts : ∀ w ∈ LA, w.before _ s = true := fun w hw => atoms_spec (ws := ws_ yX1_coverX cX1_coverX 2 (some .int)) Bo.pre w (List.mem_cons_of_mem _ hw)
  have hown : s.vm.findClass RX1 = some m.cls := findClass_of_methodNamed Bo.named
  have hlocks := Bo.notSynchronized
  have hK := hC.1
  have hl := lv_entry ([.int a1, .int a2]) (n := 2) (Nat.le_of_ble_eq_true rfl)
  rw [lg_entry_eq]
  generalize (lg_sl ([.int a1, .int a2]) ++ List.replicate (2 - (lg_sl ([.int a1, .int a2])).length) Slot.unset).toArray = ls at hl ⊢
  have hl : lv_has ls 2 [(0, .int a1), (1, .int a2)] := hl
  unfold f_X1_coverX at h
  refine lv_iload_n hx hb dX1_coverX_0 rfl (lv_at hl 0 rfl) ?_
  refine lv_bipush (v := (8)) hx hb dX1_coverX_1 (by decide) ?_
  refine lv_irem hx hb dX1_coverX_3 (by decide) ?_
  refine lv_iload_n hx hb dX1_coverX_4 rfl (lv_at hl 1 rfl) ?_
  refine lv_iconst (v := (2)) hx hb dX1_coverX_5 (by decide) ?_
  refine lv_irem hx hb dX1_coverX_6 (by decide) ?_
  refine lv_isub hx hb dX1_coverX_7 ?_
  obtain rfl := Option.some.inj h
  exact W.iret hx hb hr (fun t ht hW => ⟨rfl, ht⟩) (fun q hq => absurd hq List.not_mem_nil) dX1_coverX_8

abbrev rm_X1_coverY : Room := { frames := 0, cells := 0, slots := 0, locals := 0 }
theorem ok_X1_coverY : okY yX1_coverY 2 := ⟨by decide +kernel, by decide +kernel, by decide +kernel⟩
set_option maxHeartbeats 4000000 in
set_option maxRecDepth 100000 in
theorem c_X1_coverY (l : Launch) (z0 : Nat) (D : va_G) (t : Nat → ClassId) (a1 : Int32) (a2 : Int32) (res : Int32) (h : f_X1_coverY a1 a2 = some res) : Met l yX1_coverY (ws_ yX1_coverY cX1_coverY 2 (some .int)) rm_X1_coverY (PR z0 D t [.int a1, .int a2] []) (QR (some (.int res))) 0 0 FN := by
  refine Met.ofW (cc := cX1_coverY) (maxL := 2) (ret := (some .int)) (by decide) rfl ?_
  intro p e s m args below meth c s₁ Bo hml hv
  obtain ⟨rfl, hC, hP⟩ := hv
  have hx := Bo.exec
  have hb := Bo.bytes
  have hr := Bo.returns
  have hts : ∀ w ∈ LA, w.before _ s = true := fun w hw => atoms_spec (ws := ws_ yX1_coverY cX1_coverY 2 (some .int)) Bo.pre w (List.mem_cons_of_mem _ hw)
  have hown : s.vm.findClass RX1 = some m.cls := findClass_of_methodNamed Bo.named
  have hlocks := Bo.notSynchronized
  have hK := hC.1
  have hl := lv_entry ([.int a1, .int a2]) (n := 2) (Nat.le_of_ble_eq_true rfl)
  rw [lg_entry_eq]
  generalize (lg_sl ([.int a1, .int a2]) ++ List.replicate (2 - (lg_sl ([.int a1, .int a2])).length) Slot.unset).toArray = ls at hl ⊢
  have hl : lv_has ls 2 [(0, .int a1), (1, .int a2)] := hl
  unfold f_X1_coverY at h
  refine lv_iload_n hx hb dX1_coverY_0 rfl (lv_at hl 0 rfl) ?_
  refine lv_bipush (v := (8)) hx hb dX1_coverY_1 (by decide) ?_
  refine lv_idiv hx hb dX1_coverY_3 (by decide) ?_
  refine lv_iload_n hx hb dX1_coverY_4 rfl (lv_at hl 1 rfl) ?_
  refine lv_iconst (v := (2)) hx hb dX1_coverY_5 (by decide) ?_
  refine lv_idiv hx hb dX1_coverY_6 (by decide) ?_
  refine lv_iconst (v := (2)) hx hb dX1_coverY_7 (by decide) ?_
  refine lv_irem hx hb dX1_coverY_8 (by decide) ?_
  refine lv_isub hx hb dX1_coverY_9 ?_
  obtain rfl := Option.some.inj h
  exact W.iret hx hb hr (fun t ht hW => ⟨rfl, ht⟩) (fun q hq => absurd hq List.not_mem_nil) dX1_coverY_10

abbrev rm_X1_hasBlock : Room := { frames := 0, cells := 0, slots := 0, locals := 0 }
theorem ok_X1_hasBlock : okY yX1_hasBlock 4 := ⟨by decide +kernel, by decide +kernel, by decide +kernel⟩
set_option maxHeartbeats 4000000 in
set_option maxRecDepth 100000 in
theorem c_X1_hasBlock (l : Launch) (z0 : Nat) (D : va_G) (t : Nat → ClassId) (G : Nat → Nat) (μ : GS) (a1 : Int32) (a2 : Int32) (a3 : Int32) (a4 : Int32) (res : Int32) (h : f_X1_hasBlock μ a1 a2 a3 a4 = some res) : Met l yX1_hasBlock (ws_ yX1_hasBlock cX1_hasBlock 5 (some .boolean)) rm_X1_hasBlock (PR z0 D t [.ref (G 0), .int a1, .int a2, .int a3, .int a4] (GW G t μ)) (QR (some (.int res))) 0 0 FN := by
  refine Met.ofW (cc := cX1_hasBlock) (maxL := 5) (ret := (some .boolean)) (by decide) rfl ?_
  intro p e s m args below meth c s₁ Bo hml hv
  obtain ⟨rfl, hC, hP⟩ := hv
  have hx := Bo.exec
  have hb := Bo.bytes
  have hr := Bo.returns
  have hts : ∀ w ∈ LA, w.before _ s = true := fun w hw => atoms_spec (ws := ws_ yX1_hasBlock cX1_hasBlock 5 (some .boolean)) Bo.pre w (List.mem_cons_of_mem _ hw)
  have hown : s.vm.findClass RX1 = some m.cls := findClass_of_methodNamed Bo.named
  have hlocks := Bo.notSynchronized
  have hK := hC.1
  have hl := lv_entry ([.ref (G 0), .int a1, .int a2, .int a3, .int a4]) (n := 5) (Nat.le_of_ble_eq_true rfl)
  rw [lg_entry_eq]
  generalize (lg_sl ([.ref (G 0), .int a1, .int a2, .int a3, .int a4]) ++ List.replicate (5 - (lg_sl ([.ref (G 0), .int a1, .int a2, .int a3, .int a4])).length) Slot.unset).toArray = ls at hl ⊢
  have hl : lv_has ls 5 [(0, .ref (G 0)), (1, .int a1), (2, .int a2), (3, .int a3), (4, .int a4)] := hl
  unfold f_X1_hasBlock at h
  refine lv_iload_n hx hb dX1_hasBlock_0 rfl (lv_at hl 1 rfl) ?_
  refine lv_if_lt (tgt := 33) hx hb dX1_hasBlock_1 (by decide) (fun hc => ?_) (fun hc => ?_)
  · have h := iteT hc h
    refine lv_iconst (v := (0)) hx hb dX1_hasBlock_33 (by decide) ?_
    obtain rfl := Option.some.inj h
    exact W.zret hx hb hr rfl (fun t ht hW => ⟨rfl, ht⟩) (fun q hq => absurd hq List.not_mem_nil) dX1_hasBlock_34
  · have h := iteF hc h
    refine lv_iload_n hx hb dX1_hasBlock_4 rfl (lv_at hl 2 rfl) ?_
    refine lv_if_lt (tgt := 33) hx hb dX1_hasBlock_5 (by decide) (fun hc => ?_) (fun hc => ?_)
    · have h := iteT hc h
      refine lv_iconst (v := (0)) hx hb dX1_hasBlock_33 (by decide) ?_
      obtain rfl := Option.some.inj h
      exact W.zret hx hb hr rfl (fun t ht hW => ⟨rfl, ht⟩) (fun q hq => absurd hq List.not_mem_nil) dX1_hasBlock_34
    · have h := iteF hc h
      refine lv_iload_n hx hb dX1_hasBlock_8 rfl (lv_at hl 1 rfl) ?_
      refine lv_aload_n hx hb dX1_hasBlock_9 rfl (lv_at hl 0 rfl) ?_
      refine va_get hx hb hts inX1 hown hK hP 0 rfl rfl 0 (by decide) (hts _ qw103) (fun _ h9 => h9) rfl dX1_hasBlock_10 ?_
      refine lv_iload_n hx hb dX1_hasBlock_13 rfl (lv_at hl 3 rfl) ?_
      refine lv_isub hx hb dX1_hasBlock_14 ?_
      refine lv_icmp_gt (tgt := 33) hx hb dX1_hasBlock_15 (by decide) (fun hc => ?_) (fun hc => ?_)
      · have h := iteT hc h
        refine lv_iconst (v := (0)) hx hb dX1_hasBlock_33 (by decide) ?_
        obtain rfl := Option.some.inj h
        exact W.zret hx hb hr rfl (fun t ht hW => ⟨rfl, ht⟩) (fun q hq => absurd hq List.not_mem_nil) dX1_hasBlock_34
      · have h := iteF hc h
        refine lv_iload_n hx hb dX1_hasBlock_18 rfl (lv_at hl 2 rfl) ?_
        refine lv_aload_n hx hb dX1_hasBlock_19 rfl (lv_at hl 0 rfl) ?_
        refine va_get hx hb hts inX1 hown hK hP 0 rfl rfl 1 (by decide) (hts _ qw105) (fun _ h9 => h9) rfl dX1_hasBlock_20 ?_
        refine lv_iload hx hb dX1_hasBlock_23 (lv_at hl 4 rfl) ?_
        refine lv_isub hx hb dX1_hasBlock_25 ?_
        refine lv_icmp_gt (tgt := 33) hx hb dX1_hasBlock_26 (by decide) (fun hc => ?_) (fun hc => ?_)
        · have h := iteT hc h
          refine lv_iconst (v := (0)) hx hb dX1_hasBlock_33 (by decide) ?_
          obtain rfl := Option.some.inj h
          exact W.zret hx hb hr rfl (fun t ht hW => ⟨rfl, ht⟩) (fun q hq => absurd hq List.not_mem_nil) dX1_hasBlock_34
        · have h := iteF hc h
          refine lv_iconst (v := (1)) hx hb dX1_hasBlock_29 (by decide) ?_
          refine lv_goto (tgt := 34) hx hb dX1_hasBlock_30 (by decide) ?_
          obtain rfl := Option.some.inj h
          exact W.zret hx hb hr rfl (fun t ht hW => ⟨rfl, ht⟩) (fun q hq => absurd hq List.not_mem_nil) dX1_hasBlock_34

abbrev rm_X1_whyRefused : Room := { frames := 1, cells := 0, slots := 0, locals := 40 }
theorem ok_X1_whyRefused : okY yX1_whyRefused 3 := ⟨by decide +kernel, by decide +kernel, by decide +kernel⟩
set_option maxHeartbeats 4000000 in
set_option maxRecDepth 100000 in
theorem c_X1_whyRefused (l : Launch) (z0 : Nat) (D : va_G) (t : Nat → ClassId) (G : Nat → Nat) (μ : GS) (a1 : Int32) (a2 : Int32) (a3 : Int32) (res : Int32) (h : f_X1_whyRefused μ a1 a2 a3 = some res) : Met l yX1_whyRefused (ws_ yX1_whyRefused cX1_whyRefused 6 (some .int)) rm_X1_whyRefused (PR z0 D t [.ref (G 0), .int a1, .int a2, .int a3] (GW G t μ)) (QR (some (.int res))) 0 0 FN := by
  refine Met.ofW (cc := cX1_whyRefused) (maxL := 6) (ret := (some .int)) (by decide) rfl ?_
  intro p e s m args below meth c s₁ Bo hml hv
  obtain ⟨rfl, hC, hP⟩ := hv
  have hx := Bo.exec
  have hb := Bo.bytes
  have hr := Bo.returns
  have hts : ∀ w ∈ LA, w.before _ s = true := fun w hw => atoms_spec (ws := ws_ yX1_whyRefused cX1_whyRefused 6 (some .int)) Bo.pre w (List.mem_cons_of_mem _ hw)
  have hown : s.vm.findClass RX1 = some m.cls := findClass_of_methodNamed Bo.named
  have hlocks := Bo.notSynchronized
  have hK := hC.1
  have hl := lv_entry ([.ref (G 0), .int a1, .int a2, .int a3]) (n := 6) (Nat.le_of_ble_eq_true rfl)
  rw [lg_entry_eq]
  generalize (lg_sl ([.ref (G 0), .int a1, .int a2, .int a3]) ++ List.replicate (6 - (lg_sl ([.ref (G 0), .int a1, .int a2, .int a3])).length) Slot.unset).toArray = ls at hl ⊢
  have hl : lv_has ls 6 [(0, .ref (G 0)), (1, .int a1), (2, .int a2), (3, .int a3)] := hl
  unfold f_X1_whyRefused at h
  refine lv_aload_n hx hb dX1_whyRefused_0 rfl (lv_at hl 0 rfl) ?_
  refine lv_iload_n hx hb dX1_whyRefused_1 rfl (lv_at hl 1 rfl) ?_
  refine lv_iload_n hx hb dX1_whyRefused_2 rfl (lv_at hl 2 rfl) ?_
  refine lv_iconst (v := (2)) hx hb dX1_whyRefused_3 (by decide) ?_
  refine lv_iconst (v := (2)) hx hb dX1_whyRefused_4 (by decide) ?_
  obtain ⟨r1, er1, h⟩ := obind h
  refine call_R (va_runV (As := [.int a1, .int a2, .int (2 : Int32), .int (2 : Int32)]) (rest := []) ⟨hx, hb, hml, hown, hts⟩ (c_X1_hasBlock l z0 D t G μ a1 a2 (2 : Int32) (2 : Int32) _ er1) (kV hts qw324 qw325 qw326 qw7 qw327 ok_X1_hasBlock ⟨Nat.le_of_ble_eq_true rfl, Nat.le_of_ble_eq_true rfl⟩) ⟨PR.blind, va_recv hK hP (ci := 2) (q0 := 0) rfl rfl, fun U hU hW => ⟨rfl, by rw [hU]; exact hC.warm hW, by rw [hU]; exact hP⟩⟩ rfl rfl hl.1 rfl (lv_room (Nat.le_of_ble_eq_true rfl)) dX1_whyRefused_5 ⟨Nat.le_of_ble_eq_true rfl, Nat.le_of_ble_eq_true rfl⟩) ?_
  refine lv_if_ne (tgt := 13) hx hb dX1_whyRefused_8 (by decide) (fun hc => ?_) (fun hc => ?_)
  · have h := iteF hc h
    refine lv_iload_n hx hb dX1_whyRefused_13 rfl (lv_at hl 1 rfl) ?_
    refine lv_iload_n hx hb dX1_whyRefused_14 rfl (lv_at hl 2 rfl) ?_
    refine lv_iload_n hx hb dX1_whyRefused_15 rfl (lv_at hl 3 rfl) ?_
    obtain ⟨r2, er2, h⟩ := obind h
    refine call_R (va_runSN (As := [.int a1, .int a2, .int a3]) (rest := []) ⟨hx, hb, hml, hown, hts⟩ (c_X4_cellsOf l z0 D t a1 a2 a3 _ er2) ⟨kN hts (hC.2.1 _ qw328) qw1 qw273 ok_X4_cellsOf ⟨Nat.le_of_ble_eq_true rfl, Nat.le_of_ble_eq_true rfl⟩, hts _ qw272, trivial⟩ ⟨PR.blind, fun U hU hW => ⟨rfl, by rw [hU]; exact hC.warm hW, by rw [hU]; exact va_P_nil⟩⟩ rfl rfl hl.1 rfl (lv_room (Nat.le_of_ble_eq_true rfl)) dX1_whyRefused_16 ⟨Nat.le_of_ble_eq_true rfl, Nat.le_of_ble_eq_true rfl⟩) ?_
    refine lv_lstore (lv' := [(4, .long r2), (0, .ref (G 0)), (1, .int a1), (2, .int a2), (3, .int a3)]) hx hb dX1_whyRefused_19 hl (by decide) rfl (fun ls hl => ?_)
    refine lv_lload hx hb dX1_whyRefused_21 (lv_at hl 0 rfl) ?_
    refine lv_aload_n hx hb dX1_whyRefused_23 rfl (lv_at hl 1 rfl) ?_
    obtain ⟨r3, er3, h⟩ := obind h
    refine call_R (va_runV (As := []) (rest := [.long r2]) ⟨hx, hb, hml, hown, hts⟩ (c_X1_pondCell l z0 D t G μ _ er3) (kV hts qw232 qw233 qw234 qw7 qw235 ok_X1_pondCell ⟨Nat.le_of_ble_eq_true rfl, Nat.le_of_ble_eq_true rfl⟩) ⟨PR.blind, va_recv hK hP (ci := 2) (q0 := 0) rfl rfl, fun U hU hW => ⟨rfl, by rw [hU]; exact hC.warm hW, by rw [hU]; exact hP⟩⟩ rfl rfl hl.1 rfl (lv_room (Nat.le_of_ble_eq_true rfl)) dX1_whyRefused_24 ⟨Nat.le_of_ble_eq_true rfl, Nat.le_of_ble_eq_true rfl⟩) ?_
    refine lv_land hx hb dX1_whyRefused_27 ?_
    refine lv_lconst (v := (0)) hx hb dX1_whyRefused_28 (by decide) ?_
    refine W.lcmp hx hb dX1_whyRefused_29 ?_
    refine lv_if_eq (tgt := 35) hx hb dX1_whyRefused_30 (by decide) (fun hc => ?_) (fun hc => ?_)
    · have h := iteT hc h
      refine lv_lload hx hb dX1_whyRefused_35 (lv_at hl 0 rfl) ?_
      refine lv_aload_n hx hb dX1_whyRefused_37 rfl (lv_at hl 1 rfl) ?_
      refine va_get hx hb hts inX1 hown hK hP 0 rfl rfl 3 (by decide) (hts _ qw109) (fun _ h9 => h9) rfl dX1_whyRefused_38 ?_
      refine lv_land hx hb dX1_whyRefused_41 ?_
      refine lv_lconst (v := (0)) hx hb dX1_whyRefused_42 (by decide) ?_
      refine W.lcmp hx hb dX1_whyRefused_43 ?_
      refine lv_if_eq (tgt := 49) hx hb dX1_whyRefused_44 (by decide) (fun hc => ?_) (fun hc => ?_)
      · have h := iteT hc h
        refine lv_lload hx hb dX1_whyRefused_49 (lv_at hl 0 rfl) ?_
        refine lv_aload_n hx hb dX1_whyRefused_51 rfl (lv_at hl 1 rfl) ?_
        refine va_get hx hb hts inX1 hown hK hP 0 rfl rfl 4 (by decide) (hts _ qw111) (fun _ h9 => h9) rfl dX1_whyRefused_52 ?_
        refine lv_land hx hb dX1_whyRefused_55 ?_
        refine lv_lconst (v := (0)) hx hb dX1_whyRefused_56 (by decide) ?_
        refine W.lcmp hx hb dX1_whyRefused_57 ?_
        refine lv_if_eq (tgt := 65) hx hb dX1_whyRefused_58 (by decide) (fun hc => ?_) (fun hc => ?_)
        · have h := iteT hc h
          refine lv_iconst (v := (0)) hx hb dX1_whyRefused_65 (by decide) ?_
          obtain rfl := Option.some.inj h
          exact W.iret hx hb hr (fun t ht hW => ⟨rfl, ht⟩) (fun q hq => absurd hq List.not_mem_nil) dX1_whyRefused_66
        · have h := iteF hc h
          refine lv_iconst (v := (4)) hx hb dX1_whyRefused_61 (by decide) ?_
          refine lv_goto (tgt := 66) hx hb dX1_whyRefused_62 (by decide) ?_
          obtain rfl := Option.some.inj h
          exact W.iret hx hb hr (fun t ht hW => ⟨rfl, ht⟩) (fun q hq => absurd hq List.not_mem_nil) dX1_whyRefused_66
      · have h := iteF hc h
        refine lv_iconst (v := (3)) hx hb dX1_whyRefused_47 (by decide) ?_
        obtain rfl := Option.some.inj h
        exact W.iret hx hb hr (fun t ht hW => ⟨rfl, ht⟩) (fun q hq => absurd hq List.not_mem_nil) dX1_whyRefused_48
    · have h := iteF hc h
      refine lv_iconst (v := (2)) hx hb dX1_whyRefused_33 (by decide) ?_
      obtain rfl := Option.some.inj h
      exact W.iret hx hb hr (fun t ht hW => ⟨rfl, ht⟩) (fun q hq => absurd hq List.not_mem_nil) dX1_whyRefused_34
  · have h := iteT hc h
    refine lv_iconst (v := (1)) hx hb dX1_whyRefused_11 (by decide) ?_
    obtain rfl := Option.some.inj h
    exact W.iret hx hb hr (fun t ht hW => ⟨rfl, ht⟩) (fun q hq => absurd hq List.not_mem_nil) dX1_whyRefused_12

abbrev rm_X1_couldCover : Room := { frames := 2, cells := 0, slots := 0, locals := 65 }
theorem ok_X1_couldCover : okY yX1_couldCover 2 := ⟨by decide +kernel, by decide +kernel, by decide +kernel⟩
set_option maxHeartbeats 4000000 in
set_option maxRecDepth 100000 in
theorem c_X1_couldCover (l : Launch) (z0 : Nat) (D : va_G) (t : Nat → ClassId) (G : Nat → Nat) (μ : GS) (a1 : Int32) (a2 : Int32) (res : Int32) (h : f_X1_couldCover μ a1 a2 = some res) : Met l yX1_couldCover (ws_ yX1_couldCover cX1_couldCover 6 (some .boolean)) rm_X1_couldCover (PR z0 D t [.ref (G 0), .int a1, .int a2] (GW G t μ)) (QR (some (.int res))) 0 0 FN := by
  refine Met.ofW (cc := cX1_couldCover) (maxL := 6) (ret := (some .boolean)) (by decide) rfl ?_
  intro p e s m args below meth c s₁ Bo hml hv
  obtain ⟨rfl, hC, hP⟩ := hv
  have hx := Bo.exec
  have hb := Bo.bytes
  have hr := Bo.returns
  have hts : ∀ w ∈ LA, w.before _ s = true := fun w hw => atoms_spec (ws := ws_ yX1_couldCover cX1_couldCover 6 (some .boolean)) Bo.pre w (List.mem_cons_of_mem _ hw)
  have hown : s.vm.findClass RX1 = some m.cls := findClass_of_methodNamed Bo.named
  have hlocks := Bo.notSynchronized
  have hK := hC.1
  have hl := lv_entry ([.ref (G 0), .int a1, .int a2]) (n := 6) (Nat.le_of_ble_eq_true rfl)
  rw [lg_entry_eq]
  generalize (lg_sl ([.ref (G 0), .int a1, .int a2]) ++ List.replicate (6 - (lg_sl ([.ref (G 0), .int a1, .int a2])).length) Slot.unset).toArray = ls at hl ⊢
  have hl : lv_has ls 6 [(0, .ref (G 0)), (1, .int a1), (2, .int a2)] := hl
  unfold f_X1_couldCover at h
  refine lv_iload_n hx hb dX1_couldCover_0 rfl (lv_at hl 1 rfl) ?_
  refine lv_iload_n hx hb dX1_couldCover_1 rfl (lv_at hl 2 rfl) ?_
  obtain ⟨r1, er1, h⟩ := obind h
  refine call_R (va_runS (As := [.int a1, .int a2]) (rest := []) ⟨hx, hb, hml, hown, hts⟩ (c_X1_coverX l z0 D t a1 a2 _ er1) (kS hts qw314 qw315 qw7 qw316 ok_X1_coverX ⟨Nat.le_of_ble_eq_true rfl, Nat.le_of_ble_eq_true rfl⟩) ⟨PR.blind, fun U hU hW => ⟨rfl, by rw [hU]; exact hC.warm hW, by rw [hU]; exact va_P_nil⟩⟩ rfl rfl hl.1 rfl (lv_room (Nat.le_of_ble_eq_true rfl)) dX1_couldCover_2 ⟨Nat.le_of_ble_eq_true rfl, Nat.le_of_ble_eq_true rfl⟩) ?_
  refine lv_istore_n (lv' := [(3, .int r1), (0, .ref (G 0)), (1, .int a1), (2, .int a2)]) hx hb dX1_couldCover_5 rfl hl (by decide) rfl (fun ls hl => ?_)
  refine lv_iload_n hx hb dX1_couldCover_6 rfl (lv_at hl 2 rfl) ?_
  refine lv_iload_n hx hb dX1_couldCover_7 rfl (lv_at hl 3 rfl) ?_
  obtain ⟨r2, er2, h⟩ := obind h
  refine call_R (va_runS (As := [.int a1, .int a2]) (rest := []) ⟨hx, hb, hml, hown, hts⟩ (c_X1_coverY l z0 D t a1 a2 _ er2) (kS hts qw317 qw318 qw7 qw319 ok_X1_coverY ⟨Nat.le_of_ble_eq_true rfl, Nat.le_of_ble_eq_true rfl⟩) ⟨PR.blind, fun U hU hW => ⟨rfl, by rw [hU]; exact hC.warm hW, by rw [hU]; exact va_P_nil⟩⟩ rfl rfl hl.1 rfl (lv_room (Nat.le_of_ble_eq_true rfl)) dX1_couldCover_8 ⟨Nat.le_of_ble_eq_true rfl, Nat.le_of_ble_eq_true rfl⟩) ?_
  refine lv_istore (lv' := [(4, .int r2), (3, .int r1), (0, .ref (G 0)), (1, .int a1), (2, .int a2)]) hx hb dX1_couldCover_11 hl (by decide) rfl (fun ls hl => ?_)
  refine lv_iload_n hx hb dX1_couldCover_13 rfl (lv_at hl 4 rfl) ?_
  refine lv_iconst (v := (4)) hx hb dX1_couldCover_14 (by decide) ?_
  refine lv_idiv hx hb dX1_couldCover_15 (by decide) ?_
  obtain ⟨x3, ex3, h⟩ := jlet_some h
  refine topI ex3 ?_
  refine lv_istore (lv' := [(5, .int x3), (4, .int r2), (3, .int r1), (0, .ref (G 0)), (1, .int a1), (2, .int a2)]) hx hb dX1_couldCover_16 hl (by decide) rfl (fun ls hl => ?_)
  refine lv_aload_n hx hb dX1_couldCover_18 rfl (lv_at hl 3 rfl) ?_
  refine lv_iload_n hx hb dX1_couldCover_19 rfl (lv_at hl 2 rfl) ?_
  refine lv_iload hx hb dX1_couldCover_20 (lv_at hl 1 rfl) ?_
  refine lv_iload hx hb dX1_couldCover_22 (lv_at hl 0 rfl) ?_
  obtain ⟨r4, er4, h⟩ := obind h
  refine call_R (va_runV (As := [.int r1, .int r2, .int x3]) (rest := []) ⟨hx, hb, hml, hown, hts⟩ (c_X1_whyRefused l z0 D t G μ r1 r2 x3 _ er4) (kV hts qw320 qw321 qw322 qw7 qw323 ok_X1_whyRefused ⟨Nat.le_of_ble_eq_true rfl, Nat.le_of_ble_eq_true rfl⟩) ⟨PR.blind, va_recv hK hP (ci := 2) (q0 := 0) rfl rfl, fun U hU hW => ⟨rfl, by rw [hU]; exact hC.warm hW, by rw [hU]; exact hP⟩⟩ rfl rfl hl.1 rfl (lv_room (Nat.le_of_ble_eq_true rfl)) dX1_couldCover_24 ⟨Nat.le_of_ble_eq_true rfl, Nat.le_of_ble_eq_true rfl⟩) ?_
  refine lv_if_ne (tgt := 49) hx hb dX1_couldCover_27 (by decide) (fun hc => ?_) (fun hc => ?_)
  · have h := iteF hc h
    refine lv_iconst (v := (0)) hx hb dX1_couldCover_49 (by decide) ?_
    obtain rfl := Option.some.inj h
    exact W.zret hx hb hr rfl (fun t ht hW => ⟨rfl, ht⟩) (fun q hq => absurd hq List.not_mem_nil) dX1_couldCover_50
  · have h := iteT hc h
    refine lv_iload_n hx hb dX1_couldCover_30 rfl (lv_at hl 2 rfl) ?_
    refine lv_iload hx hb dX1_couldCover_31 (lv_at hl 1 rfl) ?_
    refine lv_iload hx hb dX1_couldCover_33 (lv_at hl 0 rfl) ?_
    obtain ⟨r5, er5, h⟩ := obind h
    refine call_R (va_runSN (As := [.int r1, .int r2, .int x3]) (rest := []) ⟨hx, hb, hml, hown, hts⟩ (c_X4_cellsOf l z0 D t r1 r2 x3 _ er5) ⟨kN hts (hC.2.1 _ qw328) qw1 qw273 ok_X4_cellsOf ⟨Nat.le_of_ble_eq_true rfl, Nat.le_of_ble_eq_true rfl⟩, hts _ qw272, trivial⟩ ⟨PR.blind, fun U hU hW => ⟨rfl, by rw [hU]; exact hC.warm hW, by rw [hU]; exact va_P_nil⟩⟩ rfl rfl hl.1 rfl (lv_room (Nat.le_of_ble_eq_true rfl)) dX1_couldCover_35 ⟨Nat.le_of_ble_eq_true rfl, Nat.le_of_ble_eq_true rfl⟩) ?_
    refine lv_iload_n hx hb dX1_couldCover_38 rfl (lv_at hl 4 rfl) ?_
    obtain ⟨r6, er6, h⟩ := obind h
    refine call_R (va_runSN (As := [.long r5, .int a1]) (rest := []) ⟨hx, hb, hml, hown, hts⟩ (c_X4_holds l z0 D t r5 a1 _ er6) ⟨kN hts (hC.2.1 _ qw305) qw1 qw279 ok_X4_holds ⟨Nat.le_of_ble_eq_true rfl, Nat.le_of_ble_eq_true rfl⟩, hts _ qw278, trivial⟩ ⟨PR.blind, fun U hU hW => ⟨rfl, by rw [hU]; exact hC.warm hW, by rw [hU]; exact va_P_nil⟩⟩ rfl rfl hl.1 rfl (lv_room (Nat.le_of_ble_eq_true rfl)) dX1_couldCover_39 ⟨Nat.le_of_ble_eq_true rfl, Nat.le_of_ble_eq_true rfl⟩) ?_
    refine lv_if_eq (tgt := 49) hx hb dX1_couldCover_42 (by decide) (fun hc => ?_) (fun hc => ?_)
    · have h := iteT hc h
      refine lv_iconst (v := (0)) hx hb dX1_couldCover_49 (by decide) ?_
      obtain rfl := Option.some.inj h
      exact W.zret hx hb hr rfl (fun t ht hW => ⟨rfl, ht⟩) (fun q hq => absurd hq List.not_mem_nil) dX1_couldCover_50
    · have h := iteF hc h
      refine lv_iconst (v := (1)) hx hb dX1_couldCover_45 (by decide) ?_
      refine lv_goto (tgt := 50) hx hb dX1_couldCover_46 (by decide) ?_
      obtain rfl := Option.some.inj h
      exact W.zret hx hb hr rfl (fun t ht hW => ⟨rfl, ht⟩) (fun q hq => absurd hq List.not_mem_nil) dX1_couldCover_50

abbrev rm_X1_coverCount : Room := { frames := 3, cells := 0, slots := 0, locals := 90 }
theorem ok_X1_coverCount : okY yX1_coverCount 1 := ⟨by decide +kernel, by decide +kernel, by decide +kernel⟩
set_option maxHeartbeats 4000000 in
set_option maxRecDepth 100000 in
theorem c_X1_coverCount (l : Launch) (z0 : Nat) (D : va_G) (t : Nat → ClassId) (G : Nat → Nat) (μ : GS) (a1 : Int32) (res : Int32) (h : f_X1_coverCount μ a1 = some res) : Met l yX1_coverCount (ws_ yX1_coverCount cX1_coverCount 4 (some .int)) rm_X1_coverCount (PR z0 D t [.ref (G 0), .int a1] (GW G t μ)) (QR (some (.int res))) 0 0 FN := by
  refine Met.ofW (cc := cX1_coverCount) (maxL := 4) (ret := (some .int)) (by decide) rfl ?_
  intro p e s m args below meth c s₁ Bo hml hv
  obtain ⟨rfl, hC, hP⟩ := hv
  have hx := Bo.exec
  have hb := Bo.bytes
  have hr := Bo.returns
  have hts : ∀ w ∈ LA, w.before _ s = true := fun w hw => atoms_spec (ws := ws_ yX1_coverCount cX1_coverCount 4 (some .int)) Bo.pre w (List.mem_cons_of_mem _ hw)
  have hown : s.vm.findClass RX1 = some m.cls := findClass_of_methodNamed Bo.named
  have hlocks := Bo.notSynchronized
  have hK := hC.1
  have hl := lv_entry ([.ref (G 0), .int a1]) (n := 4) (Nat.le_of_ble_eq_true rfl)
  rw [lg_entry_eq]
  generalize (lg_sl ([.ref (G 0), .int a1]) ++ List.replicate (4 - (lg_sl ([.ref (G 0), .int a1])).length) Slot.unset).toArray = ls at hl ⊢
  have hl : lv_has ls 4 [(0, .ref (G 0)), (1, .int a1)] := hl
  unfold f_X1_coverCount at h
  refine lv_iconst (v := (0)) hx hb dX1_coverCount_0 (by decide) ?_
  refine lv_istore_n (lv' := [(2, .int (0 : Int32)), (0, .ref (G 0)), (1, .int a1)]) hx hb dX1_coverCount_1 rfl hl (by decide) rfl (fun ls hl => ?_)
  refine lv_iconst (v := (0)) hx hb dX1_coverCount_2 (by decide) ?_
  refine lv_istore_n (lv' := [(3, .int (0 : Int32)), (2, .int (0 : Int32)), (0, .ref (G 0)), (1, .int a1)]) hx hb dX1_coverCount_3 rfl hl (by decide) rfl (fun ls hl => ?_)
  obtain ⟨o9, eo9, h⟩ := obind h
  have hL4 : ∀ (n : Nat) (y2_4 : Int32) (y3_4 : Int32) (o9 : Int32), f_X1_coverCount_L4 a1 μ n y2_4 y3_4 = some o9 → (∀ (ls : Array Slot), lv_has ls 4 [(2, .int o9)] → W p l e (headSpec (ws_ yX1_coverCount cX1_coverCount 4 (some .int)) rm_X1_coverCount).room s m ([.ref (G 0), .int a1] : List Value).toArray below meth c s.heap [] 0 0 (MQ below (QR (some (.int res))) ([.ref (G 0), .int a1] : List Value).toArray s 0 0 FN) (F0 m 33 ls [])) → ∀ (ls : Array Slot), lv_has ls 4 [(0, .ref (G 0)), (1, .int a1), (2, .int y2_4), (3, .int y3_4)] → W p l e (headSpec (ws_ yX1_coverCount cX1_coverCount 4 (some .int)) rm_X1_coverCount).room s m ([.ref (G 0), .int a1] : List Value).toArray below meth c s.heap [] 0 0 (MQ below (QR (some (.int res))) ([.ref (G 0), .int a1] : List Value).toArray s 0 0 FN) (F0 m 4 ls []) := by
    intro n
    induction n with
    | zero => intro y2_4 y3_4 o9 h; exact absurd h (fun z => by cases z)
    | succ n ih =>
      intro y2_4 y3_4 o9 h hK4 ls hl
      replace h : f_X1_coverCount_L4_b a1 μ (f_X1_coverCount_L4 a1 μ n) y2_4 y3_4 = some o9 := h
      unfold f_X1_coverCount_L4_b at h
      refine lv_iload_n hx hb dX1_coverCount_4 rfl (lv_at hl 3 rfl) ?_
      refine lv_bipush (v := (16)) hx hb dX1_coverCount_5 (by decide) ?_
      refine lv_icmp_ge (tgt := 33) hx hb dX1_coverCount_7 (by decide) (fun hc => ?_) (fun hc => ?_)
      · have h := iteT hc h
        obtain rfl := Option.some.inj h
        exact hK4 ls (lv_sub hl [2] rfl)
      · have h := iteF hc h
        refine lv_iload_n hx hb dX1_coverCount_10 rfl (lv_at hl 2 rfl) ?_
        refine lv_aload_n hx hb dX1_coverCount_11 rfl (lv_at hl 0 rfl) ?_
        refine lv_iload_n hx hb dX1_coverCount_12 rfl (lv_at hl 1 rfl) ?_
        refine lv_iload_n hx hb dX1_coverCount_13 rfl (lv_at hl 3 rfl) ?_
        obtain ⟨r10, er10, h⟩ := obind h
        refine call_R (va_runV (As := [.int a1, .int y3_4]) (rest := [.int y2_4]) ⟨hx, hb, hml, hown, hts⟩ (c_X1_couldCover l z0 D t G μ a1 y3_4 _ er10) (kV hts qw310 qw312 qs8 qw7 qw313 ok_X1_couldCover ⟨Nat.le_of_ble_eq_true rfl, Nat.le_of_ble_eq_true rfl⟩) ⟨PR.blind, va_recv hK hP (ci := 2) (q0 := 0) rfl rfl, fun U hU hW => ⟨rfl, by rw [hU]; exact hC.warm hW, by rw [hU]; exact hP⟩⟩ rfl rfl hl.1 rfl (lv_room (Nat.le_of_ble_eq_true rfl)) dX1_coverCount_14 ⟨Nat.le_of_ble_eq_true rfl, Nat.le_of_ble_eq_true rfl⟩) ?_
        obtain ⟨o11, eo11, h⟩ := obind h
        have hJ25_o11 : ∀ ls : Array Slot, lv_has ls 4 [(0, .ref (G 0)), (1, .int a1), (3, .int y3_4)] → W p l e (headSpec (ws_ yX1_coverCount cX1_coverCount 4 (some .int)) rm_X1_coverCount).room s m ([.ref (G 0), .int a1] : List Value).toArray below meth c s.heap [] 0 0 (MQ below (QR (some (.int res))) ([.ref (G 0), .int a1] : List Value).toArray s 0 0 FN) (F0 m 25 ls [.int o11, .int y2_4]) := by
          intro ls hl
          refine lv_iadd hx hb dX1_coverCount_25 ?_
          obtain ⟨x12, ex12, h⟩ := jlet_some h
          refine topI ex12 ?_
          refine lv_istore_n (lv' := [(2, .int x12), (0, .ref (G 0)), (1, .int a1), (3, .int y3_4)]) hx hb dX1_coverCount_26 rfl hl (by decide) rfl (fun ls hl => ?_)
          obtain ⟨x13, ex13, h⟩ := jlet_some h
          refine lv_iinc (v := x13) (lv' := [(3, .int x13), (2, .int x12), (0, .ref (G 0)), (1, .int a1)]) hx hb dX1_coverCount_27 hl (k := 3) rfl (by rw [ex13]; rfl) (by decide) rfl (fun ls hl => ?_)
          refine lv_goto (tgt := 4) hx hb dX1_coverCount_30 (by decide) ?_
          exact ih _ _ _ h hK4 ls (lv_sub hl [2, 3, 1, 0] rfl)
        have h := eo11
        clear eo11
        refine lv_if_eq (tgt := 24) hx hb dX1_coverCount_17 (by decide) (fun hc => ?_) (fun hc => ?_)
        · have h := iteT hc h
          refine lv_iconst (v := (0)) hx hb dX1_coverCount_24 (by decide) ?_
          obtain rfl := Option.some.inj h
          exact hJ25_o11 ls (lv_sub hl [0, 1, 3] rfl)
        · have h := iteF hc h
          refine lv_iconst (v := (1)) hx hb dX1_coverCount_20 (by decide) ?_
          refine lv_goto (tgt := 25) hx hb dX1_coverCount_21 (by decide) ?_
          obtain rfl := Option.some.inj h
          exact hJ25_o11 ls (lv_sub hl [0, 1, 3] rfl)
  refine hL4 _ _ _ _ eo9 (fun ls hl => ?_) ls (lv_sub hl [2, 3, 1, 0] rfl)
  refine lv_iload_n hx hb dX1_coverCount_33 rfl (lv_at hl 0 rfl) ?_
  obtain rfl := Option.some.inj h
  exact W.iret hx hb hr (fun t ht hW => ⟨rfl, ht⟩) (fun q hq => absurd hq List.not_mem_nil) dX1_coverCount_34

abbrev rm_X1_firstFreeWith : Room := { frames := 4, cells := 0, slots := 0, locals := 113 }
theorem ok_X1_firstFreeWith : okY yX1_firstFreeWith 1 := ⟨by decide +kernel, by decide +kernel, by decide +kernel⟩
set_option maxHeartbeats 4000000 in
set_option maxRecDepth 100000 in
theorem c_X1_firstFreeWith (l : Launch) (z0 : Nat) (D : va_G) (t : Nat → ClassId) (G : Nat → Nat) (μ : GS) (a1 : Int32) (res : Int32) (h : f_X1_firstFreeWith μ a1 = some res) : Met l yX1_firstFreeWith (ws_ yX1_firstFreeWith cX1_firstFreeWith 5 (some .int)) rm_X1_firstFreeWith (PR z0 D t [.ref (G 0), .int a1] (GW G t μ)) (QR (some (.int res))) 0 0 FN := by
  refine Met.ofW (cc := cX1_firstFreeWith) (maxL := 5) (ret := (some .int)) (by decide) rfl ?_
  intro p e s m args below meth c s₁ Bo hml hv
  obtain ⟨rfl, hC, hP⟩ := hv
  have hx := Bo.exec
  have hb := Bo.bytes
  have hr := Bo.returns
  have hts : ∀ w ∈ LA, w.before _ s = true := fun w hw => atoms_spec (ws := ws_ yX1_firstFreeWith cX1_firstFreeWith 5 (some .int)) Bo.pre w (List.mem_cons_of_mem _ hw)
  have hown : s.vm.findClass RX1 = some m.cls := findClass_of_methodNamed Bo.named
  have hlocks := Bo.notSynchronized
  have hK := hC.1
  have hl := lv_entry ([.ref (G 0), .int a1]) (n := 5) (Nat.le_of_ble_eq_true rfl)
  rw [lg_entry_eq]
  generalize (lg_sl ([.ref (G 0), .int a1]) ++ List.replicate (5 - (lg_sl ([.ref (G 0), .int a1])).length) Slot.unset).toArray = ls at hl ⊢
  have hl : lv_has ls 5 [(0, .ref (G 0)), (1, .int a1)] := hl
  unfold f_X1_firstFreeWith at h
  refine lv_aload_n hx hb dX1_firstFreeWith_0 rfl (lv_at hl 0 rfl) ?_
  obtain ⟨r1, er1, h⟩ := obind h
  refine call_R (va_runV (As := []) (rest := []) ⟨hx, hb, hml, hown, hts⟩ (c_X1_freeCells l z0 D t G μ _ er1) (kV hts qw304 qw225 qw226 qw7 qw227 ok_X1_freeCells ⟨Nat.le_of_ble_eq_true rfl, Nat.le_of_ble_eq_true rfl⟩) ⟨PR.blind, va_recv hK hP (ci := 2) (q0 := 0) rfl rfl, fun U hU hW => ⟨rfl, by rw [hU]; exact hC.warm hW, by rw [hU]; exact hP⟩⟩ rfl rfl hl.1 rfl (lv_room (Nat.le_of_ble_eq_true rfl)) dX1_firstFreeWith_1 ⟨Nat.le_of_ble_eq_true rfl, Nat.le_of_ble_eq_true rfl⟩) ?_
  refine lv_lstore_n (lv' := [(2, .long r1), (0, .ref (G 0)), (1, .int a1)]) hx hb dX1_firstFreeWith_4 rfl hl (by decide) rfl (fun ls hl => ?_)
  refine lv_iconst (v := (0)) hx hb dX1_firstFreeWith_5 (by decide) ?_
  refine lv_istore (lv' := [(4, .int (0 : Int32)), (2, .long r1), (0, .ref (G 0)), (1, .int a1)]) hx hb dX1_firstFreeWith_6 hl (by decide) rfl (fun ls hl => ?_)
  obtain ⟨o10, eo10, h⟩ := obind h
  have hL8 : ∀ (n : Nat) (y4_8 : Int32) (o10 : (Unit) ⊕ (Int32)), f_X1_firstFreeWith_L8 a1 μ r1 n y4_8 = some o10 → (∀ o10l, o10 = .inl o10l → ∀ (ls : Array Slot), lv_has ls 5 [] → W p l e (headSpec (ws_ yX1_firstFreeWith cX1_firstFreeWith 5 (some .int)) rm_X1_firstFreeWith).room s m ([.ref (G 0), .int a1] : List Value).toArray below meth c s.heap [] 0 0 (MQ below (QR (some (.int res))) ([.ref (G 0), .int a1] : List Value).toArray s 0 0 FN) (F0 m 43 ls [])) → (∀ r9, o10 = .inr r9 → r9 = res) → ∀ (ls : Array Slot), lv_has ls 5 [(0, .ref (G 0)), (1, .int a1), (2, .long r1), (4, .int y4_8)] → W p l e (headSpec (ws_ yX1_firstFreeWith cX1_firstFreeWith 5 (some .int)) rm_X1_firstFreeWith).room s m ([.ref (G 0), .int a1] : List Value).toArray below meth c s.heap [] 0 0 (MQ below (QR (some (.int res))) ([.ref (G 0), .int a1] : List Value).toArray s 0 0 FN) (F0 m 8 ls []) := by
    intro n
    induction n with
    | zero => intro y4_8 o10 h; exact absurd h (fun z => by cases z)
    | succ n ih =>
      intro y4_8 o10 h hK8 hR8 ls hl
      replace h : f_X1_firstFreeWith_L8_b a1 μ r1 (f_X1_firstFreeWith_L8 a1 μ r1 n) y4_8 = some o10 := h
      unfold f_X1_firstFreeWith_L8_b at h
      refine lv_iload hx hb dX1_firstFreeWith_8 (lv_at hl 3 rfl) ?_
      refine lv_bipush (v := (64)) hx hb dX1_firstFreeWith_10 (by decide) ?_
      refine lv_icmp_ge (tgt := 43) hx hb dX1_firstFreeWith_12 (by decide) (fun hc => ?_) (fun hc => ?_)
      · have h := iteT hc h
        obtain rfl := Option.some.inj h
        exact hK8 _ rfl ls (lv_sub hl [] rfl)
      · have h := iteF hc h
        refine lv_lload_n hx hb dX1_firstFreeWith_15 rfl (lv_at hl 2 rfl) ?_
        refine lv_iload hx hb dX1_firstFreeWith_16 (lv_at hl 3 rfl) ?_
        obtain ⟨r11, er11, h⟩ := obind h
        refine call_R (va_runSN (As := [.long r1, .int y4_8]) (rest := []) ⟨hx, hb, hml, hown, hts⟩ (c_X4_holds l z0 D t r1 y4_8 _ er11) ⟨kN hts (hC.2.1 _ qw305) qw1 qw279 ok_X4_holds ⟨Nat.le_of_ble_eq_true rfl, Nat.le_of_ble_eq_true rfl⟩, hts _ qw278, trivial⟩ ⟨PR.blind, fun U hU hW => ⟨rfl, by rw [hU]; exact hC.warm hW, by rw [hU]; exact va_P_nil⟩⟩ rfl rfl hl.1 rfl (lv_room (Nat.le_of_ble_eq_true rfl)) dX1_firstFreeWith_18 ⟨Nat.le_of_ble_eq_true rfl, Nat.le_of_ble_eq_true rfl⟩) ?_
        refine lv_if_eq (tgt := 37) hx hb dX1_firstFreeWith_21 (by decide) (fun hc => ?_) (fun hc => ?_)
        · have h := iteT hc h
          obtain ⟨x12, ex12, h⟩ := jlet_some h
          refine lv_iinc (v := x12) (lv' := [(4, .int x12), (0, .ref (G 0)), (1, .int a1), (2, .long r1)]) hx hb dX1_firstFreeWith_37 hl (k := 3) rfl (by rw [ex12]; rfl) (by decide) rfl (fun ls hl => ?_)
          refine lv_goto (tgt := 8) hx hb dX1_firstFreeWith_40 (by decide) ?_
          exact ih _ _ h hK8 hR8 ls (lv_sub hl [1, 2, 3, 0] rfl)
        · have h := iteF hc h
          refine lv_aload_n hx hb dX1_firstFreeWith_24 rfl (lv_at hl 0 rfl) ?_
          refine lv_iload hx hb dX1_firstFreeWith_25 (lv_at hl 3 rfl) ?_
          obtain ⟨r13, er13, h⟩ := obind h
          refine call_R (va_runV (As := [.int y4_8]) (rest := []) ⟨hx, hb, hml, hown, hts⟩ (c_X1_coverCount l z0 D t G μ y4_8 _ er13) (kV hts qw306 qw307 qw308 qw7 qw309 ok_X1_coverCount ⟨Nat.le_of_ble_eq_true rfl, Nat.le_of_ble_eq_true rfl⟩) ⟨PR.blind, va_recv hK hP (ci := 2) (q0 := 0) rfl rfl, fun U hU hW => ⟨rfl, by rw [hU]; exact hC.warm hW, by rw [hU]; exact hP⟩⟩ rfl rfl hl.1 rfl (lv_room (Nat.le_of_ble_eq_true rfl)) dX1_firstFreeWith_27 ⟨Nat.le_of_ble_eq_true rfl, Nat.le_of_ble_eq_true rfl⟩) ?_
          refine lv_iload_n hx hb dX1_firstFreeWith_30 rfl (lv_at hl 1 rfl) ?_
          refine lv_icmp_ne (tgt := 37) hx hb dX1_firstFreeWith_31 (by decide) (fun hc => ?_) (fun hc => ?_)
          · have h := iteF hc h
            obtain ⟨x14, ex14, h⟩ := jlet_some h
            refine lv_iinc (v := x14) (lv' := [(4, .int x14), (0, .ref (G 0)), (1, .int a1), (2, .long r1)]) hx hb dX1_firstFreeWith_37 hl (k := 3) rfl (by rw [ex14]; rfl) (by decide) rfl (fun ls hl => ?_)
            refine lv_goto (tgt := 8) hx hb dX1_firstFreeWith_40 (by decide) ?_
            exact ih _ _ h hK8 hR8 ls (lv_sub hl [1, 2, 3, 0] rfl)
          · have h := iteT hc h
            refine lv_iload hx hb dX1_firstFreeWith_34 (lv_at hl 3 rfl) ?_
            have e9 := hR8 _ (Option.some.inj h).symm
            subst e9
            exact W.iret hx hb hr (fun t ht hW => ⟨rfl, ht⟩) (fun q hq => absurd hq List.not_mem_nil) dX1_firstFreeWith_36
  refine hL8 _ _ _ eo10 (fun o10l eq9 ls hl => ?_) (fun r9 eq9 => ?_) ls (lv_sub hl [2, 3, 1, 0] rfl)
  · subst eq9
    replace h := sumL h
    refine lv_iconst (v := (-1)) hx hb dX1_firstFreeWith_43 (by decide) ?_
    obtain rfl := Option.some.inj h
    exact W.iret hx hb hr (fun t ht hW => ⟨rfl, ht⟩) (fun q hq => absurd hq List.not_mem_nil) dX1_firstFreeWith_44
  · subst eq9
    replace h := sumR h
    exact Option.some.inj h

abbrev rm_X4_cellName : Room := { frames := 0, cells := 0, slots := 0, locals := 0 }
theorem ok_X4_cellName : okY yX4_cellName 1 := ⟨by decide +kernel, by decide +kernel, by decide +kernel⟩
set_option maxHeartbeats 4000000 in
set_option maxRecDepth 100000 in
theorem c_X4_cellName (l : Launch) (z0 : Nat) (D : va_G) (t : Nat → ClassId) (a1 : Int32) (res : Int32) (h : f_X4_cellName a1 = some res) : Met l yX4_cellName (ws_ yX4_cellName cX4_cellName 1 (some .int)) rm_X4_cellName (PR z0 D t [.int a1] []) (QR (some (.int res))) 0 0 FN := by
  refine Met.ofW (cc := cX4_cellName) (maxL := 1) (ret := (some .int)) (by decide) rfl ?_
  intro p e s m args below meth c s₁ Bo hml hv
  obtain ⟨rfl, hC, hP⟩ := hv
  have hx := Bo.exec
  have hb := Bo.bytes
  have hr := Bo.returns
  have hts : ∀ w ∈ LA, w.before _ s = true := fun w hw => atoms_spec (ws := ws_ yX4_cellName cX4_cellName 1 (some .int)) Bo.pre w (List.mem_cons_of_mem _ hw)
  have hown : s.vm.findClass RX4 = some m.cls := findClass_of_methodNamed Bo.named
  have hlocks := Bo.notSynchronized
  have hK := hC.1
  have hl := lv_entry ([.int a1]) (n := 1) (Nat.le_of_ble_eq_true rfl)
  rw [lg_entry_eq]
  generalize (lg_sl ([.int a1]) ++ List.replicate (1 - (lg_sl ([.int a1])).length) Slot.unset).toArray = ls at hl ⊢
  have hl : lv_has ls 1 [(0, .int a1)] := hl
  unfold f_X4_cellName at h
  refine lv_iload_n hx hb dX4_cellName_0 rfl (lv_at hl 0 rfl) ?_
  refine lv_bipush (v := (8)) hx hb dX4_cellName_1 (by decide) ?_
  refine lv_irem hx hb dX4_cellName_3 (by decide) ?_
  refine lv_bipush (v := (10)) hx hb dX4_cellName_4 (by decide) ?_
  refine lv_iload_n hx hb dX4_cellName_6 rfl (lv_at hl 0 rfl) ?_
  refine lv_bipush (v := (8)) hx hb dX4_cellName_7 (by decide) ?_
  refine lv_idiv hx hb dX4_cellName_9 (by decide) ?_
  refine lv_imul hx hb dX4_cellName_10 ?_
  refine lv_iadd hx hb dX4_cellName_11 ?_
  obtain rfl := Option.some.inj h
  exact W.iret hx hb hr (fun t ht hW => ⟨rfl, ht⟩) (fun q hq => absurd hq List.not_mem_nil) dX4_cellName_12

abbrev rm_X2_waysAround : Room := { frames := 0, cells := 0, slots := 0, locals := 0 }
theorem ok_X2_waysAround : okY yX2_waysAround 1 := ⟨by decide +kernel, by decide +kernel, by decide +kernel⟩
set_option maxHeartbeats 4000000 in
set_option maxRecDepth 100000 in
theorem c_X2_waysAround (l : Launch) (z0 : Nat) (D : va_G) (t : Nat → ClassId) (A : Nat → Nat) (u1 : Nat) (u2 : Nat) (B : Nat → Nat) (μ : VS) (a1 : Int32) (res : Int32) (h : f_X2_waysAround μ a1 = some res) : Met l yX2_waysAround (ws_ yX2_waysAround cX2_waysAround 4 (some .int)) rm_X2_waysAround (PR z0 D t [.ref (A 0), .int a1] (VW A u1 u2 B t μ)) (QR (some (.int res))) 0 0 FN := by
  refine Met.ofW (cc := cX2_waysAround) (maxL := 4) (ret := (some .int)) (by decide) rfl ?_
  intro p e s m args below meth c s₁ Bo hml hv
  obtain ⟨rfl, hC, hP⟩ := hv
  have hx := Bo.exec
  have hb := Bo.bytes
  have hr := Bo.returns
  have hts : ∀ w ∈ LA, w.before _ s = true := fun w hw => atoms_spec (ws := ws_ yX2_waysAround cX2_waysAround 4 (some .int)) Bo.pre w (List.mem_cons_of_mem _ hw)
  have hown : s.vm.findClass RX2 = some m.cls := findClass_of_methodNamed Bo.named
  have hlocks := Bo.notSynchronized
  have hK := hC.1
  have hl := lv_entry ([.ref (A 0), .int a1]) (n := 4) (Nat.le_of_ble_eq_true rfl)
  rw [lg_entry_eq]
  generalize (lg_sl ([.ref (A 0), .int a1]) ++ List.replicate (4 - (lg_sl ([.ref (A 0), .int a1])).length) Slot.unset).toArray = ls at hl ⊢
  have hl : lv_has ls 4 [(0, .ref (A 0)), (1, .int a1)] := hl
  unfold f_X2_waysAround at h
  refine lv_iconst (v := (0)) hx hb dX2_waysAround_0 (by decide) ?_
  refine lv_istore_n (lv' := [(2, .int (0 : Int32)), (0, .ref (A 0)), (1, .int a1)]) hx hb dX2_waysAround_1 rfl hl (by decide) rfl (fun ls hl => ?_)
  refine lv_iconst (v := (0)) hx hb dX2_waysAround_2 (by decide) ?_
  refine lv_istore_n (lv' := [(3, .int (0 : Int32)), (2, .int (0 : Int32)), (0, .ref (A 0)), (1, .int a1)]) hx hb dX2_waysAround_3 rfl hl (by decide) rfl (fun ls hl => ?_)
  obtain ⟨o11, eo11, h⟩ := obind h
  have hL4 : ∀ (n : Nat) (y2_4 : Int32) (y3_4 : Int32) (o11 : Int32), f_X2_waysAround_L4 a1 μ n y2_4 y3_4 = some o11 → (∀ (ls : Array Slot), lv_has ls 4 [(2, .int o11)] → W p l e (headSpec (ws_ yX2_waysAround cX2_waysAround 4 (some .int)) rm_X2_waysAround).room s m ([.ref (A 0), .int a1] : List Value).toArray below meth c s.heap [] 0 0 (MQ below (QR (some (.int res))) ([.ref (A 0), .int a1] : List Value).toArray s 0 0 FN) (F0 m 39 ls [])) → ∀ (ls : Array Slot), lv_has ls 4 [(0, .ref (A 0)), (1, .int a1), (2, .int y2_4), (3, .int y3_4)] → W p l e (headSpec (ws_ yX2_waysAround cX2_waysAround 4 (some .int)) rm_X2_waysAround).room s m ([.ref (A 0), .int a1] : List Value).toArray below meth c s.heap [] 0 0 (MQ below (QR (some (.int res))) ([.ref (A 0), .int a1] : List Value).toArray s 0 0 FN) (F0 m 4 ls []) := by
    intro n
    induction n with
    | zero => intro y2_4 y3_4 o11 h; exact absurd h (fun z => by cases z)
    | succ n ih =>
      intro y2_4 y3_4 o11 h hK4 ls hl
      replace h : f_X2_waysAround_L4_b a1 μ (f_X2_waysAround_L4 a1 μ n) y2_4 y3_4 = some o11 := h
      unfold f_X2_waysAround_L4_b at h
      refine lv_iload_n hx hb dX2_waysAround_4 rfl (lv_at hl 3 rfl) ?_
      refine lv_sipush (v := (512)) hx hb dX2_waysAround_5 (by decide) ?_
      refine lv_icmp_ge (tgt := 39) hx hb dX2_waysAround_8 (by decide) (fun hc => ?_) (fun hc => ?_)
      · have h := iteT hc h
        obtain rfl := Option.some.inj h
        exact hK4 ls (lv_sub hl [2] rfl)
      · have h := iteF hc h
        refine lv_iload_n hx hb dX2_waysAround_11 rfl (lv_at hl 2 rfl) ?_
        refine lv_aload_n hx hb dX2_waysAround_12 rfl (lv_at hl 0 rfl) ?_
        refine va_get hx hb hts inX2 hown hK hP 0 rfl rfl 2 (by decide) (hts _ qw87) (fun _ h9 => h9) rfl dX2_waysAround_13 ?_
        refine lv_iload_n hx hb dX2_waysAround_16 rfl (lv_at hl 3 rfl) ?_
        obtain ⟨v12, ev12, h⟩ := obind h
        refine k_iald hx hb hK hP 3 rfl ev12 dX2_waysAround_17 ?_
        refine lv_aload_n hx hb dX2_waysAround_18 rfl (lv_at hl 0 rfl) ?_
        refine va_get hx hb hts inX2 hown hK hP 0 rfl rfl 0 (by decide) (hts _ qw85) (fun _ h9 => h9) rfl dX2_waysAround_19 ?_
        refine lv_iload_n hx hb dX2_waysAround_22 rfl (lv_at hl 1 rfl) ?_
        refine lv_iconst (v := (1)) hx hb dX2_waysAround_23 (by decide) ?_
        refine lv_iadd hx hb dX2_waysAround_24 ?_
        obtain ⟨k13, ek13, h⟩ := obind h
        refine k_aaldR hx hb hK hP 2 rfl ek13 dX2_waysAround_25 ?_
        refine lv_iload_n hx hb dX2_waysAround_26 rfl (lv_at hl 3 rfl) ?_
        refine lv_iconst (v := (1)) hx hb dX2_waysAround_27 (by decide) ?_
        refine lv_ishr hx hb dX2_waysAround_28 ?_
        obtain ⟨v14, ev14, h⟩ := obind h
        refine k_iald hx hb hK hP (5 + k13) (row_V (jix_lt ek13)) ev14 dX2_waysAround_29 ?_
        refine lv_imul hx hb dX2_waysAround_30 ?_
        refine lv_iadd hx hb dX2_waysAround_31 ?_
        obtain ⟨x15, ex15, h⟩ := jlet_some h
        refine topI ex15 ?_
        refine lv_istore_n (lv' := [(2, .int x15), (0, .ref (A 0)), (1, .int a1), (3, .int y3_4)]) hx hb dX2_waysAround_32 rfl hl (by decide) rfl (fun ls hl => ?_)
        obtain ⟨x16, ex16, h⟩ := jlet_some h
        refine lv_iinc (v := x16) (lv' := [(3, .int x16), (2, .int x15), (0, .ref (A 0)), (1, .int a1)]) hx hb dX2_waysAround_33 hl (k := 3) rfl (by rw [ex16]; rfl) (by decide) rfl (fun ls hl => ?_)
        refine lv_goto (tgt := 4) hx hb dX2_waysAround_36 (by decide) ?_
        exact ih _ _ _ h hK4 ls (lv_sub hl [2, 3, 1, 0] rfl)
  refine hL4 _ _ _ _ eo11 (fun ls hl => ?_) ls (lv_sub hl [2, 3, 1, 0] rfl)
  refine lv_iload_n hx hb dX2_waysAround_39 rfl (lv_at hl 0 rfl) ?_
  obtain rfl := Option.some.inj h
  exact W.iret hx hb hr (fun t ht hW => ⟨rfl, ht⟩) (fun q hq => absurd hq List.not_mem_nil) dX2_waysAround_40

abbrev rm_X2_reachByTurns : Room := { frames := 1, cells := 0, slots := 0, locals := 22 }
theorem ok_X2_reachByTurns : okY yX2_reachByTurns 1 := ⟨by decide +kernel, by decide +kernel, by decide +kernel⟩
set_option maxHeartbeats 4000000 in
set_option maxRecDepth 100000 in
theorem c_X2_reachByTurns (l : Launch) (z0 : Nat) (D : va_G) (t : Nat → ClassId) (A : Nat → Nat) (u1 : Nat) (u2 : Nat) (μ : PRS) (a1 : Int32) (res : (Nat → Int32)) (sz : Nat) (h : f_X2_reachByTurns μ a1 = some res) : Met l yX2_reachByTurns (ws_ yX2_reachByTurns cX2_reachByTurns 3 none) rm_X2_reachByTurns (PM z0 D t [.ref (A 0), .int a1] (PRW A u1 u2 t μ) (PRL A u1 u2) sz) (QM none D (PRW A u1 u2 t (pr_rnext' μ res)) (PRL A u1 u2) sz) 0 0 (OA (PRL A u1 u2) sz) := by
  refine Met.ofW (cc := cX2_reachByTurns) (maxL := 3) (ret := none) (by decide) rfl ?_
  intro p e s m args below meth c s₁ Bo hml hv
  obtain ⟨rfl, hC, hsz, hP, hD, hZ⟩ := hv
  have hx := Bo.exec
  have hb := Bo.bytes
  have hr := Bo.returns
  have hts : ∀ w ∈ LA, w.before _ s = true := fun w hw => atoms_spec (ws := ws_ yX2_reachByTurns cX2_reachByTurns 3 none) Bo.pre w (List.mem_cons_of_mem _ hw)
  have hown : s.vm.findClass RX2 = some m.cls := findClass_of_methodNamed Bo.named
  have hlocks := Bo.notSynchronized
  have hK := hC.1
  subst hsz
  have hl := lv_entry ([.ref (A 0), .int a1]) (n := 3) (Nat.le_of_ble_eq_true rfl)
  rw [lg_entry_eq]
  generalize (lg_sl ([.ref (A 0), .int a1]) ++ List.replicate (3 - (lg_sl ([.ref (A 0), .int a1])).length) Slot.unset).toArray = ls at hl ⊢
  have hl : lv_has ls 3 [(0, .ref (A 0)), (1, .int a1)] := hl
  suffices K9 : ∀ (H : Heap) (locs : List Loc), va_P D vwCl (PRW A u1 u2 t μ) H → va_S (OA (PRL A u1 u2) s.heap.size) s.heap H locs → W p l e (headSpec (ws_ yX2_reachByTurns cX2_reachByTurns 3 none) rm_X2_reachByTurns).room s m ([.ref (A 0), .int a1] : List Value).toArray below meth c H locs 0 0 (MQ below (QM none D (PRW A u1 u2 t (pr_rnext' μ res)) (PRL A u1 u2) s.heap.size) ([.ref (A 0), .int a1] : List Value).toArray s 0 0 (OA (PRL A u1 u2) s.heap.size)) (F0 m 0 ls []) from K9 s.heap [] hP va_S.rf
  intro H locs hP hS
  have hSz : s.heap.size ≤ H.size := hS.1
  unfold f_X2_reachByTurns at h
  refine lv_iconst (v := (0)) hx hb dX2_reachByTurns_0 (by decide) ?_
  refine lv_istore_n (lv' := [(2, .int (0 : Int32)), (0, .ref (A 0)), (1, .int a1)]) hx hb dX2_reachByTurns_1 rfl hl (by decide) rfl (fun ls hl => ?_)
  obtain ⟨o25, eo25, h⟩ := obind h
  have hL2 : ∀ (n : Nat) (y2_2 : Int32) (rnext_2 : Nat → Int32) (o25 : (Nat → Int32)), f_X2_reachByTurns_L2 a1 μ n y2_2 rnext_2 = some o25 → (∀ (ls : Array Slot) (H : Heap) (locs : List Loc), lv_has ls 3 [] → va_P D vwCl (PRW A u1 u2 t (pr_rnext' μ o25)) H → va_D (OA (PRL A u1 u2) s.heap.size) (PRW A u1 u2 t (pr_rnext' μ o25)) → va_S (OA (PRL A u1 u2) s.heap.size) s.heap H locs → W p l e (headSpec (ws_ yX2_reachByTurns cX2_reachByTurns 3 none) rm_X2_reachByTurns).room s m ([.ref (A 0), .int a1] : List Value).toArray below meth c H locs 0 0 (MQ below (QM none D (PRW A u1 u2 t (pr_rnext' μ res)) (PRL A u1 u2) s.heap.size) ([.ref (A 0), .int a1] : List Value).toArray s 0 0 (OA (PRL A u1 u2) s.heap.size)) (F0 m 51 ls [])) → ∀ (ls : Array Slot) (H : Heap) (locs : List Loc), lv_has ls 3 [(0, .ref (A 0)), (1, .int a1), (2, .int y2_2)] → va_P D vwCl (PRW A u1 u2 t (pr_rnext' μ rnext_2)) H → va_D (OA (PRL A u1 u2) s.heap.size) (PRW A u1 u2 t (pr_rnext' μ rnext_2)) → va_S (OA (PRL A u1 u2) s.heap.size) s.heap H locs → W p l e (headSpec (ws_ yX2_reachByTurns cX2_reachByTurns 3 none) rm_X2_reachByTurns).room s m ([.ref (A 0), .int a1] : List Value).toArray below meth c H locs 0 0 (MQ below (QM none D (PRW A u1 u2 t (pr_rnext' μ res)) (PRL A u1 u2) s.heap.size) ([.ref (A 0), .int a1] : List Value).toArray s 0 0 (OA (PRL A u1 u2) s.heap.size)) (F0 m 2 ls []) := by
    intro n
    induction n with
    | zero => intro y2_2 rnext_2 o25 h; exact absurd h (fun z => by cases z)
    | succ n ih =>
      intro y2_2 rnext_2 o25 h hK2 ls H locs hl hP hD hS
      replace h : f_X2_reachByTurns_L2_b a1 μ (f_X2_reachByTurns_L2 a1 μ n) y2_2 rnext_2 = some o25 := h
      unfold f_X2_reachByTurns_L2_b at h
      have hSz : s.heap.size ≤ H.size := hS.1
      refine lv_aload_n hx hb dX2_reachByTurns_2 rfl (lv_at hl 0 rfl) ?_
      refine va_get hx hb hts inX2 hown hK hP 0 rfl rfl 2 (by decide) (hts _ qw87) (fun _ h9 => h9) rfl dX2_reachByTurns_3 ?_
      refine lv_iload_n hx hb dX2_reachByTurns_6 rfl (lv_at hl 1 rfl) ?_
      obtain ⟨v26, ev26, h⟩ := obind h
      refine k_iald hx hb hK hP 2 rfl ev26 dX2_reachByTurns_7 ?_
      refine lv_if_eq (tgt := 51) hx hb dX2_reachByTurns_8 (by decide) (fun hc => ?_) (fun hc => ?_)
      · have h := iteT hc h
        obtain rfl := Option.some.inj h
        exact hK2 ls H locs (lv_sub hl [] rfl) hP hD hS
      · have h := iteF hc h
        refine lv_iload_n hx hb dX2_reachByTurns_11 rfl (lv_at hl 2 rfl) ?_
        refine lv_iconst (v := (4)) hx hb dX2_reachByTurns_12 (by decide) ?_
        refine lv_icmp_ge (tgt := 51) hx hb dX2_reachByTurns_13 (by decide) (fun hc => ?_) (fun hc => ?_)
        · have h := iteT hc h
          obtain rfl := Option.some.inj h
          exact hK2 ls H locs (lv_sub hl [] rfl) hP hD hS
        · have h := iteF hc h
          refine lv_aload_n hx hb dX2_reachByTurns_16 rfl (lv_at hl 0 rfl) ?_
          refine lv_iload_n hx hb dX2_reachByTurns_17 rfl (lv_at hl 2 rfl) ?_
          refine lv_iload_n hx hb dX2_reachByTurns_18 rfl (lv_at hl 1 rfl) ?_
          obtain ⟨r27, er27, h⟩ := obind h
          refine call_R (va_runV (As := [.int y2_2, .int a1]) (rest := []) ⟨hx, hb, hml, hown, hts⟩ (c_X2_isOpen l z0 D t A u1 u2 (pr_takes μ) y2_2 a1 _ er27) (kV hts qw288 qw290 qs6 qw6 qw291 ok_X2_isOpen ⟨Nat.le_of_ble_eq_true rfl, Nat.le_of_ble_eq_true rfl⟩) ⟨PR.blind, va_recv hK (sub_PR_P (μ := pr_rnext' μ rnext_2) hP) (ci := 3) (q0 := 0) rfl rfl, fun U hU hW => ⟨rfl, by rw [hU]; exact (hC.at hS hZ).warm hW, by rw [hU]; exact (sub_PR_P (μ := pr_rnext' μ rnext_2) hP)⟩⟩ rfl rfl hl.1 rfl (lv_room (Nat.le_of_ble_eq_true rfl)) dX2_reachByTurns_19 ⟨Nat.le_of_ble_eq_true rfl, Nat.le_of_ble_eq_true rfl⟩) ?_
          obtain ⟨o32, eo32, h⟩ := obind h
          have hJ45_o32 : ∀ (ls : Array Slot) (H : Heap) (locs : List Loc), lv_has ls 3 [(0, .ref (A 0)), (1, .int a1), (2, .int y2_2)] → va_P D vwCl (PRW A u1 u2 t (pr_rnext' μ o32)) H → va_D (OA (PRL A u1 u2) s.heap.size) (PRW A u1 u2 t (pr_rnext' μ o32)) → va_S (OA (PRL A u1 u2) s.heap.size) s.heap H locs → W p l e (headSpec (ws_ yX2_reachByTurns cX2_reachByTurns 3 none) rm_X2_reachByTurns).room s m ([.ref (A 0), .int a1] : List Value).toArray below meth c H locs 0 0 (MQ below (QM none D (PRW A u1 u2 t (pr_rnext' μ res)) (PRL A u1 u2) s.heap.size) ([.ref (A 0), .int a1] : List Value).toArray s 0 0 (OA (PRL A u1 u2) s.heap.size)) (F0 m 45 ls []) := by
            intro ls H locs hl hP hD hS
            have hSz : s.heap.size ≤ H.size := hS.1
            obtain ⟨x37, ex37, h⟩ := jlet_some h
            refine lv_iinc (v := x37) (lv' := [(2, .int x37), (0, .ref (A 0)), (1, .int a1)]) hx hb dX2_reachByTurns_45 hl (k := 2) rfl (by rw [ex37]; rfl) (by decide) rfl (fun ls hl => ?_)
            refine lv_goto (tgt := 2) hx hb dX2_reachByTurns_48 (by decide) ?_
            exact ih _ _ _ h hK2 ls H locs (lv_sub hl [1, 2, 0] rfl) hP hD hS
          have h := eo32
          clear eo32
          refine lv_if_eq (tgt := 45) hx hb dX2_reachByTurns_22 (by decide) (fun hc => ?_) (fun hc => ?_)
          · have h := iteT hc h
            obtain rfl := Option.some.inj h
            exact hJ45_o32 ls H locs (lv_sub hl [0, 1, 2] rfl) hP hD hS
          · have h := iteF hc h
            refine lv_aload_n hx hb dX2_reachByTurns_25 rfl (lv_at hl 0 rfl) ?_
            refine va_get hx hb hts inX2 hown hK hP 0 rfl rfl 3 (by decide) (hts _ qw88) (fun _ h9 => h9) rfl dX2_reachByTurns_26 ?_
            refine lv_aload_n hx hb dX2_reachByTurns_29 rfl (lv_at hl 0 rfl) ?_
            refine lv_iload_n hx hb dX2_reachByTurns_30 rfl (lv_at hl 2 rfl) ?_
            refine lv_iload_n hx hb dX2_reachByTurns_31 rfl (lv_at hl 1 rfl) ?_
            obtain ⟨r33, er33, h⟩ := obind h
            refine call_R (va_runV (As := [.int y2_2, .int a1]) (rest := [.ref u2]) ⟨hx, hb, hml, hown, hts⟩ (c_X2_windowAfter l z0 D t A u1 u2 (pr_takes μ) y2_2 a1 _ er33) (kV hts qw292 qw294 qs7 qw6 qw295 ok_X2_windowAfter ⟨Nat.le_of_ble_eq_true rfl, Nat.le_of_ble_eq_true rfl⟩) ⟨PR.blind, va_recv hK (sub_PR_P (μ := pr_rnext' μ rnext_2) hP) (ci := 3) (q0 := 0) rfl rfl, fun U hU hW => ⟨rfl, by rw [hU]; exact (hC.at hS hZ).warm hW, by rw [hU]; exact (sub_PR_P (μ := pr_rnext' μ rnext_2) hP)⟩⟩ rfl rfl hl.1 rfl (lv_room (Nat.le_of_ble_eq_true rfl)) dX2_reachByTurns_32 ⟨Nat.le_of_ble_eq_true rfl, Nat.le_of_ble_eq_true rfl⟩) ?_
            refine lv_dup2_11 hx hb dX2_reachByTurns_35 rfl rfl ?_
            obtain ⟨v34, ev34, h⟩ := obind h
            refine k_iald hx hb hK hP 3 rfl ev34 dX2_reachByTurns_36 ?_
            refine lv_aload_n hx hb dX2_reachByTurns_37 rfl (lv_at hl 0 rfl) ?_
            refine va_get hx hb hts inX2 hown hK hP 0 rfl rfl 2 (by decide) (hts _ qw87) (fun _ h9 => h9) rfl dX2_reachByTurns_38 ?_
            refine lv_iload_n hx hb dX2_reachByTurns_41 rfl (lv_at hl 1 rfl) ?_
            obtain ⟨v35, ev35, h⟩ := obind h
            refine k_iald hx hb hK hP 2 rfl ev35 dX2_reachByTurns_42 ?_
            refine lv_iadd hx hb dX2_reachByTurns_43 ?_
            obtain ⟨f36, ef36, h⟩ := obind h
            refine k_iast (ws' := (PRW A u1 u2 t (pr_rnext' μ f36))) hx hb hK hP hD hS 3 rfl ef36 rfl dX2_reachByTurns_44 (fun H locs hP hD hS => ?_)
            have hSz : s.heap.size ≤ H.size := hS.1
            obtain rfl := Option.some.inj h
            exact hJ45_o32 ls H locs (lv_sub hl [0, 1, 2] rfl) hP hD hS
  refine hL2 _ _ _ _ eo25 (fun ls H locs hl hP hD hS => ?_) ls H locs (lv_sub hl [1, 2, 0] rfl) hP hD hS
  have hSz : s.heap.size ≤ H.size := hS.1
  obtain rfl := Option.some.inj h
  exact W.vret hx hb hr (fun t ht hW => ⟨rfl, by rw [ht]; exact hP, hD, hS.F ht⟩) hS.2.2 dX2_reachByTurns_51

abbrev rm_X2_reachNext : Room := { frames := 2, cells := 0, slots := 0, locals := 67 }
theorem ok_X2_reachNext : okY yX2_reachNext 2 := ⟨by decide +kernel, by decide +kernel, by decide +kernel⟩
set_option maxHeartbeats 4000000 in
set_option maxRecDepth 100000 in
theorem c_X2_reachNext (l : Launch) (z0 : Nat) (D : va_G) (t : Nat → ClassId) (A : Nat → Nat) (u1 : Nat) (u2 : Nat) (B : Nat → Nat) (μ : VS) (a1 : Int64) (a2 : Int32) (res : (Nat → Int32) × (Nat → Int32) × (Nat → Int32)) (sz : Nat) (h : f_X2_reachNext μ a1 a2 = some res) : Met l yX2_reachNext (ws_ yX2_reachNext cX2_reachNext 6 none) rm_X2_reachNext (PM z0 D t [.ref (A 0), .long a1, .int a2] (VW A u1 u2 B t μ) (VL A u1 u2 B) sz) (QM none D (VW A u2 u1 B t (v_rnext' (v_reached' (v_takes' μ res.1) res.2.1) res.2.2)) (VL A u1 u2 B) sz) 0 0 (OA (VL A u1 u2 B) sz) := by
  refine Met.ofW (cc := cX2_reachNext) (maxL := 6) (ret := none) (by decide) rfl ?_
  intro p e s m args below meth c s₁ Bo hml hv
  obtain ⟨rfl, hC, hsz, hP, hD, hZ⟩ := hv
  have hx := Bo.exec
  have hb := Bo.bytes
  have hr := Bo.returns
  have hts : ∀ w ∈ LA, w.before _ s = true := fun w hw => atoms_spec (ws := ws_ yX2_reachNext cX2_reachNext 6 none) Bo.pre w (List.mem_cons_of_mem _ hw)
  have hown : s.vm.findClass RX2 = some m.cls := findClass_of_methodNamed Bo.named
  have hlocks := Bo.notSynchronized
  have hK := hC.1
  subst hsz
  have hl := lv_entry ([.ref (A 0), .long a1, .int a2]) (n := 6) (Nat.le_of_ble_eq_true rfl)
  rw [lg_entry_eq]
  generalize (lg_sl ([.ref (A 0), .long a1, .int a2]) ++ List.replicate (6 - (lg_sl ([.ref (A 0), .long a1, .int a2])).length) Slot.unset).toArray = ls at hl ⊢
  have hl : lv_has ls 6 [(0, .ref (A 0)), (1, .long a1), (3, .int a2)] := hl
  suffices K9 : ∀ (H : Heap) (locs : List Loc), va_P D vwCl (VW A u1 u2 B t μ) H → va_S (OA (VL A u1 u2 B) s.heap.size) s.heap H locs → W p l e (headSpec (ws_ yX2_reachNext cX2_reachNext 6 none) rm_X2_reachNext).room s m ([.ref (A 0), .long a1, .int a2] : List Value).toArray below meth c H locs 0 0 (MQ below (QM none D (VW A u2 u1 B t (v_rnext' (v_reached' (v_takes' μ res.1) res.2.1) res.2.2)) (VL A u1 u2 B) s.heap.size) ([.ref (A 0), .long a1, .int a2] : List Value).toArray s 0 0 (OA (VL A u1 u2 B) s.heap.size)) (F0 m 0 ls []) from K9 s.heap [] hP va_S.rf
  intro H locs hP hS
  have hSz : s.heap.size ≤ H.size := hS.1
  unfold f_X2_reachNext at h
  refine lv_lload_n hx hb dX2_reachNext_0 rfl (lv_at hl 1 rfl) ?_
  refine lv_iload_n hx hb dX2_reachNext_1 rfl (lv_at hl 2 rfl) ?_
  obtain ⟨r1, er1, h⟩ := obind h
  refine call_R (va_runSN (As := [.long a1, .int a2]) (rest := []) ⟨hx, hb, hml, hown, hts⟩ (c_X4_holds l z0 D t a1 a2 _ er1) ⟨kN hts (hC.2.1 _ qw277) qw1 qw279 ok_X4_holds ⟨Nat.le_of_ble_eq_true rfl, Nat.le_of_ble_eq_true rfl⟩, hts _ qw278, trivial⟩ ⟨PR.blind, fun U hU hW => ⟨rfl, by rw [hU]; exact (hC.at hS hZ).warm hW, by rw [hU]; exact va_P_nil⟩⟩ rfl rfl hl.1 rfl (lv_room (Nat.le_of_ble_eq_true rfl)) dX2_reachNext_2 ⟨Nat.le_of_ble_eq_true rfl, Nat.le_of_ble_eq_true rfl⟩) ?_
  refine lv_istore (lv' := [(4, .int r1), (0, .ref (A 0)), (1, .long a1), (3, .int a2)]) hx hb dX2_reachNext_5 hl (by decide) rfl (fun ls hl => ?_)
  refine lv_aload_n hx hb dX2_reachNext_7 rfl (lv_at hl 1 rfl) ?_
  refine lv_lload_n hx hb dX2_reachNext_8 rfl (lv_at hl 2 rfl) ?_
  refine lv_iload_n hx hb dX2_reachNext_9 rfl (lv_at hl 3 rfl) ?_
  obtain ⟨r2, er2, h⟩ := obind h
  refine call_M (va_runV (As := [.long a1, .int a2]) (rest := []) ⟨hx, hb, hml, hown, hts⟩ (c_X2_findTakes l z0 D t A u1 u2 (v_takes μ) a1 a2 _ H.size er2) (kV hts qw264 qw266 qs3 qw6 qw267 ok_X2_findTakes ⟨Nat.le_of_ble_eq_true rfl, Nat.le_of_ble_eq_true rfl⟩) ⟨PM.blind, va_recv hK (sub_V_P (μ := μ) hP) (ci := 3) (q0 := 0) rfl rfl, fun U hU hW => ⟨rfl, by rw [hU]; exact (hC.at hS hZ).warm hW, by rw [hU], by rw [hU]; exact (sub_V_P (μ := μ) hP), ⟨(subD_V_P (μ := μ) hD).1, fun _ _ h9 => Or.inl (in_map (L := (PL A u1 u2)) rfl h9)⟩, fun q hq => hZ q (OA.ofD (subD_V_P (μ := μ) hD) rfl hSz q hq)⟩⟩ rfl rfl hl.1 rfl (lv_room (Nat.le_of_ble_eq_true rfl)) dX2_reachNext_10 ⟨Nat.le_of_ble_eq_true rfl, Nat.le_of_ble_eq_true rfl⟩) hS (OA.ofD (subD_V_P (μ := μ) hD) rfl hSz) (fun H locs hP1 hD1 hS _ hk1 => ?_)
  obtain ⟨hP, hD⟩ := back_V_P (μ := μ) hP hD hk1 hP1
  have hP : va_P D vwCl (VW A u1 u2 B t (v_takes' μ r2)) H := hP
  have hD : va_D (OA (VL A u1 u2 B) s.heap.size) (VW A u1 u2 B t (v_takes' μ r2)) := hD
  have hSz : s.heap.size ≤ H.size := hS.1
  refine lv_aload_n hx hb dX2_reachNext_13 rfl (lv_at hl 1 rfl) ?_
  refine va_get hx hb hts inX2 hown hK hP 0 rfl rfl 3 (by decide) (hts _ qw88) (fun _ h9 => h9) rfl dX2_reachNext_14 ?_
  refine lv_iconst (v := (0)) hx hb dX2_reachNext_17 (by decide) ?_
  obtain ⟨r3, er3, h⟩ := obind h
  refine call_M (va_runS (As := [.ref u2, .int (0 : Int32)]) (rest := []) ⟨hx, hb, hml, hown, hts⟩ (c_J7_fill_53178 l z0 D t u2 (v_rnext μ) (0 : Int32) _ H.size er3) (kS hts qw261 qw262 qw18 qw263 ok_J7_fill_53178 ⟨Nat.le_of_ble_eq_true rfl, Nat.le_of_ble_eq_true rfl⟩) ⟨PM.blind, fun U hU hW => ⟨rfl, by rw [hU]; exact (hC.at hS hZ).warm hW, by rw [hU], by rw [hU]; exact (sub_V_F_4 (μ := v_takes' μ r2) hP), ⟨(subD_V_F_4 (μ := v_takes' μ r2) hD).1, fun _ _ h9 => Or.inl (in_map (L := (FL u2)) rfl h9)⟩, fun q hq => hZ q (OA.ofD (subD_V_F_4 (μ := v_takes' μ r2) hD) rfl hSz q hq)⟩⟩ rfl rfl hl.1 rfl (lv_room (Nat.le_of_ble_eq_true rfl)) dX2_reachNext_18 ⟨Nat.le_of_ble_eq_true rfl, Nat.le_of_ble_eq_true rfl⟩) hS (OA.ofD (subD_V_F_4 (μ := v_takes' μ r2) hD) rfl hSz) (fun H locs hP1 hD1 hS _ hk1 => ?_)
  obtain ⟨hP, hD⟩ := back_V_F_4 (μ := v_takes' μ r2) hP hD hk1 hP1
  have hP : va_P D vwCl (VW A u1 u2 B t (v_rnext' (v_takes' μ r2) r3)) H := hP
  have hD : va_D (OA (VL A u1 u2 B) s.heap.size) (VW A u1 u2 B t (v_rnext' (v_takes' μ r2) r3)) := hD
  have hSz : s.heap.size ≤ H.size := hS.1
  refine lv_iconst (v := (0)) hx hb dX2_reachNext_21 (by decide) ?_
  refine lv_istore (lv' := [(5, .int (0 : Int32)), (4, .int r1), (0, .ref (A 0)), (1, .long a1), (3, .int a2)]) hx hb dX2_reachNext_22 hl (by decide) rfl (fun ls hl => ?_)
  obtain ⟨o36, eo36, h⟩ := obind h
  have hL24 : ∀ (n : Nat) (y5_24 : Int32) (rnext_24 : Nat → Int32) (o36 : (Nat → Int32)), f_X2_reachNext_L24 μ r1 r2 n y5_24 rnext_24 = some o36 → (∀ (ls : Array Slot) (H : Heap) (locs : List Loc), lv_has ls 6 [(0, .ref (A 0))] → va_P D vwCl (VW A u1 u2 B t (v_rnext' (v_takes' μ r2) o36)) H → va_D (OA (VL A u1 u2 B) s.heap.size) (VW A u1 u2 B t (v_rnext' (v_takes' μ r2) o36)) → va_S (OA (VL A u1 u2 B) s.heap.size) s.heap H locs → W p l e (headSpec (ws_ yX2_reachNext cX2_reachNext 6 none) rm_X2_reachNext).room s m ([.ref (A 0), .long a1, .int a2] : List Value).toArray below meth c H locs 0 0 (MQ below (QM none D (VW A u2 u1 B t (v_rnext' (v_reached' (v_takes' μ res.1) res.2.1) res.2.2)) (VL A u1 u2 B) s.heap.size) ([.ref (A 0), .long a1, .int a2] : List Value).toArray s 0 0 (OA (VL A u1 u2 B) s.heap.size)) (F0 m 78 ls [])) → ∀ (ls : Array Slot) (H : Heap) (locs : List Loc), lv_has ls 6 [(0, .ref (A 0)), (4, .int r1), (5, .int y5_24)] → va_P D vwCl (VW A u1 u2 B t (v_rnext' (v_takes' μ r2) rnext_24)) H → va_D (OA (VL A u1 u2 B) s.heap.size) (VW A u1 u2 B t (v_rnext' (v_takes' μ r2) rnext_24)) → va_S (OA (VL A u1 u2 B) s.heap.size) s.heap H locs → W p l e (headSpec (ws_ yX2_reachNext cX2_reachNext 6 none) rm_X2_reachNext).room s m ([.ref (A 0), .long a1, .int a2] : List Value).toArray below meth c H locs 0 0 (MQ below (QM none D (VW A u2 u1 B t (v_rnext' (v_reached' (v_takes' μ res.1) res.2.1) res.2.2)) (VL A u1 u2 B) s.heap.size) ([.ref (A 0), .long a1, .int a2] : List Value).toArray s 0 0 (OA (VL A u1 u2 B) s.heap.size)) (F0 m 24 ls []) := by
    intro n
    induction n with
    | zero => intro y5_24 rnext_24 o36 h; exact absurd h (fun z => by cases z)
    | succ n ih =>
      intro y5_24 rnext_24 o36 h hK24 ls H locs hl hP hD hS
      replace h : f_X2_reachNext_L24_b μ r1 r2 (f_X2_reachNext_L24 μ r1 r2 n) y5_24 rnext_24 = some o36 := h
      unfold f_X2_reachNext_L24_b at h
      have hSz : s.heap.size ≤ H.size := hS.1
      refine lv_iload hx hb dX2_reachNext_24 (lv_at hl 2 rfl) ?_
      refine lv_sipush (v := (512)) hx hb dX2_reachNext_26 (by decide) ?_
      refine lv_icmp_ge (tgt := 78) hx hb dX2_reachNext_29 (by decide) (fun hc => ?_) (fun hc => ?_)
      · have h := iteT hc h
        obtain rfl := Option.some.inj h
        exact hK24 ls H locs (lv_sub hl [0] rfl) hP hD hS
      · have h := iteF hc h
        refine lv_iload hx hb dX2_reachNext_32 (lv_at hl 1 rfl) ?_
        obtain ⟨o44, eo44, h⟩ := obind h
        have hJ72_o44 : ∀ (ls : Array Slot) (H : Heap) (locs : List Loc), lv_has ls 6 [(0, .ref (A 0)), (4, .int r1), (5, .int y5_24)] → va_P D vwCl (VW A u1 u2 B t (v_rnext' (v_takes' μ r2) o44)) H → va_D (OA (VL A u1 u2 B) s.heap.size) (VW A u1 u2 B t (v_rnext' (v_takes' μ r2) o44)) → va_S (OA (VL A u1 u2 B) s.heap.size) s.heap H locs → W p l e (headSpec (ws_ yX2_reachNext cX2_reachNext 6 none) rm_X2_reachNext).room s m ([.ref (A 0), .long a1, .int a2] : List Value).toArray below meth c H locs 0 0 (MQ below (QM none D (VW A u2 u1 B t (v_rnext' (v_reached' (v_takes' μ res.1) res.2.1) res.2.2)) (VL A u1 u2 B) s.heap.size) ([.ref (A 0), .long a1, .int a2] : List Value).toArray s 0 0 (OA (VL A u1 u2 B) s.heap.size)) (F0 m 72 ls []) := by
          intro ls H locs hl hP hD hS
          have hSz : s.heap.size ≤ H.size := hS.1
          obtain ⟨x52, ex52, h⟩ := jlet_some h
          refine lv_iinc (v := x52) (lv' := [(5, .int x52), (0, .ref (A 0)), (4, .int r1)]) hx hb dX2_reachNext_72 hl (k := 2) rfl (by rw [ex52]; rfl) (by decide) rfl (fun ls hl => ?_)
          refine lv_goto (tgt := 24) hx hb dX2_reachNext_75 (by decide) ?_
          exact ih _ _ _ h hK24 ls H locs (lv_sub hl [1, 2, 0] rfl) hP hD hS
        have h := eo44
        clear eo44
        refine lv_if_eq (tgt := 53) hx hb dX2_reachNext_34 (by decide) (fun hc => ?_) (fun hc => ?_)
        · have h := iteT hc h
          refine lv_aload_n hx hb dX2_reachNext_53 rfl (lv_at hl 0 rfl) ?_
          refine va_get hx hb hts inX2 hown hK hP 0 rfl rfl 3 (by decide) (hts _ qw88) (fun _ h9 => h9) rfl dX2_reachNext_54 ?_
          refine lv_iload hx hb dX2_reachNext_57 (lv_at hl 2 rfl) ?_
          refine lv_iconst (v := (1)) hx hb dX2_reachNext_59 (by decide) ?_
          refine lv_ishr hx hb dX2_reachNext_60 ?_
          refine lv_dup2_11 hx hb dX2_reachNext_61 rfl rfl ?_
          obtain ⟨v45, ev45, h⟩ := obind h
          refine k_iald hx hb hK hP 4 rfl ev45 dX2_reachNext_62 ?_
          refine lv_aload_n hx hb dX2_reachNext_63 rfl (lv_at hl 0 rfl) ?_
          refine va_get hx hb hts inX2 hown hK hP 0 rfl rfl 2 (by decide) (hts _ qw87) (fun _ h9 => h9) rfl dX2_reachNext_64 ?_
          refine lv_iload hx hb dX2_reachNext_67 (lv_at hl 2 rfl) ?_
          obtain ⟨v46, ev46, h⟩ := obind h
          refine k_iald hx hb hK hP 3 rfl ev46 dX2_reachNext_69 ?_
          refine lv_iadd hx hb dX2_reachNext_70 ?_
          obtain ⟨f47, ef47, h⟩ := obind h
          refine k_iast (ws' := (VW A u1 u2 B t (v_rnext' (v_takes' μ r2) f47))) hx hb hK hP hD hS 4 rfl ef47 rfl dX2_reachNext_71 (fun H locs hP hD hS => ?_)
          have hSz : s.heap.size ≤ H.size := hS.1
          obtain rfl := Option.some.inj h
          exact hJ72_o44 ls H locs (lv_sub hl [0, 1, 2] rfl) hP hD hS
        · have h := iteF hc h
          refine lv_iload hx hb dX2_reachNext_37 (lv_at hl 2 rfl) ?_
          refine lv_iconst (v := (1)) hx hb dX2_reachNext_39 (by decide) ?_
          refine lv_iand hx hb dX2_reachNext_40 ?_
          refine lv_if_ne (tgt := 53) hx hb dX2_reachNext_41 (by decide) (fun hc => ?_) (fun hc => ?_)
          · have h := iteF hc h
            refine lv_aload_n hx hb dX2_reachNext_53 rfl (lv_at hl 0 rfl) ?_
            refine va_get hx hb hts inX2 hown hK hP 0 rfl rfl 3 (by decide) (hts _ qw88) (fun _ h9 => h9) rfl dX2_reachNext_54 ?_
            refine lv_iload hx hb dX2_reachNext_57 (lv_at hl 2 rfl) ?_
            refine lv_iconst (v := (1)) hx hb dX2_reachNext_59 (by decide) ?_
            refine lv_ishr hx hb dX2_reachNext_60 ?_
            refine lv_dup2_11 hx hb dX2_reachNext_61 rfl rfl ?_
            obtain ⟨v48, ev48, h⟩ := obind h
            refine k_iald hx hb hK hP 4 rfl ev48 dX2_reachNext_62 ?_
            refine lv_aload_n hx hb dX2_reachNext_63 rfl (lv_at hl 0 rfl) ?_
            refine va_get hx hb hts inX2 hown hK hP 0 rfl rfl 2 (by decide) (hts _ qw87) (fun _ h9 => h9) rfl dX2_reachNext_64 ?_
            refine lv_iload hx hb dX2_reachNext_67 (lv_at hl 2 rfl) ?_
            obtain ⟨v49, ev49, h⟩ := obind h
            refine k_iald hx hb hK hP 3 rfl ev49 dX2_reachNext_69 ?_
            refine lv_iadd hx hb dX2_reachNext_70 ?_
            obtain ⟨f50, ef50, h⟩ := obind h
            refine k_iast (ws' := (VW A u1 u2 B t (v_rnext' (v_takes' μ r2) f50))) hx hb hK hP hD hS 4 rfl ef50 rfl dX2_reachNext_71 (fun H locs hP hD hS => ?_)
            have hSz : s.heap.size ≤ H.size := hS.1
            obtain rfl := Option.some.inj h
            exact hJ72_o44 ls H locs (lv_sub hl [0, 1, 2] rfl) hP hD hS
          · have h := iteT hc h
            refine lv_aload_n hx hb dX2_reachNext_44 rfl (lv_at hl 0 rfl) ?_
            refine lv_iload hx hb dX2_reachNext_45 (lv_at hl 2 rfl) ?_
            obtain ⟨r51, er51, h⟩ := obind h
            refine call_M (va_runV (As := [.int y5_24]) (rest := []) ⟨hx, hb, hml, hown, hts⟩ (c_X2_reachByTurns l z0 D t A u1 u2 (r2, (v_reached μ), rnext_24) y5_24 _ H.size er51) (kV hts qw349 qw351 qs11 qw6 qw352 ok_X2_reachByTurns ⟨Nat.le_of_ble_eq_true rfl, Nat.le_of_ble_eq_true rfl⟩) ⟨PM.blind, va_recv hK (sub_V_PR (μ := v_rnext' (v_takes' μ r2) rnext_24) hP) (ci := 3) (q0 := 0) rfl rfl, fun U hU hW => ⟨rfl, by rw [hU]; exact (hC.at hS hZ).warm hW, by rw [hU], by rw [hU]; exact (sub_V_PR (μ := v_rnext' (v_takes' μ r2) rnext_24) hP), ⟨(subD_V_PR (μ := v_rnext' (v_takes' μ r2) rnext_24) hD).1, fun _ _ h9 => Or.inl (in_map (L := (PRL A u1 u2)) rfl h9)⟩, fun q hq => hZ q (OA.ofD (subD_V_PR (μ := v_rnext' (v_takes' μ r2) rnext_24) hD) rfl hSz q hq)⟩⟩ rfl rfl hl.1 rfl (lv_room (Nat.le_of_ble_eq_true rfl)) dX2_reachNext_47 ⟨Nat.le_of_ble_eq_true rfl, Nat.le_of_ble_eq_true rfl⟩) hS (OA.ofD (subD_V_PR (μ := v_rnext' (v_takes' μ r2) rnext_24) hD) rfl hSz) (fun H locs hP1 hD1 hS _ hk1 => ?_)
            obtain ⟨hP, hD⟩ := back_V_PR (μ := v_rnext' (v_takes' μ r2) rnext_24) hP hD hk1 hP1
            have hP : va_P D vwCl (VW A u1 u2 B t (v_rnext' (v_takes' μ r2) r51)) H := hP
            have hD : va_D (OA (VL A u1 u2 B) s.heap.size) (VW A u1 u2 B t (v_rnext' (v_takes' μ r2) r51)) := hD
            have hSz : s.heap.size ≤ H.size := hS.1
            refine lv_goto (tgt := 72) hx hb dX2_reachNext_50 (by decide) ?_
            obtain rfl := Option.some.inj h
            exact hJ72_o44 ls H locs (lv_sub hl [0, 1, 2] rfl) hP hD hS
  refine hL24 _ _ _ _ eo36 (fun ls H locs hl hP hD hS => ?_) ls H locs (lv_sub hl [2, 1, 0] rfl) hP hD hS
  have hSz : s.heap.size ≤ H.size := hS.1
  refine lv_aload_n hx hb dX2_reachNext_78 rfl (lv_at hl 0 rfl) ?_
  refine va_get hx hb hts inX2 hown hK hP 0 rfl rfl 2 (by decide) (hts _ qw87) (fun _ h9 => h9) rfl dX2_reachNext_79 ?_
  refine lv_astore (lv' := [(5, .ref u1), (0, .ref (A 0))]) hx hb dX2_reachNext_82 hl (by decide) rfl (fun ls hl => ?_)
  refine lv_aload_n hx hb dX2_reachNext_84 rfl (lv_at hl 1 rfl) ?_
  refine lv_aload_n hx hb dX2_reachNext_85 rfl (lv_at hl 1 rfl) ?_
  refine va_get hx hb hts inX2 hown hK hP 0 rfl rfl 3 (by decide) (hts _ qw88) (fun _ h9 => h9) rfl dX2_reachNext_86 ?_
  refine va_put (D := D) (ci := 3) (v := .ref u2) (ty := .array .int) hx hb hts inX2 tyX2 tyX2_ok nmX2 hown hK hP hD hS 0 rfl rfl 2 (by decide) (hts _ qw87) (fun _ h9 => h9) rfl (by decide +kernel) rfl rfl (Nat.le_of_ble_eq_true rfl) dX2_reachNext_89 (fun H locs hP hD hS => ?_)
  have hSz : s.heap.size ≤ H.size := hS.1
  refine lv_aload_n hx hb dX2_reachNext_92 rfl (lv_at hl 1 rfl) ?_
  refine lv_aload hx hb dX2_reachNext_93 (lv_at hl 0 rfl) ?_
  refine va_put (D := D) (ci := 3) (v := .ref u1) (ty := .array .int) hx hb hts inX2 tyX2 tyX2_ok nmX2 hown hK hP hD hS 0 rfl rfl 3 (by decide) (hts _ qw88) (fun _ h9 => h9) rfl (by decide +kernel) rfl rfl (Nat.le_of_ble_eq_true rfl) dX2_reachNext_95 (fun H locs hP hD hS => ?_)
  have hP : va_P D vwCl (VW A u2 u1 B t (v_rnext' (v_reached' (v_takes' μ r2) o36) (v_reached μ))) H := swap_V hP
  have hD : va_D (OA (VL A u1 u2 B) s.heap.size) (VW A u2 u1 B t (v_rnext' (v_reached' (v_takes' μ r2) o36) (v_reached μ))) := swap_VD hD
  have hSz : s.heap.size ≤ H.size := hS.1
  obtain rfl := Option.some.inj h
  exact W.vret hx hb hr (fun t ht hW => ⟨rfl, by rw [ht]; exact hP, hD, hS.F ht⟩) hS.2.2 dX2_reachNext_98
