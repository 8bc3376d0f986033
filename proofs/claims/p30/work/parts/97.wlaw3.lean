/-! addsUp -/
abbrev rm_L_addsUp : Room := { frames := 9, cells := 0, slots := 0, locals := 189 }
theorem ok_L_addsUp : okY yL_addsUp 1 := ⟨by decide +kernel, by decide +kernel, by decide +kernel⟩
set_option maxHeartbeats 4000000 in
set_option maxRecDepth 100000 in
theorem c_L_addsUp (l : Launch) (hl9 : l.stackTraces = false) (z0 : Nat) (D : va_G) (t : Nat → ClassId) (x0 : Nat) (μ : ZT) (res : Int32) (h : f_L_addsUp μ = some res) (w : va_W) (hw : XG t x0 μ w) (sz : Nat) : Met l yL_addsUp (ws_ yL_addsUp cL_addsUp 10 (some .boolean)) rm_L_addsUp (PMH z0 D t [.ref x0] w (w.map Prod.fst) sz) (QB (fun _ : va_W => some (.int res)) D (fun w9 => w9) (XG t x0 (μ)) (w.map Prod.fst) sz) 0 0 (OA (w.map Prod.fst) sz) := by
  refine Met.ofW (cc := cL_addsUp) (maxL := 10) (ret := (some .boolean)) (by decide) rfl ?_
  intro p e s m args below meth c s₁ Bo hml hv
  obtain ⟨rfl, ⟨hC, hN⟩, hsz, hP, hD, hZ⟩ := hv
  have hx := Bo.exec
  have hb := Bo.bytes
  have hr := Bo.returns
  have hts : ∀ w ∈ LA, w.before _ s = true := fun w hw => atoms_spec (ws := ws_ yL_addsUp cL_addsUp 10 (some .boolean)) Bo.pre w (List.mem_cons_of_mem _ hw)
  have hown : s.vm.findClass RL = some m.cls := findClass_of_methodNamed Bo.named
  have hlocks := Bo.notSynchronized
  have hK := hC.1
  subst hsz
  have hl := lv_entry ([.ref x0]) (n := 10) (Nat.le_of_ble_eq_true rfl)
  rw [lg_entry_eq]
  generalize (lg_sl ([.ref x0]) ++ List.replicate (10 - (lg_sl ([.ref x0])).length) Slot.unset).toArray = ls at hl ⊢
  have hl : lv_has ls 10 [(0, .ref x0)] := hl
  obtain ⟨L0, hL0⟩ : ∃ L0, L0 = w.map Prod.fst := ⟨_, rfl⟩
  rw [← hL0] at hD hZ ⊢
  suffices K9 : ∀ (H : Heap) (locs : List Loc) (w : va_W), XG t x0 μ w → va_P D vwCl w H → va_D (OA L0 s.heap.size) w → va_S (OA L0 s.heap.size) s.heap H locs → W p l e (headSpec (ws_ yL_addsUp cL_addsUp 10 (some .boolean)) rm_L_addsUp).room s m ([.ref x0] : List Value).toArray below meth c H locs 0 0 (MQ below (QB (fun _ : va_W => some (.int res)) D (fun w9 => w9) (XG t x0 (μ)) L0 s.heap.size) ([.ref x0] : List Value).toArray s 0 0 (OA L0 s.heap.size)) (F0 m 0 ls []) from K9 s.heap [] w hw hP hD va_S.rf
  clear hP hD hL0 hw w
  intro H locs w hw hP hD hS
  have hSz : s.heap.size ≤ H.size := hS.1
  unfold f_L_addsUp at h
  refine lv_aload_n hx hb dL_addsUp_0 rfl (lv_at hl 0 rfl) ?_
  refine lv_iconst (v := (0)) hx hb dL_addsUp_1 (by decide) ?_
  obtain ⟨r1, er1, h⟩ := obind h
  have hsr := OA.ofD (L' := w.map Prod.fst) hD rfl hSz
  refine call_Q (vx_runSW (As := [.ref x0, .int (0 : Int32)]) (rest := []) ⟨hx, hb, hml, hown, hts⟩ (hq_count l hl9 z0 D t x0 μ (0 : Int32) r1 er1 w hw H.size) (kH hts qw800 qw801 qw0 qw802 okL_count ⟨Nat.le_of_ble_eq_true rfl, Nat.le_of_ble_eq_true rfl⟩) ⟨PMH.blind, fun U hU hW => ⟨rfl, ⟨by rw [hU]; exact (hC.at hS hZ).warm hW, hN.moved hW.alike⟩, by rw [hU], by rw [hU]; exact hP, ⟨hD.1, fun _ _ h9 => Or.inl (in_map (L := w.map Prod.fst) rfl h9)⟩, fun q hq => hZ q (hsr q hq)⟩⟩ rfl rfl hl.1 rfl (lv_room (Nat.le_of_ble_eq_true rfl)) dL_addsUp_2 ⟨Nat.le_of_ble_eq_true rfl, Nat.le_of_ble_eq_true rfl⟩) hS hsr (fun w H locs hw hP hD1 hS _ _ => ?_)
  have hD : va_D (OA L0 s.heap.size) w := hD1.weaken (fun _ q _ h9 => hsr q.1 h9)
  have hSz : s.heap.size ≤ H.size := hS.1
  refine lv_istore_n (lv' := [(1, .int r1), (0, .ref x0)]) hx hb dL_addsUp_5 rfl hl (by decide) rfl (fun ls hl => ?_)
  refine lv_aload_n hx hb dL_addsUp_6 rfl (lv_at hl 1 rfl) ?_
  refine lv_iconst (v := (1)) hx hb dL_addsUp_7 (by decide) ?_
  obtain ⟨r2, er2, h⟩ := obind h
  have hsr := OA.ofD (L' := w.map Prod.fst) hD rfl hSz
  refine call_Q (vx_runSW (As := [.ref x0, .int (1 : Int32)]) (rest := []) ⟨hx, hb, hml, hown, hts⟩ (hq_count l hl9 z0 D t x0 μ (1 : Int32) r2 er2 w hw H.size) (kH hts qw800 qw801 qw0 qw802 okL_count ⟨Nat.le_of_ble_eq_true rfl, Nat.le_of_ble_eq_true rfl⟩) ⟨PMH.blind, fun U hU hW => ⟨rfl, ⟨by rw [hU]; exact (hC.at hS hZ).warm hW, hN.moved hW.alike⟩, by rw [hU], by rw [hU]; exact hP, ⟨hD.1, fun _ _ h9 => Or.inl (in_map (L := w.map Prod.fst) rfl h9)⟩, fun q hq => hZ q (hsr q hq)⟩⟩ rfl rfl hl.1 rfl (lv_room (Nat.le_of_ble_eq_true rfl)) dL_addsUp_8 ⟨Nat.le_of_ble_eq_true rfl, Nat.le_of_ble_eq_true rfl⟩) hS hsr (fun w H locs hw hP hD1 hS _ _ => ?_)
  have hD : va_D (OA L0 s.heap.size) w := hD1.weaken (fun _ q _ h9 => hsr q.1 h9)
  have hSz : s.heap.size ≤ H.size := hS.1
  refine lv_istore_n (lv' := [(2, .int r2), (1, .int r1), (0, .ref x0)]) hx hb dL_addsUp_11 rfl hl (by decide) rfl (fun ls hl => ?_)
  refine lv_aload_n hx hb dL_addsUp_12 rfl (lv_at hl 2 rfl) ?_
  obtain ⟨r3, er3, h⟩ := obind h
  have hsr := OA.ofD (L' := w.map Prod.fst) hD rfl hSz
  obtain ⟨fs9, h09⟩ := XG_h0 hw
  refine call_Q (va_runV (As := []) (rest := []) ⟨hx, hb, hml, hown, hts⟩ (hd_ways l hl9 z0 D t x0 μ r3 er3 w hw H.size) (kV hts qw232 qw233 qw234 qw1 qw235 ok_X4_ways ⟨Nat.le_of_ble_eq_true rfl, Nat.le_of_ble_eq_true rfl⟩) ⟨PM.blind, va_recv hK hP (ci := 5) (q0 := 0) rfl h09, fun U hU hW => ⟨rfl, by rw [hU]; exact (hC.at hS hZ).warm hW, by rw [hU], by rw [hU]; exact hP, ⟨hD.1, fun _ _ h9 => Or.inl (in_map (L := w.map Prod.fst) rfl h9)⟩, fun q hq => hZ q (hsr q hq)⟩⟩ rfl rfl hl.1 rfl (lv_room (Nat.le_of_ble_eq_true rfl)) dL_addsUp_13 ⟨Nat.le_of_ble_eq_true rfl, Nat.le_of_ble_eq_true rfl⟩) hS hsr (fun w H locs hw hP hD1 hS _ _ => ?_)
  have hD : va_D (OA L0 s.heap.size) w := hD1.weaken (fun _ q _ h9 => hsr q.1 h9)
  have hSz : s.heap.size ≤ H.size := hS.1
  refine lv_istore_n (lv' := [(3, .int r3), (2, .int r2), (1, .int r1), (0, .ref x0)]) hx hb dL_addsUp_16 rfl hl (by decide) rfl (fun ls hl => ?_)
  refine lv_iconst (v := (-1)) hx hb dL_addsUp_17 (by decide) ?_
  refine lv_istore (lv' := [(4, .int (-1 : Int32)), (3, .int r3), (2, .int r2), (1, .int r1), (0, .ref x0)]) hx hb dL_addsUp_18 hl (by decide) rfl (fun ls hl => ?_)
  refine lv_iload_n hx hb dL_addsUp_20 rfl (lv_at hl 3 rfl) ?_
  refine lv_iload_n hx hb dL_addsUp_21 rfl (lv_at hl 2 rfl) ?_
  refine lv_imul hx hb dL_addsUp_22 ?_
  refine lv_iconst (v := (1)) hx hb dL_addsUp_23 (by decide) ?_
  refine lv_isub hx hb dL_addsUp_24 ?_
  obtain ⟨x4, ex4, h⟩ := jlet_some h
  refine topI ex4 ?_
  refine lv_istore (lv' := [(5, .int x4), (4, .int (-1 : Int32)), (3, .int r3), (2, .int r2), (1, .int r1), (0, .ref x0)]) hx hb dL_addsUp_25 hl (by decide) rfl (fun ls hl => ?_)
  obtain ⟨o15, eo15, h⟩ := obind h
  have hL27 : ∀ (n : Nat) (y4_27 : Int32) (y5_27 : Int32) (o15 : Int32), f_L_addsUp_L27 μ r1 n y4_27 y5_27 = some o15 → (∀ (ls : Array Slot) (H : Heap) (locs : List Loc) (w : va_W), lv_has ls 10 [(0, .ref x0), (1, .int r1), (3, .int r3), (4, .int o15)] → XG t x0 μ w → va_P D vwCl w H → va_D (OA L0 s.heap.size) w → va_S (OA L0 s.heap.size) s.heap H locs → W p l e (headSpec (ws_ yL_addsUp cL_addsUp 10 (some .boolean)) rm_L_addsUp).room s m ([.ref x0] : List Value).toArray below meth c H locs 0 0 (MQ below (QB (fun _ : va_W => some (.int res)) D (fun w9 => w9) (XG t x0 (μ)) L0 s.heap.size) ([.ref x0] : List Value).toArray s 0 0 (OA L0 s.heap.size)) (F0 m 63 ls [])) → ∀ (ls : Array Slot) (H : Heap) (locs : List Loc) (w : va_W), lv_has ls 10 [(0, .ref x0), (1, .int r1), (3, .int r3), (4, .int y4_27), (5, .int y5_27)] → XG t x0 μ w → va_P D vwCl w H → va_D (OA L0 s.heap.size) w → va_S (OA L0 s.heap.size) s.heap H locs → W p l e (headSpec (ws_ yL_addsUp cL_addsUp 10 (some .boolean)) rm_L_addsUp).room s m ([.ref x0] : List Value).toArray below meth c H locs 0 0 (MQ below (QB (fun _ : va_W => some (.int res)) D (fun w9 => w9) (XG t x0 (μ)) L0 s.heap.size) ([.ref x0] : List Value).toArray s 0 0 (OA L0 s.heap.size)) (F0 m 27 ls []) := by
    intro n
    induction n with
    | zero => intro y4_27 y5_27 o15 h; exact absurd h (fun z => by cases z)
    | succ n ih =>
      intro y4_27 y5_27 o15 h hK27 ls H locs w hl hw hP hD hS
      replace h : f_L_addsUp_L27_b μ r1 (f_L_addsUp_L27 μ r1 n) y4_27 y5_27 = some o15 := h
      unfold f_L_addsUp_L27_b at h
      have hSz : s.heap.size ≤ H.size := hS.1
      refine lv_iload hx hb dL_addsUp_27 (lv_at hl 4 rfl) ?_
      refine lv_if_lt (tgt := 63) hx hb dL_addsUp_29 (by decide) (fun hc => ?_) (fun hc => ?_)
      · have h := iteT hc h
        obtain rfl := Option.some.inj h
        exact hK27 ls H locs w (lv_sub hl [0, 1, 2, 3] rfl) hw hP hD hS
      · have h := iteF hc h
        refine lv_aload_n hx hb dL_addsUp_32 rfl (lv_at hl 0 rfl) ?_
        refine lv_iload hx hb dL_addsUp_33 (lv_at hl 4 rfl) ?_
        refine lv_iload_n hx hb dL_addsUp_35 rfl (lv_at hl 1 rfl) ?_
        have h16 : ¬ r1 = 0 := fun z => absurd (iteT z h) (fun z => by cases z)
        have h := iteF h16 h
        refine lv_irem hx hb dL_addsUp_36 h16 ?_
        refine lv_iload hx hb dL_addsUp_37 (lv_at hl 4 rfl) ?_
        refine lv_iload_n hx hb dL_addsUp_39 rfl (lv_at hl 1 rfl) ?_
        have h17 : ¬ r1 = 0 := fun z => absurd (iteT z h) (fun z => by cases z)
        have h := iteF h17 h
        refine lv_idiv hx hb dL_addsUp_40 h17 ?_
        refine lv_iconst (v := (0)) hx hb dL_addsUp_41 (by decide) ?_
        obtain ⟨r18, er18, h⟩ := obind h
        have hsr := OA.ofD (L' := w.map Prod.fst) hD rfl hSz
        refine call_Q (vx_runSW (As := [.ref x0, .int (y5_27 - y5_27 / r1 * r1), .int (y5_27 / r1), .int (0 : Int32)]) (rest := []) ⟨hx, hb, hml, hown, hts⟩ (hq_cellOf l hl9 z0 D t x0 μ (y5_27 - y5_27 / r1 * r1) (y5_27 / r1) (0 : Int32) r18 er18 w hw H.size) (kH hts qw757 qw758 qw0 qw759 okL_cellOf ⟨Nat.le_of_ble_eq_true rfl, Nat.le_of_ble_eq_true rfl⟩) ⟨PMH.blind, fun U hU hW => ⟨rfl, ⟨by rw [hU]; exact (hC.at hS hZ).warm hW, hN.moved hW.alike⟩, by rw [hU], by rw [hU]; exact hP, ⟨hD.1, fun _ _ h9 => Or.inl (in_map (L := w.map Prod.fst) rfl h9)⟩, fun q hq => hZ q (hsr q hq)⟩⟩ rfl rfl hl.1 rfl (lv_room (Nat.le_of_ble_eq_true rfl)) dL_addsUp_42 ⟨Nat.le_of_ble_eq_true rfl, Nat.le_of_ble_eq_true rfl⟩) hS hsr (fun w H locs hw hP hD1 hS _ _ => ?_)
        have hD : va_D (OA L0 s.heap.size) w := hD1.weaken (fun _ q _ h9 => hsr q.1 h9)
        have hSz : s.heap.size ≤ H.size := hS.1
        obtain ⟨o19, eo19, h⟩ := obind h
        have hJ55_o19 : ∀ (ls : Array Slot) (H : Heap) (locs : List Loc) (w : va_W), lv_has ls 10 [(0, .ref x0), (1, .int r1), (3, .int r3), (5, .int y5_27)] → XG t x0 μ w → va_P D vwCl w H → va_D (OA L0 s.heap.size) w → va_S (OA L0 s.heap.size) s.heap H locs → W p l e (headSpec (ws_ yL_addsUp cL_addsUp 10 (some .boolean)) rm_L_addsUp).room s m ([.ref x0] : List Value).toArray below meth c H locs 0 0 (MQ below (QB (fun _ : va_W => some (.int res)) D (fun w9 => w9) (XG t x0 (μ)) L0 s.heap.size) ([.ref x0] : List Value).toArray s 0 0 (OA L0 s.heap.size)) (F0 m 55 ls [.int o19]) := by
          intro ls H locs w hl hw hP hD hS
          have hSz : s.heap.size ≤ H.size := hS.1
          refine lv_istore (lv' := [(4, .int o19), (0, .ref x0), (1, .int r1), (3, .int r3), (5, .int y5_27)]) hx hb dL_addsUp_55 hl (by decide) rfl (fun ls hl => ?_)
          obtain ⟨x20, ex20, h⟩ := jlet_some h
          refine lv_iinc (v := x20) (lv' := [(5, .int x20), (4, .int o19), (0, .ref x0), (1, .int r1), (3, .int r3)]) hx hb dL_addsUp_57 hl (k := 4) rfl (by rw [ex20]; rfl) (by decide) rfl (fun ls hl => ?_)
          refine lv_goto (tgt := 27) hx hb dL_addsUp_60 (by decide) ?_
          exact ih _ _ _ h hK27 ls H locs w (lv_sub hl [2, 3, 4, 1, 0] rfl) hw hP hD hS
        have h := eo19
        clear eo19
        refine lv_if_ne (tgt := 53) hx hb dL_addsUp_45 (by decide) (fun hc => ?_) (fun hc => ?_)
        · have h := iteF hc h
          refine lv_iload hx hb dL_addsUp_53 (lv_at hl 3 rfl) ?_
          obtain rfl := Option.some.inj h
          exact hJ55_o19 ls H locs w (lv_sub hl [0, 1, 2, 4] rfl) hw hP hD hS
        · have h := iteT hc h
          refine lv_iload hx hb dL_addsUp_48 (lv_at hl 4 rfl) ?_
          refine lv_goto (tgt := 55) hx hb dL_addsUp_50 (by decide) ?_
          obtain rfl := Option.some.inj h
          exact hJ55_o19 ls H locs w (lv_sub hl [0, 1, 2, 4] rfl) hw hP hD hS
  refine hL27 _ _ _ _ eo15 (fun ls H locs w hl hw hP hD hS => ?_) ls H locs w (lv_sub hl [5, 4, 2, 1, 0] rfl) hw hP hD hS
  have hSz : s.heap.size ≤ H.size := hS.1
  refine lv_iload hx hb dL_addsUp_63 (lv_at hl 3 rfl) ?_
  refine lv_if_ge (tgt := 79) hx hb dL_addsUp_65 (by decide) (fun hc => ?_) (fun hc => ?_)
  · have h := iteT hc h
    refine lv_iload hx hb dL_addsUp_79 (lv_at hl 3 rfl) ?_
    refine lv_iload_n hx hb dL_addsUp_81 rfl (lv_at hl 1 rfl) ?_
    have h21 : ¬ r1 = 0 := fun z => absurd (iteT z h) (fun z => by cases z)
    have h := iteF h21 h
    refine lv_irem hx hb dL_addsUp_82 h21 ?_
    obtain ⟨x22, ex22, h⟩ := jlet_some h
    refine topI ex22 ?_
    refine lv_istore (lv' := [(5, .int x22), (0, .ref x0), (1, .int r1), (3, .int r3), (4, .int o15)]) hx hb dL_addsUp_83 hl (by decide) rfl (fun ls hl => ?_)
    refine lv_iload hx hb dL_addsUp_85 (lv_at hl 4 rfl) ?_
    refine lv_iload_n hx hb dL_addsUp_87 rfl (lv_at hl 2 rfl) ?_
    have h23 : ¬ r1 = 0 := fun z => absurd (iteT z h) (fun z => by cases z)
    have h := iteF h23 h
    refine lv_idiv hx hb dL_addsUp_88 h23 ?_
    obtain ⟨x24, ex24, h⟩ := jlet_some h
    refine topI ex24 ?_
    refine lv_istore (lv' := [(6, .int x24), (5, .int x22), (0, .ref x0), (1, .int r1), (3, .int r3), (4, .int o15)]) hx hb dL_addsUp_89 hl (by decide) rfl (fun ls hl => ?_)
    refine lv_iconst (v := (0)) hx hb dL_addsUp_91 (by decide) ?_
    refine lv_istore (lv' := [(7, .int (0 : Int32)), (6, .int x24), (5, .int x22), (0, .ref x0), (1, .int r1), (3, .int r3), (4, .int o15)]) hx hb dL_addsUp_92 hl (by decide) rfl (fun ls hl => ?_)
    refine lv_iconst (v := (0)) hx hb dL_addsUp_94 (by decide) ?_
    refine lv_istore (lv' := [(8, .int (0 : Int32)), (7, .int (0 : Int32)), (6, .int x24), (5, .int x22), (0, .ref x0), (1, .int r1), (3, .int r3), (4, .int o15)]) hx hb dL_addsUp_95 hl (by decide) rfl (fun ls hl => ?_)
    obtain ⟨o35, eo35, h⟩ := obind h
    have hL97 : ∀ (n : Nat) (y7_97 : Int32) (y8_97 : Int32) (o35 : Int32), f_L_addsUp_L97 μ x22 x24 n y7_97 y8_97 = some o35 → (∀ (ls : Array Slot) (H : Heap) (locs : List Loc) (w : va_W), lv_has ls 10 [(3, .int r3), (7, .int o35)] → XG t x0 μ w → va_P D vwCl w H → va_D (OA L0 s.heap.size) w → va_S (OA L0 s.heap.size) s.heap H locs → W p l e (headSpec (ws_ yL_addsUp cL_addsUp 10 (some .boolean)) rm_L_addsUp).room s m ([.ref x0] : List Value).toArray below meth c H locs 0 0 (MQ below (QB (fun _ : va_W => some (.int res)) D (fun w9 => w9) (XG t x0 (μ)) L0 s.heap.size) ([.ref x0] : List Value).toArray s 0 0 (OA L0 s.heap.size)) (F0 m 149 ls [])) → ∀ (ls : Array Slot) (H : Heap) (locs : List Loc) (w : va_W), lv_has ls 10 [(0, .ref x0), (3, .int r3), (5, .int x22), (6, .int x24), (7, .int y7_97), (8, .int y8_97)] → XG t x0 μ w → va_P D vwCl w H → va_D (OA L0 s.heap.size) w → va_S (OA L0 s.heap.size) s.heap H locs → W p l e (headSpec (ws_ yL_addsUp cL_addsUp 10 (some .boolean)) rm_L_addsUp).room s m ([.ref x0] : List Value).toArray below meth c H locs 0 0 (MQ below (QB (fun _ : va_W => some (.int res)) D (fun w9 => w9) (XG t x0 (μ)) L0 s.heap.size) ([.ref x0] : List Value).toArray s 0 0 (OA L0 s.heap.size)) (F0 m 97 ls []) := by
      intro n
      induction n with
      | zero => intro y7_97 y8_97 o35 h; exact absurd h (fun z => by cases z)
      | succ n ih =>
        intro y7_97 y8_97 o35 h hK97 ls H locs w hl hw hP hD hS
        replace h : f_L_addsUp_L97_b μ x22 x24 (f_L_addsUp_L97 μ x22 x24 n) y7_97 y8_97 = some o35 := h
        unfold f_L_addsUp_L97_b at h
        have hSz : s.heap.size ≤ H.size := hS.1
        refine lv_iload hx hb dL_addsUp_97 (lv_at hl 5 rfl) ?_
        refine lv_iconst (v := (4)) hx hb dL_addsUp_99 (by decide) ?_
        refine lv_icmp_ge (tgt := 149) hx hb dL_addsUp_100 (by decide) (fun hc => ?_) (fun hc => ?_)
        · have h := iteT hc h
          obtain rfl := Option.some.inj h
          exact hK97 ls H locs w (lv_sub hl [1, 4] rfl) hw hP hD hS
        · have h := iteF hc h
          refine lv_aload_n hx hb dL_addsUp_103 rfl (lv_at hl 0 rfl) ?_
          refine lv_iload hx hb dL_addsUp_104 (lv_at hl 5 rfl) ?_
          obtain ⟨o36, eo36, h⟩ := obind h
          have hJ118_o36 : ∀ (ls : Array Slot) (H : Heap) (locs : List Loc) (w : va_W), lv_has ls 10 [(0, .ref x0), (3, .int r3), (5, .int x22), (6, .int x24), (7, .int y7_97), (8, .int y8_97)] → XG t x0 μ w → va_P D vwCl w H → va_D (OA L0 s.heap.size) w → va_S (OA L0 s.heap.size) s.heap H locs → W p l e (headSpec (ws_ yL_addsUp cL_addsUp 10 (some .boolean)) rm_L_addsUp).room s m ([.ref x0] : List Value).toArray below meth c H locs 0 0 (MQ below (QB (fun _ : va_W => some (.int res)) D (fun w9 => w9) (XG t x0 (μ)) L0 s.heap.size) ([.ref x0] : List Value).toArray s 0 0 (OA L0 s.heap.size)) (F0 m 118 ls [.int o36, .ref x0]) := by
            intro ls H locs w hl hw hP hD hS
            have hSz : s.heap.size ≤ H.size := hS.1
            refine lv_iload hx hb dL_addsUp_118 (lv_at hl 3 rfl) ?_
            refine lv_iload hx hb dL_addsUp_120 (lv_at hl 5 rfl) ?_
            obtain ⟨r37, er37, h⟩ := obind h
            have hsr := OA.ofD (L' := w.map Prod.fst) hD rfl hSz
            refine call_Q (vx_runSW (As := [.ref x0, .int o36, .int x24, .int y8_97]) (rest := []) ⟨hx, hb, hml, hown, hts⟩ (hq_waysWith l hl9 z0 D t x0 μ o36 x24 y8_97 r37 er37 w hw H.size) (kH hts qw825 qw826 qw0 qw827 okL_waysWith ⟨Nat.le_of_ble_eq_true rfl, Nat.le_of_ble_eq_true rfl⟩) ⟨PMH.blind, fun U hU hW => ⟨rfl, ⟨by rw [hU]; exact (hC.at hS hZ).warm hW, hN.moved hW.alike⟩, by rw [hU], by rw [hU]; exact hP, ⟨hD.1, fun _ _ h9 => Or.inl (in_map (L := w.map Prod.fst) rfl h9)⟩, fun q hq => hZ q (hsr q hq)⟩⟩ rfl rfl hl.1 rfl (lv_room (Nat.le_of_ble_eq_true rfl)) dL_addsUp_122 ⟨Nat.le_of_ble_eq_true rfl, Nat.le_of_ble_eq_true rfl⟩) hS hsr (fun w H locs hw hP hD1 hS _ _ => ?_)
            have hD : va_D (OA L0 s.heap.size) w := hD1.weaken (fun _ q _ h9 => hsr q.1 h9)
            have hSz : s.heap.size ≤ H.size := hS.1
            refine lv_istore (lv' := [(9, .int r37), (0, .ref x0), (3, .int r3), (5, .int x22), (6, .int x24), (7, .int y7_97), (8, .int y8_97)]) hx hb dL_addsUp_125 hl (by decide) rfl (fun ls hl => ?_)
            refine lv_iload hx hb dL_addsUp_127 (lv_at hl 5 rfl) ?_
            refine lv_iload hx hb dL_addsUp_129 (lv_at hl 0 rfl) ?_
            obtain ⟨o38, eo38, h⟩ := obind h
            have hJ140_o38 : ∀ (ls : Array Slot) (H : Heap) (locs : List Loc) (w : va_W), lv_has ls 10 [(0, .ref x0), (3, .int r3), (5, .int x22), (6, .int x24), (8, .int y8_97)] → XG t x0 μ w → va_P D vwCl w H → va_D (OA L0 s.heap.size) w → va_S (OA L0 s.heap.size) s.heap H locs → W p l e (headSpec (ws_ yL_addsUp cL_addsUp 10 (some .boolean)) rm_L_addsUp).room s m ([.ref x0] : List Value).toArray below meth c H locs 0 0 (MQ below (QB (fun _ : va_W => some (.int res)) D (fun w9 => w9) (XG t x0 (μ)) L0 s.heap.size) ([.ref x0] : List Value).toArray s 0 0 (OA L0 s.heap.size)) (F0 m 140 ls [.int o38, .int y7_97]) := by
              intro ls H locs w hl hw hP hD hS
              have hSz : s.heap.size ≤ H.size := hS.1
              refine lv_iadd hx hb dL_addsUp_140 ?_
              obtain ⟨x39, ex39, h⟩ := jlet_some h
              refine topI ex39 ?_
              refine lv_istore (lv' := [(7, .int x39), (0, .ref x0), (3, .int r3), (5, .int x22), (6, .int x24), (8, .int y8_97)]) hx hb dL_addsUp_141 hl (by decide) rfl (fun ls hl => ?_)
              obtain ⟨x40, ex40, h⟩ := jlet_some h
              refine lv_iinc (v := x40) (lv' := [(8, .int x40), (7, .int x39), (0, .ref x0), (3, .int r3), (5, .int x22), (6, .int x24)]) hx hb dL_addsUp_143 hl (k := 5) rfl (by rw [ex40]; rfl) (by decide) rfl (fun ls hl => ?_)
              refine lv_goto (tgt := 97) hx hb dL_addsUp_146 (by decide) ?_
              exact ih _ _ _ h hK97 ls H locs w (lv_sub hl [2, 3, 4, 5, 1, 0] rfl) hw hP hD hS
            have h := eo38
            clear eo38
            refine lv_if_ge (tgt := 138) hx hb dL_addsUp_131 (by decide) (fun hc => ?_) (fun hc => ?_)
            · have h := iteT hc h
              refine lv_iload hx hb dL_addsUp_138 (lv_at hl 0 rfl) ?_
              obtain rfl := Option.some.inj h
              exact hJ140_o38 ls H locs w (lv_sub hl [1, 2, 3, 4, 6] rfl) hw hP hD hS
            · have h := iteF hc h
              refine lv_iconst (v := (0)) hx hb dL_addsUp_134 (by decide) ?_
              refine lv_goto (tgt := 140) hx hb dL_addsUp_135 (by decide) ?_
              obtain rfl := Option.some.inj h
              exact hJ140_o38 ls H locs w (lv_sub hl [1, 2, 3, 4, 6] rfl) hw hP hD hS
          have h := eo36
          clear eo36
          refine lv_if_ne (tgt := 116) hx hb dL_addsUp_106 (by decide) (fun hc => ?_) (fun hc => ?_)
          · have h := iteF hc h
            refine lv_iload hx hb dL_addsUp_116 (lv_at hl 2 rfl) ?_
            obtain rfl := Option.some.inj h
            exact hJ118_o36 ls H locs w (lv_sub hl [0, 1, 2, 3, 4, 5] rfl) hw hP hD hS
          · have h := iteT hc h
            refine lv_iload hx hb dL_addsUp_109 (lv_at hl 2 rfl) ?_
            refine lv_iconst (v := (1)) hx hb dL_addsUp_111 (by decide) ?_
            refine lv_isub hx hb dL_addsUp_112 ?_
            refine lv_goto (tgt := 118) hx hb dL_addsUp_113 (by decide) ?_
            obtain rfl := Option.some.inj h
            exact hJ118_o36 ls H locs w (lv_sub hl [0, 1, 2, 3, 4, 5] rfl) hw hP hD hS
    refine hL97 _ _ _ _ eo35 (fun ls H locs w hl hw hP hD hS => ?_) ls H locs w (lv_sub hl [4, 6, 3, 2, 1, 0] rfl) hw hP hD hS
    have hSz : s.heap.size ≤ H.size := hS.1
    refine lv_iload hx hb dL_addsUp_149 (lv_at hl 1 rfl) ?_
    refine lv_iload_n hx hb dL_addsUp_151 rfl (lv_at hl 0 rfl) ?_
    refine lv_icmp_ne (tgt := 159) hx hb dL_addsUp_152 (by decide) (fun hc => ?_) (fun hc => ?_)
    · have h := iteF hc h
      refine lv_iconst (v := (0)) hx hb dL_addsUp_159 (by decide) ?_
      obtain rfl := Option.some.inj h
      exact W.zret hx hb hr rfl (fun t ht hW => ⟨w, hw, rfl, by rw [ht]; exact hP, hD, hS.F ht⟩) hS.2.2 dL_addsUp_160
    · have h := iteT hc h
      refine lv_iconst (v := (1)) hx hb dL_addsUp_155 (by decide) ?_
      refine lv_goto (tgt := 160) hx hb dL_addsUp_156 (by decide) ?_
      obtain rfl := Option.some.inj h
      exact W.zret hx hb hr rfl (fun t ht hW => ⟨w, hw, rfl, by rw [ht]; exact hP, hD, hS.F ht⟩) hS.2.2 dL_addsUp_160
  · have h := iteF hc h
    refine lv_iload_n hx hb dL_addsUp_68 rfl (lv_at hl 2 rfl) ?_
    refine lv_iconst (v := (1)) hx hb dL_addsUp_69 (by decide) ?_
    refine lv_icmp_ne (tgt := 77) hx hb dL_addsUp_70 (by decide) (fun hc => ?_) (fun hc => ?_)
    · have h := iteF hc h
      refine lv_iconst (v := (0)) hx hb dL_addsUp_77 (by decide) ?_
      obtain rfl := Option.some.inj h
      exact W.zret hx hb hr rfl (fun t ht hW => ⟨w, hw, rfl, by rw [ht]; exact hP, hD, hS.F ht⟩) hS.2.2 dL_addsUp_78
    · have h := iteT hc h
      refine lv_iconst (v := (1)) hx hb dL_addsUp_73 (by decide) ?_
      refine lv_goto (tgt := 78) hx hb dL_addsUp_74 (by decide) ?_
      obtain rfl := Option.some.inj h
      exact W.zret hx hb hr rfl (fun t ht hW => ⟨w, hw, rfl, by rw [ht]; exact hP, hD, hS.F ht⟩) hS.2.2 dL_addsUp_78
