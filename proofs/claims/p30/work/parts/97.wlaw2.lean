/-! hangs -/
abbrev rm_L_hangs : Room := { frames := 9, cells := 3, slots := 18, locals := 189 }
theorem ok_L_hangs : okY yL_hangs 1 := ⟨by decide +kernel, by decide +kernel, by decide +kernel⟩
set_option maxHeartbeats 4000000 in
set_option maxRecDepth 100000 in
theorem c_L_hangs (l : Launch) (hl9 : l.stackTraces = false) (z0 : Nat) (D : va_G) (t : Nat → ClassId) (x0 : Nat) (μ : ZT) (res : Int32) (h : f_L_hangs μ = some res) (w : va_W) (hw : XG t x0 μ w) (sz : Nat) : Met l yL_hangs (ws_ yL_hangs cL_hangs 19 (some .boolean)) rm_L_hangs (PMH z0 D t [.ref x0] w (w.map Prod.fst) sz) (QB (fun _ : va_W => some (.int res)) D (fun w9 => w9) (XG t x0 (μ)) (w.map Prod.fst) sz) 3 18 (OA (w.map Prod.fst) sz) := by
  refine Met.ofW (cc := cL_hangs) (maxL := 19) (ret := (some .boolean)) (by decide) rfl ?_
  intro p e s m args below meth c s₁ Bo hml hv
  obtain ⟨rfl, ⟨hC, hN⟩, hsz, hP, hD, hZ⟩ := hv
  have hx := Bo.exec
  have hb := Bo.bytes
  have hr := Bo.returns
  have hts : ∀ w ∈ LA, w.before _ s = true := fun w hw => atoms_spec (ws := ws_ yL_hangs cL_hangs 19 (some .boolean)) Bo.pre w (List.mem_cons_of_mem _ hw)
  have hown : s.vm.findClass RL = some m.cls := findClass_of_methodNamed Bo.named
  have hlocks := Bo.notSynchronized
  have hK := hC.1
  subst hsz
  have hl := lv_entry ([.ref x0]) (n := 19) (Nat.le_of_ble_eq_true rfl)
  rw [lg_entry_eq]
  generalize (lg_sl ([.ref x0]) ++ List.replicate (19 - (lg_sl ([.ref x0])).length) Slot.unset).toArray = ls at hl ⊢
  have hl : lv_has ls 19 [(0, .ref x0)] := hl
  obtain ⟨L0, hL0⟩ : ∃ L0, L0 = w.map Prod.fst := ⟨_, rfl⟩
  rw [← hL0] at hD hZ ⊢
  suffices K9 : ∀ (H : Heap) (locs : List Loc) (w : va_W), XG t x0 μ w → va_P D vwCl w H → va_D (OA L0 s.heap.size) w → va_S (OA L0 s.heap.size) s.heap H locs → W p l e (headSpec (ws_ yL_hangs cL_hangs 19 (some .boolean)) rm_L_hangs).room s m ([.ref x0] : List Value).toArray below meth c H locs 0 0 (MQ below (QB (fun _ : va_W => some (.int res)) D (fun w9 => w9) (XG t x0 (μ)) L0 s.heap.size) ([.ref x0] : List Value).toArray s 3 18 (OA L0 s.heap.size)) (F0 m 0 ls []) from K9 s.heap [] w hw hP hD va_S.rf
  clear hP hD hL0 hw w
  intro H locs w hw hP hD hS
  have hSz : s.heap.size ≤ H.size := hS.1
  unfold f_L_hangs at h
  refine lv_aload_n hx hb dL_hangs_0 rfl (lv_at hl 0 rfl) ?_
  refine lv_iconst (v := (0)) hx hb dL_hangs_1 (by decide) ?_
  obtain ⟨r1, er1, h⟩ := obind h
  have hsr := OA.ofD (L' := w.map Prod.fst) hD rfl hSz
  refine call_Q (vx_runSW (As := [.ref x0, .int (0 : Int32)]) (rest := []) ⟨hx, hb, hml, hown, hts⟩ (hq_count l hl9 z0 D t x0 μ (0 : Int32) r1 er1 w hw H.size) (kH hts qw800 qw801 qw0 qw802 okL_count ⟨Nat.le_of_ble_eq_true rfl, Nat.le_of_ble_eq_true rfl⟩) ⟨PMH.blind, fun U hU hW => ⟨rfl, ⟨by rw [hU]; exact (hC.at hS hZ).warm hW, hN.moved hW.alike⟩, by rw [hU], by rw [hU]; exact hP, ⟨hD.1, fun _ _ h9 => Or.inl (in_map (L := w.map Prod.fst) rfl h9)⟩, fun q hq => hZ q (hsr q hq)⟩⟩ rfl rfl hl.1 rfl (lv_room (Nat.le_of_ble_eq_true rfl)) dL_hangs_2 ⟨Nat.le_of_ble_eq_true rfl, Nat.le_of_ble_eq_true rfl⟩) hS hsr (fun w H locs hw hP hD1 hS _ _ => ?_)
  have hD : va_D (OA L0 s.heap.size) w := hD1.weaken (fun _ q _ h9 => hsr q.1 h9)
  have hSz : s.heap.size ≤ H.size := hS.1
  refine lv_istore_n (lv' := [(1, .int r1), (0, .ref x0)]) hx hb dL_hangs_5 rfl hl (by decide) rfl (fun ls hl => ?_)
  refine lv_aload_n hx hb dL_hangs_6 rfl (lv_at hl 1 rfl) ?_
  refine lv_iconst (v := (1)) hx hb dL_hangs_7 (by decide) ?_
  obtain ⟨r2, er2, h⟩ := obind h
  have hsr := OA.ofD (L' := w.map Prod.fst) hD rfl hSz
  refine call_Q (vx_runSW (As := [.ref x0, .int (1 : Int32)]) (rest := []) ⟨hx, hb, hml, hown, hts⟩ (hq_count l hl9 z0 D t x0 μ (1 : Int32) r2 er2 w hw H.size) (kH hts qw800 qw801 qw0 qw802 okL_count ⟨Nat.le_of_ble_eq_true rfl, Nat.le_of_ble_eq_true rfl⟩) ⟨PMH.blind, fun U hU hW => ⟨rfl, ⟨by rw [hU]; exact (hC.at hS hZ).warm hW, hN.moved hW.alike⟩, by rw [hU], by rw [hU]; exact hP, ⟨hD.1, fun _ _ h9 => Or.inl (in_map (L := w.map Prod.fst) rfl h9)⟩, fun q hq => hZ q (hsr q hq)⟩⟩ rfl rfl hl.1 rfl (lv_room (Nat.le_of_ble_eq_true rfl)) dL_hangs_8 ⟨Nat.le_of_ble_eq_true rfl, Nat.le_of_ble_eq_true rfl⟩) hS hsr (fun w H locs hw hP hD1 hS _ _ => ?_)
  have hD : va_D (OA L0 s.heap.size) w := hD1.weaken (fun _ q _ h9 => hsr q.1 h9)
  have hSz : s.heap.size ≤ H.size := hS.1
  refine lv_istore_n (lv' := [(2, .int r2), (1, .int r1), (0, .ref x0)]) hx hb dL_hangs_11 rfl hl (by decide) rfl (fun ls hl => ?_)
  refine lv_aload_n hx hb dL_hangs_12 rfl (lv_at hl 2 rfl) ?_
  refine lv_iconst (v := (5)) hx hb dL_hangs_13 (by decide) ?_
  obtain ⟨r3, er3, h⟩ := obind h
  have hsr := OA.ofD (L' := w.map Prod.fst) hD rfl hSz
  refine call_Q (vx_runSW (As := [.ref x0, .int (5 : Int32)]) (rest := []) ⟨hx, hb, hml, hown, hts⟩ (hq_count l hl9 z0 D t x0 μ (5 : Int32) r3 er3 w hw H.size) (kH hts qw800 qw801 qw0 qw802 okL_count ⟨Nat.le_of_ble_eq_true rfl, Nat.le_of_ble_eq_true rfl⟩) ⟨PMH.blind, fun U hU hW => ⟨rfl, ⟨by rw [hU]; exact (hC.at hS hZ).warm hW, hN.moved hW.alike⟩, by rw [hU], by rw [hU]; exact hP, ⟨hD.1, fun _ _ h9 => Or.inl (in_map (L := w.map Prod.fst) rfl h9)⟩, fun q hq => hZ q (hsr q hq)⟩⟩ rfl rfl hl.1 rfl (lv_room (Nat.le_of_ble_eq_true rfl)) dL_hangs_14 ⟨Nat.le_of_ble_eq_true rfl, Nat.le_of_ble_eq_true rfl⟩) hS hsr (fun w H locs hw hP hD1 hS _ _ => ?_)
  have hD : va_D (OA L0 s.heap.size) w := hD1.weaken (fun _ q _ h9 => hsr q.1 h9)
  have hSz : s.heap.size ≤ H.size := hS.1
  refine lv_istore_n (lv' := [(3, .int r3), (2, .int r2), (1, .int r1), (0, .ref x0)]) hx hb dL_hangs_17 rfl hl (by decide) rfl (fun ls hl => ?_)
  refine lv_iconst (v := (0)) hx hb dL_hangs_18 (by decide) ?_
  refine lv_istore (lv' := [(4, .int (0 : Int32)), (3, .int r3), (2, .int r2), (1, .int r1), (0, .ref x0)]) hx hb dL_hangs_19 hl (by decide) rfl (fun ls hl => ?_)
  refine lv_iconst (v := (0)) hx hb dL_hangs_21 (by decide) ?_
  refine lv_istore (lv' := [(5, .int (0 : Int32)), (4, .int (0 : Int32)), (3, .int r3), (2, .int r2), (1, .int r1), (0, .ref x0)]) hx hb dL_hangs_22 hl (by decide) rfl (fun ls hl => ?_)
  refine lv_iconst (v := (0)) hx hb dL_hangs_24 (by decide) ?_
  refine lv_istore (lv' := [(6, .int (0 : Int32)), (5, .int (0 : Int32)), (4, .int (0 : Int32)), (3, .int r3), (2, .int r2), (1, .int r1), (0, .ref x0)]) hx hb dL_hangs_25 hl (by decide) rfl (fun ls hl => ?_)
  refine lv_iconst (v := (0)) hx hb dL_hangs_27 (by decide) ?_
  refine lv_istore (lv' := [(7, .int (0 : Int32)), (6, .int (0 : Int32)), (5, .int (0 : Int32)), (4, .int (0 : Int32)), (3, .int r3), (2, .int r2), (1, .int r1), (0, .ref x0)]) hx hb dL_hangs_28 hl (by decide) rfl (fun ls hl => ?_)
  refine lv_iconst (v := (-1)) hx hb dL_hangs_30 (by decide) ?_
  refine lv_istore (lv' := [(8, .int (-1 : Int32)), (7, .int (0 : Int32)), (6, .int (0 : Int32)), (5, .int (0 : Int32)), (4, .int (0 : Int32)), (3, .int r3), (2, .int r2), (1, .int r1), (0, .ref x0)]) hx hb dL_hangs_31 hl (by decide) rfl (fun ls hl => ?_)
  refine lv_iconst (v := (-1)) hx hb dL_hangs_33 (by decide) ?_
  refine lv_istore (lv' := [(9, .int (-1 : Int32)), (8, .int (-1 : Int32)), (7, .int (0 : Int32)), (6, .int (0 : Int32)), (5, .int (0 : Int32)), (4, .int (0 : Int32)), (3, .int r3), (2, .int r2), (1, .int r1), (0, .ref x0)]) hx hb dL_hangs_34 hl (by decide) rfl (fun ls hl => ?_)
  refine lv_aload_n hx hb dL_hangs_36 rfl (lv_at hl 9 rfl) ?_
  refine lv_iload_n hx hb dL_hangs_37 rfl (lv_at hl 8 rfl) ?_
  refine lv_iconst (v := (0)) hx hb dL_hangs_38 (by decide) ?_
  refine lv_iconst (v := (0)) hx hb dL_hangs_39 (by decide) ?_
  obtain ⟨r4, er4, h⟩ := obind h
  have hsr := OA.ofD (L' := w.map Prod.fst) hD rfl hSz
  refine call_Q (vx_runSW (As := [.ref x0, .int r1, .int (0 : Int32), .int (0 : Int32)]) (rest := []) ⟨hx, hb, hml, hown, hts⟩ (ht_cellOf l hl9 z0 D t x0 μ r1 (0 : Int32) (0 : Int32) r4 er4 w hw H.size) (kH hts qw757 qw758 qw0 qw759 okL_cellOf ⟨Nat.le_of_ble_eq_true rfl, Nat.le_of_ble_eq_true rfl⟩) ⟨PMH.blind, fun U hU hW => ⟨rfl, ⟨by rw [hU]; exact (hC.at hS hZ).warm hW, hN.moved hW.alike⟩, by rw [hU], by rw [hU]; exact hP, ⟨hD.1, fun _ _ h9 => Or.inl (in_map (L := w.map Prod.fst) rfl h9)⟩, fun q hq => hZ q (hsr q hq)⟩⟩ rfl rfl hl.1 rfl (lv_room (Nat.le_of_ble_eq_true rfl)) dL_hangs_40 ⟨Nat.le_of_ble_eq_true rfl, Nat.le_of_ble_eq_true rfl⟩) hS hsr (fun w H locs hw hP hD1 hS _ _ => ?_)
  refine W.widen (k := 1) (n := 6) (by omega) (by omega) ?_
  have hD : va_D (OA L0 s.heap.size) w := hD1.weaken (fun _ q _ h9 => hsr q.1 h9)
  have hSz : s.heap.size ≤ H.size := hS.1
  refine lv_ldc (v := (-2000001)) hx hb hown (hts _ qw544) dL_hangs_43 ?_
  obtain ⟨o10, eo10, h⟩ := obind h
  have hJ94_o10 : ∀ (ls : Array Slot) (H : Heap) (locs : List Loc) (w : va_W), lv_has ls 19 [(0, .ref x0), (1, .int r1), (2, .int r2), (3, .int r3), (4, .int (0 : Int32)), (5, .int (0 : Int32)), (6, .int (0 : Int32)), (7, .int (0 : Int32)), (8, .int (-1 : Int32)), (9, .int (-1 : Int32))] → XG t x0 μ w → va_P D vwCl w H → va_D (OA L0 s.heap.size) w → va_S (OA L0 s.heap.size) s.heap H locs → W p l e (headSpec (ws_ yL_hangs cL_hangs 19 (some .boolean)) rm_L_hangs).room s m ([.ref x0] : List Value).toArray below meth c H locs 3 18 (MQ below (QB (fun _ : va_W => some (.int res)) D (fun w9 => w9) (XG t x0 (μ)) L0 s.heap.size) ([.ref x0] : List Value).toArray s 3 18 (OA L0 s.heap.size)) (F0 m 94 ls [.int o10]) := by
    intro ls H locs w hl hw hP hD hS
    have hSz : s.heap.size ≤ H.size := hS.1
    refine lv_istore (lv' := [(10, .int o10), (0, .ref x0), (1, .int r1), (2, .int r2), (3, .int r3), (4, .int (0 : Int32)), (5, .int (0 : Int32)), (6, .int (0 : Int32)), (7, .int (0 : Int32)), (8, .int (-1 : Int32)), (9, .int (-1 : Int32))]) hx hb dL_hangs_94 hl (by decide) rfl (fun ls hl => ?_)
    refine lv_iconst (v := (0)) hx hb dL_hangs_96 (by decide) ?_
    refine lv_istore (lv' := [(11, .int (0 : Int32)), (10, .int o10), (0, .ref x0), (1, .int r1), (2, .int r2), (3, .int r3), (4, .int (0 : Int32)), (5, .int (0 : Int32)), (6, .int (0 : Int32)), (7, .int (0 : Int32)), (8, .int (-1 : Int32)), (9, .int (-1 : Int32))]) hx hb dL_hangs_97 hl (by decide) rfl (fun ls hl => ?_)
    obtain ⟨o172, eo172, h⟩ := obind h
    have hL99 : ∀ (n : Nat) (y4_99 : Int32) (y5_99 : Int32) (y6_99 : Int32) (y7_99 : Int32) (y8_99 : Int32) (y9_99 : Int32) (y10_99 : Int32) (y11_99 : Int32) (o172 : Int32 × Int32 × Int32 × Int32 × Int32 × Int32 × Int32), f_L_hangs_L99 μ r1 r2 r3 n y4_99 y5_99 y6_99 y7_99 y8_99 y9_99 y10_99 y11_99 = some o172 → (∀ (ls : Array Slot) (H : Heap) (locs : List Loc) (w : va_W), lv_has ls 19 [(0, .ref x0), (3, .int r3), (4, .int o172.1), (5, .int o172.2.1), (6, .int o172.2.2.1), (7, .int o172.2.2.2.1), (8, .int o172.2.2.2.2.1), (9, .int o172.2.2.2.2.2.1), (10, .int o172.2.2.2.2.2.2)] → XG t x0 μ w → va_P D vwCl w H → va_D (OA L0 s.heap.size) w → va_S (OA L0 s.heap.size) s.heap H locs → W p l e (headSpec (ws_ yL_hangs cL_hangs 19 (some .boolean)) rm_L_hangs).room s m ([.ref x0] : List Value).toArray below meth c H locs 3 18 (MQ below (QB (fun _ : va_W => some (.int res)) D (fun w9 => w9) (XG t x0 (μ)) L0 s.heap.size) ([.ref x0] : List Value).toArray s 3 18 (OA L0 s.heap.size)) (F0 m 462 ls [])) → ∀ (ls : Array Slot) (H : Heap) (locs : List Loc) (w : va_W), lv_has ls 19 [(0, .ref x0), (1, .int r1), (2, .int r2), (3, .int r3), (4, .int y4_99), (5, .int y5_99), (6, .int y6_99), (7, .int y7_99), (8, .int y8_99), (9, .int y9_99), (10, .int y10_99), (11, .int y11_99)] → XG t x0 μ w → va_P D vwCl w H → va_D (OA L0 s.heap.size) w → va_S (OA L0 s.heap.size) s.heap H locs → W p l e (headSpec (ws_ yL_hangs cL_hangs 19 (some .boolean)) rm_L_hangs).room s m ([.ref x0] : List Value).toArray below meth c H locs 3 18 (MQ below (QB (fun _ : va_W => some (.int res)) D (fun w9 => w9) (XG t x0 (μ)) L0 s.heap.size) ([.ref x0] : List Value).toArray s 3 18 (OA L0 s.heap.size)) (F0 m 99 ls []) := by
      intro n
      induction n with
      | zero => intro y4_99 y5_99 y6_99 y7_99 y8_99 y9_99 y10_99 y11_99 o172 h; exact absurd h (fun z => by cases z)
      | succ n ih =>
        intro y4_99 y5_99 y6_99 y7_99 y8_99 y9_99 y10_99 y11_99 o172 h hK99 ls H locs w hl hw hP hD hS
        replace h : f_L_hangs_L99_b μ r1 r2 r3 (f_L_hangs_L99 μ r1 r2 r3 n) y4_99 y5_99 y6_99 y7_99 y8_99 y9_99 y10_99 y11_99 = some o172 := h
        unfold f_L_hangs_L99_b at h
        have hSz : s.heap.size ≤ H.size := hS.1
        refine lv_iload hx hb dL_hangs_99 (lv_at hl 11 rfl) ?_
        refine lv_iload_n hx hb dL_hangs_101 rfl (lv_at hl 2 rfl) ?_
        refine lv_icmp_ge (tgt := 462) hx hb dL_hangs_102 (by decide) (fun hc => ?_) (fun hc => ?_)
        · have h := iteT hc h
          obtain rfl := Option.some.inj h
          exact hK99 ls H locs w (lv_sub hl [0, 3, 4, 5, 6, 7, 8, 9, 10] rfl) hw hP hD hS
        · have h := iteF hc h
          refine lv_iload hx hb dL_hangs_105 (lv_at hl 10 rfl) ?_
          refine lv_if_eq (tgt := 462) hx hb dL_hangs_107 (by decide) (fun hc => ?_) (fun hc => ?_)
          · have h := iteT hc h
            obtain rfl := Option.some.inj h
            exact hK99 ls H locs w (lv_sub hl [0, 3, 4, 5, 6, 7, 8, 9, 10] rfl) hw hP hD hS
          · have h := iteF hc h
            refine lv_aload_n hx hb dL_hangs_110 rfl (lv_at hl 0 rfl) ?_
            refine lv_iload hx hb dL_hangs_111 (lv_at hl 11 rfl) ?_
            refine lv_iconst (v := (0)) hx hb dL_hangs_113 (by decide) ?_
            obtain ⟨r173, er173, h⟩ := obind h
            have hsr := OA.ofD (L' := w.map Prod.fst) hD rfl hSz
            refine call_Q (vx_runSW (As := [.ref x0, .int y11_99, .int (0 : Int32)]) (rest := []) ⟨hx, hb, hml, hown, hts⟩ (hq_row l hl9 z0 D t x0 μ y11_99 (0 : Int32) r173 er173 w hw H.size) (kH hts qw788 qw789 qw0 qw790 okL_row ⟨Nat.le_of_ble_eq_true rfl, Nat.le_of_ble_eq_true rfl⟩) ⟨PMH.blind, fun U hU hW => ⟨rfl, ⟨by rw [hU]; exact (hC.at hS hZ).warm hW, hN.moved hW.alike⟩, by rw [hU], by rw [hU]; exact hP, ⟨hD.1, fun _ _ h9 => Or.inl (in_map (L := w.map Prod.fst) rfl h9)⟩, fun q hq => hZ q (hsr q hq)⟩⟩ rfl rfl hl.1 rfl (lv_room (Nat.le_of_ble_eq_true rfl)) dL_hangs_114 ⟨Nat.le_of_ble_eq_true rfl, Nat.le_of_ble_eq_true rfl⟩) hS hsr (fun w H locs hw hP hD1 hS _ _ => ?_)
            have hD : va_D (OA L0 s.heap.size) w := hD1.weaken (fun _ q _ h9 => hsr q.1 h9)
            have hSz : s.heap.size ≤ H.size := hS.1
            refine lv_istore (lv' := [(12, .int r173), (0, .ref x0), (1, .int r1), (2, .int r2), (3, .int r3), (4, .int y4_99), (5, .int y5_99), (6, .int y6_99), (7, .int y7_99), (8, .int y8_99), (9, .int y9_99), (10, .int y10_99), (11, .int y11_99)]) hx hb dL_hangs_117 hl (by decide) rfl (fun ls hl => ?_)
            refine lv_aload_n hx hb dL_hangs_119 rfl (lv_at hl 1 rfl) ?_
            refine lv_iload hx hb dL_hangs_120 (lv_at hl 12 rfl) ?_
            refine lv_iconst (v := (1)) hx hb dL_hangs_122 (by decide) ?_
            obtain ⟨r174, er174, h⟩ := obind h
            have hsr := OA.ofD (L' := w.map Prod.fst) hD rfl hSz
            refine call_Q (vx_runSW (As := [.ref x0, .int y11_99, .int (1 : Int32)]) (rest := []) ⟨hx, hb, hml, hown, hts⟩ (hq_row l hl9 z0 D t x0 μ y11_99 (1 : Int32) r174 er174 w hw H.size) (kH hts qw788 qw789 qw0 qw790 okL_row ⟨Nat.le_of_ble_eq_true rfl, Nat.le_of_ble_eq_true rfl⟩) ⟨PMH.blind, fun U hU hW => ⟨rfl, ⟨by rw [hU]; exact (hC.at hS hZ).warm hW, hN.moved hW.alike⟩, by rw [hU], by rw [hU]; exact hP, ⟨hD.1, fun _ _ h9 => Or.inl (in_map (L := w.map Prod.fst) rfl h9)⟩, fun q hq => hZ q (hsr q hq)⟩⟩ rfl rfl hl.1 rfl (lv_room (Nat.le_of_ble_eq_true rfl)) dL_hangs_123 ⟨Nat.le_of_ble_eq_true rfl, Nat.le_of_ble_eq_true rfl⟩) hS hsr (fun w H locs hw hP hD1 hS _ _ => ?_)
            have hD : va_D (OA L0 s.heap.size) w := hD1.weaken (fun _ q _ h9 => hsr q.1 h9)
            have hSz : s.heap.size ≤ H.size := hS.1
            refine lv_istore (lv' := [(13, .int r174), (12, .int r173), (0, .ref x0), (1, .int r1), (2, .int r2), (3, .int r3), (4, .int y4_99), (5, .int y5_99), (6, .int y6_99), (7, .int y7_99), (8, .int y8_99), (9, .int y9_99), (10, .int y10_99), (11, .int y11_99)]) hx hb dL_hangs_126 hl (by decide) rfl (fun ls hl => ?_)
            refine lv_aload_n hx hb dL_hangs_128 rfl (lv_at hl 2 rfl) ?_
            refine lv_iload hx hb dL_hangs_129 (lv_at hl 13 rfl) ?_
            refine lv_iconst (v := (2)) hx hb dL_hangs_131 (by decide) ?_
            obtain ⟨r175, er175, h⟩ := obind h
            have hsr := OA.ofD (L' := w.map Prod.fst) hD rfl hSz
            refine call_Q (vx_runSW (As := [.ref x0, .int y11_99, .int (2 : Int32)]) (rest := []) ⟨hx, hb, hml, hown, hts⟩ (hq_row l hl9 z0 D t x0 μ y11_99 (2 : Int32) r175 er175 w hw H.size) (kH hts qw788 qw789 qw0 qw790 okL_row ⟨Nat.le_of_ble_eq_true rfl, Nat.le_of_ble_eq_true rfl⟩) ⟨PMH.blind, fun U hU hW => ⟨rfl, ⟨by rw [hU]; exact (hC.at hS hZ).warm hW, hN.moved hW.alike⟩, by rw [hU], by rw [hU]; exact hP, ⟨hD.1, fun _ _ h9 => Or.inl (in_map (L := w.map Prod.fst) rfl h9)⟩, fun q hq => hZ q (hsr q hq)⟩⟩ rfl rfl hl.1 rfl (lv_room (Nat.le_of_ble_eq_true rfl)) dL_hangs_132 ⟨Nat.le_of_ble_eq_true rfl, Nat.le_of_ble_eq_true rfl⟩) hS hsr (fun w H locs hw hP hD1 hS _ _ => ?_)
            have hD : va_D (OA L0 s.heap.size) w := hD1.weaken (fun _ q _ h9 => hsr q.1 h9)
            have hSz : s.heap.size ≤ H.size := hS.1
            refine lv_istore (lv' := [(14, .int r175), (13, .int r174), (12, .int r173), (0, .ref x0), (1, .int r1), (2, .int r2), (3, .int r3), (4, .int y4_99), (5, .int y5_99), (6, .int y6_99), (7, .int y7_99), (8, .int y8_99), (9, .int y9_99), (10, .int y10_99), (11, .int y11_99)]) hx hb dL_hangs_135 hl (by decide) rfl (fun ls hl => ?_)
            refine lv_iload hx hb dL_hangs_137 (lv_at hl 7 rfl) ?_
            refine lv_iload hx hb dL_hangs_139 (lv_at hl 2 rfl) ?_
            obtain ⟨r176, er176, h⟩ := obind h
            refine call_R (va_runS (As := [.int r173]) (rest := [.int y4_99]) ⟨hx, hb, hml, hown, hts⟩ (c_L_bits l z0 D t r173 _ er176) (kS hts qw910 qw911 qw0 qw912 ok_L_bits ⟨Nat.le_of_ble_eq_true rfl, Nat.le_of_ble_eq_true rfl⟩) ⟨PR.blind, fun U hU hW => ⟨rfl, by rw [hU]; exact (hC.at hS hZ).warm hW, by rw [hU]; exact va_P_nil⟩⟩ rfl rfl hl.1 rfl (lv_room (Nat.le_of_ble_eq_true rfl)) dL_hangs_141 ⟨Nat.le_of_ble_eq_true rfl, Nat.le_of_ble_eq_true rfl⟩) ?_
            refine lv_iadd hx hb dL_hangs_144 ?_
            obtain ⟨x177, ex177, h⟩ := jlet_some h
            refine topI ex177 ?_
            refine lv_istore (lv' := [(4, .int x177), (14, .int r175), (13, .int r174), (12, .int r173), (0, .ref x0), (1, .int r1), (2, .int r2), (3, .int r3), (5, .int y5_99), (6, .int y6_99), (7, .int y7_99), (8, .int y8_99), (9, .int y9_99), (10, .int y10_99), (11, .int y11_99)]) hx hb dL_hangs_145 hl (by decide) rfl (fun ls hl => ?_)
            refine lv_iload hx hb dL_hangs_147 (lv_at hl 8 rfl) ?_
            refine lv_iload hx hb dL_hangs_149 (lv_at hl 2 rfl) ?_
            obtain ⟨r178, er178, h⟩ := obind h
            refine call_R (va_runS (As := [.int r174]) (rest := [.int y5_99]) ⟨hx, hb, hml, hown, hts⟩ (c_L_bits l z0 D t r174 _ er178) (kS hts qw910 qw911 qw0 qw912 ok_L_bits ⟨Nat.le_of_ble_eq_true rfl, Nat.le_of_ble_eq_true rfl⟩) ⟨PR.blind, fun U hU hW => ⟨rfl, by rw [hU]; exact (hC.at hS hZ).warm hW, by rw [hU]; exact va_P_nil⟩⟩ rfl rfl hl.1 rfl (lv_room (Nat.le_of_ble_eq_true rfl)) dL_hangs_151 ⟨Nat.le_of_ble_eq_true rfl, Nat.le_of_ble_eq_true rfl⟩) ?_
            refine lv_iadd hx hb dL_hangs_154 ?_
            obtain ⟨x179, ex179, h⟩ := jlet_some h
            refine topI ex179 ?_
            refine lv_istore (lv' := [(5, .int x179), (4, .int x177), (14, .int r175), (13, .int r174), (12, .int r173), (0, .ref x0), (1, .int r1), (2, .int r2), (3, .int r3), (6, .int y6_99), (7, .int y7_99), (8, .int y8_99), (9, .int y9_99), (10, .int y10_99), (11, .int y11_99)]) hx hb dL_hangs_155 hl (by decide) rfl (fun ls hl => ?_)
            refine lv_iload hx hb dL_hangs_157 (lv_at hl 9 rfl) ?_
            refine lv_iload hx hb dL_hangs_159 (lv_at hl 2 rfl) ?_
            obtain ⟨r180, er180, h⟩ := obind h
            refine call_R (va_runS (As := [.int r175]) (rest := [.int y6_99]) ⟨hx, hb, hml, hown, hts⟩ (c_L_bits l z0 D t r175 _ er180) (kS hts qw910 qw911 qw0 qw912 ok_L_bits ⟨Nat.le_of_ble_eq_true rfl, Nat.le_of_ble_eq_true rfl⟩) ⟨PR.blind, fun U hU hW => ⟨rfl, by rw [hU]; exact (hC.at hS hZ).warm hW, by rw [hU]; exact va_P_nil⟩⟩ rfl rfl hl.1 rfl (lv_room (Nat.le_of_ble_eq_true rfl)) dL_hangs_161 ⟨Nat.le_of_ble_eq_true rfl, Nat.le_of_ble_eq_true rfl⟩) ?_
            refine lv_iadd hx hb dL_hangs_164 ?_
            obtain ⟨x181, ex181, h⟩ := jlet_some h
            refine topI ex181 ?_
            refine lv_istore (lv' := [(6, .int x181), (5, .int x179), (4, .int x177), (14, .int r175), (13, .int r174), (12, .int r173), (0, .ref x0), (1, .int r1), (2, .int r2), (3, .int r3), (7, .int y7_99), (8, .int y8_99), (9, .int y9_99), (10, .int y10_99), (11, .int y11_99)]) hx hb dL_hangs_165 hl (by decide) rfl (fun ls hl => ?_)
            refine lv_iload hx hb dL_hangs_167 (lv_at hl 5 rfl) ?_
            refine lv_iload hx hb dL_hangs_169 (lv_at hl 4 rfl) ?_
            refine lv_iand hx hb dL_hangs_171 ?_
            obtain ⟨o182, eo182, h⟩ := obind h
            have hJ196_o182 : ∀ (ls : Array Slot) (H : Heap) (locs : List Loc) (w : va_W), lv_has ls 19 [(0, .ref x0), (1, .int r1), (2, .int r2), (3, .int r3), (4, .int x177), (5, .int x179), (6, .int x181), (7, .int y7_99), (8, .int y8_99), (9, .int y9_99), (11, .int y11_99), (12, .int r173), (13, .int r174), (14, .int r175)] → XG t x0 μ w → va_P D vwCl w H → va_D (OA L0 s.heap.size) w → va_S (OA L0 s.heap.size) s.heap H locs → W p l e (headSpec (ws_ yL_hangs cL_hangs 19 (some .boolean)) rm_L_hangs).room s m ([.ref x0] : List Value).toArray below meth c H locs 3 18 (MQ below (QB (fun _ : va_W => some (.int res)) D (fun w9 => w9) (XG t x0 (μ)) L0 s.heap.size) ([.ref x0] : List Value).toArray s 3 18 (OA L0 s.heap.size)) (F0 m 196 ls [.int o182]) := by
              intro ls H locs w hl hw hP hD hS
              have hSz : s.heap.size ≤ H.size := hS.1
              refine lv_istore (lv' := [(10, .int o182), (0, .ref x0), (1, .int r1), (2, .int r2), (3, .int r3), (4, .int x177), (5, .int x179), (6, .int x181), (7, .int y7_99), (8, .int y8_99), (9, .int y9_99), (11, .int y11_99), (12, .int r173), (13, .int r174), (14, .int r175)]) hx hb dL_hangs_196 hl (by decide) rfl (fun ls hl => ?_)
              refine lv_iconst (v := (0)) hx hb dL_hangs_198 (by decide) ?_
              refine lv_istore (lv' := [(15, .int (0 : Int32)), (10, .int o182), (0, .ref x0), (1, .int r1), (2, .int r2), (3, .int r3), (4, .int x177), (5, .int x179), (6, .int x181), (7, .int y7_99), (8, .int y8_99), (9, .int y9_99), (11, .int y11_99), (12, .int r173), (13, .int r174), (14, .int r175)]) hx hb dL_hangs_199 hl (by decide) rfl (fun ls hl => ?_)
              obtain ⟨o227, eo227, h⟩ := obind h
              have hL201 : ∀ (n : Nat) (y7_201 : Int32) (y8_201 : Int32) (y9_201 : Int32) (y10_201 : Int32) (y15_201 : Int32) (o227 : Int32 × Int32 × Int32 × Int32), f_L_hangs_L201 μ r1 r3 y11_99 r173 r174 r175 n y7_201 y8_201 y9_201 y10_201 y15_201 = some o227 → (∀ (ls : Array Slot) (H : Heap) (locs : List Loc) (w : va_W), lv_has ls 19 [(0, .ref x0), (1, .int r1), (2, .int r2), (3, .int r3), (4, .int x177), (5, .int x179), (6, .int x181), (7, .int o227.1), (8, .int o227.2.1), (9, .int o227.2.2.1), (10, .int o227.2.2.2), (11, .int y11_99)] → XG t x0 μ w → va_P D vwCl w H → va_D (OA L0 s.heap.size) w → va_S (OA L0 s.heap.size) s.heap H locs → W p l e (headSpec (ws_ yL_hangs cL_hangs 19 (some .boolean)) rm_L_hangs).room s m ([.ref x0] : List Value).toArray below meth c H locs 3 18 (MQ below (QB (fun _ : va_W => some (.int res)) D (fun w9 => w9) (XG t x0 (μ)) L0 s.heap.size) ([.ref x0] : List Value).toArray s 3 18 (OA L0 s.heap.size)) (F0 m 456 ls [])) → ∀ (ls : Array Slot) (H : Heap) (locs : List Loc) (w : va_W), lv_has ls 19 [(0, .ref x0), (1, .int r1), (2, .int r2), (3, .int r3), (4, .int x177), (5, .int x179), (6, .int x181), (7, .int y7_201), (8, .int y8_201), (9, .int y9_201), (10, .int y10_201), (11, .int y11_99), (12, .int r173), (13, .int r174), (14, .int r175), (15, .int y15_201)] → XG t x0 μ w → va_P D vwCl w H → va_D (OA L0 s.heap.size) w → va_S (OA L0 s.heap.size) s.heap H locs → W p l e (headSpec (ws_ yL_hangs cL_hangs 19 (some .boolean)) rm_L_hangs).room s m ([.ref x0] : List Value).toArray below meth c H locs 3 18 (MQ below (QB (fun _ : va_W => some (.int res)) D (fun w9 => w9) (XG t x0 (μ)) L0 s.heap.size) ([.ref x0] : List Value).toArray s 3 18 (OA L0 s.heap.size)) (F0 m 201 ls []) := by
                intro n
                induction n with
                | zero => intro y7_201 y8_201 y9_201 y10_201 y15_201 o227 h; exact absurd h (fun z => by cases z)
                | succ n ih =>
                  intro y7_201 y8_201 y9_201 y10_201 y15_201 o227 h hK201 ls H locs w hl hw hP hD hS
                  replace h : f_L_hangs_L201_b μ r1 r3 y11_99 r173 r174 r175 (f_L_hangs_L201 μ r1 r3 y11_99 r173 r174 r175 n) y7_201 y8_201 y9_201 y10_201 y15_201 = some o227 := h
                  unfold f_L_hangs_L201_b at h
                  have hSz : s.heap.size ≤ H.size := hS.1
                  refine lv_iload hx hb dL_hangs_201 (lv_at hl 15 rfl) ?_
                  refine lv_iload_n hx hb dL_hangs_203 rfl (lv_at hl 1 rfl) ?_
                  refine lv_icmp_ge (tgt := 456) hx hb dL_hangs_204 (by decide) (fun hc => ?_) (fun hc => ?_)
                  · have h := iteT hc h
                    obtain rfl := Option.some.inj h
                    exact hK201 ls H locs w (lv_sub hl [0, 1, 2, 3, 4, 5, 6, 7, 8, 9, 10, 11] rfl) hw hP hD hS
                  · have h := iteF hc h
                    refine lv_iload hx hb dL_hangs_207 (lv_at hl 10 rfl) ?_
                    refine lv_if_eq (tgt := 456) hx hb dL_hangs_209 (by decide) (fun hc => ?_) (fun hc => ?_)
                    · have h := iteT hc h
                      obtain rfl := Option.some.inj h
                      exact hK201 ls H locs w (lv_sub hl [0, 1, 2, 3, 4, 5, 6, 7, 8, 9, 10, 11] rfl) hw hP hD hS
                    · have h := iteF hc h
                      refine lv_aload_n hx hb dL_hangs_212 rfl (lv_at hl 0 rfl) ?_
                      refine lv_iload hx hb dL_hangs_213 (lv_at hl 15 rfl) ?_
                      refine lv_iload hx hb dL_hangs_215 (lv_at hl 11 rfl) ?_
                      refine lv_iconst (v := (0)) hx hb dL_hangs_217 (by decide) ?_
                      obtain ⟨r228, er228, h⟩ := obind h
                      have hsr := OA.ofD (L' := w.map Prod.fst) hD rfl hSz
                      refine call_Q (vx_runSW (As := [.ref x0, .int y15_201, .int y11_99, .int (0 : Int32)]) (rest := []) ⟨hx, hb, hml, hown, hts⟩ (hq_cellOf l hl9 z0 D t x0 μ y15_201 y11_99 (0 : Int32) r228 er228 w hw H.size) (kH hts qw757 qw758 qw0 qw759 okL_cellOf ⟨Nat.le_of_ble_eq_true rfl, Nat.le_of_ble_eq_true rfl⟩) ⟨PMH.blind, fun U hU hW => ⟨rfl, ⟨by rw [hU]; exact (hC.at hS hZ).warm hW, hN.moved hW.alike⟩, by rw [hU], by rw [hU]; exact hP, ⟨hD.1, fun _ _ h9 => Or.inl (in_map (L := w.map Prod.fst) rfl h9)⟩, fun q hq => hZ q (hsr q hq)⟩⟩ rfl rfl hl.1 rfl (lv_room (Nat.le_of_ble_eq_true rfl)) dL_hangs_218 ⟨Nat.le_of_ble_eq_true rfl, Nat.le_of_ble_eq_true rfl⟩) hS hsr (fun w H locs hw hP hD1 hS _ _ => ?_)
                      have hD : va_D (OA L0 s.heap.size) w := hD1.weaken (fun _ q _ h9 => hsr q.1 h9)
                      have hSz : s.heap.size ≤ H.size := hS.1
                      refine lv_istore (lv' := [(16, .int r228), (0, .ref x0), (1, .int r1), (2, .int r2), (3, .int r3), (4, .int x177), (5, .int x179), (6, .int x181), (7, .int y7_201), (8, .int y8_201), (9, .int y9_201), (10, .int y10_201), (11, .int y11_99), (12, .int r173), (13, .int r174), (14, .int r175), (15, .int y15_201)]) hx hb dL_hangs_221 hl (by decide) rfl (fun ls hl => ?_)
                      refine lv_aload_n hx hb dL_hangs_223 rfl (lv_at hl 1 rfl) ?_
                      refine lv_iload hx hb dL_hangs_224 (lv_at hl 16 rfl) ?_
                      refine lv_iload hx hb dL_hangs_226 (lv_at hl 12 rfl) ?_
                      refine lv_iconst (v := (1)) hx hb dL_hangs_228 (by decide) ?_
                      obtain ⟨r229, er229, h⟩ := obind h
                      have hsr := OA.ofD (L' := w.map Prod.fst) hD rfl hSz
                      refine call_Q (vx_runSW (As := [.ref x0, .int y15_201, .int y11_99, .int (1 : Int32)]) (rest := []) ⟨hx, hb, hml, hown, hts⟩ (hq_cellOf l hl9 z0 D t x0 μ y15_201 y11_99 (1 : Int32) r229 er229 w hw H.size) (kH hts qw757 qw758 qw0 qw759 okL_cellOf ⟨Nat.le_of_ble_eq_true rfl, Nat.le_of_ble_eq_true rfl⟩) ⟨PMH.blind, fun U hU hW => ⟨rfl, ⟨by rw [hU]; exact (hC.at hS hZ).warm hW, hN.moved hW.alike⟩, by rw [hU], by rw [hU]; exact hP, ⟨hD.1, fun _ _ h9 => Or.inl (in_map (L := w.map Prod.fst) rfl h9)⟩, fun q hq => hZ q (hsr q hq)⟩⟩ rfl rfl hl.1 rfl (lv_room (Nat.le_of_ble_eq_true rfl)) dL_hangs_229 ⟨Nat.le_of_ble_eq_true rfl, Nat.le_of_ble_eq_true rfl⟩) hS hsr (fun w H locs hw hP hD1 hS _ _ => ?_)
                      have hD : va_D (OA L0 s.heap.size) w := hD1.weaken (fun _ q _ h9 => hsr q.1 h9)
                      have hSz : s.heap.size ≤ H.size := hS.1
                      refine lv_istore (lv' := [(17, .int r229), (16, .int r228), (0, .ref x0), (1, .int r1), (2, .int r2), (3, .int r3), (4, .int x177), (5, .int x179), (6, .int x181), (7, .int y7_201), (8, .int y8_201), (9, .int y9_201), (10, .int y10_201), (11, .int y11_99), (12, .int r173), (13, .int r174), (14, .int r175), (15, .int y15_201)]) hx hb dL_hangs_232 hl (by decide) rfl (fun ls hl => ?_)
                      refine lv_aload_n hx hb dL_hangs_234 rfl (lv_at hl 2 rfl) ?_
                      refine lv_iload hx hb dL_hangs_235 (lv_at hl 17 rfl) ?_
                      refine lv_iload hx hb dL_hangs_237 (lv_at hl 13 rfl) ?_
                      refine lv_iconst (v := (2)) hx hb dL_hangs_239 (by decide) ?_
                      obtain ⟨r230, er230, h⟩ := obind h
                      have hsr := OA.ofD (L' := w.map Prod.fst) hD rfl hSz
                      refine call_Q (vx_runSW (As := [.ref x0, .int y15_201, .int y11_99, .int (2 : Int32)]) (rest := []) ⟨hx, hb, hml, hown, hts⟩ (hq_cellOf l hl9 z0 D t x0 μ y15_201 y11_99 (2 : Int32) r230 er230 w hw H.size) (kH hts qw757 qw758 qw0 qw759 okL_cellOf ⟨Nat.le_of_ble_eq_true rfl, Nat.le_of_ble_eq_true rfl⟩) ⟨PMH.blind, fun U hU hW => ⟨rfl, ⟨by rw [hU]; exact (hC.at hS hZ).warm hW, hN.moved hW.alike⟩, by rw [hU], by rw [hU]; exact hP, ⟨hD.1, fun _ _ h9 => Or.inl (in_map (L := w.map Prod.fst) rfl h9)⟩, fun q hq => hZ q (hsr q hq)⟩⟩ rfl rfl hl.1 rfl (lv_room (Nat.le_of_ble_eq_true rfl)) dL_hangs_240 ⟨Nat.le_of_ble_eq_true rfl, Nat.le_of_ble_eq_true rfl⟩) hS hsr (fun w H locs hw hP hD1 hS _ _ => ?_)
                      have hD : va_D (OA L0 s.heap.size) w := hD1.weaken (fun _ q _ h9 => hsr q.1 h9)
                      have hSz : s.heap.size ≤ H.size := hS.1
                      refine lv_istore (lv' := [(18, .int r230), (17, .int r229), (16, .int r228), (0, .ref x0), (1, .int r1), (2, .int r2), (3, .int r3), (4, .int x177), (5, .int x179), (6, .int x181), (7, .int y7_201), (8, .int y8_201), (9, .int y9_201), (10, .int y10_201), (11, .int y11_99), (12, .int r173), (13, .int r174), (14, .int r175), (15, .int y15_201)]) hx hb dL_hangs_243 hl (by decide) rfl (fun ls hl => ?_)
                      refine lv_iload hx hb dL_hangs_245 (lv_at hl 2 rfl) ?_
                      obtain ⟨o231, eo231, h⟩ := obind h
                      have hJ255_o231 : ∀ (ls : Array Slot) (H : Heap) (locs : List Loc) (w : va_W), lv_has ls 19 [(0, .ref x0), (1, .int r1), (2, .int r2), (3, .int r3), (4, .int x177), (5, .int x179), (6, .int x181), (7, .int y7_201), (8, .int y8_201), (9, .int y9_201), (11, .int y11_99), (12, .int r173), (13, .int r174), (14, .int r175), (15, .int y15_201), (16, .int r228), (17, .int r229), (18, .int r230)] → XG t x0 μ w → va_P D vwCl w H → va_D (OA L0 s.heap.size) w → va_S (OA L0 s.heap.size) s.heap H locs → W p l e (headSpec (ws_ yL_hangs cL_hangs 19 (some .boolean)) rm_L_hangs).room s m ([.ref x0] : List Value).toArray below meth c H locs 3 18 (MQ below (QB (fun _ : va_W => some (.int res)) D (fun w9 => w9) (XG t x0 (μ)) L0 s.heap.size) ([.ref x0] : List Value).toArray s 3 18 (OA L0 s.heap.size)) (F0 m 255 ls [.int o231]) := by
                        intro ls H locs w hl hw hP hD hS
                        have hSz : s.heap.size ≤ H.size := hS.1
                        refine lv_iload hx hb dL_hangs_255 (lv_at hl 11 rfl) ?_
                        refine lv_iload hx hb dL_hangs_257 (lv_at hl 14 rfl) ?_
                        refine lv_ishr hx hb dL_hangs_259 ?_
                        refine lv_iconst (v := (1)) hx hb dL_hangs_260 (by decide) ?_
                        refine lv_iand hx hb dL_hangs_261 ?_
                        refine lv_iconst (v := (1)) hx hb dL_hangs_262 (by decide) ?_
                        obtain ⟨o232, eo232, h⟩ := obind h
                        have hJ271_o232 : ∀ (ls : Array Slot) (H : Heap) (locs : List Loc) (w : va_W), lv_has ls 19 [(0, .ref x0), (1, .int r1), (2, .int r2), (3, .int r3), (4, .int x177), (5, .int x179), (6, .int x181), (7, .int y7_201), (8, .int y8_201), (9, .int y9_201), (11, .int y11_99), (12, .int r173), (13, .int r174), (14, .int r175), (15, .int y15_201), (16, .int r228), (17, .int r229), (18, .int r230)] → XG t x0 μ w → va_P D vwCl w H → va_D (OA L0 s.heap.size) w → va_S (OA L0 s.heap.size) s.heap H locs → W p l e (headSpec (ws_ yL_hangs cL_hangs 19 (some .boolean)) rm_L_hangs).room s m ([.ref x0] : List Value).toArray below meth c H locs 3 18 (MQ below (QB (fun _ : va_W => some (.int res)) D (fun w9 => w9) (XG t x0 (μ)) L0 s.heap.size) ([.ref x0] : List Value).toArray s 3 18 (OA L0 s.heap.size)) (F0 m 271 ls [.int o232, .int o231]) := by
                          intro ls H locs w hl hw hP hD hS
                          have hSz : s.heap.size ≤ H.size := hS.1
                          obtain ⟨o239, eo239, h⟩ := obind h
                          have hJ380_o239 : ∀ (ls : Array Slot) (H : Heap) (locs : List Loc) (w : va_W), lv_has ls 19 [(0, .ref x0), (1, .int r1), (2, .int r2), (3, .int r3), (4, .int x177), (5, .int x179), (6, .int x181), (7, .int y7_201), (8, .int y8_201), (9, .int y9_201), (11, .int y11_99), (12, .int r173), (13, .int r174), (14, .int r175), (15, .int y15_201), (16, .int r228), (18, .int r230)] → XG t x0 μ w → va_P D vwCl w H → va_D (OA L0 s.heap.size) w → va_S (OA L0 s.heap.size) s.heap H locs → W p l e (headSpec (ws_ yL_hangs cL_hangs 19 (some .boolean)) rm_L_hangs).room s m ([.ref x0] : List Value).toArray below meth c H locs 3 18 (MQ below (QB (fun _ : va_W => some (.int res)) D (fun w9 => w9) (XG t x0 (μ)) L0 s.heap.size) ([.ref x0] : List Value).toArray s 3 18 (OA L0 s.heap.size)) (F0 m 380 ls [.int o239]) := by
                            intro ls H locs w hl hw hP hD hS
                            have hSz : s.heap.size ≤ H.size := hS.1
                            refine lv_istore (lv' := [(10, .int o239), (0, .ref x0), (1, .int r1), (2, .int r2), (3, .int r3), (4, .int x177), (5, .int x179), (6, .int x181), (7, .int y7_201), (8, .int y8_201), (9, .int y9_201), (11, .int y11_99), (12, .int r173), (13, .int r174), (14, .int r175), (15, .int y15_201), (16, .int r228), (18, .int r230)]) hx hb dL_hangs_380 hl (by decide) rfl (fun ls hl => ?_)
                            refine lv_iload hx hb dL_hangs_382 (lv_at hl 8 rfl) ?_
                            refine lv_iload hx hb dL_hangs_384 (lv_at hl 17 rfl) ?_
                            refine lv_iadd hx hb dL_hangs_386 ?_
                            obtain ⟨x246, ex246, h⟩ := jlet_some h
                            refine topI ex246 ?_
                            refine lv_istore (lv' := [(7, .int x246), (10, .int o239), (0, .ref x0), (1, .int r1), (2, .int r2), (3, .int r3), (4, .int x177), (5, .int x179), (6, .int x181), (8, .int y8_201), (9, .int y9_201), (11, .int y11_99), (12, .int r173), (13, .int r174), (14, .int r175), (15, .int y15_201), (16, .int r228), (18, .int r230)]) hx hb dL_hangs_387 hl (by decide) rfl (fun ls hl => ?_)
                            refine lv_iload hx hb dL_hangs_389 (lv_at hl 9 rfl) ?_
                            obtain ⟨o247, eo247, h⟩ := obind h
                            have hJ417_o247 : ∀ (ls : Array Slot) (H : Heap) (locs : List Loc) (w : va_W), lv_has ls 19 [(0, .ref x0), (1, .int r1), (2, .int r2), (3, .int r3), (4, .int x177), (5, .int x179), (6, .int x181), (7, .int x246), (9, .int y9_201), (10, .int o239), (11, .int y11_99), (12, .int r173), (13, .int r174), (14, .int r175), (15, .int y15_201), (16, .int r228), (18, .int r230)] → XG t x0 μ w → va_P D vwCl w H → va_D (OA L0 s.heap.size) w → va_S (OA L0 s.heap.size) s.heap H locs → W p l e (headSpec (ws_ yL_hangs cL_hangs 19 (some .boolean)) rm_L_hangs).room s m ([.ref x0] : List Value).toArray below meth c H locs 3 18 (MQ below (QB (fun _ : va_W => some (.int res)) D (fun w9 => w9) (XG t x0 (μ)) L0 s.heap.size) ([.ref x0] : List Value).toArray s 3 18 (OA L0 s.heap.size)) (F0 m 417 ls [.int o247]) := by
                              intro ls H locs w hl hw hP hD hS
                              have hSz : s.heap.size ≤ H.size := hS.1
                              refine lv_istore (lv' := [(8, .int o247), (0, .ref x0), (1, .int r1), (2, .int r2), (3, .int r3), (4, .int x177), (5, .int x179), (6, .int x181), (7, .int x246), (9, .int y9_201), (10, .int o239), (11, .int y11_99), (12, .int r173), (13, .int r174), (14, .int r175), (15, .int y15_201), (16, .int r228), (18, .int r230)]) hx hb dL_hangs_417 hl (by decide) rfl (fun ls hl => ?_)
                              refine lv_iload hx hb dL_hangs_419 (lv_at hl 9 rfl) ?_
                              obtain ⟨o248, eo248, h⟩ := obind h
                              have hJ448_o248 : ∀ (ls : Array Slot) (H : Heap) (locs : List Loc) (w : va_W), lv_has ls 19 [(0, .ref x0), (1, .int r1), (2, .int r2), (3, .int r3), (4, .int x177), (5, .int x179), (6, .int x181), (7, .int x246), (8, .int o247), (10, .int o239), (11, .int y11_99), (12, .int r173), (13, .int r174), (14, .int r175), (15, .int y15_201)] → XG t x0 μ w → va_P D vwCl w H → va_D (OA L0 s.heap.size) w → va_S (OA L0 s.heap.size) s.heap H locs → W p l e (headSpec (ws_ yL_hangs cL_hangs 19 (some .boolean)) rm_L_hangs).room s m ([.ref x0] : List Value).toArray below meth c H locs 3 18 (MQ below (QB (fun _ : va_W => some (.int res)) D (fun w9 => w9) (XG t x0 (μ)) L0 s.heap.size) ([.ref x0] : List Value).toArray s 3 18 (OA L0 s.heap.size)) (F0 m 448 ls [.int o248]) := by
                                intro ls H locs w hl hw hP hD hS
                                have hSz : s.heap.size ≤ H.size := hS.1
                                refine lv_istore (lv' := [(9, .int o248), (0, .ref x0), (1, .int r1), (2, .int r2), (3, .int r3), (4, .int x177), (5, .int x179), (6, .int x181), (7, .int x246), (8, .int o247), (10, .int o239), (11, .int y11_99), (12, .int r173), (13, .int r174), (14, .int r175), (15, .int y15_201)]) hx hb dL_hangs_448 hl (by decide) rfl (fun ls hl => ?_)
                                obtain ⟨x249, ex249, h⟩ := jlet_some h
                                refine lv_iinc (v := x249) (lv' := [(15, .int x249), (9, .int o248), (0, .ref x0), (1, .int r1), (2, .int r2), (3, .int r3), (4, .int x177), (5, .int x179), (6, .int x181), (7, .int x246), (8, .int o247), (10, .int o239), (11, .int y11_99), (12, .int r173), (13, .int r174), (14, .int r175)]) hx hb dL_hangs_450 hl (k := 15) rfl (by rw [ex249]; rfl) (by decide) rfl (fun ls hl => ?_)
                                refine lv_goto (tgt := 201) hx hb dL_hangs_453 (by decide) ?_
                                exact ih _ _ _ _ _ _ h hK201 ls H locs w (lv_sub hl [2, 3, 4, 5, 6, 7, 8, 9, 10, 1, 11, 12, 13, 14, 15, 0] rfl) hw hP hD hS
                              have h := eo248
                              clear eo248
                              refine lv_if_ge (tgt := 446) hx hb dL_hangs_421 (by decide) (fun hc => ?_) (fun hc => ?_)
                              · have h := iteT hc h
                                refine lv_iload hx hb dL_hangs_446 (lv_at hl 9 rfl) ?_
                                obtain rfl := Option.some.inj h
                                exact hJ448_o248 ls H locs w (lv_sub hl [1, 2, 3, 4, 5, 6, 7, 8, 0, 10, 11, 12, 13, 14, 15] rfl) hw hP hD hS
                              · have h := iteF hc h
                                refine lv_iload hx hb dL_hangs_424 (lv_at hl 16 rfl) ?_
                                refine lv_if_ne (tgt := 446) hx hb dL_hangs_426 (by decide) (fun hc => ?_) (fun hc => ?_)
                                · have h := iteF hc h
                                  refine lv_iload hx hb dL_hangs_446 (lv_at hl 9 rfl) ?_
                                  obtain rfl := Option.some.inj h
                                  exact hJ448_o248 ls H locs w (lv_sub hl [1, 2, 3, 4, 5, 6, 7, 8, 0, 10, 11, 12, 13, 14, 15] rfl) hw hP hD hS
                                · have h := iteT hc h
                                  refine lv_iload hx hb dL_hangs_429 (lv_at hl 17 rfl) ?_
                                  refine lv_iconst (v := (1)) hx hb dL_hangs_431 (by decide) ?_
                                  refine lv_icmp_ne (tgt := 446) hx hb dL_hangs_432 (by decide) (fun hc => ?_) (fun hc => ?_)
                                  · have h := iteF hc h
                                    refine lv_iload hx hb dL_hangs_446 (lv_at hl 9 rfl) ?_
                                    obtain rfl := Option.some.inj h
                                    exact hJ448_o248 ls H locs w (lv_sub hl [1, 2, 3, 4, 5, 6, 7, 8, 0, 10, 11, 12, 13, 14, 15] rfl) hw hP hD hS
                                  · have h := iteT hc h
                                    refine lv_iload hx hb dL_hangs_435 (lv_at hl 15 rfl) ?_
                                    refine lv_bipush (v := (10)) hx hb dL_hangs_437 (by decide) ?_
                                    refine lv_iload hx hb dL_hangs_439 (lv_at hl 11 rfl) ?_
                                    refine lv_imul hx hb dL_hangs_441 ?_
                                    refine lv_iadd hx hb dL_hangs_442 ?_
                                    refine lv_goto (tgt := 448) hx hb dL_hangs_443 (by decide) ?_
                                    obtain rfl := Option.some.inj h
                                    exact hJ448_o248 ls H locs w (lv_sub hl [1, 2, 3, 4, 5, 6, 7, 8, 0, 10, 11, 12, 13, 14, 15] rfl) hw hP hD hS
                            have h := eo247
                            clear eo247
                            refine lv_if_ge (tgt := 415) hx hb dL_hangs_391 (by decide) (fun hc => ?_) (fun hc => ?_)
                            · have h := iteT hc h
                              refine lv_iload hx hb dL_hangs_415 (lv_at hl 9 rfl) ?_
                              obtain rfl := Option.some.inj h
                              exact hJ417_o247 ls H locs w (lv_sub hl [2, 3, 4, 5, 6, 7, 8, 0, 10, 1, 11, 12, 13, 14, 15, 16, 17] rfl) hw hP hD hS
                            · have h := iteF hc h
                              refine lv_iload hx hb dL_hangs_394 (lv_at hl 16 rfl) ?_
                              refine lv_if_ne (tgt := 415) hx hb dL_hangs_396 (by decide) (fun hc => ?_) (fun hc => ?_)
                              · have h := iteF hc h
                                refine lv_iload hx hb dL_hangs_415 (lv_at hl 9 rfl) ?_
                                obtain rfl := Option.some.inj h
                                exact hJ417_o247 ls H locs w (lv_sub hl [2, 3, 4, 5, 6, 7, 8, 0, 10, 1, 11, 12, 13, 14, 15, 16, 17] rfl) hw hP hD hS
                              · have h := iteT hc h
                                refine lv_iload hx hb dL_hangs_399 (lv_at hl 17 rfl) ?_
                                refine lv_if_ne (tgt := 415) hx hb dL_hangs_401 (by decide) (fun hc => ?_) (fun hc => ?_)
                                · have h := iteF hc h
                                  refine lv_iload hx hb dL_hangs_415 (lv_at hl 9 rfl) ?_
                                  obtain rfl := Option.some.inj h
                                  exact hJ417_o247 ls H locs w (lv_sub hl [2, 3, 4, 5, 6, 7, 8, 0, 10, 1, 11, 12, 13, 14, 15, 16, 17] rfl) hw hP hD hS
                                · have h := iteT hc h
                                  refine lv_iload hx hb dL_hangs_404 (lv_at hl 15 rfl) ?_
                                  refine lv_bipush (v := (10)) hx hb dL_hangs_406 (by decide) ?_
                                  refine lv_iload hx hb dL_hangs_408 (lv_at hl 11 rfl) ?_
                                  refine lv_imul hx hb dL_hangs_410 ?_
                                  refine lv_iadd hx hb dL_hangs_411 ?_
                                  refine lv_goto (tgt := 417) hx hb dL_hangs_412 (by decide) ?_
                                  obtain rfl := Option.some.inj h
                                  exact hJ417_o247 ls H locs w (lv_sub hl [2, 3, 4, 5, 6, 7, 8, 0, 10, 1, 11, 12, 13, 14, 15, 16, 17] rfl) hw hP hD hS
                          have h := eo239
                          clear eo239
                          refine lv_icmp_ne (tgt := 379) hx hb dL_hangs_271 (by decide) (fun hc => ?_) (fun hc => ?_)
                          · have h := iteF hc h
                            refine lv_iconst (v := (0)) hx hb dL_hangs_379 (by decide) ?_
                            obtain rfl := Option.some.inj h
                            exact hJ380_o239 ls H locs w (lv_sub hl [0, 1, 2, 3, 4, 5, 6, 7, 8, 9, 10, 11, 12, 13, 14, 15, 17] rfl) hw hP hD hS
                          · have h := iteT hc h
                            refine lv_iload hx hb dL_hangs_274 (lv_at hl 15 rfl) ?_
                            refine lv_iconst (v := (2)) hx hb dL_hangs_276 (by decide) ?_
                            obtain ⟨o240, eo240, h⟩ := obind h
                            have hJ285_o240 : ∀ (ls : Array Slot) (H : Heap) (locs : List Loc) (w : va_W), lv_has ls 19 [(0, .ref x0), (1, .int r1), (2, .int r2), (3, .int r3), (4, .int x177), (5, .int x179), (6, .int x181), (7, .int y7_201), (8, .int y8_201), (9, .int y9_201), (11, .int y11_99), (12, .int r173), (13, .int r174), (14, .int r175), (15, .int y15_201), (16, .int r228), (17, .int r229), (18, .int r230)] → XG t x0 μ w → va_P D vwCl w H → va_D (OA L0 s.heap.size) w → va_S (OA L0 s.heap.size) s.heap H locs → W p l e (headSpec (ws_ yL_hangs cL_hangs 19 (some .boolean)) rm_L_hangs).room s m ([.ref x0] : List Value).toArray below meth c H locs 3 18 (MQ below (QB (fun _ : va_W => some (.int res)) D (fun w9 => w9) (XG t x0 (μ)) L0 s.heap.size) ([.ref x0] : List Value).toArray s 3 18 (OA L0 s.heap.size)) (F0 m 285 ls [.int o240]) := by
                              intro ls H locs w hl hw hP hD hS
                              have hSz : s.heap.size ≤ H.size := hS.1
                              refine lv_iload hx hb dL_hangs_285 (lv_at hl 12 rfl) ?_
                              refine lv_iload hx hb dL_hangs_287 (lv_at hl 14 rfl) ?_
                              refine lv_ishr hx hb dL_hangs_289 ?_
                              refine lv_iconst (v := (1)) hx hb dL_hangs_290 (by decide) ?_
                              refine lv_iand hx hb dL_hangs_291 ?_
                              refine lv_iconst (v := (1)) hx hb dL_hangs_292 (by decide) ?_
                              obtain ⟨o241, eo241, h⟩ := obind h
                              have hJ301_o241 : ∀ (ls : Array Slot) (H : Heap) (locs : List Loc) (w : va_W), lv_has ls 19 [(0, .ref x0), (1, .int r1), (2, .int r2), (3, .int r3), (4, .int x177), (5, .int x179), (6, .int x181), (7, .int y7_201), (8, .int y8_201), (9, .int y9_201), (11, .int y11_99), (12, .int r173), (13, .int r174), (14, .int r175), (15, .int y15_201), (16, .int r228), (17, .int r229), (18, .int r230)] → XG t x0 μ w → va_P D vwCl w H → va_D (OA L0 s.heap.size) w → va_S (OA L0 s.heap.size) s.heap H locs → W p l e (headSpec (ws_ yL_hangs cL_hangs 19 (some .boolean)) rm_L_hangs).room s m ([.ref x0] : List Value).toArray below meth c H locs 3 18 (MQ below (QB (fun _ : va_W => some (.int res)) D (fun w9 => w9) (XG t x0 (μ)) L0 s.heap.size) ([.ref x0] : List Value).toArray s 3 18 (OA L0 s.heap.size)) (F0 m 301 ls [.int o241, .int o240]) := by
                                intro ls H locs w hl hw hP hD hS
                                have hSz : s.heap.size ≤ H.size := hS.1
                                refine lv_icmp_ne (tgt := 379) hx hb dL_hangs_301 (by decide) (fun hc => ?_) (fun hc => ?_)
                                · have h := iteF hc h
                                  refine lv_iconst (v := (0)) hx hb dL_hangs_379 (by decide) ?_
                                  obtain rfl := Option.some.inj h
                                  exact hJ380_o239 ls H locs w (lv_sub hl [0, 1, 2, 3, 4, 5, 6, 7, 8, 9, 10, 11, 12, 13, 14, 15, 17] rfl) hw hP hD hS
                                · have h := iteT hc h
                                  refine lv_iload hx hb dL_hangs_304 (lv_at hl 15 rfl) ?_
                                  refine lv_iconst (v := (3)) hx hb dL_hangs_306 (by decide) ?_
                                  obtain ⟨o242, eo242, h⟩ := obind h
                                  have hJ315_o242 : ∀ (ls : Array Slot) (H : Heap) (locs : List Loc) (w : va_W), lv_has ls 19 [(0, .ref x0), (1, .int r1), (2, .int r2), (3, .int r3), (4, .int x177), (5, .int x179), (6, .int x181), (7, .int y7_201), (8, .int y8_201), (9, .int y9_201), (11, .int y11_99), (12, .int r173), (13, .int r174), (14, .int r175), (15, .int y15_201), (16, .int r228), (17, .int r229), (18, .int r230)] → XG t x0 μ w → va_P D vwCl w H → va_D (OA L0 s.heap.size) w → va_S (OA L0 s.heap.size) s.heap H locs → W p l e (headSpec (ws_ yL_hangs cL_hangs 19 (some .boolean)) rm_L_hangs).room s m ([.ref x0] : List Value).toArray below meth c H locs 3 18 (MQ below (QB (fun _ : va_W => some (.int res)) D (fun w9 => w9) (XG t x0 (μ)) L0 s.heap.size) ([.ref x0] : List Value).toArray s 3 18 (OA L0 s.heap.size)) (F0 m 315 ls [.int o242]) := by
                                    intro ls H locs w hl hw hP hD hS
                                    have hSz : s.heap.size ≤ H.size := hS.1
                                    refine lv_iload hx hb dL_hangs_315 (lv_at hl 13 rfl) ?_
                                    refine lv_iload hx hb dL_hangs_317 (lv_at hl 14 rfl) ?_
                                    refine lv_ishr hx hb dL_hangs_319 ?_
                                    refine lv_iconst (v := (1)) hx hb dL_hangs_320 (by decide) ?_
                                    refine lv_iand hx hb dL_hangs_321 ?_
                                    refine lv_iconst (v := (1)) hx hb dL_hangs_322 (by decide) ?_
                                    obtain ⟨o243, eo243, h⟩ := obind h
                                    have hJ331_o243 : ∀ (ls : Array Slot) (H : Heap) (locs : List Loc) (w : va_W), lv_has ls 19 [(0, .ref x0), (1, .int r1), (2, .int r2), (3, .int r3), (4, .int x177), (5, .int x179), (6, .int x181), (7, .int y7_201), (8, .int y8_201), (9, .int y9_201), (11, .int y11_99), (12, .int r173), (13, .int r174), (14, .int r175), (15, .int y15_201), (16, .int r228), (17, .int r229), (18, .int r230)] → XG t x0 μ w → va_P D vwCl w H → va_D (OA L0 s.heap.size) w → va_S (OA L0 s.heap.size) s.heap H locs → W p l e (headSpec (ws_ yL_hangs cL_hangs 19 (some .boolean)) rm_L_hangs).room s m ([.ref x0] : List Value).toArray below meth c H locs 3 18 (MQ below (QB (fun _ : va_W => some (.int res)) D (fun w9 => w9) (XG t x0 (μ)) L0 s.heap.size) ([.ref x0] : List Value).toArray s 3 18 (OA L0 s.heap.size)) (F0 m 331 ls [.int o243, .int o242]) := by
                                      intro ls H locs w hl hw hP hD hS
                                      have hSz : s.heap.size ≤ H.size := hS.1
                                      refine lv_icmp_ne (tgt := 379) hx hb dL_hangs_331 (by decide) (fun hc => ?_) (fun hc => ?_)
                                      · have h := iteF hc h
                                        refine lv_iconst (v := (0)) hx hb dL_hangs_379 (by decide) ?_
                                        obtain rfl := Option.some.inj h
                                        exact hJ380_o239 ls H locs w (lv_sub hl [0, 1, 2, 3, 4, 5, 6, 7, 8, 9, 10, 11, 12, 13, 14, 15, 17] rfl) hw hP hD hS
                                      · have h := iteT hc h
                                        refine lv_iload hx hb dL_hangs_334 (lv_at hl 16 rfl) ?_
                                        refine lv_iconst (v := (-1)) hx hb dL_hangs_336 (by decide) ?_
                                        obtain ⟨o244, eo244, h⟩ := obind h
                                        have hJ345_o244 : ∀ (ls : Array Slot) (H : Heap) (locs : List Loc) (w : va_W), lv_has ls 19 [(0, .ref x0), (1, .int r1), (2, .int r2), (3, .int r3), (4, .int x177), (5, .int x179), (6, .int x181), (7, .int y7_201), (8, .int y8_201), (9, .int y9_201), (11, .int y11_99), (12, .int r173), (13, .int r174), (14, .int r175), (15, .int y15_201), (16, .int r228), (17, .int r229), (18, .int r230)] → XG t x0 μ w → va_P D vwCl w H → va_D (OA L0 s.heap.size) w → va_S (OA L0 s.heap.size) s.heap H locs → W p l e (headSpec (ws_ yL_hangs cL_hangs 19 (some .boolean)) rm_L_hangs).room s m ([.ref x0] : List Value).toArray below meth c H locs 3 18 (MQ below (QB (fun _ : va_W => some (.int res)) D (fun w9 => w9) (XG t x0 (μ)) L0 s.heap.size) ([.ref x0] : List Value).toArray s 3 18 (OA L0 s.heap.size)) (F0 m 345 ls [.int o244]) := by
                                          intro ls H locs w hl hw hP hD hS
                                          have hSz : s.heap.size ≤ H.size := hS.1
                                          refine lv_iload hx hb dL_hangs_345 (lv_at hl 15 rfl) ?_
                                          refine lv_iconst (v := (3)) hx hb dL_hangs_347 (by decide) ?_
                                          obtain ⟨o245, eo245, h⟩ := obind h
                                          have hJ356_o245 : ∀ (ls : Array Slot) (H : Heap) (locs : List Loc) (w : va_W), lv_has ls 19 [(0, .ref x0), (1, .int r1), (2, .int r2), (3, .int r3), (4, .int x177), (5, .int x179), (6, .int x181), (7, .int y7_201), (8, .int y8_201), (9, .int y9_201), (11, .int y11_99), (12, .int r173), (13, .int r174), (14, .int r175), (15, .int y15_201), (16, .int r228), (17, .int r229), (18, .int r230)] → XG t x0 μ w → va_P D vwCl w H → va_D (OA L0 s.heap.size) w → va_S (OA L0 s.heap.size) s.heap H locs → W p l e (headSpec (ws_ yL_hangs cL_hangs 19 (some .boolean)) rm_L_hangs).room s m ([.ref x0] : List Value).toArray below meth c H locs 3 18 (MQ below (QB (fun _ : va_W => some (.int res)) D (fun w9 => w9) (XG t x0 (μ)) L0 s.heap.size) ([.ref x0] : List Value).toArray s 3 18 (OA L0 s.heap.size)) (F0 m 356 ls [.int o245, .int o244]) := by
                                            intro ls H locs w hl hw hP hD hS
                                            have hSz : s.heap.size ≤ H.size := hS.1
                                            refine lv_icmp_ne (tgt := 379) hx hb dL_hangs_356 (by decide) (fun hc => ?_) (fun hc => ?_)
                                            · have h := iteF hc h
                                              refine lv_iconst (v := (0)) hx hb dL_hangs_379 (by decide) ?_
                                              obtain rfl := Option.some.inj h
                                              exact hJ380_o239 ls H locs w (lv_sub hl [0, 1, 2, 3, 4, 5, 6, 7, 8, 9, 10, 11, 12, 13, 14, 15, 17] rfl) hw hP hD hS
                                            · have h := iteT hc h
                                              refine lv_iload hx hb dL_hangs_359 (lv_at hl 16 rfl) ?_
                                              refine lv_iload_n hx hb dL_hangs_361 rfl (lv_at hl 3 rfl) ?_
                                              refine lv_icmp_ge (tgt := 379) hx hb dL_hangs_362 (by decide) (fun hc => ?_) (fun hc => ?_)
                                              · have h := iteT hc h
                                                refine lv_iconst (v := (0)) hx hb dL_hangs_379 (by decide) ?_
                                                obtain rfl := Option.some.inj h
                                                exact hJ380_o239 ls H locs w (lv_sub hl [0, 1, 2, 3, 4, 5, 6, 7, 8, 9, 10, 11, 12, 13, 14, 15, 17] rfl) hw hP hD hS
                                              · have h := iteF hc h
                                                refine lv_iload hx hb dL_hangs_365 (lv_at hl 15 rfl) ?_
                                                refine lv_if_eq (tgt := 375) hx hb dL_hangs_367 (by decide) (fun hc => ?_) (fun hc => ?_)
                                                · have h := iteT hc h
                                                  refine lv_iconst (v := (1)) hx hb dL_hangs_375 (by decide) ?_
                                                  refine lv_goto (tgt := 380) hx hb dL_hangs_376 (by decide) ?_
                                                  obtain rfl := Option.some.inj h
                                                  exact hJ380_o239 ls H locs w (lv_sub hl [0, 1, 2, 3, 4, 5, 6, 7, 8, 9, 10, 11, 12, 13, 14, 15, 17] rfl) hw hP hD hS
                                                · have h := iteF hc h
                                                  refine lv_iload hx hb dL_hangs_370 (lv_at hl 17 rfl) ?_
                                                  refine lv_if_ne (tgt := 379) hx hb dL_hangs_372 (by decide) (fun hc => ?_) (fun hc => ?_)
                                                  · have h := iteF hc h
                                                    refine lv_iconst (v := (0)) hx hb dL_hangs_379 (by decide) ?_
                                                    obtain rfl := Option.some.inj h
                                                    exact hJ380_o239 ls H locs w (lv_sub hl [0, 1, 2, 3, 4, 5, 6, 7, 8, 9, 10, 11, 12, 13, 14, 15, 17] rfl) hw hP hD hS
                                                  · have h := iteT hc h
                                                    refine lv_iconst (v := (1)) hx hb dL_hangs_375 (by decide) ?_
                                                    refine lv_goto (tgt := 380) hx hb dL_hangs_376 (by decide) ?_
                                                    obtain rfl := Option.some.inj h
                                                    exact hJ380_o239 ls H locs w (lv_sub hl [0, 1, 2, 3, 4, 5, 6, 7, 8, 9, 10, 11, 12, 13, 14, 15, 17] rfl) hw hP hD hS
                                          have h := eo245
                                          clear eo245
                                          refine lv_icmp_eq (tgt := 355) hx hb dL_hangs_348 (by decide) (fun hc => ?_) (fun hc => ?_)
                                          · have h := iteT hc h
                                            refine lv_iconst (v := (0)) hx hb dL_hangs_355 (by decide) ?_
                                            obtain rfl := Option.some.inj h
                                            exact hJ356_o245 ls H locs w (lv_sub hl [0, 1, 2, 3, 4, 5, 6, 7, 8, 9, 10, 11, 12, 13, 14, 15, 16, 17] rfl) hw hP hD hS
                                          · have h := iteF hc h
                                            refine lv_iconst (v := (1)) hx hb dL_hangs_351 (by decide) ?_
                                            refine lv_goto (tgt := 356) hx hb dL_hangs_352 (by decide) ?_
                                            obtain rfl := Option.some.inj h
                                            exact hJ356_o245 ls H locs w (lv_sub hl [0, 1, 2, 3, 4, 5, 6, 7, 8, 9, 10, 11, 12, 13, 14, 15, 16, 17] rfl) hw hP hD hS
                                        have h := eo244
                                        clear eo244
                                        refine lv_icmp_ne (tgt := 344) hx hb dL_hangs_337 (by decide) (fun hc => ?_) (fun hc => ?_)
                                        · have h := iteF hc h
                                          refine lv_iconst (v := (0)) hx hb dL_hangs_344 (by decide) ?_
                                          obtain rfl := Option.some.inj h
                                          exact hJ345_o244 ls H locs w (lv_sub hl [0, 1, 2, 3, 4, 5, 6, 7, 8, 9, 10, 11, 12, 13, 14, 15, 16, 17] rfl) hw hP hD hS
                                        · have h := iteT hc h
                                          refine lv_iconst (v := (1)) hx hb dL_hangs_340 (by decide) ?_
                                          refine lv_goto (tgt := 345) hx hb dL_hangs_341 (by decide) ?_
                                          obtain rfl := Option.some.inj h
                                          exact hJ345_o244 ls H locs w (lv_sub hl [0, 1, 2, 3, 4, 5, 6, 7, 8, 9, 10, 11, 12, 13, 14, 15, 16, 17] rfl) hw hP hD hS
                                    have h := eo243
                                    clear eo243
                                    refine lv_icmp_ne (tgt := 330) hx hb dL_hangs_323 (by decide) (fun hc => ?_) (fun hc => ?_)
                                    · have h := iteF hc h
                                      refine lv_iconst (v := (0)) hx hb dL_hangs_330 (by decide) ?_
                                      obtain rfl := Option.some.inj h
                                      exact hJ331_o243 ls H locs w (lv_sub hl [0, 1, 2, 3, 4, 5, 6, 7, 8, 9, 10, 11, 12, 13, 14, 15, 16, 17] rfl) hw hP hD hS
                                    · have h := iteT hc h
                                      refine lv_iconst (v := (1)) hx hb dL_hangs_326 (by decide) ?_
                                      refine lv_goto (tgt := 331) hx hb dL_hangs_327 (by decide) ?_
                                      obtain rfl := Option.some.inj h
                                      exact hJ331_o243 ls H locs w (lv_sub hl [0, 1, 2, 3, 4, 5, 6, 7, 8, 9, 10, 11, 12, 13, 14, 15, 16, 17] rfl) hw hP hD hS
                                  have h := eo242
                                  clear eo242
                                  refine lv_icmp_ne (tgt := 314) hx hb dL_hangs_307 (by decide) (fun hc => ?_) (fun hc => ?_)
                                  · have h := iteF hc h
                                    refine lv_iconst (v := (0)) hx hb dL_hangs_314 (by decide) ?_
                                    obtain rfl := Option.some.inj h
                                    exact hJ315_o242 ls H locs w (lv_sub hl [0, 1, 2, 3, 4, 5, 6, 7, 8, 9, 10, 11, 12, 13, 14, 15, 16, 17] rfl) hw hP hD hS
                                  · have h := iteT hc h
                                    refine lv_iconst (v := (1)) hx hb dL_hangs_310 (by decide) ?_
                                    refine lv_goto (tgt := 315) hx hb dL_hangs_311 (by decide) ?_
                                    obtain rfl := Option.some.inj h
                                    exact hJ315_o242 ls H locs w (lv_sub hl [0, 1, 2, 3, 4, 5, 6, 7, 8, 9, 10, 11, 12, 13, 14, 15, 16, 17] rfl) hw hP hD hS
                              have h := eo241
                              clear eo241
                              refine lv_icmp_ne (tgt := 300) hx hb dL_hangs_293 (by decide) (fun hc => ?_) (fun hc => ?_)
                              · have h := iteF hc h
                                refine lv_iconst (v := (0)) hx hb dL_hangs_300 (by decide) ?_
                                obtain rfl := Option.some.inj h
                                exact hJ301_o241 ls H locs w (lv_sub hl [0, 1, 2, 3, 4, 5, 6, 7, 8, 9, 10, 11, 12, 13, 14, 15, 16, 17] rfl) hw hP hD hS
                              · have h := iteT hc h
                                refine lv_iconst (v := (1)) hx hb dL_hangs_296 (by decide) ?_
                                refine lv_goto (tgt := 301) hx hb dL_hangs_297 (by decide) ?_
                                obtain rfl := Option.some.inj h
                                exact hJ301_o241 ls H locs w (lv_sub hl [0, 1, 2, 3, 4, 5, 6, 7, 8, 9, 10, 11, 12, 13, 14, 15, 16, 17] rfl) hw hP hD hS
                            have h := eo240
                            clear eo240
                            refine lv_icmp_ne (tgt := 284) hx hb dL_hangs_277 (by decide) (fun hc => ?_) (fun hc => ?_)
                            · have h := iteF hc h
                              refine lv_iconst (v := (0)) hx hb dL_hangs_284 (by decide) ?_
                              obtain rfl := Option.some.inj h
                              exact hJ285_o240 ls H locs w (lv_sub hl [0, 1, 2, 3, 4, 5, 6, 7, 8, 9, 10, 11, 12, 13, 14, 15, 16, 17] rfl) hw hP hD hS
                            · have h := iteT hc h
                              refine lv_iconst (v := (1)) hx hb dL_hangs_280 (by decide) ?_
                              refine lv_goto (tgt := 285) hx hb dL_hangs_281 (by decide) ?_
                              obtain rfl := Option.some.inj h
                              exact hJ285_o240 ls H locs w (lv_sub hl [0, 1, 2, 3, 4, 5, 6, 7, 8, 9, 10, 11, 12, 13, 14, 15, 16, 17] rfl) hw hP hD hS
                        have h := eo232
                        clear eo232
                        refine lv_icmp_ne (tgt := 270) hx hb dL_hangs_263 (by decide) (fun hc => ?_) (fun hc => ?_)
                        · have h := iteF hc h
                          refine lv_iconst (v := (0)) hx hb dL_hangs_270 (by decide) ?_
                          obtain rfl := Option.some.inj h
                          exact hJ271_o232 ls H locs w (lv_sub hl [0, 1, 2, 3, 4, 5, 6, 7, 8, 9, 10, 11, 12, 13, 14, 15, 16, 17] rfl) hw hP hD hS
                        · have h := iteT hc h
                          refine lv_iconst (v := (1)) hx hb dL_hangs_266 (by decide) ?_
                          refine lv_goto (tgt := 271) hx hb dL_hangs_267 (by decide) ?_
                          obtain rfl := Option.some.inj h
                          exact hJ271_o232 ls H locs w (lv_sub hl [0, 1, 2, 3, 4, 5, 6, 7, 8, 9, 10, 11, 12, 13, 14, 15, 16, 17] rfl) hw hP hD hS
                      have h := eo231
                      clear eo231
                      refine lv_if_ne (tgt := 254) hx hb dL_hangs_247 (by decide) (fun hc => ?_) (fun hc => ?_)
                      · have h := iteF hc h
                        refine lv_iconst (v := (0)) hx hb dL_hangs_254 (by decide) ?_
                        obtain rfl := Option.some.inj h
                        exact hJ255_o231 ls H locs w (lv_sub hl [3, 4, 5, 6, 7, 8, 9, 10, 11, 12, 14, 15, 16, 17, 18, 2, 1, 0] rfl) hw hP hD hS
                      · have h := iteT hc h
                        refine lv_iconst (v := (1)) hx hb dL_hangs_250 (by decide) ?_
                        refine lv_goto (tgt := 255) hx hb dL_hangs_251 (by decide) ?_
                        obtain rfl := Option.some.inj h
                        exact hJ255_o231 ls H locs w (lv_sub hl [3, 4, 5, 6, 7, 8, 9, 10, 11, 12, 14, 15, 16, 17, 18, 2, 1, 0] rfl) hw hP hD hS
              refine hL201 _ _ _ _ _ _ _ eo227 (fun ls H locs w hl hw hP hD hS => ?_) ls H locs w (lv_sub hl [2, 3, 4, 5, 6, 7, 8, 9, 10, 11, 1, 12, 13, 14, 15, 0] rfl) hw hP hD hS
              have hSz : s.heap.size ≤ H.size := hS.1
              obtain ⟨x250, ex250, h⟩ := jlet_some h
              refine lv_iinc (v := x250) (lv' := [(11, .int x250), (0, .ref x0), (1, .int r1), (2, .int r2), (3, .int r3), (4, .int x177), (5, .int x179), (6, .int x181), (7, .int o227.1), (8, .int o227.2.1), (9, .int o227.2.2.1), (10, .int o227.2.2.2)]) hx hb dL_hangs_456 hl (k := 11) rfl (by rw [ex250]; rfl) (by decide) rfl (fun ls hl => ?_)
              refine lv_goto (tgt := 99) hx hb dL_hangs_459 (by decide) ?_
              exact ih _ _ _ _ _ _ _ _ _ h hK99 ls H locs w (lv_sub hl [1, 2, 3, 4, 5, 6, 7, 8, 9, 10, 11, 0] rfl) hw hP hD hS
            have h := eo182
            clear eo182
            refine lv_if_ne (tgt := 195) hx hb dL_hangs_172 (by decide) (fun hc => ?_) (fun hc => ?_)
            · have h := iteF hc h
              refine lv_iconst (v := (0)) hx hb dL_hangs_195 (by decide) ?_
              obtain rfl := Option.some.inj h
              exact hJ196_o182 ls H locs w (lv_sub hl [6, 7, 8, 9, 2, 1, 0, 10, 11, 12, 14, 5, 4, 3] rfl) hw hP hD hS
            · have h := iteT hc h
              refine lv_iload hx hb dL_hangs_175 (lv_at hl 5 rfl) ?_
              refine lv_iload hx hb dL_hangs_177 (lv_at hl 3 rfl) ?_
              refine lv_iand hx hb dL_hangs_179 ?_
              refine lv_if_ne (tgt := 195) hx hb dL_hangs_180 (by decide) (fun hc => ?_) (fun hc => ?_)
              · have h := iteF hc h
                refine lv_iconst (v := (0)) hx hb dL_hangs_195 (by decide) ?_
                obtain rfl := Option.some.inj h
                exact hJ196_o182 ls H locs w (lv_sub hl [6, 7, 8, 9, 2, 1, 0, 10, 11, 12, 14, 5, 4, 3] rfl) hw hP hD hS
              · have h := iteT hc h
                refine lv_iload hx hb dL_hangs_183 (lv_at hl 4 rfl) ?_
                refine lv_iload hx hb dL_hangs_185 (lv_at hl 3 rfl) ?_
                refine lv_iand hx hb dL_hangs_187 ?_
                refine lv_if_ne (tgt := 195) hx hb dL_hangs_188 (by decide) (fun hc => ?_) (fun hc => ?_)
                · have h := iteF hc h
                  refine lv_iconst (v := (0)) hx hb dL_hangs_195 (by decide) ?_
                  obtain rfl := Option.some.inj h
                  exact hJ196_o182 ls H locs w (lv_sub hl [6, 7, 8, 9, 2, 1, 0, 10, 11, 12, 14, 5, 4, 3] rfl) hw hP hD hS
                · have h := iteT hc h
                  refine lv_iconst (v := (1)) hx hb dL_hangs_191 (by decide) ?_
                  refine lv_goto (tgt := 196) hx hb dL_hangs_192 (by decide) ?_
                  obtain rfl := Option.some.inj h
                  exact hJ196_o182 ls H locs w (lv_sub hl [6, 7, 8, 9, 2, 1, 0, 10, 11, 12, 14, 5, 4, 3] rfl) hw hP hD hS
    refine hL99 _ _ _ _ _ _ _ _ _ _ eo172 (fun ls H locs w hl hw hP hD hS => ?_) ls H locs w (lv_sub hl [2, 3, 4, 5, 6, 7, 8, 9, 10, 11, 1, 0] rfl) hw hP hD hS
    have hSz : s.heap.size ≤ H.size := hS.1
    refine lv_iload hx hb dL_hangs_462 (lv_at hl 8 rfl) ?_
    obtain ⟨o259, eo259, h⟩ := obind h
    have hJ560_o259 : ∀ (ls : Array Slot) (H : Heap) (locs : List Loc) (w : va_W), lv_has ls 19 [(0, .ref x0), (3, .int r3), (8, .int o172.2.2.2.2.1)] → XG t x0 μ w → va_P D vwCl w H → va_D (OA L0 s.heap.size) w → va_S (OA L0 s.heap.size) s.heap H locs → W p l e (headSpec (ws_ yL_hangs cL_hangs 19 (some .boolean)) rm_L_hangs).room s m ([.ref x0] : List Value).toArray below meth c H locs 3 18 (MQ below (QB (fun _ : va_W => some (.int res)) D (fun w9 => w9) (XG t x0 (μ)) L0 s.heap.size) ([.ref x0] : List Value).toArray s 3 18 (OA L0 s.heap.size)) (F0 m 560 ls [.int o259]) := by
      intro ls H locs w hl hw hP hD hS
      have hSz : s.heap.size ≤ H.size := hS.1
      refine lv_istore (lv' := [(10, .int o259), (0, .ref x0), (3, .int r3), (8, .int o172.2.2.2.2.1)]) hx hb dL_hangs_560 hl (by decide) rfl (fun ls hl => ?_)
      refine lv_iconst (v := (0)) hx hb dL_hangs_562 (by decide) ?_
      refine lv_istore (lv' := [(11, .int (0 : Int32)), (10, .int o259), (0, .ref x0), (3, .int r3), (8, .int o172.2.2.2.2.1)]) hx hb dL_hangs_563 hl (by decide) rfl (fun ls hl => ?_)
      obtain ⟨o400, eo400, h⟩ := obind h
      have hL565 : ∀ (n : Nat) (y10_565 : Int32) (y11_565 : Int32) (o400 : Int32), f_L_hangs_L565 μ r3 n y10_565 y11_565 = some o400 → (∀ (ls : Array Slot) (H : Heap) (locs : List Loc) (w : va_W), lv_has ls 19 [(0, .ref x0), (8, .int o172.2.2.2.2.1), (10, .int o400)] → XG t x0 μ w → va_P D vwCl w H → va_D (OA L0 s.heap.size) w → va_S (OA L0 s.heap.size) s.heap H locs → W p l e (headSpec (ws_ yL_hangs cL_hangs 19 (some .boolean)) rm_L_hangs).room s m ([.ref x0] : List Value).toArray below meth c H locs 3 18 (MQ below (QB (fun _ : va_W => some (.int res)) D (fun w9 => w9) (XG t x0 (μ)) L0 s.heap.size) ([.ref x0] : List Value).toArray s 3 18 (OA L0 s.heap.size)) (F0 m 721 ls [])) → ∀ (ls : Array Slot) (H : Heap) (locs : List Loc) (w : va_W), lv_has ls 19 [(0, .ref x0), (3, .int r3), (8, .int o172.2.2.2.2.1), (10, .int y10_565), (11, .int y11_565)] → XG t x0 μ w → va_P D vwCl w H → va_D (OA L0 s.heap.size) w → va_S (OA L0 s.heap.size) s.heap H locs → W p l e (headSpec (ws_ yL_hangs cL_hangs 19 (some .boolean)) rm_L_hangs).room s m ([.ref x0] : List Value).toArray below meth c H locs 3 18 (MQ below (QB (fun _ : va_W => some (.int res)) D (fun w9 => w9) (XG t x0 (μ)) L0 s.heap.size) ([.ref x0] : List Value).toArray s 3 18 (OA L0 s.heap.size)) (F0 m 565 ls []) := by
        intro n
        induction n with
        | zero => intro y10_565 y11_565 o400 h; exact absurd h (fun z => by cases z)
        | succ n ih =>
          intro y10_565 y11_565 o400 h hK565 ls H locs w hl hw hP hD hS
          replace h : f_L_hangs_L565_b μ r3 (f_L_hangs_L565 μ r3 n) y10_565 y11_565 = some o400 := h
          unfold f_L_hangs_L565_b at h
          have hSz : s.heap.size ≤ H.size := hS.1
          refine lv_iload hx hb dL_hangs_565 (lv_at hl 4 rfl) ?_
          refine lv_iload_n hx hb dL_hangs_567 rfl (lv_at hl 1 rfl) ?_
          refine lv_icmp_ge (tgt := 721) hx hb dL_hangs_568 (by decide) (fun hc => ?_) (fun hc => ?_)
          · have h := iteT hc h
            obtain rfl := Option.some.inj h
            exact hK565 ls H locs w (lv_sub hl [0, 2, 3] rfl) hw hP hD hS
          · have h := iteF hc h
            refine lv_iload hx hb dL_hangs_571 (lv_at hl 3 rfl) ?_
            refine lv_if_eq (tgt := 721) hx hb dL_hangs_573 (by decide) (fun hc => ?_) (fun hc => ?_)
            · have h := iteT hc h
              obtain rfl := Option.some.inj h
              exact hK565 ls H locs w (lv_sub hl [0, 2, 3] rfl) hw hP hD hS
            · have h := iteF hc h
              refine lv_aload_n hx hb dL_hangs_576 rfl (lv_at hl 0 rfl) ?_
              refine lv_iload hx hb dL_hangs_577 (lv_at hl 4 rfl) ?_
              refine lv_iconst (v := (0)) hx hb dL_hangs_579 (by decide) ?_
              obtain ⟨r401, er401, h⟩ := obind h
              have hsr := OA.ofD (L' := w.map Prod.fst) hD rfl hSz
              refine call_Q (vx_runSW (As := [.ref x0, .int y11_565, .int (0 : Int32)]) (rest := []) ⟨hx, hb, hml, hown, hts⟩ (hq_triple l hl9 z0 D t x0 μ y11_565 (0 : Int32) r401 er401 w hw H.size) (kH hts qw898 qw899 qw0 qw900 okL_triple ⟨Nat.le_of_ble_eq_true rfl, Nat.le_of_ble_eq_true rfl⟩) ⟨PMH.blind, fun U hU hW => ⟨rfl, ⟨by rw [hU]; exact (hC.at hS hZ).warm hW, hN.moved hW.alike⟩, by rw [hU], by rw [hU]; exact hP, ⟨hD.1, fun _ _ h9 => Or.inl (in_map (L := w.map Prod.fst) rfl h9)⟩, fun q hq => hZ q (hsr q hq)⟩⟩ rfl rfl hl.1 rfl (lv_room (Nat.le_of_ble_eq_true rfl)) dL_hangs_580 ⟨Nat.le_of_ble_eq_true rfl, Nat.le_of_ble_eq_true rfl⟩) hS hsr (fun w H locs hw hP hD1 hS _ _ => ?_)
              have hD : va_D (OA L0 s.heap.size) w := hD1.weaken (fun _ q _ h9 => hsr q.1 h9)
              have hSz : s.heap.size ≤ H.size := hS.1
              refine lv_istore (lv' := [(12, .int r401), (0, .ref x0), (3, .int r3), (8, .int o172.2.2.2.2.1), (10, .int y10_565), (11, .int y11_565)]) hx hb dL_hangs_583 hl (by decide) rfl (fun ls hl => ?_)
              refine lv_aload_n hx hb dL_hangs_585 rfl (lv_at hl 1 rfl) ?_
              refine lv_iload hx hb dL_hangs_586 (lv_at hl 5 rfl) ?_
              refine lv_iconst (v := (1)) hx hb dL_hangs_588 (by decide) ?_
              obtain ⟨r402, er402, h⟩ := obind h
              have hsr := OA.ofD (L' := w.map Prod.fst) hD rfl hSz
              refine call_Q (vx_runSW (As := [.ref x0, .int y11_565, .int (1 : Int32)]) (rest := []) ⟨hx, hb, hml, hown, hts⟩ (hq_triple l hl9 z0 D t x0 μ y11_565 (1 : Int32) r402 er402 w hw H.size) (kH hts qw898 qw899 qw0 qw900 okL_triple ⟨Nat.le_of_ble_eq_true rfl, Nat.le_of_ble_eq_true rfl⟩) ⟨PMH.blind, fun U hU hW => ⟨rfl, ⟨by rw [hU]; exact (hC.at hS hZ).warm hW, hN.moved hW.alike⟩, by rw [hU], by rw [hU]; exact hP, ⟨hD.1, fun _ _ h9 => Or.inl (in_map (L := w.map Prod.fst) rfl h9)⟩, fun q hq => hZ q (hsr q hq)⟩⟩ rfl rfl hl.1 rfl (lv_room (Nat.le_of_ble_eq_true rfl)) dL_hangs_589 ⟨Nat.le_of_ble_eq_true rfl, Nat.le_of_ble_eq_true rfl⟩) hS hsr (fun w H locs hw hP hD1 hS _ _ => ?_)
              have hD : va_D (OA L0 s.heap.size) w := hD1.weaken (fun _ q _ h9 => hsr q.1 h9)
              have hSz : s.heap.size ≤ H.size := hS.1
              refine lv_istore (lv' := [(13, .int r402), (12, .int r401), (0, .ref x0), (3, .int r3), (8, .int o172.2.2.2.2.1), (10, .int y10_565), (11, .int y11_565)]) hx hb dL_hangs_592 hl (by decide) rfl (fun ls hl => ?_)
              refine lv_aload_n hx hb dL_hangs_594 rfl (lv_at hl 2 rfl) ?_
              refine lv_iload hx hb dL_hangs_595 (lv_at hl 6 rfl) ?_
              refine lv_iconst (v := (2)) hx hb dL_hangs_597 (by decide) ?_
              obtain ⟨r403, er403, h⟩ := obind h
              have hsr := OA.ofD (L' := w.map Prod.fst) hD rfl hSz
              refine call_Q (vx_runSW (As := [.ref x0, .int y11_565, .int (2 : Int32)]) (rest := []) ⟨hx, hb, hml, hown, hts⟩ (hq_triple l hl9 z0 D t x0 μ y11_565 (2 : Int32) r403 er403 w hw H.size) (kH hts qw898 qw899 qw0 qw900 okL_triple ⟨Nat.le_of_ble_eq_true rfl, Nat.le_of_ble_eq_true rfl⟩) ⟨PMH.blind, fun U hU hW => ⟨rfl, ⟨by rw [hU]; exact (hC.at hS hZ).warm hW, hN.moved hW.alike⟩, by rw [hU], by rw [hU]; exact hP, ⟨hD.1, fun _ _ h9 => Or.inl (in_map (L := w.map Prod.fst) rfl h9)⟩, fun q hq => hZ q (hsr q hq)⟩⟩ rfl rfl hl.1 rfl (lv_room (Nat.le_of_ble_eq_true rfl)) dL_hangs_598 ⟨Nat.le_of_ble_eq_true rfl, Nat.le_of_ble_eq_true rfl⟩) hS hsr (fun w H locs hw hP hD1 hS _ _ => ?_)
              have hD : va_D (OA L0 s.heap.size) w := hD1.weaken (fun _ q _ h9 => hsr q.1 h9)
              have hSz : s.heap.size ≤ H.size := hS.1
              refine lv_istore (lv' := [(14, .int r403), (13, .int r402), (12, .int r401), (0, .ref x0), (3, .int r3), (8, .int o172.2.2.2.2.1), (10, .int y10_565), (11, .int y11_565)]) hx hb dL_hangs_601 hl (by decide) rfl (fun ls hl => ?_)
              refine lv_aload_n hx hb dL_hangs_603 rfl (lv_at hl 3 rfl) ?_
              refine lv_iload hx hb dL_hangs_604 (lv_at hl 2 rfl) ?_
              refine lv_iload hx hb dL_hangs_606 (lv_at hl 1 rfl) ?_
              refine lv_iconst (v := (1)) hx hb dL_hangs_608 (by decide) ?_
              obtain ⟨r404, er404, h⟩ := obind h
              have hsr := OA.ofD (L' := w.map Prod.fst) hD rfl hSz
              refine call_Q (vx_runSW (As := [.ref x0, .int r401, .int r402, .int (1 : Int32)]) (rest := []) ⟨hx, hb, hml, hown, hts⟩ (hq_cellOf l hl9 z0 D t x0 μ r401 r402 (1 : Int32) r404 er404 w hw H.size) (kH hts qw757 qw758 qw0 qw759 okL_cellOf ⟨Nat.le_of_ble_eq_true rfl, Nat.le_of_ble_eq_true rfl⟩) ⟨PMH.blind, fun U hU hW => ⟨rfl, ⟨by rw [hU]; exact (hC.at hS hZ).warm hW, hN.moved hW.alike⟩, by rw [hU], by rw [hU]; exact hP, ⟨hD.1, fun _ _ h9 => Or.inl (in_map (L := w.map Prod.fst) rfl h9)⟩, fun q hq => hZ q (hsr q hq)⟩⟩ rfl rfl hl.1 rfl (lv_room (Nat.le_of_ble_eq_true rfl)) dL_hangs_609 ⟨Nat.le_of_ble_eq_true rfl, Nat.le_of_ble_eq_true rfl⟩) hS hsr (fun w H locs hw hP hD1 hS _ _ => ?_)
              have hD : va_D (OA L0 s.heap.size) w := hD1.weaken (fun _ q _ h9 => hsr q.1 h9)
              have hSz : s.heap.size ≤ H.size := hS.1
              refine lv_iload hx hb dL_hangs_612 (lv_at hl 7 rfl) ?_
              obtain ⟨o435, eo435, h⟩ := obind h
              have hJ713_o435 : ∀ (ls : Array Slot) (H : Heap) (locs : List Loc) (w : va_W), lv_has ls 19 [(0, .ref x0), (3, .int r3), (8, .int o172.2.2.2.2.1), (11, .int y11_565)] → XG t x0 μ w → va_P D vwCl w H → va_D (OA L0 s.heap.size) w → va_S (OA L0 s.heap.size) s.heap H locs → W p l e (headSpec (ws_ yL_hangs cL_hangs 19 (some .boolean)) rm_L_hangs).room s m ([.ref x0] : List Value).toArray below meth c H locs 3 18 (MQ below (QB (fun _ : va_W => some (.int res)) D (fun w9 => w9) (XG t x0 (μ)) L0 s.heap.size) ([.ref x0] : List Value).toArray s 3 18 (OA L0 s.heap.size)) (F0 m 713 ls [.int o435]) := by
                intro ls H locs w hl hw hP hD hS
                have hSz : s.heap.size ≤ H.size := hS.1
                refine lv_istore (lv' := [(10, .int o435), (0, .ref x0), (3, .int r3), (8, .int o172.2.2.2.2.1), (11, .int y11_565)]) hx hb dL_hangs_713 hl (by decide) rfl (fun ls hl => ?_)
                obtain ⟨x466, ex466, h⟩ := jlet_some h
                refine lv_iinc (v := x466) (lv' := [(11, .int x466), (10, .int o435), (0, .ref x0), (3, .int r3), (8, .int o172.2.2.2.2.1)]) hx hb dL_hangs_715 hl (k := 4) rfl (by rw [ex466]; rfl) (by decide) rfl (fun ls hl => ?_)
                refine lv_goto (tgt := 565) hx hb dL_hangs_718 (by decide) ?_
                exact ih _ _ _ h hK565 ls H locs w (lv_sub hl [2, 3, 4, 1, 0] rfl) hw hP hD hS
              have h := eo435
              clear eo435
              refine lv_icmp_eq (tgt := 622) hx hb dL_hangs_614 (by decide) (fun hc => ?_) (fun hc => ?_)
              · have h := iteT hc h
                refine lv_aload_n hx hb dL_hangs_622 rfl (lv_at hl 3 rfl) ?_
                refine lv_iload hx hb dL_hangs_623 (lv_at hl 2 rfl) ?_
                refine lv_iconst (v := (1)) hx hb dL_hangs_625 (by decide) ?_
                refine lv_iadd hx hb dL_hangs_626 ?_
                refine lv_iload hx hb dL_hangs_627 (lv_at hl 1 rfl) ?_
                refine lv_iconst (v := (1)) hx hb dL_hangs_629 (by decide) ?_
                obtain ⟨r436, er436, h⟩ := obind h
                have hsr := OA.ofD (L' := w.map Prod.fst) hD rfl hSz
                refine call_Q (vx_runSW (As := [.ref x0, .int (r401 + (1 : Int32)), .int r402, .int (1 : Int32)]) (rest := []) ⟨hx, hb, hml, hown, hts⟩ (hq_cellOf l hl9 z0 D t x0 μ (r401 + (1 : Int32)) r402 (1 : Int32) r436 er436 w hw H.size) (kH hts qw757 qw758 qw0 qw759 okL_cellOf ⟨Nat.le_of_ble_eq_true rfl, Nat.le_of_ble_eq_true rfl⟩) ⟨PMH.blind, fun U hU hW => ⟨rfl, ⟨by rw [hU]; exact (hC.at hS hZ).warm hW, hN.moved hW.alike⟩, by rw [hU], by rw [hU]; exact hP, ⟨hD.1, fun _ _ h9 => Or.inl (in_map (L := w.map Prod.fst) rfl h9)⟩, fun q hq => hZ q (hsr q hq)⟩⟩ rfl rfl hl.1 rfl (lv_room (Nat.le_of_ble_eq_true rfl)) dL_hangs_630 ⟨Nat.le_of_ble_eq_true rfl, Nat.le_of_ble_eq_true rfl⟩) hS hsr (fun w H locs hw hP hD1 hS _ _ => ?_)
                have hD : va_D (OA L0 s.heap.size) w := hD1.weaken (fun _ q _ h9 => hsr q.1 h9)
                have hSz : s.heap.size ≤ H.size := hS.1
                refine lv_iload hx hb dL_hangs_633 (lv_at hl 7 rfl) ?_
                refine lv_icmp_eq (tgt := 644) hx hb dL_hangs_635 (by decide) (fun hc => ?_) (fun hc => ?_)
                · have h := iteT hc h
                  refine lv_aload_n hx hb dL_hangs_644 rfl (lv_at hl 3 rfl) ?_
                  refine lv_iload hx hb dL_hangs_645 (lv_at hl 2 rfl) ?_
                  refine lv_iconst (v := (1)) hx hb dL_hangs_647 (by decide) ?_
                  refine lv_iadd hx hb dL_hangs_648 ?_
                  refine lv_iload hx hb dL_hangs_649 (lv_at hl 1 rfl) ?_
                  refine lv_iconst (v := (1)) hx hb dL_hangs_651 (by decide) ?_
                  refine lv_iadd hx hb dL_hangs_652 ?_
                  refine lv_iconst (v := (1)) hx hb dL_hangs_653 (by decide) ?_
                  obtain ⟨r437, er437, h⟩ := obind h
                  have hsr := OA.ofD (L' := w.map Prod.fst) hD rfl hSz
                  refine call_Q (vx_runSW (As := [.ref x0, .int (r401 + (1 : Int32)), .int (r402 + (1 : Int32)), .int (1 : Int32)]) (rest := []) ⟨hx, hb, hml, hown, hts⟩ (hq_cellOf l hl9 z0 D t x0 μ (r401 + (1 : Int32)) (r402 + (1 : Int32)) (1 : Int32) r437 er437 w hw H.size) (kH hts qw757 qw758 qw0 qw759 okL_cellOf ⟨Nat.le_of_ble_eq_true rfl, Nat.le_of_ble_eq_true rfl⟩) ⟨PMH.blind, fun U hU hW => ⟨rfl, ⟨by rw [hU]; exact (hC.at hS hZ).warm hW, hN.moved hW.alike⟩, by rw [hU], by rw [hU]; exact hP, ⟨hD.1, fun _ _ h9 => Or.inl (in_map (L := w.map Prod.fst) rfl h9)⟩, fun q hq => hZ q (hsr q hq)⟩⟩ rfl rfl hl.1 rfl (lv_room (Nat.le_of_ble_eq_true rfl)) dL_hangs_654 ⟨Nat.le_of_ble_eq_true rfl, Nat.le_of_ble_eq_true rfl⟩) hS hsr (fun w H locs hw hP hD1 hS _ _ => ?_)
                  have hD : va_D (OA L0 s.heap.size) w := hD1.weaken (fun _ q _ h9 => hsr q.1 h9)
                  have hSz : s.heap.size ≤ H.size := hS.1
                  refine lv_iload hx hb dL_hangs_657 (lv_at hl 7 rfl) ?_
                  refine lv_icmp_eq (tgt := 668) hx hb dL_hangs_659 (by decide) (fun hc => ?_) (fun hc => ?_)
                  · have h := iteT hc h
                    refine lv_aload_n hx hb dL_hangs_668 rfl (lv_at hl 3 rfl) ?_
                    refine lv_iload hx hb dL_hangs_669 (lv_at hl 2 rfl) ?_
                    refine lv_iload hx hb dL_hangs_671 (lv_at hl 1 rfl) ?_
                    refine lv_iconst (v := (1)) hx hb dL_hangs_673 (by decide) ?_
                    refine lv_iadd hx hb dL_hangs_674 ?_
                    refine lv_iconst (v := (1)) hx hb dL_hangs_675 (by decide) ?_
                    obtain ⟨r438, er438, h⟩ := obind h
                    have hsr := OA.ofD (L' := w.map Prod.fst) hD rfl hSz
                    refine call_Q (vx_runSW (As := [.ref x0, .int r401, .int (r402 + (1 : Int32)), .int (1 : Int32)]) (rest := []) ⟨hx, hb, hml, hown, hts⟩ (hq_cellOf l hl9 z0 D t x0 μ r401 (r402 + (1 : Int32)) (1 : Int32) r438 er438 w hw H.size) (kH hts qw757 qw758 qw0 qw759 okL_cellOf ⟨Nat.le_of_ble_eq_true rfl, Nat.le_of_ble_eq_true rfl⟩) ⟨PMH.blind, fun U hU hW => ⟨rfl, ⟨by rw [hU]; exact (hC.at hS hZ).warm hW, hN.moved hW.alike⟩, by rw [hU], by rw [hU]; exact hP, ⟨hD.1, fun _ _ h9 => Or.inl (in_map (L := w.map Prod.fst) rfl h9)⟩, fun q hq => hZ q (hsr q hq)⟩⟩ rfl rfl hl.1 rfl (lv_room (Nat.le_of_ble_eq_true rfl)) dL_hangs_676 ⟨Nat.le_of_ble_eq_true rfl, Nat.le_of_ble_eq_true rfl⟩) hS hsr (fun w H locs hw hP hD1 hS _ _ => ?_)
                    have hD : va_D (OA L0 s.heap.size) w := hD1.weaken (fun _ q _ h9 => hsr q.1 h9)
                    have hSz : s.heap.size ≤ H.size := hS.1
                    refine lv_iload hx hb dL_hangs_679 (lv_at hl 7 rfl) ?_
                    refine lv_icmp_eq (tgt := 690) hx hb dL_hangs_681 (by decide) (fun hc => ?_) (fun hc => ?_)
                    · have h := iteT hc h
                      refine lv_aload_n hx hb dL_hangs_690 rfl (lv_at hl 3 rfl) ?_
                      refine lv_iload hx hb dL_hangs_691 (lv_at hl 2 rfl) ?_
                      refine lv_iload hx hb dL_hangs_693 (lv_at hl 1 rfl) ?_
                      refine lv_iload hx hb dL_hangs_695 (lv_at hl 0 rfl) ?_
                      refine lv_iconst (v := (1)) hx hb dL_hangs_697 (by decide) ?_
                      refine lv_iadd hx hb dL_hangs_698 ?_
                      refine lv_iconst (v := (4)) hx hb dL_hangs_699 (by decide) ?_
                      refine lv_irem hx hb dL_hangs_700 (by decide) ?_
                      obtain ⟨r439, er439, h⟩ := obind h
                      have hsr := OA.ofD (L' := w.map Prod.fst) hD rfl hSz
                      refine call_Q (vx_runSW (As := [.ref x0, .int r401, .int r402, .int ((r403 + (1 : Int32)) - (r403 + (1 : Int32)) / (4 : Int32) * (4 : Int32))]) (rest := []) ⟨hx, hb, hml, hown, hts⟩ (hq_whyNot l hl9 z0 D t x0 μ r401 r402 ((r403 + (1 : Int32)) - (r403 + (1 : Int32)) / (4 : Int32) * (4 : Int32)) r439 er439 w hw H.size) (kH hts qw818 qw819 qw0 qw820 okL_whyNot ⟨Nat.le_of_ble_eq_true rfl, Nat.le_of_ble_eq_true rfl⟩) ⟨PMH.blind, fun U hU hW => ⟨rfl, ⟨by rw [hU]; exact (hC.at hS hZ).warm hW, hN.moved hW.alike⟩, by rw [hU], by rw [hU]; exact hP, ⟨hD.1, fun _ _ h9 => Or.inl (in_map (L := w.map Prod.fst) rfl h9)⟩, fun q hq => hZ q (hsr q hq)⟩⟩ rfl rfl hl.1 rfl (lv_room (Nat.le_of_ble_eq_true rfl)) dL_hangs_701 ⟨Nat.le_of_ble_eq_true rfl, Nat.le_of_ble_eq_true rfl⟩) hS hsr (fun w H locs hw hP hD1 hS _ _ => ?_)
                      have hD : va_D (OA L0 s.heap.size) w := hD1.weaken (fun _ q _ h9 => hsr q.1 h9)
                      have hSz : s.heap.size ≤ H.size := hS.1
                      refine lv_iconst (v := (1)) hx hb dL_hangs_704 (by decide) ?_
                      refine lv_icmp_le (tgt := 712) hx hb dL_hangs_705 (by decide) (fun hc => ?_) (fun hc => ?_)
                      · have h := iteT hc h
                        refine lv_iconst (v := (0)) hx hb dL_hangs_712 (by decide) ?_
                        obtain rfl := Option.some.inj h
                        exact hJ713_o435 ls H locs w (lv_sub hl [3, 4, 5, 7] rfl) hw hP hD hS
                      · have h := iteF hc h
                        refine lv_iconst (v := (1)) hx hb dL_hangs_708 (by decide) ?_
                        refine lv_goto (tgt := 713) hx hb dL_hangs_709 (by decide) ?_
                        obtain rfl := Option.some.inj h
                        exact hJ713_o435 ls H locs w (lv_sub hl [3, 4, 5, 7] rfl) hw hP hD hS
                    · have h := iteF hc h
                      refine lv_iload hx hb dL_hangs_684 (lv_at hl 0 rfl) ?_
                      refine lv_iconst (v := (3)) hx hb dL_hangs_686 (by decide) ?_
                      refine lv_icmp_ne (tgt := 712) hx hb dL_hangs_687 (by decide) (fun hc => ?_) (fun hc => ?_)
                      · have h := iteF hc h
                        refine lv_iconst (v := (0)) hx hb dL_hangs_712 (by decide) ?_
                        obtain rfl := Option.some.inj h
                        exact hJ713_o435 ls H locs w (lv_sub hl [3, 4, 5, 7] rfl) hw hP hD hS
                      · have h := iteT hc h
                        refine lv_aload_n hx hb dL_hangs_690 rfl (lv_at hl 3 rfl) ?_
                        refine lv_iload hx hb dL_hangs_691 (lv_at hl 2 rfl) ?_
                        refine lv_iload hx hb dL_hangs_693 (lv_at hl 1 rfl) ?_
                        refine lv_iload hx hb dL_hangs_695 (lv_at hl 0 rfl) ?_
                        refine lv_iconst (v := (1)) hx hb dL_hangs_697 (by decide) ?_
                        refine lv_iadd hx hb dL_hangs_698 ?_
                        refine lv_iconst (v := (4)) hx hb dL_hangs_699 (by decide) ?_
                        refine lv_irem hx hb dL_hangs_700 (by decide) ?_
                        obtain ⟨r440, er440, h⟩ := obind h
                        have hsr := OA.ofD (L' := w.map Prod.fst) hD rfl hSz
                        refine call_Q (vx_runSW (As := [.ref x0, .int r401, .int r402, .int ((r403 + (1 : Int32)) - (r403 + (1 : Int32)) / (4 : Int32) * (4 : Int32))]) (rest := []) ⟨hx, hb, hml, hown, hts⟩ (hq_whyNot l hl9 z0 D t x0 μ r401 r402 ((r403 + (1 : Int32)) - (r403 + (1 : Int32)) / (4 : Int32) * (4 : Int32)) r440 er440 w hw H.size) (kH hts qw818 qw819 qw0 qw820 okL_whyNot ⟨Nat.le_of_ble_eq_true rfl, Nat.le_of_ble_eq_true rfl⟩) ⟨PMH.blind, fun U hU hW => ⟨rfl, ⟨by rw [hU]; exact (hC.at hS hZ).warm hW, hN.moved hW.alike⟩, by rw [hU], by rw [hU]; exact hP, ⟨hD.1, fun _ _ h9 => Or.inl (in_map (L := w.map Prod.fst) rfl h9)⟩, fun q hq => hZ q (hsr q hq)⟩⟩ rfl rfl hl.1 rfl (lv_room (Nat.le_of_ble_eq_true rfl)) dL_hangs_701 ⟨Nat.le_of_ble_eq_true rfl, Nat.le_of_ble_eq_true rfl⟩) hS hsr (fun w H locs hw hP hD1 hS _ _ => ?_)
                        have hD : va_D (OA L0 s.heap.size) w := hD1.weaken (fun _ q _ h9 => hsr q.1 h9)
                        have hSz : s.heap.size ≤ H.size := hS.1
                        refine lv_iconst (v := (1)) hx hb dL_hangs_704 (by decide) ?_
                        refine lv_icmp_le (tgt := 712) hx hb dL_hangs_705 (by decide) (fun hc => ?_) (fun hc => ?_)
                        · have h := iteT hc h
                          refine lv_iconst (v := (0)) hx hb dL_hangs_712 (by decide) ?_
                          obtain rfl := Option.some.inj h
                          exact hJ713_o435 ls H locs w (lv_sub hl [3, 4, 5, 7] rfl) hw hP hD hS
                        · have h := iteF hc h
                          refine lv_iconst (v := (1)) hx hb dL_hangs_708 (by decide) ?_
                          refine lv_goto (tgt := 713) hx hb dL_hangs_709 (by decide) ?_
                          obtain rfl := Option.some.inj h
                          exact hJ713_o435 ls H locs w (lv_sub hl [3, 4, 5, 7] rfl) hw hP hD hS
                  · have h := iteF hc h
                    refine lv_iload hx hb dL_hangs_662 (lv_at hl 0 rfl) ?_
                    refine lv_iconst (v := (2)) hx hb dL_hangs_664 (by decide) ?_
                    refine lv_icmp_ne (tgt := 712) hx hb dL_hangs_665 (by decide) (fun hc => ?_) (fun hc => ?_)
                    · have h := iteF hc h
                      refine lv_iconst (v := (0)) hx hb dL_hangs_712 (by decide) ?_
                      obtain rfl := Option.some.inj h
                      exact hJ713_o435 ls H locs w (lv_sub hl [3, 4, 5, 7] rfl) hw hP hD hS
                    · have h := iteT hc h
                      refine lv_aload_n hx hb dL_hangs_668 rfl (lv_at hl 3 rfl) ?_
                      refine lv_iload hx hb dL_hangs_669 (lv_at hl 2 rfl) ?_
                      refine lv_iload hx hb dL_hangs_671 (lv_at hl 1 rfl) ?_
                      refine lv_iconst (v := (1)) hx hb dL_hangs_673 (by decide) ?_
                      refine lv_iadd hx hb dL_hangs_674 ?_
                      refine lv_iconst (v := (1)) hx hb dL_hangs_675 (by decide) ?_
                      obtain ⟨r441, er441, h⟩ := obind h
                      have hsr := OA.ofD (L' := w.map Prod.fst) hD rfl hSz
                      refine call_Q (vx_runSW (As := [.ref x0, .int r401, .int (r402 + (1 : Int32)), .int (1 : Int32)]) (rest := []) ⟨hx, hb, hml, hown, hts⟩ (hq_cellOf l hl9 z0 D t x0 μ r401 (r402 + (1 : Int32)) (1 : Int32) r441 er441 w hw H.size) (kH hts qw757 qw758 qw0 qw759 okL_cellOf ⟨Nat.le_of_ble_eq_true rfl, Nat.le_of_ble_eq_true rfl⟩) ⟨PMH.blind, fun U hU hW => ⟨rfl, ⟨by rw [hU]; exact (hC.at hS hZ).warm hW, hN.moved hW.alike⟩, by rw [hU], by rw [hU]; exact hP, ⟨hD.1, fun _ _ h9 => Or.inl (in_map (L := w.map Prod.fst) rfl h9)⟩, fun q hq => hZ q (hsr q hq)⟩⟩ rfl rfl hl.1 rfl (lv_room (Nat.le_of_ble_eq_true rfl)) dL_hangs_676 ⟨Nat.le_of_ble_eq_true rfl, Nat.le_of_ble_eq_true rfl⟩) hS hsr (fun w H locs hw hP hD1 hS _ _ => ?_)
                      have hD : va_D (OA L0 s.heap.size) w := hD1.weaken (fun _ q _ h9 => hsr q.1 h9)
                      have hSz : s.heap.size ≤ H.size := hS.1
                      refine lv_iload hx hb dL_hangs_679 (lv_at hl 7 rfl) ?_
                      refine lv_icmp_eq (tgt := 690) hx hb dL_hangs_681 (by decide) (fun hc => ?_) (fun hc => ?_)
                      · have h := iteT hc h
                        refine lv_aload_n hx hb dL_hangs_690 rfl (lv_at hl 3 rfl) ?_
                        refine lv_iload hx hb dL_hangs_691 (lv_at hl 2 rfl) ?_
                        refine lv_iload hx hb dL_hangs_693 (lv_at hl 1 rfl) ?_
                        refine lv_iload hx hb dL_hangs_695 (lv_at hl 0 rfl) ?_
                        refine lv_iconst (v := (1)) hx hb dL_hangs_697 (by decide) ?_
                        refine lv_iadd hx hb dL_hangs_698 ?_
                        refine lv_iconst (v := (4)) hx hb dL_hangs_699 (by decide) ?_
                        refine lv_irem hx hb dL_hangs_700 (by decide) ?_
                        obtain ⟨r442, er442, h⟩ := obind h
                        have hsr := OA.ofD (L' := w.map Prod.fst) hD rfl hSz
                        refine call_Q (vx_runSW (As := [.ref x0, .int r401, .int r402, .int ((r403 + (1 : Int32)) - (r403 + (1 : Int32)) / (4 : Int32) * (4 : Int32))]) (rest := []) ⟨hx, hb, hml, hown, hts⟩ (hq_whyNot l hl9 z0 D t x0 μ r401 r402 ((r403 + (1 : Int32)) - (r403 + (1 : Int32)) / (4 : Int32) * (4 : Int32)) r442 er442 w hw H.size) (kH hts qw818 qw819 qw0 qw820 okL_whyNot ⟨Nat.le_of_ble_eq_true rfl, Nat.le_of_ble_eq_true rfl⟩) ⟨PMH.blind, fun U hU hW => ⟨rfl, ⟨by rw [hU]; exact (hC.at hS hZ).warm hW, hN.moved hW.alike⟩, by rw [hU], by rw [hU]; exact hP, ⟨hD.1, fun _ _ h9 => Or.inl (in_map (L := w.map Prod.fst) rfl h9)⟩, fun q hq => hZ q (hsr q hq)⟩⟩ rfl rfl hl.1 rfl (lv_room (Nat.le_of_ble_eq_true rfl)) dL_hangs_701 ⟨Nat.le_of_ble_eq_true rfl, Nat.le_of_ble_eq_true rfl⟩) hS hsr (fun w H locs hw hP hD1 hS _ _ => ?_)
                        have hD : va_D (OA L0 s.heap.size) w := hD1.weaken (fun _ q _ h9 => hsr q.1 h9)
                        have hSz : s.heap.size ≤ H.size := hS.1
                        refine lv_iconst (v := (1)) hx hb dL_hangs_704 (by decide) ?_
                        refine lv_icmp_le (tgt := 712) hx hb dL_hangs_705 (by decide) (fun hc => ?_) (fun hc => ?_)
                        · have h := iteT hc h
                          refine lv_iconst (v := (0)) hx hb dL_hangs_712 (by decide) ?_
                          obtain rfl := Option.some.inj h
                          exact hJ713_o435 ls H locs w (lv_sub hl [3, 4, 5, 7] rfl) hw hP hD hS
                        · have h := iteF hc h
                          refine lv_iconst (v := (1)) hx hb dL_hangs_708 (by decide) ?_
                          refine lv_goto (tgt := 713) hx hb dL_hangs_709 (by decide) ?_
                          obtain rfl := Option.some.inj h
                          exact hJ713_o435 ls H locs w (lv_sub hl [3, 4, 5, 7] rfl) hw hP hD hS
                      · have h := iteF hc h
                        refine lv_iload hx hb dL_hangs_684 (lv_at hl 0 rfl) ?_
                        refine lv_iconst (v := (3)) hx hb dL_hangs_686 (by decide) ?_
                        refine lv_icmp_ne (tgt := 712) hx hb dL_hangs_687 (by decide) (fun hc => ?_) (fun hc => ?_)
                        · have h := iteF hc h
                          refine lv_iconst (v := (0)) hx hb dL_hangs_712 (by decide) ?_
                          obtain rfl := Option.some.inj h
                          exact hJ713_o435 ls H locs w (lv_sub hl [3, 4, 5, 7] rfl) hw hP hD hS
                        · have h := iteT hc h
                          refine lv_aload_n hx hb dL_hangs_690 rfl (lv_at hl 3 rfl) ?_
                          refine lv_iload hx hb dL_hangs_691 (lv_at hl 2 rfl) ?_
                          refine lv_iload hx hb dL_hangs_693 (lv_at hl 1 rfl) ?_
                          refine lv_iload hx hb dL_hangs_695 (lv_at hl 0 rfl) ?_
                          refine lv_iconst (v := (1)) hx hb dL_hangs_697 (by decide) ?_
                          refine lv_iadd hx hb dL_hangs_698 ?_
                          refine lv_iconst (v := (4)) hx hb dL_hangs_699 (by decide) ?_
                          refine lv_irem hx hb dL_hangs_700 (by decide) ?_
                          obtain ⟨r443, er443, h⟩ := obind h
                          have hsr := OA.ofD (L' := w.map Prod.fst) hD rfl hSz
                          refine call_Q (vx_runSW (As := [.ref x0, .int r401, .int r402, .int ((r403 + (1 : Int32)) - (r403 + (1 : Int32)) / (4 : Int32) * (4 : Int32))]) (rest := []) ⟨hx, hb, hml, hown, hts⟩ (hq_whyNot l hl9 z0 D t x0 μ r401 r402 ((r403 + (1 : Int32)) - (r403 + (1 : Int32)) / (4 : Int32) * (4 : Int32)) r443 er443 w hw H.size) (kH hts qw818 qw819 qw0 qw820 okL_whyNot ⟨Nat.le_of_ble_eq_true rfl, Nat.le_of_ble_eq_true rfl⟩) ⟨PMH.blind, fun U hU hW => ⟨rfl, ⟨by rw [hU]; exact (hC.at hS hZ).warm hW, hN.moved hW.alike⟩, by rw [hU], by rw [hU]; exact hP, ⟨hD.1, fun _ _ h9 => Or.inl (in_map (L := w.map Prod.fst) rfl h9)⟩, fun q hq => hZ q (hsr q hq)⟩⟩ rfl rfl hl.1 rfl (lv_room (Nat.le_of_ble_eq_true rfl)) dL_hangs_701 ⟨Nat.le_of_ble_eq_true rfl, Nat.le_of_ble_eq_true rfl⟩) hS hsr (fun w H locs hw hP hD1 hS _ _ => ?_)
                          have hD : va_D (OA L0 s.heap.size) w := hD1.weaken (fun _ q _ h9 => hsr q.1 h9)
                          have hSz : s.heap.size ≤ H.size := hS.1
                          refine lv_iconst (v := (1)) hx hb dL_hangs_704 (by decide) ?_
                          refine lv_icmp_le (tgt := 712) hx hb dL_hangs_705 (by decide) (fun hc => ?_) (fun hc => ?_)
                          · have h := iteT hc h
                            refine lv_iconst (v := (0)) hx hb dL_hangs_712 (by decide) ?_
                            obtain rfl := Option.some.inj h
                            exact hJ713_o435 ls H locs w (lv_sub hl [3, 4, 5, 7] rfl) hw hP hD hS
                          · have h := iteF hc h
                            refine lv_iconst (v := (1)) hx hb dL_hangs_708 (by decide) ?_
                            refine lv_goto (tgt := 713) hx hb dL_hangs_709 (by decide) ?_
                            obtain rfl := Option.some.inj h
                            exact hJ713_o435 ls H locs w (lv_sub hl [3, 4, 5, 7] rfl) hw hP hD hS
                · have h := iteF hc h
                  refine lv_iload hx hb dL_hangs_638 (lv_at hl 0 rfl) ?_
                  refine lv_iconst (v := (1)) hx hb dL_hangs_640 (by decide) ?_
                  refine lv_icmp_ne (tgt := 712) hx hb dL_hangs_641 (by decide) (fun hc => ?_) (fun hc => ?_)
                  · have h := iteF hc h
                    refine lv_iconst (v := (0)) hx hb dL_hangs_712 (by decide) ?_
                    obtain rfl := Option.some.inj h
                    exact hJ713_o435 ls H locs w (lv_sub hl [3, 4, 5, 7] rfl) hw hP hD hS
                  · have h := iteT hc h
                    refine lv_aload_n hx hb dL_hangs_644 rfl (lv_at hl 3 rfl) ?_
                    refine lv_iload hx hb dL_hangs_645 (lv_at hl 2 rfl) ?_
                    refine lv_iconst (v := (1)) hx hb dL_hangs_647 (by decide) ?_
                    refine lv_iadd hx hb dL_hangs_648 ?_
                    refine lv_iload hx hb dL_hangs_649 (lv_at hl 1 rfl) ?_
                    refine lv_iconst (v := (1)) hx hb dL_hangs_651 (by decide) ?_
                    refine lv_iadd hx hb dL_hangs_652 ?_
                    refine lv_iconst (v := (1)) hx hb dL_hangs_653 (by decide) ?_
                    obtain ⟨r444, er444, h⟩ := obind h
                    have hsr := OA.ofD (L' := w.map Prod.fst) hD rfl hSz
                    refine call_Q (vx_runSW (As := [.ref x0, .int (r401 + (1 : Int32)), .int (r402 + (1 : Int32)), .int (1 : Int32)]) (rest := []) ⟨hx, hb, hml, hown, hts⟩ (hq_cellOf l hl9 z0 D t x0 μ (r401 + (1 : Int32)) (r402 + (1 : Int32)) (1 : Int32) r444 er444 w hw H.size) (kH hts qw757 qw758 qw0 qw759 okL_cellOf ⟨Nat.le_of_ble_eq_true rfl, Nat.le_of_ble_eq_true rfl⟩) ⟨PMH.blind, fun U hU hW => ⟨rfl, ⟨by rw [hU]; exact (hC.at hS hZ).warm hW, hN.moved hW.alike⟩, by rw [hU], by rw [hU]; exact hP, ⟨hD.1, fun _ _ h9 => Or.inl (in_map (L := w.map Prod.fst) rfl h9)⟩, fun q hq => hZ q (hsr q hq)⟩⟩ rfl rfl hl.1 rfl (lv_room (Nat.le_of_ble_eq_true rfl)) dL_hangs_654 ⟨Nat.le_of_ble_eq_true rfl, Nat.le_of_ble_eq_true rfl⟩) hS hsr (fun w H locs hw hP hD1 hS _ _ => ?_)
                    have hD : va_D (OA L0 s.heap.size) w := hD1.weaken (fun _ q _ h9 => hsr q.1 h9)
                    have hSz : s.heap.size ≤ H.size := hS.1
                    refine lv_iload hx hb dL_hangs_657 (lv_at hl 7 rfl) ?_
                    refine lv_icmp_eq (tgt := 668) hx hb dL_hangs_659 (by decide) (fun hc => ?_) (fun hc => ?_)
                    · have h := iteT hc h
                      refine lv_aload_n hx hb dL_hangs_668 rfl (lv_at hl 3 rfl) ?_
                      refine lv_iload hx hb dL_hangs_669 (lv_at hl 2 rfl) ?_
                      refine lv_iload hx hb dL_hangs_671 (lv_at hl 1 rfl) ?_
                      refine lv_iconst (v := (1)) hx hb dL_hangs_673 (by decide) ?_
                      refine lv_iadd hx hb dL_hangs_674 ?_
                      refine lv_iconst (v := (1)) hx hb dL_hangs_675 (by decide) ?_
                      obtain ⟨r445, er445, h⟩ := obind h
                      have hsr := OA.ofD (L' := w.map Prod.fst) hD rfl hSz
                      refine call_Q (vx_runSW (As := [.ref x0, .int r401, .int (r402 + (1 : Int32)), .int (1 : Int32)]) (rest := []) ⟨hx, hb, hml, hown, hts⟩ (hq_cellOf l hl9 z0 D t x0 μ r401 (r402 + (1 : Int32)) (1 : Int32) r445 er445 w hw H.size) (kH hts qw757 qw758 qw0 qw759 okL_cellOf ⟨Nat.le_of_ble_eq_true rfl, Nat.le_of_ble_eq_true rfl⟩) ⟨PMH.blind, fun U hU hW => ⟨rfl, ⟨by rw [hU]; exact (hC.at hS hZ).warm hW, hN.moved hW.alike⟩, by rw [hU], by rw [hU]; exact hP, ⟨hD.1, fun _ _ h9 => Or.inl (in_map (L := w.map Prod.fst) rfl h9)⟩, fun q hq => hZ q (hsr q hq)⟩⟩ rfl rfl hl.1 rfl (lv_room (Nat.le_of_ble_eq_true rfl)) dL_hangs_676 ⟨Nat.le_of_ble_eq_true rfl, Nat.le_of_ble_eq_true rfl⟩) hS hsr (fun w H locs hw hP hD1 hS _ _ => ?_)
                      have hD : va_D (OA L0 s.heap.size) w := hD1.weaken (fun _ q _ h9 => hsr q.1 h9)
                      have hSz : s.heap.size ≤ H.size := hS.1
                      refine lv_iload hx hb dL_hangs_679 (lv_at hl 7 rfl) ?_
                      refine lv_icmp_eq (tgt := 690) hx hb dL_hangs_681 (by decide) (fun hc => ?_) (fun hc => ?_)
                      · have h := iteT hc h
                        refine lv_aload_n hx hb dL_hangs_690 rfl (lv_at hl 3 rfl) ?_
                        refine lv_iload hx hb dL_hangs_691 (lv_at hl 2 rfl) ?_
                        refine lv_iload hx hb dL_hangs_693 (lv_at hl 1 rfl) ?_
                        refine lv_iload hx hb dL_hangs_695 (lv_at hl 0 rfl) ?_
                        refine lv_iconst (v := (1)) hx hb dL_hangs_697 (by decide) ?_
                        refine lv_iadd hx hb dL_hangs_698 ?_
                        refine lv_iconst (v := (4)) hx hb dL_hangs_699 (by decide) ?_
                        refine lv_irem hx hb dL_hangs_700 (by decide) ?_
                        obtain ⟨r446, er446, h⟩ := obind h
                        have hsr := OA.ofD (L' := w.map Prod.fst) hD rfl hSz
                        refine call_Q (vx_runSW (As := [.ref x0, .int r401, .int r402, .int ((r403 + (1 : Int32)) - (r403 + (1 : Int32)) / (4 : Int32) * (4 : Int32))]) (rest := []) ⟨hx, hb, hml, hown, hts⟩ (hq_whyNot l hl9 z0 D t x0 μ r401 r402 ((r403 + (1 : Int32)) - (r403 + (1 : Int32)) / (4 : Int32) * (4 : Int32)) r446 er446 w hw H.size) (kH hts qw818 qw819 qw0 qw820 okL_whyNot ⟨Nat.le_of_ble_eq_true rfl, Nat.le_of_ble_eq_true rfl⟩) ⟨PMH.blind, fun U hU hW => ⟨rfl, ⟨by rw [hU]; exact (hC.at hS hZ).warm hW, hN.moved hW.alike⟩, by rw [hU], by rw [hU]; exact hP, ⟨hD.1, fun _ _ h9 => Or.inl (in_map (L := w.map Prod.fst) rfl h9)⟩, fun q hq => hZ q (hsr q hq)⟩⟩ rfl rfl hl.1 rfl (lv_room (Nat.le_of_ble_eq_true rfl)) dL_hangs_701 ⟨Nat.le_of_ble_eq_true rfl, Nat.le_of_ble_eq_true rfl⟩) hS hsr (fun w H locs hw hP hD1 hS _ _ => ?_)
                        have hD : va_D (OA L0 s.heap.size) w := hD1.weaken (fun _ q _ h9 => hsr q.1 h9)
                        have hSz : s.heap.size ≤ H.size := hS.1
                        refine lv_iconst (v := (1)) hx hb dL_hangs_704 (by decide) ?_
                        refine lv_icmp_le (tgt := 712) hx hb dL_hangs_705 (by decide) (fun hc => ?_) (fun hc => ?_)
                        · have h := iteT hc h
                          refine lv_iconst (v := (0)) hx hb dL_hangs_712 (by decide) ?_
                          obtain rfl := Option.some.inj h
                          exact hJ713_o435 ls H locs w (lv_sub hl [3, 4, 5, 7] rfl) hw hP hD hS
                        · have h := iteF hc h
                          refine lv_iconst (v := (1)) hx hb dL_hangs_708 (by decide) ?_
                          refine lv_goto (tgt := 713) hx hb dL_hangs_709 (by decide) ?_
                          obtain rfl := Option.some.inj h
                          exact hJ713_o435 ls H locs w (lv_sub hl [3, 4, 5, 7] rfl) hw hP hD hS
                      · have h := iteF hc h
                        refine lv_iload hx hb dL_hangs_684 (lv_at hl 0 rfl) ?_
                        refine lv_iconst (v := (3)) hx hb dL_hangs_686 (by decide) ?_
                        refine lv_icmp_ne (tgt := 712) hx hb dL_hangs_687 (by decide) (fun hc => ?_) (fun hc => ?_)
                        · have h := iteF hc h
                          refine lv_iconst (v := (0)) hx hb dL_hangs_712 (by decide) ?_
                          obtain rfl := Option.some.inj h
                          exact hJ713_o435 ls H locs w (lv_sub hl [3, 4, 5, 7] rfl) hw hP hD hS
                        · have h := iteT hc h
                          refine lv_aload_n hx hb dL_hangs_690 rfl (lv_at hl 3 rfl) ?_
                          refine lv_iload hx hb dL_hangs_691 (lv_at hl 2 rfl) ?_
                          refine lv_iload hx hb dL_hangs_693 (lv_at hl 1 rfl) ?_
                          refine lv_iload hx hb dL_hangs_695 (lv_at hl 0 rfl) ?_
                          refine lv_iconst (v := (1)) hx hb dL_hangs_697 (by decide) ?_
                          refine lv_iadd hx hb dL_hangs_698 ?_
                          refine lv_iconst (v := (4)) hx hb dL_hangs_699 (by decide) ?_
                          refine lv_irem hx hb dL_hangs_700 (by decide) ?_
                          obtain ⟨r447, er447, h⟩ := obind h
                          have hsr := OA.ofD (L' := w.map Prod.fst) hD rfl hSz
                          refine call_Q (vx_runSW (As := [.ref x0, .int r401, .int r402, .int ((r403 + (1 : Int32)) - (r403 + (1 : Int32)) / (4 : Int32) * (4 : Int32))]) (rest := []) ⟨hx, hb, hml, hown, hts⟩ (hq_whyNot l hl9 z0 D t x0 μ r401 r402 ((r403 + (1 : Int32)) - (r403 + (1 : Int32)) / (4 : Int32) * (4 : Int32)) r447 er447 w hw H.size) (kH hts qw818 qw819 qw0 qw820 okL_whyNot ⟨Nat.le_of_ble_eq_true rfl, Nat.le_of_ble_eq_true rfl⟩) ⟨PMH.blind, fun U hU hW => ⟨rfl, ⟨by rw [hU]; exact (hC.at hS hZ).warm hW, hN.moved hW.alike⟩, by rw [hU], by rw [hU]; exact hP, ⟨hD.1, fun _ _ h9 => Or.inl (in_map (L := w.map Prod.fst) rfl h9)⟩, fun q hq => hZ q (hsr q hq)⟩⟩ rfl rfl hl.1 rfl (lv_room (Nat.le_of_ble_eq_true rfl)) dL_hangs_701 ⟨Nat.le_of_ble_eq_true rfl, Nat.le_of_ble_eq_true rfl⟩) hS hsr (fun w H locs hw hP hD1 hS _ _ => ?_)
                          have hD : va_D (OA L0 s.heap.size) w := hD1.weaken (fun _ q _ h9 => hsr q.1 h9)
                          have hSz : s.heap.size ≤ H.size := hS.1
                          refine lv_iconst (v := (1)) hx hb dL_hangs_704 (by decide) ?_
                          refine lv_icmp_le (tgt := 712) hx hb dL_hangs_705 (by decide) (fun hc => ?_) (fun hc => ?_)
                          · have h := iteT hc h
                            refine lv_iconst (v := (0)) hx hb dL_hangs_712 (by decide) ?_
                            obtain rfl := Option.some.inj h
                            exact hJ713_o435 ls H locs w (lv_sub hl [3, 4, 5, 7] rfl) hw hP hD hS
                          · have h := iteF hc h
                            refine lv_iconst (v := (1)) hx hb dL_hangs_708 (by decide) ?_
                            refine lv_goto (tgt := 713) hx hb dL_hangs_709 (by decide) ?_
                            obtain rfl := Option.some.inj h
                            exact hJ713_o435 ls H locs w (lv_sub hl [3, 4, 5, 7] rfl) hw hP hD hS
                    · have h := iteF hc h
                      refine lv_iload hx hb dL_hangs_662 (lv_at hl 0 rfl) ?_
                      refine lv_iconst (v := (2)) hx hb dL_hangs_664 (by decide) ?_
                      refine lv_icmp_ne (tgt := 712) hx hb dL_hangs_665 (by decide) (fun hc => ?_) (fun hc => ?_)
                      · have h := iteF hc h
                        refine lv_iconst (v := (0)) hx hb dL_hangs_712 (by decide) ?_
                        obtain rfl := Option.some.inj h
                        exact hJ713_o435 ls H locs w (lv_sub hl [3, 4, 5, 7] rfl) hw hP hD hS
                      · have h := iteT hc h
                        refine lv_aload_n hx hb dL_hangs_668 rfl (lv_at hl 3 rfl) ?_
                        refine lv_iload hx hb dL_hangs_669 (lv_at hl 2 rfl) ?_
                        refine lv_iload hx hb dL_hangs_671 (lv_at hl 1 rfl) ?_
                        refine lv_iconst (v := (1)) hx hb dL_hangs_673 (by decide) ?_
                        refine lv_iadd hx hb dL_hangs_674 ?_
                        refine lv_iconst (v := (1)) hx hb dL_hangs_675 (by decide) ?_
                        obtain ⟨r448, er448, h⟩ := obind h
                        have hsr := OA.ofD (L' := w.map Prod.fst) hD rfl hSz
                        refine call_Q (vx_runSW (As := [.ref x0, .int r401, .int (r402 + (1 : Int32)), .int (1 : Int32)]) (rest := []) ⟨hx, hb, hml, hown, hts⟩ (hq_cellOf l hl9 z0 D t x0 μ r401 (r402 + (1 : Int32)) (1 : Int32) r448 er448 w hw H.size) (kH hts qw757 qw758 qw0 qw759 okL_cellOf ⟨Nat.le_of_ble_eq_true rfl, Nat.le_of_ble_eq_true rfl⟩) ⟨PMH.blind, fun U hU hW => ⟨rfl, ⟨by rw [hU]; exact (hC.at hS hZ).warm hW, hN.moved hW.alike⟩, by rw [hU], by rw [hU]; exact hP, ⟨hD.1, fun _ _ h9 => Or.inl (in_map (L := w.map Prod.fst) rfl h9)⟩, fun q hq => hZ q (hsr q hq)⟩⟩ rfl rfl hl.1 rfl (lv_room (Nat.le_of_ble_eq_true rfl)) dL_hangs_676 ⟨Nat.le_of_ble_eq_true rfl, Nat.le_of_ble_eq_true rfl⟩) hS hsr (fun w H locs hw hP hD1 hS _ _ => ?_)
                        have hD : va_D (OA L0 s.heap.size) w := hD1.weaken (fun _ q _ h9 => hsr q.1 h9)
                        have hSz : s.heap.size ≤ H.size := hS.1
                        refine lv_iload hx hb dL_hangs_679 (lv_at hl 7 rfl) ?_
                        refine lv_icmp_eq (tgt := 690) hx hb dL_hangs_681 (by decide) (fun hc => ?_) (fun hc => ?_)
                        · have h := iteT hc h
                          refine lv_aload_n hx hb dL_hangs_690 rfl (lv_at hl 3 rfl) ?_
                          refine lv_iload hx hb dL_hangs_691 (lv_at hl 2 rfl) ?_
                          refine lv_iload hx hb dL_hangs_693 (lv_at hl 1 rfl) ?_
                          refine lv_iload hx hb dL_hangs_695 (lv_at hl 0 rfl) ?_
                          refine lv_iconst (v := (1)) hx hb dL_hangs_697 (by decide) ?_
                          refine lv_iadd hx hb dL_hangs_698 ?_
                          refine lv_iconst (v := (4)) hx hb dL_hangs_699 (by decide) ?_
                          refine lv_irem hx hb dL_hangs_700 (by decide) ?_
                          obtain ⟨r449, er449, h⟩ := obind h
                          have hsr := OA.ofD (L' := w.map Prod.fst) hD rfl hSz
                          refine call_Q (vx_runSW (As := [.ref x0, .int r401, .int r402, .int ((r403 + (1 : Int32)) - (r403 + (1 : Int32)) / (4 : Int32) * (4 : Int32))]) (rest := []) ⟨hx, hb, hml, hown, hts⟩ (hq_whyNot l hl9 z0 D t x0 μ r401 r402 ((r403 + (1 : Int32)) - (r403 + (1 : Int32)) / (4 : Int32) * (4 : Int32)) r449 er449 w hw H.size) (kH hts qw818 qw819 qw0 qw820 okL_whyNot ⟨Nat.le_of_ble_eq_true rfl, Nat.le_of_ble_eq_true rfl⟩) ⟨PMH.blind, fun U hU hW => ⟨rfl, ⟨by rw [hU]; exact (hC.at hS hZ).warm hW, hN.moved hW.alike⟩, by rw [hU], by rw [hU]; exact hP, ⟨hD.1, fun _ _ h9 => Or.inl (in_map (L := w.map Prod.fst) rfl h9)⟩, fun q hq => hZ q (hsr q hq)⟩⟩ rfl rfl hl.1 rfl (lv_room (Nat.le_of_ble_eq_true rfl)) dL_hangs_701 ⟨Nat.le_of_ble_eq_true rfl, Nat.le_of_ble_eq_true rfl⟩) hS hsr (fun w H locs hw hP hD1 hS _ _ => ?_)
                          have hD : va_D (OA L0 s.heap.size) w := hD1.weaken (fun _ q _ h9 => hsr q.1 h9)
                          have hSz : s.heap.size ≤ H.size := hS.1
                          refine lv_iconst (v := (1)) hx hb dL_hangs_704 (by decide) ?_
                          refine lv_icmp_le (tgt := 712) hx hb dL_hangs_705 (by decide) (fun hc => ?_) (fun hc => ?_)
                          · have h := iteT hc h
                            refine lv_iconst (v := (0)) hx hb dL_hangs_712 (by decide) ?_
                            obtain rfl := Option.some.inj h
                            exact hJ713_o435 ls H locs w (lv_sub hl [3, 4, 5, 7] rfl) hw hP hD hS
                          · have h := iteF hc h
                            refine lv_iconst (v := (1)) hx hb dL_hangs_708 (by decide) ?_
                            refine lv_goto (tgt := 713) hx hb dL_hangs_709 (by decide) ?_
                            obtain rfl := Option.some.inj h
                            exact hJ713_o435 ls H locs w (lv_sub hl [3, 4, 5, 7] rfl) hw hP hD hS
                        · have h := iteF hc h
                          refine lv_iload hx hb dL_hangs_684 (lv_at hl 0 rfl) ?_
                          refine lv_iconst (v := (3)) hx hb dL_hangs_686 (by decide) ?_
                          refine lv_icmp_ne (tgt := 712) hx hb dL_hangs_687 (by decide) (fun hc => ?_) (fun hc => ?_)
                          · have h := iteF hc h
                            refine lv_iconst (v := (0)) hx hb dL_hangs_712 (by decide) ?_
                            obtain rfl := Option.some.inj h
                            exact hJ713_o435 ls H locs w (lv_sub hl [3, 4, 5, 7] rfl) hw hP hD hS
                          · have h := iteT hc h
                            refine lv_aload_n hx hb dL_hangs_690 rfl (lv_at hl 3 rfl) ?_
                            refine lv_iload hx hb dL_hangs_691 (lv_at hl 2 rfl) ?_
                            refine lv_iload hx hb dL_hangs_693 (lv_at hl 1 rfl) ?_
                            refine lv_iload hx hb dL_hangs_695 (lv_at hl 0 rfl) ?_
                            refine lv_iconst (v := (1)) hx hb dL_hangs_697 (by decide) ?_
                            refine lv_iadd hx hb dL_hangs_698 ?_
                            refine lv_iconst (v := (4)) hx hb dL_hangs_699 (by decide) ?_
                            refine lv_irem hx hb dL_hangs_700 (by decide) ?_
                            obtain ⟨r450, er450, h⟩ := obind h
                            have hsr := OA.ofD (L' := w.map Prod.fst) hD rfl hSz
                            refine call_Q (vx_runSW (As := [.ref x0, .int r401, .int r402, .int ((r403 + (1 : Int32)) - (r403 + (1 : Int32)) / (4 : Int32) * (4 : Int32))]) (rest := []) ⟨hx, hb, hml, hown, hts⟩ (hq_whyNot l hl9 z0 D t x0 μ r401 r402 ((r403 + (1 : Int32)) - (r403 + (1 : Int32)) / (4 : Int32) * (4 : Int32)) r450 er450 w hw H.size) (kH hts qw818 qw819 qw0 qw820 okL_whyNot ⟨Nat.le_of_ble_eq_true rfl, Nat.le_of_ble_eq_true rfl⟩) ⟨PMH.blind, fun U hU hW => ⟨rfl, ⟨by rw [hU]; exact (hC.at hS hZ).warm hW, hN.moved hW.alike⟩, by rw [hU], by rw [hU]; exact hP, ⟨hD.1, fun _ _ h9 => Or.inl (in_map (L := w.map Prod.fst) rfl h9)⟩, fun q hq => hZ q (hsr q hq)⟩⟩ rfl rfl hl.1 rfl (lv_room (Nat.le_of_ble_eq_true rfl)) dL_hangs_701 ⟨Nat.le_of_ble_eq_true rfl, Nat.le_of_ble_eq_true rfl⟩) hS hsr (fun w H locs hw hP hD1 hS _ _ => ?_)
                            have hD : va_D (OA L0 s.heap.size) w := hD1.weaken (fun _ q _ h9 => hsr q.1 h9)
                            have hSz : s.heap.size ≤ H.size := hS.1
                            refine lv_iconst (v := (1)) hx hb dL_hangs_704 (by decide) ?_
                            refine lv_icmp_le (tgt := 712) hx hb dL_hangs_705 (by decide) (fun hc => ?_) (fun hc => ?_)
                            · have h := iteT hc h
                              refine lv_iconst (v := (0)) hx hb dL_hangs_712 (by decide) ?_
                              obtain rfl := Option.some.inj h
                              exact hJ713_o435 ls H locs w (lv_sub hl [3, 4, 5, 7] rfl) hw hP hD hS
                            · have h := iteF hc h
                              refine lv_iconst (v := (1)) hx hb dL_hangs_708 (by decide) ?_
                              refine lv_goto (tgt := 713) hx hb dL_hangs_709 (by decide) ?_
                              obtain rfl := Option.some.inj h
                              exact hJ713_o435 ls H locs w (lv_sub hl [3, 4, 5, 7] rfl) hw hP hD hS
              · have h := iteF hc h
                refine lv_iload hx hb dL_hangs_617 (lv_at hl 0 rfl) ?_
                refine lv_if_ne (tgt := 712) hx hb dL_hangs_619 (by decide) (fun hc => ?_) (fun hc => ?_)
                · have h := iteF hc h
                  refine lv_iconst (v := (0)) hx hb dL_hangs_712 (by decide) ?_
                  obtain rfl := Option.some.inj h
                  exact hJ713_o435 ls H locs w (lv_sub hl [3, 4, 5, 7] rfl) hw hP hD hS
                · have h := iteT hc h
                  refine lv_aload_n hx hb dL_hangs_622 rfl (lv_at hl 3 rfl) ?_
                  refine lv_iload hx hb dL_hangs_623 (lv_at hl 2 rfl) ?_
                  refine lv_iconst (v := (1)) hx hb dL_hangs_625 (by decide) ?_
                  refine lv_iadd hx hb dL_hangs_626 ?_
                  refine lv_iload hx hb dL_hangs_627 (lv_at hl 1 rfl) ?_
                  refine lv_iconst (v := (1)) hx hb dL_hangs_629 (by decide) ?_
                  obtain ⟨r451, er451, h⟩ := obind h
                  have hsr := OA.ofD (L' := w.map Prod.fst) hD rfl hSz
                  refine call_Q (vx_runSW (As := [.ref x0, .int (r401 + (1 : Int32)), .int r402, .int (1 : Int32)]) (rest := []) ⟨hx, hb, hml, hown, hts⟩ (hq_cellOf l hl9 z0 D t x0 μ (r401 + (1 : Int32)) r402 (1 : Int32) r451 er451 w hw H.size) (kH hts qw757 qw758 qw0 qw759 okL_cellOf ⟨Nat.le_of_ble_eq_true rfl, Nat.le_of_ble_eq_true rfl⟩) ⟨PMH.blind, fun U hU hW => ⟨rfl, ⟨by rw [hU]; exact (hC.at hS hZ).warm hW, hN.moved hW.alike⟩, by rw [hU], by rw [hU]; exact hP, ⟨hD.1, fun _ _ h9 => Or.inl (in_map (L := w.map Prod.fst) rfl h9)⟩, fun q hq => hZ q (hsr q hq)⟩⟩ rfl rfl hl.1 rfl (lv_room (Nat.le_of_ble_eq_true rfl)) dL_hangs_630 ⟨Nat.le_of_ble_eq_true rfl, Nat.le_of_ble_eq_true rfl⟩) hS hsr (fun w H locs hw hP hD1 hS _ _ => ?_)
                  have hD : va_D (OA L0 s.heap.size) w := hD1.weaken (fun _ q _ h9 => hsr q.1 h9)
                  have hSz : s.heap.size ≤ H.size := hS.1
                  refine lv_iload hx hb dL_hangs_633 (lv_at hl 7 rfl) ?_
                  refine lv_icmp_eq (tgt := 644) hx hb dL_hangs_635 (by decide) (fun hc => ?_) (fun hc => ?_)
                  · have h := iteT hc h
                    refine lv_aload_n hx hb dL_hangs_644 rfl (lv_at hl 3 rfl) ?_
                    refine lv_iload hx hb dL_hangs_645 (lv_at hl 2 rfl) ?_
                    refine lv_iconst (v := (1)) hx hb dL_hangs_647 (by decide) ?_
                    refine lv_iadd hx hb dL_hangs_648 ?_
                    refine lv_iload hx hb dL_hangs_649 (lv_at hl 1 rfl) ?_
                    refine lv_iconst (v := (1)) hx hb dL_hangs_651 (by decide) ?_
                    refine lv_iadd hx hb dL_hangs_652 ?_
                    refine lv_iconst (v := (1)) hx hb dL_hangs_653 (by decide) ?_
                    obtain ⟨r452, er452, h⟩ := obind h
                    have hsr := OA.ofD (L' := w.map Prod.fst) hD rfl hSz
                    refine call_Q (vx_runSW (As := [.ref x0, .int (r401 + (1 : Int32)), .int (r402 + (1 : Int32)), .int (1 : Int32)]) (rest := []) ⟨hx, hb, hml, hown, hts⟩ (hq_cellOf l hl9 z0 D t x0 μ (r401 + (1 : Int32)) (r402 + (1 : Int32)) (1 : Int32) r452 er452 w hw H.size) (kH hts qw757 qw758 qw0 qw759 okL_cellOf ⟨Nat.le_of_ble_eq_true rfl, Nat.le_of_ble_eq_true rfl⟩) ⟨PMH.blind, fun U hU hW => ⟨rfl, ⟨by rw [hU]; exact (hC.at hS hZ).warm hW, hN.moved hW.alike⟩, by rw [hU], by rw [hU]; exact hP, ⟨hD.1, fun _ _ h9 => Or.inl (in_map (L := w.map Prod.fst) rfl h9)⟩, fun q hq => hZ q (hsr q hq)⟩⟩ rfl rfl hl.1 rfl (lv_room (Nat.le_of_ble_eq_true rfl)) dL_hangs_654 ⟨Nat.le_of_ble_eq_true rfl, Nat.le_of_ble_eq_true rfl⟩) hS hsr (fun w H locs hw hP hD1 hS _ _ => ?_)
                    have hD : va_D (OA L0 s.heap.size) w := hD1.weaken (fun _ q _ h9 => hsr q.1 h9)
                    have hSz : s.heap.size ≤ H.size := hS.1
                    refine lv_iload hx hb dL_hangs_657 (lv_at hl 7 rfl) ?_
                    refine lv_icmp_eq (tgt := 668) hx hb dL_hangs_659 (by decide) (fun hc => ?_) (fun hc => ?_)
                    · have h := iteT hc h
                      refine lv_aload_n hx hb dL_hangs_668 rfl (lv_at hl 3 rfl) ?_
                      refine lv_iload hx hb dL_hangs_669 (lv_at hl 2 rfl) ?_
                      refine lv_iload hx hb dL_hangs_671 (lv_at hl 1 rfl) ?_
                      refine lv_iconst (v := (1)) hx hb dL_hangs_673 (by decide) ?_
                      refine lv_iadd hx hb dL_hangs_674 ?_
                      refine lv_iconst (v := (1)) hx hb dL_hangs_675 (by decide) ?_
                      obtain ⟨r453, er453, h⟩ := obind h
                      have hsr := OA.ofD (L' := w.map Prod.fst) hD rfl hSz
                      refine call_Q (vx_runSW (As := [.ref x0, .int r401, .int (r402 + (1 : Int32)), .int (1 : Int32)]) (rest := []) ⟨hx, hb, hml, hown, hts⟩ (hq_cellOf l hl9 z0 D t x0 μ r401 (r402 + (1 : Int32)) (1 : Int32) r453 er453 w hw H.size) (kH hts qw757 qw758 qw0 qw759 okL_cellOf ⟨Nat.le_of_ble_eq_true rfl, Nat.le_of_ble_eq_true rfl⟩) ⟨PMH.blind, fun U hU hW => ⟨rfl, ⟨by rw [hU]; exact (hC.at hS hZ).warm hW, hN.moved hW.alike⟩, by rw [hU], by rw [hU]; exact hP, ⟨hD.1, fun _ _ h9 => Or.inl (in_map (L := w.map Prod.fst) rfl h9)⟩, fun q hq => hZ q (hsr q hq)⟩⟩ rfl rfl hl.1 rfl (lv_room (Nat.le_of_ble_eq_true rfl)) dL_hangs_676 ⟨Nat.le_of_ble_eq_true rfl, Nat.le_of_ble_eq_true rfl⟩) hS hsr (fun w H locs hw hP hD1 hS _ _ => ?_)
                      have hD : va_D (OA L0 s.heap.size) w := hD1.weaken (fun _ q _ h9 => hsr q.1 h9)
                      have hSz : s.heap.size ≤ H.size := hS.1
                      refine lv_iload hx hb dL_hangs_679 (lv_at hl 7 rfl) ?_
                      refine lv_icmp_eq (tgt := 690) hx hb dL_hangs_681 (by decide) (fun hc => ?_) (fun hc => ?_)
                      · have h := iteT hc h
                        refine lv_aload_n hx hb dL_hangs_690 rfl (lv_at hl 3 rfl) ?_
                        refine lv_iload hx hb dL_hangs_691 (lv_at hl 2 rfl) ?_
                        refine lv_iload hx hb dL_hangs_693 (lv_at hl 1 rfl) ?_
                        refine lv_iload hx hb dL_hangs_695 (lv_at hl 0 rfl) ?_
                        refine lv_iconst (v := (1)) hx hb dL_hangs_697 (by decide) ?_
                        refine lv_iadd hx hb dL_hangs_698 ?_
                        refine lv_iconst (v := (4)) hx hb dL_hangs_699 (by decide) ?_
                        refine lv_irem hx hb dL_hangs_700 (by decide) ?_
                        obtain ⟨r454, er454, h⟩ := obind h
                        have hsr := OA.ofD (L' := w.map Prod.fst) hD rfl hSz
                        refine call_Q (vx_runSW (As := [.ref x0, .int r401, .int r402, .int ((r403 + (1 : Int32)) - (r403 + (1 : Int32)) / (4 : Int32) * (4 : Int32))]) (rest := []) ⟨hx, hb, hml, hown, hts⟩ (hq_whyNot l hl9 z0 D t x0 μ r401 r402 ((r403 + (1 : Int32)) - (r403 + (1 : Int32)) / (4 : Int32) * (4 : Int32)) r454 er454 w hw H.size) (kH hts qw818 qw819 qw0 qw820 okL_whyNot ⟨Nat.le_of_ble_eq_true rfl, Nat.le_of_ble_eq_true rfl⟩) ⟨PMH.blind, fun U hU hW => ⟨rfl, ⟨by rw [hU]; exact (hC.at hS hZ).warm hW, hN.moved hW.alike⟩, by rw [hU], by rw [hU]; exact hP, ⟨hD.1, fun _ _ h9 => Or.inl (in_map (L := w.map Prod.fst) rfl h9)⟩, fun q hq => hZ q (hsr q hq)⟩⟩ rfl rfl hl.1 rfl (lv_room (Nat.le_of_ble_eq_true rfl)) dL_hangs_701 ⟨Nat.le_of_ble_eq_true rfl, Nat.le_of_ble_eq_true rfl⟩) hS hsr (fun w H locs hw hP hD1 hS _ _ => ?_)
                        have hD : va_D (OA L0 s.heap.size) w := hD1.weaken (fun _ q _ h9 => hsr q.1 h9)
                        have hSz : s.heap.size ≤ H.size := hS.1
                        refine lv_iconst (v := (1)) hx hb dL_hangs_704 (by decide) ?_
                        refine lv_icmp_le (tgt := 712) hx hb dL_hangs_705 (by decide) (fun hc => ?_) (fun hc => ?_)
                        · have h := iteT hc h
                          refine lv_iconst (v := (0)) hx hb dL_hangs_712 (by decide) ?_
                          obtain rfl := Option.some.inj h
                          exact hJ713_o435 ls H locs w (lv_sub hl [3, 4, 5, 7] rfl) hw hP hD hS
                        · have h := iteF hc h
                          refine lv_iconst (v := (1)) hx hb dL_hangs_708 (by decide) ?_
                          refine lv_goto (tgt := 713) hx hb dL_hangs_709 (by decide) ?_
                          obtain rfl := Option.some.inj h
                          exact hJ713_o435 ls H locs w (lv_sub hl [3, 4, 5, 7] rfl) hw hP hD hS
                      · have h := iteF hc h
                        refine lv_iload hx hb dL_hangs_684 (lv_at hl 0 rfl) ?_
                        refine lv_iconst (v := (3)) hx hb dL_hangs_686 (by decide) ?_
                        refine lv_icmp_ne (tgt := 712) hx hb dL_hangs_687 (by decide) (fun hc => ?_) (fun hc => ?_)
                        · have h := iteF hc h
                          refine lv_iconst (v := (0)) hx hb dL_hangs_712 (by decide) ?_
                          obtain rfl := Option.some.inj h
                          exact hJ713_o435 ls H locs w (lv_sub hl [3, 4, 5, 7] rfl) hw hP hD hS
                        · have h := iteT hc h
                          refine lv_aload_n hx hb dL_hangs_690 rfl (lv_at hl 3 rfl) ?_
                          refine lv_iload hx hb dL_hangs_691 (lv_at hl 2 rfl) ?_
                          refine lv_iload hx hb dL_hangs_693 (lv_at hl 1 rfl) ?_
                          refine lv_iload hx hb dL_hangs_695 (lv_at hl 0 rfl) ?_
                          refine lv_iconst (v := (1)) hx hb dL_hangs_697 (by decide) ?_
                          refine lv_iadd hx hb dL_hangs_698 ?_
                          refine lv_iconst (v := (4)) hx hb dL_hangs_699 (by decide) ?_
                          refine lv_irem hx hb dL_hangs_700 (by decide) ?_
                          obtain ⟨r455, er455, h⟩ := obind h
                          have hsr := OA.ofD (L' := w.map Prod.fst) hD rfl hSz
                          refine call_Q (vx_runSW (As := [.ref x0, .int r401, .int r402, .int ((r403 + (1 : Int32)) - (r403 + (1 : Int32)) / (4 : Int32) * (4 : Int32))]) (rest := []) ⟨hx, hb, hml, hown, hts⟩ (hq_whyNot l hl9 z0 D t x0 μ r401 r402 ((r403 + (1 : Int32)) - (r403 + (1 : Int32)) / (4 : Int32) * (4 : Int32)) r455 er455 w hw H.size) (kH hts qw818 qw819 qw0 qw820 okL_whyNot ⟨Nat.le_of_ble_eq_true rfl, Nat.le_of_ble_eq_true rfl⟩) ⟨PMH.blind, fun U hU hW => ⟨rfl, ⟨by rw [hU]; exact (hC.at hS hZ).warm hW, hN.moved hW.alike⟩, by rw [hU], by rw [hU]; exact hP, ⟨hD.1, fun _ _ h9 => Or.inl (in_map (L := w.map Prod.fst) rfl h9)⟩, fun q hq => hZ q (hsr q hq)⟩⟩ rfl rfl hl.1 rfl (lv_room (Nat.le_of_ble_eq_true rfl)) dL_hangs_701 ⟨Nat.le_of_ble_eq_true rfl, Nat.le_of_ble_eq_true rfl⟩) hS hsr (fun w H locs hw hP hD1 hS _ _ => ?_)
                          have hD : va_D (OA L0 s.heap.size) w := hD1.weaken (fun _ q _ h9 => hsr q.1 h9)
                          have hSz : s.heap.size ≤ H.size := hS.1
                          refine lv_iconst (v := (1)) hx hb dL_hangs_704 (by decide) ?_
                          refine lv_icmp_le (tgt := 712) hx hb dL_hangs_705 (by decide) (fun hc => ?_) (fun hc => ?_)
                          · have h := iteT hc h
                            refine lv_iconst (v := (0)) hx hb dL_hangs_712 (by decide) ?_
                            obtain rfl := Option.some.inj h
                            exact hJ713_o435 ls H locs w (lv_sub hl [3, 4, 5, 7] rfl) hw hP hD hS
                          · have h := iteF hc h
                            refine lv_iconst (v := (1)) hx hb dL_hangs_708 (by decide) ?_
                            refine lv_goto (tgt := 713) hx hb dL_hangs_709 (by decide) ?_
                            obtain rfl := Option.some.inj h
                            exact hJ713_o435 ls H locs w (lv_sub hl [3, 4, 5, 7] rfl) hw hP hD hS
                    · have h := iteF hc h
                      refine lv_iload hx hb dL_hangs_662 (lv_at hl 0 rfl) ?_
                      refine lv_iconst (v := (2)) hx hb dL_hangs_664 (by decide) ?_
                      refine lv_icmp_ne (tgt := 712) hx hb dL_hangs_665 (by decide) (fun hc => ?_) (fun hc => ?_)
                      · have h := iteF hc h
                        refine lv_iconst (v := (0)) hx hb dL_hangs_712 (by decide) ?_
                        obtain rfl := Option.some.inj h
                        exact hJ713_o435 ls H locs w (lv_sub hl [3, 4, 5, 7] rfl) hw hP hD hS
                      · have h := iteT hc h
                        refine lv_aload_n hx hb dL_hangs_668 rfl (lv_at hl 3 rfl) ?_
                        refine lv_iload hx hb dL_hangs_669 (lv_at hl 2 rfl) ?_
                        refine lv_iload hx hb dL_hangs_671 (lv_at hl 1 rfl) ?_
                        refine lv_iconst (v := (1)) hx hb dL_hangs_673 (by decide) ?_
                        refine lv_iadd hx hb dL_hangs_674 ?_
                        refine lv_iconst (v := (1)) hx hb dL_hangs_675 (by decide) ?_
                        obtain ⟨r456, er456, h⟩ := obind h
                        have hsr := OA.ofD (L' := w.map Prod.fst) hD rfl hSz
                        refine call_Q (vx_runSW (As := [.ref x0, .int r401, .int (r402 + (1 : Int32)), .int (1 : Int32)]) (rest := []) ⟨hx, hb, hml, hown, hts⟩ (hq_cellOf l hl9 z0 D t x0 μ r401 (r402 + (1 : Int32)) (1 : Int32) r456 er456 w hw H.size) (kH hts qw757 qw758 qw0 qw759 okL_cellOf ⟨Nat.le_of_ble_eq_true rfl, Nat.le_of_ble_eq_true rfl⟩) ⟨PMH.blind, fun U hU hW => ⟨rfl, ⟨by rw [hU]; exact (hC.at hS hZ).warm hW, hN.moved hW.alike⟩, by rw [hU], by rw [hU]; exact hP, ⟨hD.1, fun _ _ h9 => Or.inl (in_map (L := w.map Prod.fst) rfl h9)⟩, fun q hq => hZ q (hsr q hq)⟩⟩ rfl rfl hl.1 rfl (lv_room (Nat.le_of_ble_eq_true rfl)) dL_hangs_676 ⟨Nat.le_of_ble_eq_true rfl, Nat.le_of_ble_eq_true rfl⟩) hS hsr (fun w H locs hw hP hD1 hS _ _ => ?_)
                        have hD : va_D (OA L0 s.heap.size) w := hD1.weaken (fun _ q _ h9 => hsr q.1 h9)
                        have hSz : s.heap.size ≤ H.size := hS.1
                        refine lv_iload hx hb dL_hangs_679 (lv_at hl 7 rfl) ?_
                        refine lv_icmp_eq (tgt := 690) hx hb dL_hangs_681 (by decide) (fun hc => ?_) (fun hc => ?_)
                        · have h := iteT hc h
                          refine lv_aload_n hx hb dL_hangs_690 rfl (lv_at hl 3 rfl) ?_
                          refine lv_iload hx hb dL_hangs_691 (lv_at hl 2 rfl) ?_
                          refine lv_iload hx hb dL_hangs_693 (lv_at hl 1 rfl) ?_
                          refine lv_iload hx hb dL_hangs_695 (lv_at hl 0 rfl) ?_
                          refine lv_iconst (v := (1)) hx hb dL_hangs_697 (by decide) ?_
                          refine lv_iadd hx hb dL_hangs_698 ?_
                          refine lv_iconst (v := (4)) hx hb dL_hangs_699 (by decide) ?_
                          refine lv_irem hx hb dL_hangs_700 (by decide) ?_
                          obtain ⟨r457, er457, h⟩ := obind h
                          have hsr := OA.ofD (L' := w.map Prod.fst) hD rfl hSz
                          refine call_Q (vx_runSW (As := [.ref x0, .int r401, .int r402, .int ((r403 + (1 : Int32)) - (r403 + (1 : Int32)) / (4 : Int32) * (4 : Int32))]) (rest := []) ⟨hx, hb, hml, hown, hts⟩ (hq_whyNot l hl9 z0 D t x0 μ r401 r402 ((r403 + (1 : Int32)) - (r403 + (1 : Int32)) / (4 : Int32) * (4 : Int32)) r457 er457 w hw H.size) (kH hts qw818 qw819 qw0 qw820 okL_whyNot ⟨Nat.le_of_ble_eq_true rfl, Nat.le_of_ble_eq_true rfl⟩) ⟨PMH.blind, fun U hU hW => ⟨rfl, ⟨by rw [hU]; exact (hC.at hS hZ).warm hW, hN.moved hW.alike⟩, by rw [hU], by rw [hU]; exact hP, ⟨hD.1, fun _ _ h9 => Or.inl (in_map (L := w.map Prod.fst) rfl h9)⟩, fun q hq => hZ q (hsr q hq)⟩⟩ rfl rfl hl.1 rfl (lv_room (Nat.le_of_ble_eq_true rfl)) dL_hangs_701 ⟨Nat.le_of_ble_eq_true rfl, Nat.le_of_ble_eq_true rfl⟩) hS hsr (fun w H locs hw hP hD1 hS _ _ => ?_)
                          have hD : va_D (OA L0 s.heap.size) w := hD1.weaken (fun _ q _ h9 => hsr q.1 h9)
                          have hSz : s.heap.size ≤ H.size := hS.1
                          refine lv_iconst (v := (1)) hx hb dL_hangs_704 (by decide) ?_
                          refine lv_icmp_le (tgt := 712) hx hb dL_hangs_705 (by decide) (fun hc => ?_) (fun hc => ?_)
                          · have h := iteT hc h
                            refine lv_iconst (v := (0)) hx hb dL_hangs_712 (by decide) ?_
                            obtain rfl := Option.some.inj h
                            exact hJ713_o435 ls H locs w (lv_sub hl [3, 4, 5, 7] rfl) hw hP hD hS
                          · have h := iteF hc h
                            refine lv_iconst (v := (1)) hx hb dL_hangs_708 (by decide) ?_
                            refine lv_goto (tgt := 713) hx hb dL_hangs_709 (by decide) ?_
                            obtain rfl := Option.some.inj h
                            exact hJ713_o435 ls H locs w (lv_sub hl [3, 4, 5, 7] rfl) hw hP hD hS
                        · have h := iteF hc h
                          refine lv_iload hx hb dL_hangs_684 (lv_at hl 0 rfl) ?_
                          refine lv_iconst (v := (3)) hx hb dL_hangs_686 (by decide) ?_
                          refine lv_icmp_ne (tgt := 712) hx hb dL_hangs_687 (by decide) (fun hc => ?_) (fun hc => ?_)
                          · have h := iteF hc h
                            refine lv_iconst (v := (0)) hx hb dL_hangs_712 (by decide) ?_
                            obtain rfl := Option.some.inj h
                            exact hJ713_o435 ls H locs w (lv_sub hl [3, 4, 5, 7] rfl) hw hP hD hS
                          · have h := iteT hc h
                            refine lv_aload_n hx hb dL_hangs_690 rfl (lv_at hl 3 rfl) ?_
                            refine lv_iload hx hb dL_hangs_691 (lv_at hl 2 rfl) ?_
                            refine lv_iload hx hb dL_hangs_693 (lv_at hl 1 rfl) ?_
                            refine lv_iload hx hb dL_hangs_695 (lv_at hl 0 rfl) ?_
                            refine lv_iconst (v := (1)) hx hb dL_hangs_697 (by decide) ?_
                            refine lv_iadd hx hb dL_hangs_698 ?_
                            refine lv_iconst (v := (4)) hx hb dL_hangs_699 (by decide) ?_
                            refine lv_irem hx hb dL_hangs_700 (by decide) ?_
                            obtain ⟨r458, er458, h⟩ := obind h
                            have hsr := OA.ofD (L' := w.map Prod.fst) hD rfl hSz
                            refine call_Q (vx_runSW (As := [.ref x0, .int r401, .int r402, .int ((r403 + (1 : Int32)) - (r403 + (1 : Int32)) / (4 : Int32) * (4 : Int32))]) (rest := []) ⟨hx, hb, hml, hown, hts⟩ (hq_whyNot l hl9 z0 D t x0 μ r401 r402 ((r403 + (1 : Int32)) - (r403 + (1 : Int32)) / (4 : Int32) * (4 : Int32)) r458 er458 w hw H.size) (kH hts qw818 qw819 qw0 qw820 okL_whyNot ⟨Nat.le_of_ble_eq_true rfl, Nat.le_of_ble_eq_true rfl⟩) ⟨PMH.blind, fun U hU hW => ⟨rfl, ⟨by rw [hU]; exact (hC.at hS hZ).warm hW, hN.moved hW.alike⟩, by rw [hU], by rw [hU]; exact hP, ⟨hD.1, fun _ _ h9 => Or.inl (in_map (L := w.map Prod.fst) rfl h9)⟩, fun q hq => hZ q (hsr q hq)⟩⟩ rfl rfl hl.1 rfl (lv_room (Nat.le_of_ble_eq_true rfl)) dL_hangs_701 ⟨Nat.le_of_ble_eq_true rfl, Nat.le_of_ble_eq_true rfl⟩) hS hsr (fun w H locs hw hP hD1 hS _ _ => ?_)
                            have hD : va_D (OA L0 s.heap.size) w := hD1.weaken (fun _ q _ h9 => hsr q.1 h9)
                            have hSz : s.heap.size ≤ H.size := hS.1
                            refine lv_iconst (v := (1)) hx hb dL_hangs_704 (by decide) ?_
                            refine lv_icmp_le (tgt := 712) hx hb dL_hangs_705 (by decide) (fun hc => ?_) (fun hc => ?_)
                            · have h := iteT hc h
                              refine lv_iconst (v := (0)) hx hb dL_hangs_712 (by decide) ?_
                              obtain rfl := Option.some.inj h
                              exact hJ713_o435 ls H locs w (lv_sub hl [3, 4, 5, 7] rfl) hw hP hD hS
                            · have h := iteF hc h
                              refine lv_iconst (v := (1)) hx hb dL_hangs_708 (by decide) ?_
                              refine lv_goto (tgt := 713) hx hb dL_hangs_709 (by decide) ?_
                              obtain rfl := Option.some.inj h
                              exact hJ713_o435 ls H locs w (lv_sub hl [3, 4, 5, 7] rfl) hw hP hD hS
                  · have h := iteF hc h
                    refine lv_iload hx hb dL_hangs_638 (lv_at hl 0 rfl) ?_
                    refine lv_iconst (v := (1)) hx hb dL_hangs_640 (by decide) ?_
                    refine lv_icmp_ne (tgt := 712) hx hb dL_hangs_641 (by decide) (fun hc => ?_) (fun hc => ?_)
                    · have h := iteF hc h
                      refine lv_iconst (v := (0)) hx hb dL_hangs_712 (by decide) ?_
                      obtain rfl := Option.some.inj h
                      exact hJ713_o435 ls H locs w (lv_sub hl [3, 4, 5, 7] rfl) hw hP hD hS
                    · have h := iteT hc h
                      refine lv_aload_n hx hb dL_hangs_644 rfl (lv_at hl 3 rfl) ?_
                      refine lv_iload hx hb dL_hangs_645 (lv_at hl 2 rfl) ?_
                      refine lv_iconst (v := (1)) hx hb dL_hangs_647 (by decide) ?_
                      refine lv_iadd hx hb dL_hangs_648 ?_
                      refine lv_iload hx hb dL_hangs_649 (lv_at hl 1 rfl) ?_
                      refine lv_iconst (v := (1)) hx hb dL_hangs_651 (by decide) ?_
                      refine lv_iadd hx hb dL_hangs_652 ?_
                      refine lv_iconst (v := (1)) hx hb dL_hangs_653 (by decide) ?_
                      obtain ⟨r459, er459, h⟩ := obind h
                      have hsr := OA.ofD (L' := w.map Prod.fst) hD rfl hSz
                      refine call_Q (vx_runSW (As := [.ref x0, .int (r401 + (1 : Int32)), .int (r402 + (1 : Int32)), .int (1 : Int32)]) (rest := []) ⟨hx, hb, hml, hown, hts⟩ (hq_cellOf l hl9 z0 D t x0 μ (r401 + (1 : Int32)) (r402 + (1 : Int32)) (1 : Int32) r459 er459 w hw H.size) (kH hts qw757 qw758 qw0 qw759 okL_cellOf ⟨Nat.le_of_ble_eq_true rfl, Nat.le_of_ble_eq_true rfl⟩) ⟨PMH.blind, fun U hU hW => ⟨rfl, ⟨by rw [hU]; exact (hC.at hS hZ).warm hW, hN.moved hW.alike⟩, by rw [hU], by rw [hU]; exact hP, ⟨hD.1, fun _ _ h9 => Or.inl (in_map (L := w.map Prod.fst) rfl h9)⟩, fun q hq => hZ q (hsr q hq)⟩⟩ rfl rfl hl.1 rfl (lv_room (Nat.le_of_ble_eq_true rfl)) dL_hangs_654 ⟨Nat.le_of_ble_eq_true rfl, Nat.le_of_ble_eq_true rfl⟩) hS hsr (fun w H locs hw hP hD1 hS _ _ => ?_)
                      have hD : va_D (OA L0 s.heap.size) w := hD1.weaken (fun _ q _ h9 => hsr q.1 h9)
                      have hSz : s.heap.size ≤ H.size := hS.1
                      refine lv_iload hx hb dL_hangs_657 (lv_at hl 7 rfl) ?_
                      refine lv_icmp_eq (tgt := 668) hx hb dL_hangs_659 (by decide) (fun hc => ?_) (fun hc => ?_)
                      · have h := iteT hc h
                        refine lv_aload_n hx hb dL_hangs_668 rfl (lv_at hl 3 rfl) ?_
                        refine lv_iload hx hb dL_hangs_669 (lv_at hl 2 rfl) ?_
                        refine lv_iload hx hb dL_hangs_671 (lv_at hl 1 rfl) ?_
                        refine lv_iconst (v := (1)) hx hb dL_hangs_673 (by decide) ?_
                        refine lv_iadd hx hb dL_hangs_674 ?_
                        refine lv_iconst (v := (1)) hx hb dL_hangs_675 (by decide) ?_
                        obtain ⟨r460, er460, h⟩ := obind h
                        have hsr := OA.ofD (L' := w.map Prod.fst) hD rfl hSz
                        refine call_Q (vx_runSW (As := [.ref x0, .int r401, .int (r402 + (1 : Int32)), .int (1 : Int32)]) (rest := []) ⟨hx, hb, hml, hown, hts⟩ (hq_cellOf l hl9 z0 D t x0 μ r401 (r402 + (1 : Int32)) (1 : Int32) r460 er460 w hw H.size) (kH hts qw757 qw758 qw0 qw759 okL_cellOf ⟨Nat.le_of_ble_eq_true rfl, Nat.le_of_ble_eq_true rfl⟩) ⟨PMH.blind, fun U hU hW => ⟨rfl, ⟨by rw [hU]; exact (hC.at hS hZ).warm hW, hN.moved hW.alike⟩, by rw [hU], by rw [hU]; exact hP, ⟨hD.1, fun _ _ h9 => Or.inl (in_map (L := w.map Prod.fst) rfl h9)⟩, fun q hq => hZ q (hsr q hq)⟩⟩ rfl rfl hl.1 rfl (lv_room (Nat.le_of_ble_eq_true rfl)) dL_hangs_676 ⟨Nat.le_of_ble_eq_true rfl, Nat.le_of_ble_eq_true rfl⟩) hS hsr (fun w H locs hw hP hD1 hS _ _ => ?_)
                        have hD : va_D (OA L0 s.heap.size) w := hD1.weaken (fun _ q _ h9 => hsr q.1 h9)
                        have hSz : s.heap.size ≤ H.size := hS.1
                        refine lv_iload hx hb dL_hangs_679 (lv_at hl 7 rfl) ?_
                        refine lv_icmp_eq (tgt := 690) hx hb dL_hangs_681 (by decide) (fun hc => ?_) (fun hc => ?_)
                        · have h := iteT hc h
                          refine lv_aload_n hx hb dL_hangs_690 rfl (lv_at hl 3 rfl) ?_
                          refine lv_iload hx hb dL_hangs_691 (lv_at hl 2 rfl) ?_
                          refine lv_iload hx hb dL_hangs_693 (lv_at hl 1 rfl) ?_
                          refine lv_iload hx hb dL_hangs_695 (lv_at hl 0 rfl) ?_
                          refine lv_iconst (v := (1)) hx hb dL_hangs_697 (by decide) ?_
                          refine lv_iadd hx hb dL_hangs_698 ?_
                          refine lv_iconst (v := (4)) hx hb dL_hangs_699 (by decide) ?_
                          refine lv_irem hx hb dL_hangs_700 (by decide) ?_
                          obtain ⟨r461, er461, h⟩ := obind h
                          have hsr := OA.ofD (L' := w.map Prod.fst) hD rfl hSz
                          refine call_Q (vx_runSW (As := [.ref x0, .int r401, .int r402, .int ((r403 + (1 : Int32)) - (r403 + (1 : Int32)) / (4 : Int32) * (4 : Int32))]) (rest := []) ⟨hx, hb, hml, hown, hts⟩ (hq_whyNot l hl9 z0 D t x0 μ r401 r402 ((r403 + (1 : Int32)) - (r403 + (1 : Int32)) / (4 : Int32) * (4 : Int32)) r461 er461 w hw H.size) (kH hts qw818 qw819 qw0 qw820 okL_whyNot ⟨Nat.le_of_ble_eq_true rfl, Nat.le_of_ble_eq_true rfl⟩) ⟨PMH.blind, fun U hU hW => ⟨rfl, ⟨by rw [hU]; exact (hC.at hS hZ).warm hW, hN.moved hW.alike⟩, by rw [hU], by rw [hU]; exact hP, ⟨hD.1, fun _ _ h9 => Or.inl (in_map (L := w.map Prod.fst) rfl h9)⟩, fun q hq => hZ q (hsr q hq)⟩⟩ rfl rfl hl.1 rfl (lv_room (Nat.le_of_ble_eq_true rfl)) dL_hangs_701 ⟨Nat.le_of_ble_eq_true rfl, Nat.le_of_ble_eq_true rfl⟩) hS hsr (fun w H locs hw hP hD1 hS _ _ => ?_)
                          have hD : va_D (OA L0 s.heap.size) w := hD1.weaken (fun _ q _ h9 => hsr q.1 h9)
                          have hSz : s.heap.size ≤ H.size := hS.1
                          refine lv_iconst (v := (1)) hx hb dL_hangs_704 (by decide) ?_
                          refine lv_icmp_le (tgt := 712) hx hb dL_hangs_705 (by decide) (fun hc => ?_) (fun hc => ?_)
                          · have h := iteT hc h
                            refine lv_iconst (v := (0)) hx hb dL_hangs_712 (by decide) ?_
                            obtain rfl := Option.some.inj h
                            exact hJ713_o435 ls H locs w (lv_sub hl [3, 4, 5, 7] rfl) hw hP hD hS
                          · have h := iteF hc h
                            refine lv_iconst (v := (1)) hx hb dL_hangs_708 (by decide) ?_
                            refine lv_goto (tgt := 713) hx hb dL_hangs_709 (by decide) ?_
                            obtain rfl := Option.some.inj h
                            exact hJ713_o435 ls H locs w (lv_sub hl [3, 4, 5, 7] rfl) hw hP hD hS
                        · have h := iteF hc h
                          refine lv_iload hx hb dL_hangs_684 (lv_at hl 0 rfl) ?_
                          refine lv_iconst (v := (3)) hx hb dL_hangs_686 (by decide) ?_
                          refine lv_icmp_ne (tgt := 712) hx hb dL_hangs_687 (by decide) (fun hc => ?_) (fun hc => ?_)
                          · have h := iteF hc h
                            refine lv_iconst (v := (0)) hx hb dL_hangs_712 (by decide) ?_
                            obtain rfl := Option.some.inj h
                            exact hJ713_o435 ls H locs w (lv_sub hl [3, 4, 5, 7] rfl) hw hP hD hS
                          · have h := iteT hc h
                            refine lv_aload_n hx hb dL_hangs_690 rfl (lv_at hl 3 rfl) ?_
                            refine lv_iload hx hb dL_hangs_691 (lv_at hl 2 rfl) ?_
                            refine lv_iload hx hb dL_hangs_693 (lv_at hl 1 rfl) ?_
                            refine lv_iload hx hb dL_hangs_695 (lv_at hl 0 rfl) ?_
                            refine lv_iconst (v := (1)) hx hb dL_hangs_697 (by decide) ?_
                            refine lv_iadd hx hb dL_hangs_698 ?_
                            refine lv_iconst (v := (4)) hx hb dL_hangs_699 (by decide) ?_
                            refine lv_irem hx hb dL_hangs_700 (by decide) ?_
                            obtain ⟨r462, er462, h⟩ := obind h
                            have hsr := OA.ofD (L' := w.map Prod.fst) hD rfl hSz
                            refine call_Q (vx_runSW (As := [.ref x0, .int r401, .int r402, .int ((r403 + (1 : Int32)) - (r403 + (1 : Int32)) / (4 : Int32) * (4 : Int32))]) (rest := []) ⟨hx, hb, hml, hown, hts⟩ (hq_whyNot l hl9 z0 D t x0 μ r401 r402 ((r403 + (1 : Int32)) - (r403 + (1 : Int32)) / (4 : Int32) * (4 : Int32)) r462 er462 w hw H.size) (kH hts qw818 qw819 qw0 qw820 okL_whyNot ⟨Nat.le_of_ble_eq_true rfl, Nat.le_of_ble_eq_true rfl⟩) ⟨PMH.blind, fun U hU hW => ⟨rfl, ⟨by rw [hU]; exact (hC.at hS hZ).warm hW, hN.moved hW.alike⟩, by rw [hU], by rw [hU]; exact hP, ⟨hD.1, fun _ _ h9 => Or.inl (in_map (L := w.map Prod.fst) rfl h9)⟩, fun q hq => hZ q (hsr q hq)⟩⟩ rfl rfl hl.1 rfl (lv_room (Nat.le_of_ble_eq_true rfl)) dL_hangs_701 ⟨Nat.le_of_ble_eq_true rfl, Nat.le_of_ble_eq_true rfl⟩) hS hsr (fun w H locs hw hP hD1 hS _ _ => ?_)
                            have hD : va_D (OA L0 s.heap.size) w := hD1.weaken (fun _ q _ h9 => hsr q.1 h9)
                            have hSz : s.heap.size ≤ H.size := hS.1
                            refine lv_iconst (v := (1)) hx hb dL_hangs_704 (by decide) ?_
                            refine lv_icmp_le (tgt := 712) hx hb dL_hangs_705 (by decide) (fun hc => ?_) (fun hc => ?_)
                            · have h := iteT hc h
                              refine lv_iconst (v := (0)) hx hb dL_hangs_712 (by decide) ?_
                              obtain rfl := Option.some.inj h
                              exact hJ713_o435 ls H locs w (lv_sub hl [3, 4, 5, 7] rfl) hw hP hD hS
                            · have h := iteF hc h
                              refine lv_iconst (v := (1)) hx hb dL_hangs_708 (by decide) ?_
                              refine lv_goto (tgt := 713) hx hb dL_hangs_709 (by decide) ?_
                              obtain rfl := Option.some.inj h
                              exact hJ713_o435 ls H locs w (lv_sub hl [3, 4, 5, 7] rfl) hw hP hD hS
                      · have h := iteF hc h
                        refine lv_iload hx hb dL_hangs_662 (lv_at hl 0 rfl) ?_
                        refine lv_iconst (v := (2)) hx hb dL_hangs_664 (by decide) ?_
                        refine lv_icmp_ne (tgt := 712) hx hb dL_hangs_665 (by decide) (fun hc => ?_) (fun hc => ?_)
                        · have h := iteF hc h
                          refine lv_iconst (v := (0)) hx hb dL_hangs_712 (by decide) ?_
                          obtain rfl := Option.some.inj h
                          exact hJ713_o435 ls H locs w (lv_sub hl [3, 4, 5, 7] rfl) hw hP hD hS
                        · have h := iteT hc h
                          refine lv_aload_n hx hb dL_hangs_668 rfl (lv_at hl 3 rfl) ?_
                          refine lv_iload hx hb dL_hangs_669 (lv_at hl 2 rfl) ?_
                          refine lv_iload hx hb dL_hangs_671 (lv_at hl 1 rfl) ?_
                          refine lv_iconst (v := (1)) hx hb dL_hangs_673 (by decide) ?_
                          refine lv_iadd hx hb dL_hangs_674 ?_
                          refine lv_iconst (v := (1)) hx hb dL_hangs_675 (by decide) ?_
                          obtain ⟨r463, er463, h⟩ := obind h
                          have hsr := OA.ofD (L' := w.map Prod.fst) hD rfl hSz
                          refine call_Q (vx_runSW (As := [.ref x0, .int r401, .int (r402 + (1 : Int32)), .int (1 : Int32)]) (rest := []) ⟨hx, hb, hml, hown, hts⟩ (hq_cellOf l hl9 z0 D t x0 μ r401 (r402 + (1 : Int32)) (1 : Int32) r463 er463 w hw H.size) (kH hts qw757 qw758 qw0 qw759 okL_cellOf ⟨Nat.le_of_ble_eq_true rfl, Nat.le_of_ble_eq_true rfl⟩) ⟨PMH.blind, fun U hU hW => ⟨rfl, ⟨by rw [hU]; exact (hC.at hS hZ).warm hW, hN.moved hW.alike⟩, by rw [hU], by rw [hU]; exact hP, ⟨hD.1, fun _ _ h9 => Or.inl (in_map (L := w.map Prod.fst) rfl h9)⟩, fun q hq => hZ q (hsr q hq)⟩⟩ rfl rfl hl.1 rfl (lv_room (Nat.le_of_ble_eq_true rfl)) dL_hangs_676 ⟨Nat.le_of_ble_eq_true rfl, Nat.le_of_ble_eq_true rfl⟩) hS hsr (fun w H locs hw hP hD1 hS _ _ => ?_)
                          have hD : va_D (OA L0 s.heap.size) w := hD1.weaken (fun _ q _ h9 => hsr q.1 h9)
                          have hSz : s.heap.size ≤ H.size := hS.1
                          refine lv_iload hx hb dL_hangs_679 (lv_at hl 7 rfl) ?_
                          refine lv_icmp_eq (tgt := 690) hx hb dL_hangs_681 (by decide) (fun hc => ?_) (fun hc => ?_)
                          · have h := iteT hc h
                            refine lv_aload_n hx hb dL_hangs_690 rfl (lv_at hl 3 rfl) ?_
                            refine lv_iload hx hb dL_hangs_691 (lv_at hl 2 rfl) ?_
                            refine lv_iload hx hb dL_hangs_693 (lv_at hl 1 rfl) ?_
                            refine lv_iload hx hb dL_hangs_695 (lv_at hl 0 rfl) ?_
                            refine lv_iconst (v := (1)) hx hb dL_hangs_697 (by decide) ?_
                            refine lv_iadd hx hb dL_hangs_698 ?_
                            refine lv_iconst (v := (4)) hx hb dL_hangs_699 (by decide) ?_
                            refine lv_irem hx hb dL_hangs_700 (by decide) ?_
                            obtain ⟨r464, er464, h⟩ := obind h
                            have hsr := OA.ofD (L' := w.map Prod.fst) hD rfl hSz
                            refine call_Q (vx_runSW (As := [.ref x0, .int r401, .int r402, .int ((r403 + (1 : Int32)) - (r403 + (1 : Int32)) / (4 : Int32) * (4 : Int32))]) (rest := []) ⟨hx, hb, hml, hown, hts⟩ (hq_whyNot l hl9 z0 D t x0 μ r401 r402 ((r403 + (1 : Int32)) - (r403 + (1 : Int32)) / (4 : Int32) * (4 : Int32)) r464 er464 w hw H.size) (kH hts qw818 qw819 qw0 qw820 okL_whyNot ⟨Nat.le_of_ble_eq_true rfl, Nat.le_of_ble_eq_true rfl⟩) ⟨PMH.blind, fun U hU hW => ⟨rfl, ⟨by rw [hU]; exact (hC.at hS hZ).warm hW, hN.moved hW.alike⟩, by rw [hU], by rw [hU]; exact hP, ⟨hD.1, fun _ _ h9 => Or.inl (in_map (L := w.map Prod.fst) rfl h9)⟩, fun q hq => hZ q (hsr q hq)⟩⟩ rfl rfl hl.1 rfl (lv_room (Nat.le_of_ble_eq_true rfl)) dL_hangs_701 ⟨Nat.le_of_ble_eq_true rfl, Nat.le_of_ble_eq_true rfl⟩) hS hsr (fun w H locs hw hP hD1 hS _ _ => ?_)
                            have hD : va_D (OA L0 s.heap.size) w := hD1.weaken (fun _ q _ h9 => hsr q.1 h9)
                            have hSz : s.heap.size ≤ H.size := hS.1
                            refine lv_iconst (v := (1)) hx hb dL_hangs_704 (by decide) ?_
                            refine lv_icmp_le (tgt := 712) hx hb dL_hangs_705 (by decide) (fun hc => ?_) (fun hc => ?_)
                            · have h := iteT hc h
                              refine lv_iconst (v := (0)) hx hb dL_hangs_712 (by decide) ?_
                              obtain rfl := Option.some.inj h
                              exact hJ713_o435 ls H locs w (lv_sub hl [3, 4, 5, 7] rfl) hw hP hD hS
                            · have h := iteF hc h
                              refine lv_iconst (v := (1)) hx hb dL_hangs_708 (by decide) ?_
                              refine lv_goto (tgt := 713) hx hb dL_hangs_709 (by decide) ?_
                              obtain rfl := Option.some.inj h
                              exact hJ713_o435 ls H locs w (lv_sub hl [3, 4, 5, 7] rfl) hw hP hD hS
                          · have h := iteF hc h
                            refine lv_iload hx hb dL_hangs_684 (lv_at hl 0 rfl) ?_
                            refine lv_iconst (v := (3)) hx hb dL_hangs_686 (by decide) ?_
                            refine lv_icmp_ne (tgt := 712) hx hb dL_hangs_687 (by decide) (fun hc => ?_) (fun hc => ?_)
                            · have h := iteF hc h
                              refine lv_iconst (v := (0)) hx hb dL_hangs_712 (by decide) ?_
                              obtain rfl := Option.some.inj h
                              exact hJ713_o435 ls H locs w (lv_sub hl [3, 4, 5, 7] rfl) hw hP hD hS
                            · have h := iteT hc h
                              refine lv_aload_n hx hb dL_hangs_690 rfl (lv_at hl 3 rfl) ?_
                              refine lv_iload hx hb dL_hangs_691 (lv_at hl 2 rfl) ?_
                              refine lv_iload hx hb dL_hangs_693 (lv_at hl 1 rfl) ?_
                              refine lv_iload hx hb dL_hangs_695 (lv_at hl 0 rfl) ?_
                              refine lv_iconst (v := (1)) hx hb dL_hangs_697 (by decide) ?_
                              refine lv_iadd hx hb dL_hangs_698 ?_
                              refine lv_iconst (v := (4)) hx hb dL_hangs_699 (by decide) ?_
                              refine lv_irem hx hb dL_hangs_700 (by decide) ?_
                              obtain ⟨r465, er465, h⟩ := obind h
                              have hsr := OA.ofD (L' := w.map Prod.fst) hD rfl hSz
                              refine call_Q (vx_runSW (As := [.ref x0, .int r401, .int r402, .int ((r403 + (1 : Int32)) - (r403 + (1 : Int32)) / (4 : Int32) * (4 : Int32))]) (rest := []) ⟨hx, hb, hml, hown, hts⟩ (hq_whyNot l hl9 z0 D t x0 μ r401 r402 ((r403 + (1 : Int32)) - (r403 + (1 : Int32)) / (4 : Int32) * (4 : Int32)) r465 er465 w hw H.size) (kH hts qw818 qw819 qw0 qw820 okL_whyNot ⟨Nat.le_of_ble_eq_true rfl, Nat.le_of_ble_eq_true rfl⟩) ⟨PMH.blind, fun U hU hW => ⟨rfl, ⟨by rw [hU]; exact (hC.at hS hZ).warm hW, hN.moved hW.alike⟩, by rw [hU], by rw [hU]; exact hP, ⟨hD.1, fun _ _ h9 => Or.inl (in_map (L := w.map Prod.fst) rfl h9)⟩, fun q hq => hZ q (hsr q hq)⟩⟩ rfl rfl hl.1 rfl (lv_room (Nat.le_of_ble_eq_true rfl)) dL_hangs_701 ⟨Nat.le_of_ble_eq_true rfl, Nat.le_of_ble_eq_true rfl⟩) hS hsr (fun w H locs hw hP hD1 hS _ _ => ?_)
                              have hD : va_D (OA L0 s.heap.size) w := hD1.weaken (fun _ q _ h9 => hsr q.1 h9)
                              have hSz : s.heap.size ≤ H.size := hS.1
                              refine lv_iconst (v := (1)) hx hb dL_hangs_704 (by decide) ?_
                              refine lv_icmp_le (tgt := 712) hx hb dL_hangs_705 (by decide) (fun hc => ?_) (fun hc => ?_)
                              · have h := iteT hc h
                                refine lv_iconst (v := (0)) hx hb dL_hangs_712 (by decide) ?_
                                obtain rfl := Option.some.inj h
                                exact hJ713_o435 ls H locs w (lv_sub hl [3, 4, 5, 7] rfl) hw hP hD hS
                              · have h := iteF hc h
                                refine lv_iconst (v := (1)) hx hb dL_hangs_708 (by decide) ?_
                                refine lv_goto (tgt := 713) hx hb dL_hangs_709 (by decide) ?_
                                obtain rfl := Option.some.inj h
                                exact hJ713_o435 ls H locs w (lv_sub hl [3, 4, 5, 7] rfl) hw hP hD hS
      refine hL565 _ _ _ _ eo400 (fun ls H locs w hl hw hP hD hS => ?_) ls H locs w (lv_sub hl [2, 3, 4, 1, 0] rfl) hw hP hD hS
      have hSz : s.heap.size ≤ H.size := hS.1
      refine lv_iload hx hb dL_hangs_721 (lv_at hl 2 rfl) ?_
      refine lv_if_eq (tgt := 742) hx hb dL_hangs_723 (by decide) (fun hc => ?_) (fun hc => ?_)
      · have h := iteT hc h
        refine lv_iconst (v := (0)) hx hb dL_hangs_742 (by decide) ?_
        obtain rfl := Option.some.inj h
        exact W.zret hx hb hr rfl (fun t ht hW => ⟨w, hw, rfl, by rw [ht]; exact hP, hD, hS.F ht⟩) hS.2.2 dL_hangs_743
      · have h := iteF hc h
        refine lv_iload hx hb dL_hangs_726 (lv_at hl 1 rfl) ?_
        refine lv_if_lt (tgt := 738) hx hb dL_hangs_728 (by decide) (fun hc => ?_) (fun hc => ?_)
        · have h := iteT hc h
          refine lv_iconst (v := (1)) hx hb dL_hangs_738 (by decide) ?_
          refine lv_goto (tgt := 743) hx hb dL_hangs_739 (by decide) ?_
          obtain rfl := Option.some.inj h
          exact W.zret hx hb hr rfl (fun t ht hW => ⟨w, hw, rfl, by rw [ht]; exact hP, hD, hS.F ht⟩) hS.2.2 dL_hangs_743
        · have h := iteF hc h
          refine lv_aload_n hx hb dL_hangs_731 rfl (lv_at hl 0 rfl) ?_
          obtain ⟨r467, er467, h⟩ := obind h
          have hsr := OA.ofD (L' := w.map Prod.fst) hD rfl hSz
          obtain ⟨fs9, h09⟩ := XG_h0 hw
          refine call_Q (va_runV (As := []) (rest := []) ⟨hx, hb, hml, hown, hts⟩ (hd_ways l hl9 z0 D t x0 μ r467 er467 w hw H.size) (kV hts qw232 qw233 qw234 qw1 qw235 ok_X4_ways ⟨Nat.le_of_ble_eq_true rfl, Nat.le_of_ble_eq_true rfl⟩) ⟨PM.blind, va_recv hK hP (ci := 5) (q0 := 0) rfl h09, fun U hU hW => ⟨rfl, by rw [hU]; exact (hC.at hS hZ).warm hW, by rw [hU], by rw [hU]; exact hP, ⟨hD.1, fun _ _ h9 => Or.inl (in_map (L := w.map Prod.fst) rfl h9)⟩, fun q hq => hZ q (hsr q hq)⟩⟩ rfl rfl hl.1 rfl (lv_room (Nat.le_of_ble_eq_true rfl)) dL_hangs_732 ⟨Nat.le_of_ble_eq_true rfl, Nat.le_of_ble_eq_true rfl⟩) hS hsr (fun w H locs hw hP hD1 hS _ _ => ?_)
          have hD : va_D (OA L0 s.heap.size) w := hD1.weaken (fun _ q _ h9 => hsr q.1 h9)
          have hSz : s.heap.size ≤ H.size := hS.1
          refine lv_if_ne (tgt := 742) hx hb dL_hangs_735 (by decide) (fun hc => ?_) (fun hc => ?_)
          · have h := iteF hc h
            refine lv_iconst (v := (0)) hx hb dL_hangs_742 (by decide) ?_
            obtain rfl := Option.some.inj h
            exact W.zret hx hb hr rfl (fun t ht hW => ⟨w, hw, rfl, by rw [ht]; exact hP, hD, hS.F ht⟩) hS.2.2 dL_hangs_743
          · have h := iteT hc h
            refine lv_iconst (v := (1)) hx hb dL_hangs_738 (by decide) ?_
            refine lv_goto (tgt := 743) hx hb dL_hangs_739 (by decide) ?_
            obtain rfl := Option.some.inj h
            exact W.zret hx hb hr rfl (fun t ht hW => ⟨w, hw, rfl, by rw [ht]; exact hP, hD, hS.F ht⟩) hS.2.2 dL_hangs_743
    have h := eo259
    clear eo259
    refine lv_if_eq (tgt := 559) hx hb dL_hangs_464 (by decide) (fun hc => ?_) (fun hc => ?_)
    · have h := iteT hc h
      refine lv_iconst (v := (0)) hx hb dL_hangs_559 (by decide) ?_
      obtain rfl := Option.some.inj h
      exact hJ560_o259 ls H locs w (lv_sub hl [0, 1, 6] rfl) hw hP hD hS
    · have h := iteF hc h
      refine lv_iload hx hb dL_hangs_467 (lv_at hl 2 rfl) ?_
      refine lv_aload_n hx hb dL_hangs_469 rfl (lv_at hl 0 rfl) ?_
      refine lv_bipush (v := (6)) hx hb dL_hangs_470 (by decide) ?_
      obtain ⟨r260, er260, h⟩ := obind h
      have hsr := OA.ofD (L' := w.map Prod.fst) hD rfl hSz
      refine call_Q (vx_runSW (As := [.ref x0, .int (6 : Int32)]) (rest := [.int o172.1]) ⟨hx, hb, hml, hown, hts⟩ (hq_count l hl9 z0 D t x0 μ (6 : Int32) r260 er260 w hw H.size) (kH hts qw800 qw801 qw0 qw802 okL_count ⟨Nat.le_of_ble_eq_true rfl, Nat.le_of_ble_eq_true rfl⟩) ⟨PMH.blind, fun U hU hW => ⟨rfl, ⟨by rw [hU]; exact (hC.at hS hZ).warm hW, hN.moved hW.alike⟩, by rw [hU], by rw [hU]; exact hP, ⟨hD.1, fun _ _ h9 => Or.inl (in_map (L := w.map Prod.fst) rfl h9)⟩, fun q hq => hZ q (hsr q hq)⟩⟩ rfl rfl hl.1 rfl (lv_room (Nat.le_of_ble_eq_true rfl)) dL_hangs_472 ⟨Nat.le_of_ble_eq_true rfl, Nat.le_of_ble_eq_true rfl⟩) hS hsr (fun w H locs hw hP hD1 hS _ _ => ?_)
      have hD : va_D (OA L0 s.heap.size) w := hD1.weaken (fun _ q _ h9 => hsr q.1 h9)
      have hSz : s.heap.size ≤ H.size := hS.1
      refine lv_icmp_ne (tgt := 559) hx hb dL_hangs_475 (by decide) (fun hc => ?_) (fun hc => ?_)
      · have h := iteF hc h
        refine lv_iconst (v := (0)) hx hb dL_hangs_559 (by decide) ?_
        obtain rfl := Option.some.inj h
        exact hJ560_o259 ls H locs w (lv_sub hl [0, 1, 6] rfl) hw hP hD hS
      · have h := iteT hc h
        refine lv_iload hx hb dL_hangs_478 (lv_at hl 3 rfl) ?_
        refine lv_aload_n hx hb dL_hangs_480 rfl (lv_at hl 0 rfl) ?_
        refine lv_iconst (v := (4)) hx hb dL_hangs_481 (by decide) ?_
        obtain ⟨r261, er261, h⟩ := obind h
        have hsr := OA.ofD (L' := w.map Prod.fst) hD rfl hSz
        refine call_Q (vx_runSW (As := [.ref x0, .int (4 : Int32)]) (rest := [.int o172.2.1]) ⟨hx, hb, hml, hown, hts⟩ (hq_count l hl9 z0 D t x0 μ (4 : Int32) r261 er261 w hw H.size) (kH hts qw800 qw801 qw0 qw802 okL_count ⟨Nat.le_of_ble_eq_true rfl, Nat.le_of_ble_eq_true rfl⟩) ⟨PMH.blind, fun U hU hW => ⟨rfl, ⟨by rw [hU]; exact (hC.at hS hZ).warm hW, hN.moved hW.alike⟩, by rw [hU], by rw [hU]; exact hP, ⟨hD.1, fun _ _ h9 => Or.inl (in_map (L := w.map Prod.fst) rfl h9)⟩, fun q hq => hZ q (hsr q hq)⟩⟩ rfl rfl hl.1 rfl (lv_room (Nat.le_of_ble_eq_true rfl)) dL_hangs_482 ⟨Nat.le_of_ble_eq_true rfl, Nat.le_of_ble_eq_true rfl⟩) hS hsr (fun w H locs hw hP hD1 hS _ _ => ?_)
        have hD : va_D (OA L0 s.heap.size) w := hD1.weaken (fun _ q _ h9 => hsr q.1 h9)
        have hSz : s.heap.size ≤ H.size := hS.1
        refine lv_icmp_ne (tgt := 559) hx hb dL_hangs_485 (by decide) (fun hc => ?_) (fun hc => ?_)
        · have h := iteF hc h
          refine lv_iconst (v := (0)) hx hb dL_hangs_559 (by decide) ?_
          obtain rfl := Option.some.inj h
          exact hJ560_o259 ls H locs w (lv_sub hl [0, 1, 6] rfl) hw hP hD hS
        · have h := iteT hc h
          refine lv_iload hx hb dL_hangs_488 (lv_at hl 4 rfl) ?_
          refine lv_iconst (v := (3)) hx hb dL_hangs_490 (by decide) ?_
          refine lv_iload_n hx hb dL_hangs_491 rfl (lv_at hl 1 rfl) ?_
          refine lv_imul hx hb dL_hangs_492 ?_
          refine lv_icmp_ne (tgt := 559) hx hb dL_hangs_493 (by decide) (fun hc => ?_) (fun hc => ?_)
          · have h := iteF hc h
            refine lv_iconst (v := (0)) hx hb dL_hangs_559 (by decide) ?_
            obtain rfl := Option.some.inj h
            exact hJ560_o259 ls H locs w (lv_sub hl [0, 1, 6] rfl) hw hP hD hS
          · have h := iteT hc h
            refine lv_iload hx hb dL_hangs_496 (lv_at hl 5 rfl) ?_
            refine lv_iconst (v := (3)) hx hb dL_hangs_498 (by decide) ?_
            refine lv_aload_n hx hb dL_hangs_499 rfl (lv_at hl 0 rfl) ?_
            refine lv_bipush (v := (7)) hx hb dL_hangs_500 (by decide) ?_
            obtain ⟨r262, er262, h⟩ := obind h
            have hsr := OA.ofD (L' := w.map Prod.fst) hD rfl hSz
            refine call_Q (vx_runSW (As := [.ref x0, .int (7 : Int32)]) (rest := [.int (3 : Int32), .int o172.2.2.2.1]) ⟨hx, hb, hml, hown, hts⟩ (hq_count l hl9 z0 D t x0 μ (7 : Int32) r262 er262 w hw H.size) (kH hts qw800 qw801 qw0 qw802 okL_count ⟨Nat.le_of_ble_eq_true rfl, Nat.le_of_ble_eq_true rfl⟩) ⟨PMH.blind, fun U hU hW => ⟨rfl, ⟨by rw [hU]; exact (hC.at hS hZ).warm hW, hN.moved hW.alike⟩, by rw [hU], by rw [hU]; exact hP, ⟨hD.1, fun _ _ h9 => Or.inl (in_map (L := w.map Prod.fst) rfl h9)⟩, fun q hq => hZ q (hsr q hq)⟩⟩ rfl rfl hl.1 rfl (lv_room (Nat.le_of_ble_eq_true rfl)) dL_hangs_502 ⟨Nat.le_of_ble_eq_true rfl, Nat.le_of_ble_eq_true rfl⟩) hS hsr (fun w H locs hw hP hD1 hS _ _ => ?_)
            have hD : va_D (OA L0 s.heap.size) w := hD1.weaken (fun _ q _ h9 => hsr q.1 h9)
            have hSz : s.heap.size ≤ H.size := hS.1
            refine lv_imul hx hb dL_hangs_505 ?_
            refine lv_icmp_ne (tgt := 559) hx hb dL_hangs_506 (by decide) (fun hc => ?_) (fun hc => ?_)
            · have h := iteF hc h
              refine lv_iconst (v := (0)) hx hb dL_hangs_559 (by decide) ?_
              obtain rfl := Option.some.inj h
              exact hJ560_o259 ls H locs w (lv_sub hl [0, 1, 6] rfl) hw hP hD hS
            · have h := iteT hc h
              refine lv_aload_n hx hb dL_hangs_509 rfl (lv_at hl 0 rfl) ?_
              obtain ⟨r263, er263, h⟩ := obind h
              have hsr := OA.ofD (L' := w.map Prod.fst) hD rfl hSz
              obtain ⟨fs9, h09⟩ := XG_h0 hw
              refine call_Q (va_runV (As := []) (rest := []) ⟨hx, hb, hml, hown, hts⟩ (hd_lonely l hl9 z0 D t x0 μ r263 er263 w hw H.size) (kV hts qw913 qw914 qw915 qw1 qw916 ok_X4_lonely ⟨Nat.le_of_ble_eq_true rfl, Nat.le_of_ble_eq_true rfl⟩) ⟨PM.blind, va_recv hK hP (ci := 5) (q0 := 0) rfl h09, fun U hU hW => ⟨rfl, by rw [hU]; exact (hC.at hS hZ).warm hW, by rw [hU], by rw [hU]; exact hP, ⟨hD.1, fun _ _ h9 => Or.inl (in_map (L := w.map Prod.fst) rfl h9)⟩, fun q hq => hZ q (hsr q hq)⟩⟩ rfl rfl hl.1 rfl (lv_room (Nat.le_of_ble_eq_true rfl)) dL_hangs_510 ⟨Nat.le_of_ble_eq_true rfl, Nat.le_of_ble_eq_true rfl⟩) hS hsr (fun w H locs hw hP hD1 hS _ _ => ?_)
              have hD : va_D (OA L0 s.heap.size) w := hD1.weaken (fun _ q _ h9 => hsr q.1 h9)
              have hSz : s.heap.size ≤ H.size := hS.1
              refine lv_iload hx hb dL_hangs_513 (lv_at hl 6 rfl) ?_
              refine lv_icmp_ne (tgt := 559) hx hb dL_hangs_515 (by decide) (fun hc => ?_) (fun hc => ?_)
              · have h := iteF hc h
                refine lv_iconst (v := (0)) hx hb dL_hangs_559 (by decide) ?_
                obtain rfl := Option.some.inj h
                exact hJ560_o259 ls H locs w (lv_sub hl [0, 1, 6] rfl) hw hP hD hS
              · have h := iteT hc h
                refine lv_aload_n hx hb dL_hangs_518 rfl (lv_at hl 0 rfl) ?_
                refine lv_iconst (v := (0)) hx hb dL_hangs_519 (by decide) ?_
                obtain ⟨r264, er264, h⟩ := obind h
                have hsr := OA.ofD (L' := w.map Prod.fst) hD rfl hSz
                refine call_Q (vx_runSW (As := [.ref x0, .int (0 : Int32)]) (rest := []) ⟨hx, hb, hml, hown, hts⟩ (hq_forced l hl9 z0 D t x0 μ (0 : Int32) r264 er264 w hw H.size) (kH hts qw834 qw835 qw0 qw836 okL_forced ⟨Nat.le_of_ble_eq_true rfl, Nat.le_of_ble_eq_true rfl⟩) ⟨PMH.blind, fun U hU hW => ⟨rfl, ⟨by rw [hU]; exact (hC.at hS hZ).warm hW, hN.moved hW.alike⟩, by rw [hU], by rw [hU]; exact hP, ⟨hD.1, fun _ _ h9 => Or.inl (in_map (L := w.map Prod.fst) rfl h9)⟩, fun q hq => hZ q (hsr q hq)⟩⟩ rfl rfl hl.1 rfl (lv_room (Nat.le_of_ble_eq_true rfl)) dL_hangs_520 ⟨Nat.le_of_ble_eq_true rfl, Nat.le_of_ble_eq_true rfl⟩) hS hsr (fun w H locs hw hP hD1 hS _ _ => ?_)
                have hD : va_D (OA L0 s.heap.size) w := hD1.weaken (fun _ q _ h9 => hsr q.1 h9)
                have hSz : s.heap.size ≤ H.size := hS.1
                refine lv_iload hx hb dL_hangs_523 (lv_at hl 7 rfl) ?_
                refine lv_icmp_ne (tgt := 559) hx hb dL_hangs_525 (by decide) (fun hc => ?_) (fun hc => ?_)
                · have h := iteF hc h
                  refine lv_iconst (v := (0)) hx hb dL_hangs_559 (by decide) ?_
                  obtain rfl := Option.some.inj h
                  exact hJ560_o259 ls H locs w (lv_sub hl [0, 1, 6] rfl) hw hP hD hS
                · have h := iteT hc h
                  refine lv_iload hx hb dL_hangs_528 (lv_at hl 7 rfl) ?_
                  obtain ⟨o265, eo265, h⟩ := obind h
                  have hJ538_o265 : ∀ (ls : Array Slot) (H : Heap) (locs : List Loc) (w : va_W), lv_has ls 19 [(0, .ref x0), (3, .int r3), (8, .int o172.2.2.2.2.1)] → XG t x0 μ w → va_P D vwCl w H → va_D (OA L0 s.heap.size) w → va_S (OA L0 s.heap.size) s.heap H locs → W p l e (headSpec (ws_ yL_hangs cL_hangs 19 (some .boolean)) rm_L_hangs).room s m ([.ref x0] : List Value).toArray below meth c H locs 3 18 (MQ below (QB (fun _ : va_W => some (.int res)) D (fun w9 => w9) (XG t x0 (μ)) L0 s.heap.size) ([.ref x0] : List Value).toArray s 3 18 (OA L0 s.heap.size)) (F0 m 538 ls [.int o265]) := by
                    intro ls H locs w hl hw hP hD hS
                    have hSz : s.heap.size ≤ H.size := hS.1
                    refine lv_aload_n hx hb dL_hangs_538 rfl (lv_at hl 0 rfl) ?_
                    refine lv_iconst (v := (1)) hx hb dL_hangs_539 (by decide) ?_
                    obtain ⟨r266, er266, h⟩ := obind h
                    have hsr := OA.ofD (L' := w.map Prod.fst) hD rfl hSz
                    refine call_Q (vx_runSW (As := [.ref x0, .int (1 : Int32)]) (rest := [.int o265]) ⟨hx, hb, hml, hown, hts⟩ (hq_forced l hl9 z0 D t x0 μ (1 : Int32) r266 er266 w hw H.size) (kH hts qw834 qw835 qw0 qw836 okL_forced ⟨Nat.le_of_ble_eq_true rfl, Nat.le_of_ble_eq_true rfl⟩) ⟨PMH.blind, fun U hU hW => ⟨rfl, ⟨by rw [hU]; exact (hC.at hS hZ).warm hW, hN.moved hW.alike⟩, by rw [hU], by rw [hU]; exact hP, ⟨hD.1, fun _ _ h9 => Or.inl (in_map (L := w.map Prod.fst) rfl h9)⟩, fun q hq => hZ q (hsr q hq)⟩⟩ rfl rfl hl.1 rfl (lv_room (Nat.le_of_ble_eq_true rfl)) dL_hangs_540 ⟨Nat.le_of_ble_eq_true rfl, Nat.le_of_ble_eq_true rfl⟩) hS hsr (fun w H locs hw hP hD1 hS _ _ => ?_)
                    have hD : va_D (OA L0 s.heap.size) w := hD1.weaken (fun _ q _ h9 => hsr q.1 h9)
                    have hSz : s.heap.size ≤ H.size := hS.1
                    refine lv_iconst (v := (-1)) hx hb dL_hangs_543 (by decide) ?_
                    obtain ⟨o267, eo267, h⟩ := obind h
                    have hJ552_o267 : ∀ (ls : Array Slot) (H : Heap) (locs : List Loc) (w : va_W), lv_has ls 19 [(0, .ref x0), (3, .int r3), (8, .int o172.2.2.2.2.1)] → XG t x0 μ w → va_P D vwCl w H → va_D (OA L0 s.heap.size) w → va_S (OA L0 s.heap.size) s.heap H locs → W p l e (headSpec (ws_ yL_hangs cL_hangs 19 (some .boolean)) rm_L_hangs).room s m ([.ref x0] : List Value).toArray below meth c H locs 3 18 (MQ below (QB (fun _ : va_W => some (.int res)) D (fun w9 => w9) (XG t x0 (μ)) L0 s.heap.size) ([.ref x0] : List Value).toArray s 3 18 (OA L0 s.heap.size)) (F0 m 552 ls [.int o267, .int o265]) := by
                      intro ls H locs w hl hw hP hD hS
                      have hSz : s.heap.size ≤ H.size := hS.1
                      refine lv_icmp_ne (tgt := 559) hx hb dL_hangs_552 (by decide) (fun hc => ?_) (fun hc => ?_)
                      · have h := iteF hc h
                        refine lv_iconst (v := (0)) hx hb dL_hangs_559 (by decide) ?_
                        obtain rfl := Option.some.inj h
                        exact hJ560_o259 ls H locs w (lv_sub hl [0, 1, 2] rfl) hw hP hD hS
                      · have h := iteT hc h
                        refine lv_iconst (v := (1)) hx hb dL_hangs_555 (by decide) ?_
                        refine lv_goto (tgt := 560) hx hb dL_hangs_556 (by decide) ?_
                        obtain rfl := Option.some.inj h
                        exact hJ560_o259 ls H locs w (lv_sub hl [0, 1, 2] rfl) hw hP hD hS
                    have h := eo267
                    clear eo267
                    refine lv_icmp_ne (tgt := 551) hx hb dL_hangs_544 (by decide) (fun hc => ?_) (fun hc => ?_)
                    · have h := iteF hc h
                      refine lv_iconst (v := (0)) hx hb dL_hangs_551 (by decide) ?_
                      obtain rfl := Option.some.inj h
                      exact hJ552_o267 ls H locs w (lv_sub hl [0, 1, 2] rfl) hw hP hD hS
                    · have h := iteT hc h
                      refine lv_iconst (v := (1)) hx hb dL_hangs_547 (by decide) ?_
                      refine lv_goto (tgt := 552) hx hb dL_hangs_548 (by decide) ?_
                      obtain rfl := Option.some.inj h
                      exact hJ552_o267 ls H locs w (lv_sub hl [0, 1, 2] rfl) hw hP hD hS
                  have h := eo265
                  clear eo265
                  refine lv_if_ge (tgt := 537) hx hb dL_hangs_530 (by decide) (fun hc => ?_) (fun hc => ?_)
                  · have h := iteT hc h
                    refine lv_iconst (v := (0)) hx hb dL_hangs_537 (by decide) ?_
                    obtain rfl := Option.some.inj h
                    exact hJ538_o265 ls H locs w (lv_sub hl [0, 1, 6] rfl) hw hP hD hS
                  · have h := iteF hc h
                    refine lv_iconst (v := (1)) hx hb dL_hangs_533 (by decide) ?_
                    refine lv_goto (tgt := 538) hx hb dL_hangs_534 (by decide) ?_
                    obtain rfl := Option.some.inj h
                    exact hJ538_o265 ls H locs w (lv_sub hl [0, 1, 6] rfl) hw hP hD hS
  have h := eo10
  clear eo10
  refine lv_icmp_ne (tgt := 93) hx hb dL_hangs_45 (by decide) (fun hc => ?_) (fun hc => ?_)
  · have h := iteF hc h
    refine lv_iconst (v := (0)) hx hb dL_hangs_93 (by decide) ?_
    obtain rfl := Option.some.inj h
    refine W.widen (k := 3) (n := 18) (by omega) (by omega) ?_
    exact hJ94_o10 ls H locs w (lv_sub hl [9, 8, 7, 6, 5, 4, 3, 2, 1, 0] rfl) hw hP hD hS
  · have h := iteT hc h
    refine lv_aload_n hx hb dL_hangs_48 rfl (lv_at hl 9 rfl) ?_
    refine lv_iload_n hx hb dL_hangs_49 rfl (lv_at hl 7 rfl) ?_
    refine lv_iconst (v := (0)) hx hb dL_hangs_50 (by decide) ?_
    obtain ⟨r11, er11, h⟩ := obind h
    have hsr := OA.ofD (L' := w.map Prod.fst) hD rfl hSz
    refine call_Q (vx_runSW (As := [.ref x0, .int r2, .int (0 : Int32)]) (rest := []) ⟨hx, hb, hml, hown, hts⟩ (ht_row l hl9 z0 D t x0 μ r2 (0 : Int32) r11 er11 w hw H.size) (kH hts qw788 qw789 qw0 qw790 okL_row ⟨Nat.le_of_ble_eq_true rfl, Nat.le_of_ble_eq_true rfl⟩) ⟨PMH.blind, fun U hU hW => ⟨rfl, ⟨by rw [hU]; exact (hC.at hS hZ).warm hW, hN.moved hW.alike⟩, by rw [hU], by rw [hU]; exact hP, ⟨hD.1, fun _ _ h9 => Or.inl (in_map (L := w.map Prod.fst) rfl h9)⟩, fun q hq => hZ q (hsr q hq)⟩⟩ rfl rfl hl.1 rfl (lv_room (Nat.le_of_ble_eq_true rfl)) dL_hangs_51 ⟨Nat.le_of_ble_eq_true rfl, Nat.le_of_ble_eq_true rfl⟩) hS hsr (fun w H locs hw hP hD1 hS _ _ => ?_)
    refine W.widen (k := 2) (n := 12) (by omega) (by omega) ?_
    have hD : va_D (OA L0 s.heap.size) w := hD1.weaken (fun _ q _ h9 => hsr q.1 h9)
    have hSz : s.heap.size ≤ H.size := hS.1
    refine lv_ldc (v := (-2000001)) hx hb hown (hts _ qw544) dL_hangs_54 ?_
    refine lv_icmp_ne (tgt := 93) hx hb dL_hangs_56 (by decide) (fun hc => ?_) (fun hc => ?_)
    · have h := iteF hc h
      refine lv_iconst (v := (0)) hx hb dL_hangs_93 (by decide) ?_
      obtain rfl := Option.some.inj h
      refine W.widen (k := 3) (n := 18) (by omega) (by omega) ?_
      exact hJ94_o10 ls H locs w (lv_sub hl [9, 8, 7, 6, 5, 4, 3, 2, 1, 0] rfl) hw hP hD hS
    · have h := iteT hc h
      refine lv_aload_n hx hb dL_hangs_59 rfl (lv_at hl 9 rfl) ?_
      refine lv_iload_n hx hb dL_hangs_60 rfl (lv_at hl 6 rfl) ?_
      refine lv_iconst (v := (0)) hx hb dL_hangs_61 (by decide) ?_
      obtain ⟨r12, er12, h⟩ := obind h
      have hsr := OA.ofD (L' := w.map Prod.fst) hD rfl hSz
      refine call_Q (vx_runSW (As := [.ref x0, .int r3, .int (0 : Int32)]) (rest := []) ⟨hx, hb, hml, hown, hts⟩ (ht_triple l hl9 z0 D t x0 μ r3 (0 : Int32) r12 er12 w hw H.size) (kH hts qw898 qw899 qw0 qw900 okL_triple ⟨Nat.le_of_ble_eq_true rfl, Nat.le_of_ble_eq_true rfl⟩) ⟨PMH.blind, fun U hU hW => ⟨rfl, ⟨by rw [hU]; exact (hC.at hS hZ).warm hW, hN.moved hW.alike⟩, by rw [hU], by rw [hU]; exact hP, ⟨hD.1, fun _ _ h9 => Or.inl (in_map (L := w.map Prod.fst) rfl h9)⟩, fun q hq => hZ q (hsr q hq)⟩⟩ rfl rfl hl.1 rfl (lv_room (Nat.le_of_ble_eq_true rfl)) dL_hangs_62 ⟨Nat.le_of_ble_eq_true rfl, Nat.le_of_ble_eq_true rfl⟩) hS hsr (fun w H locs hw hP hD1 hS _ _ => ?_)
      refine W.widen (k := 3) (n := 18) (by omega) (by omega) ?_
      have hD : va_D (OA L0 s.heap.size) w := hD1.weaken (fun _ q _ h9 => hsr q.1 h9)
      have hSz : s.heap.size ≤ H.size := hS.1
      refine lv_ldc (v := (-2000001)) hx hb hown (hts _ qw544) dL_hangs_65 ?_
      refine lv_icmp_ne (tgt := 93) hx hb dL_hangs_67 (by decide) (fun hc => ?_) (fun hc => ?_)
      · have h := iteF hc h
        refine lv_iconst (v := (0)) hx hb dL_hangs_93 (by decide) ?_
        obtain rfl := Option.some.inj h
        exact hJ94_o10 ls H locs w (lv_sub hl [9, 8, 7, 6, 5, 4, 3, 2, 1, 0] rfl) hw hP hD hS
      · have h := iteT hc h
        refine lv_aload_n hx hb dL_hangs_70 rfl (lv_at hl 9 rfl) ?_
        refine lv_aload_n hx hb dL_hangs_71 rfl (lv_at hl 9 rfl) ?_
        refine lv_iconst (v := (2)) hx hb dL_hangs_72 (by decide) ?_
        obtain ⟨r13, er13, h⟩ := obind h
        have hsr := OA.ofD (L' := w.map Prod.fst) hD rfl hSz
        refine call_Q (vx_runSW (As := [.ref x0, .int (2 : Int32)]) (rest := [.ref x0]) ⟨hx, hb, hml, hown, hts⟩ (hq_count l hl9 z0 D t x0 μ (2 : Int32) r13 er13 w hw H.size) (kH hts qw800 qw801 qw0 qw802 okL_count ⟨Nat.le_of_ble_eq_true rfl, Nat.le_of_ble_eq_true rfl⟩) ⟨PMH.blind, fun U hU hW => ⟨rfl, ⟨by rw [hU]; exact (hC.at hS hZ).warm hW, hN.moved hW.alike⟩, by rw [hU], by rw [hU]; exact hP, ⟨hD.1, fun _ _ h9 => Or.inl (in_map (L := w.map Prod.fst) rfl h9)⟩, fun q hq => hZ q (hsr q hq)⟩⟩ rfl rfl hl.1 rfl (lv_room (Nat.le_of_ble_eq_true rfl)) dL_hangs_73 ⟨Nat.le_of_ble_eq_true rfl, Nat.le_of_ble_eq_true rfl⟩) hS hsr (fun w H locs hw hP hD1 hS _ _ => ?_)
        have hD : va_D (OA L0 s.heap.size) w := hD1.weaken (fun _ q _ h9 => hsr q.1 h9)
        have hSz : s.heap.size ≤ H.size := hS.1
        refine lv_aload_n hx hb dL_hangs_76 rfl (lv_at hl 9 rfl) ?_
        refine lv_iconst (v := (3)) hx hb dL_hangs_77 (by decide) ?_
        obtain ⟨r14, er14, h⟩ := obind h
        have hsr := OA.ofD (L' := w.map Prod.fst) hD rfl hSz
        refine call_Q (vx_runSW (As := [.ref x0, .int (3 : Int32)]) (rest := [.int r13, .ref x0]) ⟨hx, hb, hml, hown, hts⟩ (hq_count l hl9 z0 D t x0 μ (3 : Int32) r14 er14 w hw H.size) (kH hts qw800 qw801 qw0 qw802 okL_count ⟨Nat.le_of_ble_eq_true rfl, Nat.le_of_ble_eq_true rfl⟩) ⟨PMH.blind, fun U hU hW => ⟨rfl, ⟨by rw [hU]; exact (hC.at hS hZ).warm hW, hN.moved hW.alike⟩, by rw [hU], by rw [hU]; exact hP, ⟨hD.1, fun _ _ h9 => Or.inl (in_map (L := w.map Prod.fst) rfl h9)⟩, fun q hq => hZ q (hsr q hq)⟩⟩ rfl rfl hl.1 rfl (lv_room (Nat.le_of_ble_eq_true rfl)) dL_hangs_78 ⟨Nat.le_of_ble_eq_true rfl, Nat.le_of_ble_eq_true rfl⟩) hS hsr (fun w H locs hw hP hD1 hS _ _ => ?_)
        have hD : va_D (OA L0 s.heap.size) w := hD1.weaken (fun _ q _ h9 => hsr q.1 h9)
        have hSz : s.heap.size ≤ H.size := hS.1
        refine lv_iconst (v := (0)) hx hb dL_hangs_81 (by decide) ?_
        obtain ⟨r15, er15, h⟩ := obind h
        have hsr := OA.ofD (L' := w.map Prod.fst) hD rfl hSz
        refine call_Q (vx_runSW (As := [.ref x0, .int r13, .int r14, .int (0 : Int32)]) (rest := []) ⟨hx, hb, hml, hown, hts⟩ (hq_cellOf l hl9 z0 D t x0 μ r13 r14 (0 : Int32) r15 er15 w hw H.size) (kH hts qw757 qw758 qw0 qw759 okL_cellOf ⟨Nat.le_of_ble_eq_true rfl, Nat.le_of_ble_eq_true rfl⟩) ⟨PMH.blind, fun U hU hW => ⟨rfl, ⟨by rw [hU]; exact (hC.at hS hZ).warm hW, hN.moved hW.alike⟩, by rw [hU], by rw [hU]; exact hP, ⟨hD.1, fun _ _ h9 => Or.inl (in_map (L := w.map Prod.fst) rfl h9)⟩, fun q hq => hZ q (hsr q hq)⟩⟩ rfl rfl hl.1 rfl (lv_room (Nat.le_of_ble_eq_true rfl)) dL_hangs_82 ⟨Nat.le_of_ble_eq_true rfl, Nat.le_of_ble_eq_true rfl⟩) hS hsr (fun w H locs hw hP hD1 hS _ _ => ?_)
        have hD : va_D (OA L0 s.heap.size) w := hD1.weaken (fun _ q _ h9 => hsr q.1 h9)
        have hSz : s.heap.size ≤ H.size := hS.1
        refine lv_iconst (v := (1)) hx hb dL_hangs_85 (by decide) ?_
        refine lv_icmp_ne (tgt := 93) hx hb dL_hangs_86 (by decide) (fun hc => ?_) (fun hc => ?_)
        · have h := iteF hc h
          refine lv_iconst (v := (0)) hx hb dL_hangs_93 (by decide) ?_
          obtain rfl := Option.some.inj h
          exact hJ94_o10 ls H locs w (lv_sub hl [9, 8, 7, 6, 5, 4, 3, 2, 1, 0] rfl) hw hP hD hS
        · have h := iteT hc h
          refine lv_iconst (v := (1)) hx hb dL_hangs_89 (by decide) ?_
          refine lv_goto (tgt := 94) hx hb dL_hangs_90 (by decide) ?_
          obtain rfl := Option.some.inj h
          exact hJ94_o10 ls H locs w (lv_sub hl [9, 8, 7, 6, 5, 4, 3, 2, 1, 0] rfl) hw hP hD hS
