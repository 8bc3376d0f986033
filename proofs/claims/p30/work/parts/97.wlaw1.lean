/-! bits, acts -/
abbrev rm_L_bits : Room := { frames := 0, cells := 0, slots := 0, locals := 0 }
theorem ok_L_bits : okY yL_bits 1 := ⟨by decide +kernel, by decide +kernel, by decide +kernel⟩
set_option maxHeartbeats 4000000 in
set_option maxRecDepth 100000 in
theorem c_L_bits (l : Launch) (z0 : Nat) (D : va_G) (t : Nat → ClassId) (a1 : Int32) (res : Int32) (h : f_L_bits a1 = some res) : Met l yL_bits (ws_ yL_bits cL_bits 3 (some .int)) rm_L_bits (PR z0 D t [.int a1] []) (QR (some (.int res))) 0 0 FN := by
  refine Met.ofW (cc := cL_bits) (maxL := 3) (ret := (some .int)) (by decide) rfl ?_
  intro p e s m args below meth c s₁ Bo hml hv
  obtain ⟨rfl, hC, hP⟩ := hv
  have hx := Bo.exec
  have hb := Bo.bytes
  have hr := Bo.returns
  have hts : ∀ w ∈ LA, w.before _ s = true := fun w hw => atoms_spec (ws := ws_ yL_bits cL_bits 3 (some .int)) Bo.pre w (List.mem_cons_of_mem _ hw)
  have hown : s.vm.findClass RL = some m.cls := findClass_of_methodNamed Bo.named
  have hlocks := Bo.notSynchronized
  have hK := hC.1
  have hl := lv_entry ([.int a1]) (n := 3) (Nat.le_of_ble_eq_true rfl)
  rw [lg_entry_eq]
  generalize (lg_sl ([.int a1]) ++ List.replicate (3 - (lg_sl ([.int a1])).length) Slot.unset).toArray = ls at hl ⊢
  have hl : lv_has ls 3 [(0, .int a1)] := hl
  unfold f_L_bits at h
  refine lv_iconst (v := (0)) hx hb dL_bits_0 (by decide) ?_
  refine lv_istore_n (lv' := [(1, .int (0 : Int32)), (0, .int a1)]) hx hb dL_bits_1 rfl hl (by decide) rfl (fun ls hl => ?_)
  refine lv_iconst (v := (0)) hx hb dL_bits_2 (by decide) ?_
  refine lv_istore_n (lv' := [(2, .int (0 : Int32)), (1, .int (0 : Int32)), (0, .int a1)]) hx hb dL_bits_3 rfl hl (by decide) rfl (fun ls hl => ?_)
  obtain ⟨o5, eo5, h⟩ := obind h
  have hL4 : ∀ (n : Nat) (y1_4 : Int32) (y2_4 : Int32) (o5 : Int32), f_L_bits_L4 a1 n y1_4 y2_4 = some o5 → (∀ (ls : Array Slot), lv_has ls 3 [(1, .int o5)] → W p l e (headSpec (ws_ yL_bits cL_bits 3 (some .int)) rm_L_bits).room s m ([.int a1] : List Value).toArray below meth c s.heap [] 0 0 (MQ below (QR (some (.int res))) ([.int a1] : List Value).toArray s 0 0 FN) (F0 m 24 ls [])) → ∀ (ls : Array Slot), lv_has ls 3 [(0, .int a1), (1, .int y1_4), (2, .int y2_4)] → W p l e (headSpec (ws_ yL_bits cL_bits 3 (some .int)) rm_L_bits).room s m ([.int a1] : List Value).toArray below meth c s.heap [] 0 0 (MQ below (QR (some (.int res))) ([.int a1] : List Value).toArray s 0 0 FN) (F0 m 4 ls []) := by
    intro n
    induction n with
    | zero => intro y1_4 y2_4 o5 h; exact absurd h (fun z => by cases z)
    | succ n ih =>
      intro y1_4 y2_4 o5 h hK4 ls hl
      replace h : f_L_bits_L4_b a1 (f_L_bits_L4 a1 n) y1_4 y2_4 = some o5 := h
      unfold f_L_bits_L4_b at h
      refine lv_iload_n hx hb dL_bits_4 rfl (lv_at hl 2 rfl) ?_
      refine lv_bipush (v := (8)) hx hb dL_bits_5 (by decide) ?_
      refine lv_icmp_ge (tgt := 24) hx hb dL_bits_7 (by decide) (fun hc => ?_) (fun hc => ?_)
      · have h := iteT hc h
        obtain rfl := Option.some.inj h
        exact hK4 ls (lv_sub hl [1] rfl)
      · have h := iteF hc h
        refine lv_iload_n hx hb dL_bits_10 rfl (lv_at hl 1 rfl) ?_
        refine lv_iload_n hx hb dL_bits_11 rfl (lv_at hl 0 rfl) ?_
        refine lv_iload_n hx hb dL_bits_12 rfl (lv_at hl 2 rfl) ?_
        refine lv_ishr hx hb dL_bits_13 ?_
        refine lv_iconst (v := (1)) hx hb dL_bits_14 (by decide) ?_
        refine lv_iand hx hb dL_bits_15 ?_
        refine lv_iadd hx hb dL_bits_16 ?_
        obtain ⟨x6, ex6, h⟩ := jlet_some h
        refine topI ex6 ?_
        refine lv_istore_n (lv' := [(1, .int x6), (0, .int a1), (2, .int y2_4)]) hx hb dL_bits_17 rfl hl (by decide) rfl (fun ls hl => ?_)
        obtain ⟨x7, ex7, h⟩ := jlet_some h
        refine lv_iinc (v := x7) (lv' := [(2, .int x7), (1, .int x6), (0, .int a1)]) hx hb dL_bits_18 hl (k := 2) rfl (by rw [ex7]; rfl) (by decide) rfl (fun ls hl => ?_)
        refine lv_goto (tgt := 4) hx hb dL_bits_21 (by decide) ?_
        exact ih _ _ _ h hK4 ls (lv_sub hl [2, 1, 0] rfl)
  refine hL4 _ _ _ _ eo5 (fun ls hl => ?_) ls (lv_sub hl [2, 1, 0] rfl)
  refine lv_iload_n hx hb dL_bits_24 rfl (lv_at hl 0 rfl) ?_
  obtain rfl := Option.some.inj h
  exact W.iret hx hb hr (fun t ht hW => ⟨rfl, ht⟩) (fun q hq => absurd hq List.not_mem_nil) dL_bits_25
abbrev rm_L_acts : Room := { frames := 12, cells := 5, slots := 70, locals := 404 }
theorem ok_L_acts : okY yL_acts 2 := ⟨by decide +kernel, by decide +kernel, by decide +kernel⟩
set_option maxHeartbeats 4000000 in
set_option maxRecDepth 100000 in
theorem c_L_acts (l : Launch) (hl9 : l.stackTraces = false) (z0 : Nat) (D : va_G) (t : Nat → ClassId) (x0 : Nat) (μ : ZT) (a2 : Int32) (res : Int32 × (ZT)) (h : f_L_acts μ a2 = some res) (w : va_W) (hw : XG t x0 μ w) (sz : Nat) : Met l yL_acts (ws_ yL_acts cL_acts 5 (some .int)) rm_L_acts (PMH z0 D t [.ref x0, .int a2] w (w.map Prod.fst) sz) (QB (fun _ : va_W => some (.int res.1)) D (fun w9 => w9) (XG t x0 (res.2)) (w.map Prod.fst) sz) 5 70 (OA (w.map Prod.fst) sz) := by
  refine Met.ofW (cc := cL_acts) (maxL := 5) (ret := (some .int)) (by decide) rfl ?_
  intro p e s m args below meth c s₁ Bo hml hv
  obtain ⟨rfl, ⟨hC, hN⟩, hsz, hP, hD, hZ⟩ := hv
  have hx := Bo.exec
  have hb := Bo.bytes
  have hr := Bo.returns
  have hts : ∀ w ∈ LA, w.before _ s = true := fun w hw => atoms_spec (ws := ws_ yL_acts cL_acts 5 (some .int)) Bo.pre w (List.mem_cons_of_mem _ hw)
  have hown : s.vm.findClass RL = some m.cls := findClass_of_methodNamed Bo.named
  have hlocks := Bo.notSynchronized
  have hK := hC.1
  subst hsz
  have hl := lv_entry ([.ref x0, .int a2]) (n := 5) (Nat.le_of_ble_eq_true rfl)
  rw [lg_entry_eq]
  generalize (lg_sl ([.ref x0, .int a2]) ++ List.replicate (5 - (lg_sl ([.ref x0, .int a2])).length) Slot.unset).toArray = ls at hl ⊢
  have hl : lv_has ls 5 [(0, .ref x0), (1, .int a2)] := hl
  obtain ⟨L0, hL0⟩ : ∃ L0, L0 = w.map Prod.fst := ⟨_, rfl⟩
  rw [← hL0] at hD hZ ⊢
  suffices K9 : ∀ (H : Heap) (locs : List Loc) (w : va_W), XG t x0 μ w → va_P D vwCl w H → va_D (OA L0 s.heap.size) w → va_S (OA L0 s.heap.size) s.heap H locs → W p l e (headSpec (ws_ yL_acts cL_acts 5 (some .int)) rm_L_acts).room s m ([.ref x0, .int a2] : List Value).toArray below meth c H locs 0 0 (MQ below (QB (fun _ : va_W => some (.int res.1)) D (fun w9 => w9) (XG t x0 (res.2)) L0 s.heap.size) ([.ref x0, .int a2] : List Value).toArray s 5 70 (OA L0 s.heap.size)) (F0 m 0 ls []) from K9 s.heap [] w hw hP hD va_S.rf
  clear hP hD hL0 hw w
  intro H locs w hw hP hD hS
  have hSz : s.heap.size ≤ H.size := hS.1
  unfold f_L_acts at h
  refine lv_iload_n hx hb dL_acts_0 rfl (lv_at hl 1 rfl) ?_
  refine lv_bipush (v := (16)) hx hb dL_acts_1 (by decide) ?_
  refine lv_idiv hx hb dL_acts_3 (by decide) ?_
  obtain ⟨x1, ex1, h⟩ := jlet_some h
  refine topI ex1 ?_
  refine lv_istore_n (lv' := [(2, .int x1), (0, .ref x0), (1, .int a2)]) hx hb dL_acts_4 rfl hl (by decide) rfl (fun ls hl => ?_)
  refine lv_iload_n hx hb dL_acts_5 rfl (lv_at hl 0 rfl) ?_
  refine lv_aload_n hx hb dL_acts_6 rfl (lv_at hl 1 rfl) ?_
  refine lv_iconst (v := (0)) hx hb dL_acts_7 (by decide) ?_
  obtain ⟨r2, er2, h⟩ := obind h
  have hsr := OA.ofD (L' := w.map Prod.fst) hD rfl hSz
  refine call_Q (vx_runSW (As := [.ref x0, .int (0 : Int32)]) (rest := [.int x1]) ⟨hx, hb, hml, hown, hts⟩ (hq_count l hl9 z0 D t x0 μ (0 : Int32) r2 er2 w hw H.size) (kH hts qw800 qw801 qw0 qw802 okL_count ⟨Nat.le_of_ble_eq_true rfl, Nat.le_of_ble_eq_true rfl⟩) ⟨PMH.blind, fun U hU hW => ⟨rfl, ⟨by rw [hU]; exact (hC.at hS hZ).warm hW, hN.moved hW.alike⟩, by rw [hU], by rw [hU]; exact hP, ⟨hD.1, fun _ _ h9 => Or.inl (in_map (L := w.map Prod.fst) rfl h9)⟩, fun q hq => hZ q (hsr q hq)⟩⟩ rfl rfl hl.1 rfl (lv_room (Nat.le_of_ble_eq_true rfl)) dL_acts_8 ⟨Nat.le_of_ble_eq_true rfl, Nat.le_of_ble_eq_true rfl⟩) hS hsr (fun w H locs hw hP hD1 hS _ _ => ?_)
  have hD : va_D (OA L0 s.heap.size) w := hD1.weaken (fun _ q _ h9 => hsr q.1 h9)
  have hSz : s.heap.size ≤ H.size := hS.1
  have h3 : ¬ r2 = 0 := fun z => absurd (iteT z h) (fun z => by cases z)
  have h := iteF h3 h
  refine lv_irem hx hb dL_acts_11 h3 ?_
  obtain ⟨x4, ex4, h⟩ := jlet_some h
  refine topI ex4 ?_
  refine lv_istore_n (lv' := [(3, .int x4), (2, .int x1), (0, .ref x0), (1, .int a2)]) hx hb dL_acts_12 rfl hl (by decide) rfl (fun ls hl => ?_)
  refine lv_iload_n hx hb dL_acts_13 rfl (lv_at hl 1 rfl) ?_
  refine lv_bipush (v := (8)) hx hb dL_acts_14 (by decide) ?_
  refine lv_idiv hx hb dL_acts_16 (by decide) ?_
  refine lv_aload_n hx hb dL_acts_17 rfl (lv_at hl 2 rfl) ?_
  refine lv_iconst (v := (1)) hx hb dL_acts_18 (by decide) ?_
  obtain ⟨r5, er5, h⟩ := obind h
  have hsr := OA.ofD (L' := w.map Prod.fst) hD rfl hSz
  refine call_Q (vx_runSW (As := [.ref x0, .int (1 : Int32)]) (rest := [.int (x1 / (8 : Int32))]) ⟨hx, hb, hml, hown, hts⟩ (hq_count l hl9 z0 D t x0 μ (1 : Int32) r5 er5 w hw H.size) (kH hts qw800 qw801 qw0 qw802 okL_count ⟨Nat.le_of_ble_eq_true rfl, Nat.le_of_ble_eq_true rfl⟩) ⟨PMH.blind, fun U hU hW => ⟨rfl, ⟨by rw [hU]; exact (hC.at hS hZ).warm hW, hN.moved hW.alike⟩, by rw [hU], by rw [hU]; exact hP, ⟨hD.1, fun _ _ h9 => Or.inl (in_map (L := w.map Prod.fst) rfl h9)⟩, fun q hq => hZ q (hsr q hq)⟩⟩ rfl rfl hl.1 rfl (lv_room (Nat.le_of_ble_eq_true rfl)) dL_acts_19 ⟨Nat.le_of_ble_eq_true rfl, Nat.le_of_ble_eq_true rfl⟩) hS hsr (fun w H locs hw hP hD1 hS _ _ => ?_)
  have hD : va_D (OA L0 s.heap.size) w := hD1.weaken (fun _ q _ h9 => hsr q.1 h9)
  have hSz : s.heap.size ≤ H.size := hS.1
  have h6 : ¬ r5 = 0 := fun z => absurd (iteT z h) (fun z => by cases z)
  have h := iteF h6 h
  refine lv_irem hx hb dL_acts_22 h6 ?_
  obtain ⟨x7, ex7, h⟩ := jlet_some h
  refine topI ex7 ?_
  refine lv_istore (lv' := [(4, .int x7), (3, .int x4), (2, .int x1), (0, .ref x0), (1, .int a2)]) hx hb dL_acts_23 hl (by decide) rfl (fun ls hl => ?_)
  refine lv_iload_n hx hb dL_acts_25 rfl (lv_at hl 4 rfl) ?_
  refine lv_bipush (v := (16)) hx hb dL_acts_26 (by decide) ?_
  refine lv_irem hx hb dL_acts_28 (by decide) ?_
  by_cases hc0 : (a2 - a2 / (16 : Int32) * (16 : Int32)) = (0 : Int32)
  · have h := iteT hc0 h
    refine lv_tableIn (tgt := 104) hx hb dL_acts_29 (by rw [hc0]; decide) (by rw [hc0]; decide) (by rw [hc0]; rfl) (by decide) ?_
    refine lv_aload_n hx hb dL_acts_104 rfl (lv_at hl 3 rfl) ?_
    refine lv_iconst (v := (2)) hx hb dL_acts_105 (by decide) ?_
    refine lv_iload_n hx hb dL_acts_106 rfl (lv_at hl 2 rfl) ?_
    refine lv_iconst (v := (4)) hx hb dL_acts_107 (by decide) ?_
    refine lv_irem hx hb dL_acts_108 (by decide) ?_
    refine lv_iadd hx hb dL_acts_109 ?_
    refine lv_iconst (v := (2)) hx hb dL_acts_110 (by decide) ?_
    refine lv_iload_n hx hb dL_acts_111 rfl (lv_at hl 2 rfl) ?_
    refine lv_bipush (v := (8)) hx hb dL_acts_112 (by decide) ?_
    refine lv_idiv hx hb dL_acts_114 (by decide) ?_
    refine lv_iconst (v := (4)) hx hb dL_acts_115 (by decide) ?_
    refine lv_irem hx hb dL_acts_116 (by decide) ?_
    refine lv_iadd hx hb dL_acts_117 ?_
    obtain ⟨r8, er8, h⟩ := obind h
    have hsr := OA.ofD (L' := w.map Prod.fst) hD rfl hSz
    refine call_Q (vx_runSW (As := [.ref x0, .int ((2 : Int32) + (x1 - x1 / (4 : Int32) * (4 : Int32))), .int ((2 : Int32) + ((x1 / (8 : Int32)) - (x1 / (8 : Int32)) / (4 : Int32) * (4 : Int32)))]) (rest := []) ⟨hx, hb, hml, hown, hts⟩ (hm_garden l hl9 z0 D t x0 μ ((2 : Int32) + (x1 - x1 / (4 : Int32) * (4 : Int32))) ((2 : Int32) + ((x1 / (8 : Int32)) - (x1 / (8 : Int32)) / (4 : Int32) * (4 : Int32))) r8 er8 w hw H.size) (kH hts qw378 qw379 qw0 qw380 okL_garden ⟨Nat.le_of_ble_eq_true rfl, Nat.le_of_ble_eq_true rfl⟩) ⟨PMH.blind, fun U hU hW => ⟨rfl, ⟨by rw [hU]; exact (hC.at hS hZ).warm hW, hN.moved hW.alike⟩, by rw [hU], by rw [hU]; exact hP, ⟨hD.1, fun _ _ h9 => Or.inl (in_map (L := w.map Prod.fst) rfl h9)⟩, fun q hq => hZ q (hsr q hq)⟩⟩ rfl rfl hl.1 rfl (lv_room (Nat.le_of_ble_eq_true rfl)) dL_acts_118 ⟨Nat.le_of_ble_eq_true rfl, Nat.le_of_ble_eq_true rfl⟩) hS hsr (fun w H locs hw hP hD1 hS _ _ => ?_)
    refine W.widen (k := 5) (n := 70) (by omega) (by omega) ?_
    have hD : va_D (OA L0 s.heap.size) w := hD1.weaken (fun _ q _ h9 => hsr q.1 h9)
    have hSz : s.heap.size ≤ H.size := hS.1
    obtain rfl := Option.some.inj h
    exact W.iret hx hb hr (fun t ht hW => ⟨w, hw, rfl, by rw [ht]; exact hP, hD, hS.F ht⟩) hS.2.2 dL_acts_121
  · have h := iteF hc0 h
    by_cases hc1 : (a2 - a2 / (16 : Int32) * (16 : Int32)) = (1 : Int32)
    · have h := iteT hc1 h
      refine lv_tableIn (tgt := 122) hx hb dL_acts_29 (by rw [hc1]; decide) (by rw [hc1]; decide) (by rw [hc1]; rfl) (by decide) ?_
      refine lv_aload_n hx hb dL_acts_122 rfl (lv_at hl 3 rfl) ?_
      refine lv_iload_n hx hb dL_acts_123 rfl (lv_at hl 1 rfl) ?_
      refine lv_iload hx hb dL_acts_124 (lv_at hl 0 rfl) ?_
      obtain ⟨r9, er9, h⟩ := obind h
      have hsr := OA.ofD (L' := w.map Prod.fst) hD rfl hSz
      refine call_Q (vx_runSW (As := [.ref x0, .int x4, .int x7]) (rest := []) ⟨hx, hb, hml, hown, hts⟩ (hm_pond l hl9 z0 D t x0 μ x4 x7 r9 er9 w hw H.size) (kH hts qw545 qw546 qw0 qw547 okL_pond ⟨Nat.le_of_ble_eq_true rfl, Nat.le_of_ble_eq_true rfl⟩) ⟨PMH.blind, fun U hU hW => ⟨rfl, ⟨by rw [hU]; exact (hC.at hS hZ).warm hW, hN.moved hW.alike⟩, by rw [hU], by rw [hU]; exact hP, ⟨hD.1, fun _ _ h9 => Or.inl (in_map (L := w.map Prod.fst) rfl h9)⟩, fun q hq => hZ q (hsr q hq)⟩⟩ rfl rfl hl.1 rfl (lv_room (Nat.le_of_ble_eq_true rfl)) dL_acts_126 ⟨Nat.le_of_ble_eq_true rfl, Nat.le_of_ble_eq_true rfl⟩) hS hsr (fun w H locs hw hP hD1 hS _ _ => ?_)
      refine W.widen (k := 5) (n := 70) (by omega) (by omega) ?_
      have hD : va_D (OA L0 s.heap.size) w := hD1.weaken (fun _ q _ h9 => hsr q.1 h9)
      have hSz : s.heap.size ≤ H.size := hS.1
      obtain rfl := Option.some.inj h
      exact W.iret hx hb hr (fun t ht hW => ⟨w, hw, rfl, by rw [ht]; exact hP, hD, hS.F ht⟩) hS.2.2 dL_acts_129
    · have h := iteF hc1 h
      by_cases hc2 : (a2 - a2 / (16 : Int32) * (16 : Int32)) = (2 : Int32)
      · have h := iteT hc2 h
        refine lv_tableIn (tgt := 122) hx hb dL_acts_29 (by rw [hc2]; decide) (by rw [hc2]; decide) (by rw [hc2]; rfl) (by decide) ?_
        refine lv_aload_n hx hb dL_acts_122 rfl (lv_at hl 3 rfl) ?_
        refine lv_iload_n hx hb dL_acts_123 rfl (lv_at hl 1 rfl) ?_
        refine lv_iload hx hb dL_acts_124 (lv_at hl 0 rfl) ?_
        obtain ⟨r10, er10, h⟩ := obind h
        have hsr := OA.ofD (L' := w.map Prod.fst) hD rfl hSz
        refine call_Q (vx_runSW (As := [.ref x0, .int x4, .int x7]) (rest := []) ⟨hx, hb, hml, hown, hts⟩ (hm_pond l hl9 z0 D t x0 μ x4 x7 r10 er10 w hw H.size) (kH hts qw545 qw546 qw0 qw547 okL_pond ⟨Nat.le_of_ble_eq_true rfl, Nat.le_of_ble_eq_true rfl⟩) ⟨PMH.blind, fun U hU hW => ⟨rfl, ⟨by rw [hU]; exact (hC.at hS hZ).warm hW, hN.moved hW.alike⟩, by rw [hU], by rw [hU]; exact hP, ⟨hD.1, fun _ _ h9 => Or.inl (in_map (L := w.map Prod.fst) rfl h9)⟩, fun q hq => hZ q (hsr q hq)⟩⟩ rfl rfl hl.1 rfl (lv_room (Nat.le_of_ble_eq_true rfl)) dL_acts_126 ⟨Nat.le_of_ble_eq_true rfl, Nat.le_of_ble_eq_true rfl⟩) hS hsr (fun w H locs hw hP hD1 hS _ _ => ?_)
        refine W.widen (k := 5) (n := 70) (by omega) (by omega) ?_
        have hD : va_D (OA L0 s.heap.size) w := hD1.weaken (fun _ q _ h9 => hsr q.1 h9)
        have hSz : s.heap.size ≤ H.size := hS.1
        obtain rfl := Option.some.inj h
        exact W.iret hx hb hr (fun t ht hW => ⟨w, hw, rfl, by rw [ht]; exact hP, hD, hS.F ht⟩) hS.2.2 dL_acts_129
      · have h := iteF hc2 h
        by_cases hc3 : (a2 - a2 / (16 : Int32) * (16 : Int32)) = (3 : Int32)
        · have h := iteT hc3 h
          refine lv_tableIn (tgt := 130) hx hb dL_acts_29 (by rw [hc3]; decide) (by rw [hc3]; decide) (by rw [hc3]; rfl) (by decide) ?_
          refine lv_aload_n hx hb dL_acts_130 rfl (lv_at hl 3 rfl) ?_
          refine lv_iload_n hx hb dL_acts_131 rfl (lv_at hl 1 rfl) ?_
          refine lv_iload hx hb dL_acts_132 (lv_at hl 0 rfl) ?_
          obtain ⟨r11, er11, h⟩ := obind h
          have hsr := OA.ofD (L' := w.map Prod.fst) hD rfl hSz
          refine call_Q (vx_runSW (As := [.ref x0, .int x4, .int x7]) (rest := []) ⟨hx, hb, hml, hown, hts⟩ (hm_wall l hl9 z0 D t x0 μ x4 x7 r11 er11 w hw H.size) (kH hts qw596 qw597 qw0 qw598 okL_wall ⟨Nat.le_of_ble_eq_true rfl, Nat.le_of_ble_eq_true rfl⟩) ⟨PMH.blind, fun U hU hW => ⟨rfl, ⟨by rw [hU]; exact (hC.at hS hZ).warm hW, hN.moved hW.alike⟩, by rw [hU], by rw [hU]; exact hP, ⟨hD.1, fun _ _ h9 => Or.inl (in_map (L := w.map Prod.fst) rfl h9)⟩, fun q hq => hZ q (hsr q hq)⟩⟩ rfl rfl hl.1 rfl (lv_room (Nat.le_of_ble_eq_true rfl)) dL_acts_134 ⟨Nat.le_of_ble_eq_true rfl, Nat.le_of_ble_eq_true rfl⟩) hS hsr (fun w H locs hw hP hD1 hS _ _ => ?_)
          refine W.widen (k := 5) (n := 70) (by omega) (by omega) ?_
          have hD : va_D (OA L0 s.heap.size) w := hD1.weaken (fun _ q _ h9 => hsr q.1 h9)
          have hSz : s.heap.size ≤ H.size := hS.1
          obtain rfl := Option.some.inj h
          exact W.iret hx hb hr (fun t ht hW => ⟨w, hw, rfl, by rw [ht]; exact hP, hD, hS.F ht⟩) hS.2.2 dL_acts_137
        · have h := iteF hc3 h
          by_cases hc4 : (a2 - a2 / (16 : Int32) * (16 : Int32)) = (4 : Int32)
          · have h := iteT hc4 h
            refine lv_tableIn (tgt := 138) hx hb dL_acts_29 (by rw [hc4]; decide) (by rw [hc4]; decide) (by rw [hc4]; rfl) (by decide) ?_
            refine lv_aload_n hx hb dL_acts_138 rfl (lv_at hl 3 rfl) ?_
            refine lv_iload_n hx hb dL_acts_139 rfl (lv_at hl 1 rfl) ?_
            refine lv_iload hx hb dL_acts_140 (lv_at hl 0 rfl) ?_
            refine lv_iload_n hx hb dL_acts_142 rfl (lv_at hl 2 rfl) ?_
            refine lv_bipush (v := (64)) hx hb dL_acts_143 (by decide) ?_
            refine lv_idiv hx hb dL_acts_145 (by decide) ?_
            refine lv_iconst (v := (4)) hx hb dL_acts_146 (by decide) ?_
            refine lv_irem hx hb dL_acts_147 (by decide) ?_
            obtain ⟨r12, er12, h⟩ := obind h
            have hsr := OA.ofD (L' := w.map Prod.fst) hD rfl hSz
            refine call_Q (vx_runSW (As := [.ref x0, .int x4, .int x7, .int ((x1 / (64 : Int32)) - (x1 / (64 : Int32)) / (4 : Int32) * (4 : Int32))]) (rest := []) ⟨hx, hb, hml, hown, hts⟩ (hm_lay l hl9 z0 D t x0 μ x4 x7 ((x1 / (64 : Int32)) - (x1 / (64 : Int32)) / (4 : Int32) * (4 : Int32)) r12 er12 w hw H.size) (kH hts qw605 qw606 qw0 qw607 okL_lay ⟨Nat.le_of_ble_eq_true rfl, Nat.le_of_ble_eq_true rfl⟩) ⟨PMH.blind, fun U hU hW => ⟨rfl, ⟨by rw [hU]; exact (hC.at hS hZ).warm hW, hN.moved hW.alike⟩, by rw [hU], by rw [hU]; exact hP, ⟨hD.1, fun _ _ h9 => Or.inl (in_map (L := w.map Prod.fst) rfl h9)⟩, fun q hq => hZ q (hsr q hq)⟩⟩ rfl rfl hl.1 rfl (lv_room (Nat.le_of_ble_eq_true rfl)) dL_acts_148 ⟨Nat.le_of_ble_eq_true rfl, Nat.le_of_ble_eq_true rfl⟩) hS hsr (fun w H locs hw hP hD1 hS _ _ => ?_)
            refine W.widen (k := 5) (n := 70) (by omega) (by omega) ?_
            have hD : va_D (OA L0 s.heap.size) w := hD1.weaken (fun _ q _ h9 => hsr q.1 h9)
            have hSz : s.heap.size ≤ H.size := hS.1
            obtain rfl := Option.some.inj h
            exact W.iret hx hb hr (fun t ht hW => ⟨w, hw, rfl, by rw [ht]; exact hP, hD, hS.F ht⟩) hS.2.2 dL_acts_151
          · have h := iteF hc4 h
            by_cases hc5 : (a2 - a2 / (16 : Int32) * (16 : Int32)) = (5 : Int32)
            · have h := iteT hc5 h
              refine lv_tableIn (tgt := 138) hx hb dL_acts_29 (by rw [hc5]; decide) (by rw [hc5]; decide) (by rw [hc5]; rfl) (by decide) ?_
              refine lv_aload_n hx hb dL_acts_138 rfl (lv_at hl 3 rfl) ?_
              refine lv_iload_n hx hb dL_acts_139 rfl (lv_at hl 1 rfl) ?_
              refine lv_iload hx hb dL_acts_140 (lv_at hl 0 rfl) ?_
              refine lv_iload_n hx hb dL_acts_142 rfl (lv_at hl 2 rfl) ?_
              refine lv_bipush (v := (64)) hx hb dL_acts_143 (by decide) ?_
              refine lv_idiv hx hb dL_acts_145 (by decide) ?_
              refine lv_iconst (v := (4)) hx hb dL_acts_146 (by decide) ?_
              refine lv_irem hx hb dL_acts_147 (by decide) ?_
              obtain ⟨r13, er13, h⟩ := obind h
              have hsr := OA.ofD (L' := w.map Prod.fst) hD rfl hSz
              refine call_Q (vx_runSW (As := [.ref x0, .int x4, .int x7, .int ((x1 / (64 : Int32)) - (x1 / (64 : Int32)) / (4 : Int32) * (4 : Int32))]) (rest := []) ⟨hx, hb, hml, hown, hts⟩ (hm_lay l hl9 z0 D t x0 μ x4 x7 ((x1 / (64 : Int32)) - (x1 / (64 : Int32)) / (4 : Int32) * (4 : Int32)) r13 er13 w hw H.size) (kH hts qw605 qw606 qw0 qw607 okL_lay ⟨Nat.le_of_ble_eq_true rfl, Nat.le_of_ble_eq_true rfl⟩) ⟨PMH.blind, fun U hU hW => ⟨rfl, ⟨by rw [hU]; exact (hC.at hS hZ).warm hW, hN.moved hW.alike⟩, by rw [hU], by rw [hU]; exact hP, ⟨hD.1, fun _ _ h9 => Or.inl (in_map (L := w.map Prod.fst) rfl h9)⟩, fun q hq => hZ q (hsr q hq)⟩⟩ rfl rfl hl.1 rfl (lv_room (Nat.le_of_ble_eq_true rfl)) dL_acts_148 ⟨Nat.le_of_ble_eq_true rfl, Nat.le_of_ble_eq_true rfl⟩) hS hsr (fun w H locs hw hP hD1 hS _ _ => ?_)
              refine W.widen (k := 5) (n := 70) (by omega) (by omega) ?_
              have hD : va_D (OA L0 s.heap.size) w := hD1.weaken (fun _ q _ h9 => hsr q.1 h9)
              have hSz : s.heap.size ≤ H.size := hS.1
              obtain rfl := Option.some.inj h
              exact W.iret hx hb hr (fun t ht hW => ⟨w, hw, rfl, by rw [ht]; exact hP, hD, hS.F ht⟩) hS.2.2 dL_acts_151
            · have h := iteF hc5 h
              by_cases hc6 : (a2 - a2 / (16 : Int32) * (16 : Int32)) = (6 : Int32)
              · have h := iteT hc6 h
                refine lv_tableIn (tgt := 138) hx hb dL_acts_29 (by rw [hc6]; decide) (by rw [hc6]; decide) (by rw [hc6]; rfl) (by decide) ?_
                refine lv_aload_n hx hb dL_acts_138 rfl (lv_at hl 3 rfl) ?_
                refine lv_iload_n hx hb dL_acts_139 rfl (lv_at hl 1 rfl) ?_
                refine lv_iload hx hb dL_acts_140 (lv_at hl 0 rfl) ?_
                refine lv_iload_n hx hb dL_acts_142 rfl (lv_at hl 2 rfl) ?_
                refine lv_bipush (v := (64)) hx hb dL_acts_143 (by decide) ?_
                refine lv_idiv hx hb dL_acts_145 (by decide) ?_
                refine lv_iconst (v := (4)) hx hb dL_acts_146 (by decide) ?_
                refine lv_irem hx hb dL_acts_147 (by decide) ?_
                obtain ⟨r14, er14, h⟩ := obind h
                have hsr := OA.ofD (L' := w.map Prod.fst) hD rfl hSz
                refine call_Q (vx_runSW (As := [.ref x0, .int x4, .int x7, .int ((x1 / (64 : Int32)) - (x1 / (64 : Int32)) / (4 : Int32) * (4 : Int32))]) (rest := []) ⟨hx, hb, hml, hown, hts⟩ (hm_lay l hl9 z0 D t x0 μ x4 x7 ((x1 / (64 : Int32)) - (x1 / (64 : Int32)) / (4 : Int32) * (4 : Int32)) r14 er14 w hw H.size) (kH hts qw605 qw606 qw0 qw607 okL_lay ⟨Nat.le_of_ble_eq_true rfl, Nat.le_of_ble_eq_true rfl⟩) ⟨PMH.blind, fun U hU hW => ⟨rfl, ⟨by rw [hU]; exact (hC.at hS hZ).warm hW, hN.moved hW.alike⟩, by rw [hU], by rw [hU]; exact hP, ⟨hD.1, fun _ _ h9 => Or.inl (in_map (L := w.map Prod.fst) rfl h9)⟩, fun q hq => hZ q (hsr q hq)⟩⟩ rfl rfl hl.1 rfl (lv_room (Nat.le_of_ble_eq_true rfl)) dL_acts_148 ⟨Nat.le_of_ble_eq_true rfl, Nat.le_of_ble_eq_true rfl⟩) hS hsr (fun w H locs hw hP hD1 hS _ _ => ?_)
                refine W.widen (k := 5) (n := 70) (by omega) (by omega) ?_
                have hD : va_D (OA L0 s.heap.size) w := hD1.weaken (fun _ q _ h9 => hsr q.1 h9)
                have hSz : s.heap.size ≤ H.size := hS.1
                obtain rfl := Option.some.inj h
                exact W.iret hx hb hr (fun t ht hW => ⟨w, hw, rfl, by rw [ht]; exact hP, hD, hS.F ht⟩) hS.2.2 dL_acts_151
              · have h := iteF hc6 h
                by_cases hc7 : (a2 - a2 / (16 : Int32) * (16 : Int32)) = (7 : Int32)
                · have h := iteT hc7 h
                  refine lv_tableIn (tgt := 138) hx hb dL_acts_29 (by rw [hc7]; decide) (by rw [hc7]; decide) (by rw [hc7]; rfl) (by decide) ?_
                  refine lv_aload_n hx hb dL_acts_138 rfl (lv_at hl 3 rfl) ?_
                  refine lv_iload_n hx hb dL_acts_139 rfl (lv_at hl 1 rfl) ?_
                  refine lv_iload hx hb dL_acts_140 (lv_at hl 0 rfl) ?_
                  refine lv_iload_n hx hb dL_acts_142 rfl (lv_at hl 2 rfl) ?_
                  refine lv_bipush (v := (64)) hx hb dL_acts_143 (by decide) ?_
                  refine lv_idiv hx hb dL_acts_145 (by decide) ?_
                  refine lv_iconst (v := (4)) hx hb dL_acts_146 (by decide) ?_
                  refine lv_irem hx hb dL_acts_147 (by decide) ?_
                  obtain ⟨r15, er15, h⟩ := obind h
                  have hsr := OA.ofD (L' := w.map Prod.fst) hD rfl hSz
                  refine call_Q (vx_runSW (As := [.ref x0, .int x4, .int x7, .int ((x1 / (64 : Int32)) - (x1 / (64 : Int32)) / (4 : Int32) * (4 : Int32))]) (rest := []) ⟨hx, hb, hml, hown, hts⟩ (hm_lay l hl9 z0 D t x0 μ x4 x7 ((x1 / (64 : Int32)) - (x1 / (64 : Int32)) / (4 : Int32) * (4 : Int32)) r15 er15 w hw H.size) (kH hts qw605 qw606 qw0 qw607 okL_lay ⟨Nat.le_of_ble_eq_true rfl, Nat.le_of_ble_eq_true rfl⟩) ⟨PMH.blind, fun U hU hW => ⟨rfl, ⟨by rw [hU]; exact (hC.at hS hZ).warm hW, hN.moved hW.alike⟩, by rw [hU], by rw [hU]; exact hP, ⟨hD.1, fun _ _ h9 => Or.inl (in_map (L := w.map Prod.fst) rfl h9)⟩, fun q hq => hZ q (hsr q hq)⟩⟩ rfl rfl hl.1 rfl (lv_room (Nat.le_of_ble_eq_true rfl)) dL_acts_148 ⟨Nat.le_of_ble_eq_true rfl, Nat.le_of_ble_eq_true rfl⟩) hS hsr (fun w H locs hw hP hD1 hS _ _ => ?_)
                  refine W.widen (k := 5) (n := 70) (by omega) (by omega) ?_
                  have hD : va_D (OA L0 s.heap.size) w := hD1.weaken (fun _ q _ h9 => hsr q.1 h9)
                  have hSz : s.heap.size ≤ H.size := hS.1
                  obtain rfl := Option.some.inj h
                  exact W.iret hx hb hr (fun t ht hW => ⟨w, hw, rfl, by rw [ht]; exact hP, hD, hS.F ht⟩) hS.2.2 dL_acts_151
                · have h := iteF hc7 h
                  by_cases hc8 : (a2 - a2 / (16 : Int32) * (16 : Int32)) = (8 : Int32)
                  · have h := iteT hc8 h
                    refine lv_tableIn (tgt := 138) hx hb dL_acts_29 (by rw [hc8]; decide) (by rw [hc8]; decide) (by rw [hc8]; rfl) (by decide) ?_
                    refine lv_aload_n hx hb dL_acts_138 rfl (lv_at hl 3 rfl) ?_
                    refine lv_iload_n hx hb dL_acts_139 rfl (lv_at hl 1 rfl) ?_
                    refine lv_iload hx hb dL_acts_140 (lv_at hl 0 rfl) ?_
                    refine lv_iload_n hx hb dL_acts_142 rfl (lv_at hl 2 rfl) ?_
                    refine lv_bipush (v := (64)) hx hb dL_acts_143 (by decide) ?_
                    refine lv_idiv hx hb dL_acts_145 (by decide) ?_
                    refine lv_iconst (v := (4)) hx hb dL_acts_146 (by decide) ?_
                    refine lv_irem hx hb dL_acts_147 (by decide) ?_
                    obtain ⟨r16, er16, h⟩ := obind h
                    have hsr := OA.ofD (L' := w.map Prod.fst) hD rfl hSz
                    refine call_Q (vx_runSW (As := [.ref x0, .int x4, .int x7, .int ((x1 / (64 : Int32)) - (x1 / (64 : Int32)) / (4 : Int32) * (4 : Int32))]) (rest := []) ⟨hx, hb, hml, hown, hts⟩ (hm_lay l hl9 z0 D t x0 μ x4 x7 ((x1 / (64 : Int32)) - (x1 / (64 : Int32)) / (4 : Int32) * (4 : Int32)) r16 er16 w hw H.size) (kH hts qw605 qw606 qw0 qw607 okL_lay ⟨Nat.le_of_ble_eq_true rfl, Nat.le_of_ble_eq_true rfl⟩) ⟨PMH.blind, fun U hU hW => ⟨rfl, ⟨by rw [hU]; exact (hC.at hS hZ).warm hW, hN.moved hW.alike⟩, by rw [hU], by rw [hU]; exact hP, ⟨hD.1, fun _ _ h9 => Or.inl (in_map (L := w.map Prod.fst) rfl h9)⟩, fun q hq => hZ q (hsr q hq)⟩⟩ rfl rfl hl.1 rfl (lv_room (Nat.le_of_ble_eq_true rfl)) dL_acts_148 ⟨Nat.le_of_ble_eq_true rfl, Nat.le_of_ble_eq_true rfl⟩) hS hsr (fun w H locs hw hP hD1 hS _ _ => ?_)
                    refine W.widen (k := 5) (n := 70) (by omega) (by omega) ?_
                    have hD : va_D (OA L0 s.heap.size) w := hD1.weaken (fun _ q _ h9 => hsr q.1 h9)
                    have hSz : s.heap.size ≤ H.size := hS.1
                    obtain rfl := Option.some.inj h
                    exact W.iret hx hb hr (fun t ht hW => ⟨w, hw, rfl, by rw [ht]; exact hP, hD, hS.F ht⟩) hS.2.2 dL_acts_151
                  · have h := iteF hc8 h
                    by_cases hc9 : (a2 - a2 / (16 : Int32) * (16 : Int32)) = (9 : Int32)
                    · have h := iteT hc9 h
                      refine lv_tableIn (tgt := 152) hx hb dL_acts_29 (by rw [hc9]; decide) (by rw [hc9]; decide) (by rw [hc9]; rfl) (by decide) ?_
                      refine lv_aload_n hx hb dL_acts_152 rfl (lv_at hl 3 rfl) ?_
                      refine lv_iload_n hx hb dL_acts_153 rfl (lv_at hl 1 rfl) ?_
                      refine lv_iload hx hb dL_acts_154 (lv_at hl 0 rfl) ?_
                      obtain ⟨r17, er17, h⟩ := obind h
                      have hsr := OA.ofD (L' := w.map Prod.fst) hD rfl hSz
                      refine call_Q (vx_runSW (As := [.ref x0, .int x4, .int x7]) (rest := []) ⟨hx, hb, hml, hown, hts⟩ (hm_lift l hl9 z0 D t x0 μ x4 x7 r17 er17 w hw H.size) (kH hts qw629 qw630 qw0 qw631 okL_lift ⟨Nat.le_of_ble_eq_true rfl, Nat.le_of_ble_eq_true rfl⟩) ⟨PMH.blind, fun U hU hW => ⟨rfl, ⟨by rw [hU]; exact (hC.at hS hZ).warm hW, hN.moved hW.alike⟩, by rw [hU], by rw [hU]; exact hP, ⟨hD.1, fun _ _ h9 => Or.inl (in_map (L := w.map Prod.fst) rfl h9)⟩, fun q hq => hZ q (hsr q hq)⟩⟩ rfl rfl hl.1 rfl (lv_room (Nat.le_of_ble_eq_true rfl)) dL_acts_156 ⟨Nat.le_of_ble_eq_true rfl, Nat.le_of_ble_eq_true rfl⟩) hS hsr (fun w H locs hw hP hD1 hS _ _ => ?_)
                      refine W.widen (k := 5) (n := 70) (by omega) (by omega) ?_
                      have hD : va_D (OA L0 s.heap.size) w := hD1.weaken (fun _ q _ h9 => hsr q.1 h9)
                      have hSz : s.heap.size ≤ H.size := hS.1
                      obtain rfl := Option.some.inj h
                      exact W.iret hx hb hr (fun t ht hW => ⟨w, hw, rfl, by rw [ht]; exact hP, hD, hS.F ht⟩) hS.2.2 dL_acts_159
                    · have h := iteF hc9 h
                      by_cases hc10 : (a2 - a2 / (16 : Int32) * (16 : Int32)) = (10 : Int32)
                      · have h := iteT hc10 h
                        refine lv_tableIn (tgt := 160) hx hb dL_acts_29 (by rw [hc10]; decide) (by rw [hc10]; decide) (by rw [hc10]; rfl) (by decide) ?_
                        refine lv_aload_n hx hb dL_acts_160 rfl (lv_at hl 3 rfl) ?_
                        refine lv_iload_n hx hb dL_acts_161 rfl (lv_at hl 1 rfl) ?_
                        refine lv_iload hx hb dL_acts_162 (lv_at hl 0 rfl) ?_
                        refine lv_iload_n hx hb dL_acts_164 rfl (lv_at hl 2 rfl) ?_
                        refine lv_bipush (v := (64)) hx hb dL_acts_165 (by decide) ?_
                        refine lv_idiv hx hb dL_acts_167 (by decide) ?_
                        refine lv_iconst (v := (2)) hx hb dL_acts_168 (by decide) ?_
                        refine lv_irem hx hb dL_acts_169 (by decide) ?_
                        obtain ⟨o18, eo18, h⟩ := obind h
                        have hJ178_o18 : ∀ (ls : Array Slot) (H : Heap) (locs : List Loc) (w : va_W), lv_has ls 5 [] → XG t x0 μ w → va_P D vwCl w H → va_D (OA L0 s.heap.size) w → va_S (OA L0 s.heap.size) s.heap H locs → W p l e (headSpec (ws_ yL_acts cL_acts 5 (some .int)) rm_L_acts).room s m ([.ref x0, .int a2] : List Value).toArray below meth c H locs 0 0 (MQ below (QB (fun _ : va_W => some (.int res.1)) D (fun w9 => w9) (XG t x0 (res.2)) L0 s.heap.size) ([.ref x0, .int a2] : List Value).toArray s 5 70 (OA L0 s.heap.size)) (F0 m 178 ls [.int o18, .int x7, .int x4, .ref x0]) := by
                          intro ls H locs w hl hw hP hD hS
                          have hSz : s.heap.size ≤ H.size := hS.1
                          obtain ⟨r19, er19, h⟩ := obind h
                          have hsr := OA.ofD (L' := w.map Prod.fst) hD rfl hSz
                          refine call_Q (vx_runSW (As := [.ref x0, .int x4, .int x7, .int o18]) (rest := []) ⟨hx, hb, hml, hown, hts⟩ (hm_flip l hl9 z0 D t x0 μ x4 x7 o18 r19 er19 w hw H.size) (kH hts qw662 qw663 qw0 qw664 okL_flip ⟨Nat.le_of_ble_eq_true rfl, Nat.le_of_ble_eq_true rfl⟩) ⟨PMH.blind, fun U hU hW => ⟨rfl, ⟨by rw [hU]; exact (hC.at hS hZ).warm hW, hN.moved hW.alike⟩, by rw [hU], by rw [hU]; exact hP, ⟨hD.1, fun _ _ h9 => Or.inl (in_map (L := w.map Prod.fst) rfl h9)⟩, fun q hq => hZ q (hsr q hq)⟩⟩ rfl rfl hl.1 rfl (lv_room (Nat.le_of_ble_eq_true rfl)) dL_acts_178 ⟨Nat.le_of_ble_eq_true rfl, Nat.le_of_ble_eq_true rfl⟩) hS hsr (fun w H locs hw hP hD1 hS _ _ => ?_)
                          refine W.widen (k := 5) (n := 70) (by omega) (by omega) ?_
                          have hD : va_D (OA L0 s.heap.size) w := hD1.weaken (fun _ q _ h9 => hsr q.1 h9)
                          have hSz : s.heap.size ≤ H.size := hS.1
                          obtain rfl := Option.some.inj h
                          exact W.iret hx hb hr (fun t ht hW => ⟨w, hw, rfl, by rw [ht]; exact hP, hD, hS.F ht⟩) hS.2.2 dL_acts_181
                        have h := eo18
                        clear eo18
                        refine lv_if_ne (tgt := 177) hx hb dL_acts_170 (by decide) (fun hc => ?_) (fun hc => ?_)
                        · have h := iteF hc h
                          refine lv_iconst (v := (0)) hx hb dL_acts_177 (by decide) ?_
                          obtain rfl := Option.some.inj h
                          exact hJ178_o18 ls H locs w (lv_sub hl [] rfl) hw hP hD hS
                        · have h := iteT hc h
                          refine lv_iconst (v := (1)) hx hb dL_acts_173 (by decide) ?_
                          refine lv_goto (tgt := 178) hx hb dL_acts_174 (by decide) ?_
                          obtain rfl := Option.some.inj h
                          exact hJ178_o18 ls H locs w (lv_sub hl [] rfl) hw hP hD hS
                      · have h := iteF hc10 h
                        by_cases hc11 : (a2 - a2 / (16 : Int32) * (16 : Int32)) = (11 : Int32)
                        · have h := iteT hc11 h
                          refine lv_tableIn (tgt := 160) hx hb dL_acts_29 (by rw [hc11]; decide) (by rw [hc11]; decide) (by rw [hc11]; rfl) (by decide) ?_
                          refine lv_aload_n hx hb dL_acts_160 rfl (lv_at hl 3 rfl) ?_
                          refine lv_iload_n hx hb dL_acts_161 rfl (lv_at hl 1 rfl) ?_
                          refine lv_iload hx hb dL_acts_162 (lv_at hl 0 rfl) ?_
                          refine lv_iload_n hx hb dL_acts_164 rfl (lv_at hl 2 rfl) ?_
                          refine lv_bipush (v := (64)) hx hb dL_acts_165 (by decide) ?_
                          refine lv_idiv hx hb dL_acts_167 (by decide) ?_
                          refine lv_iconst (v := (2)) hx hb dL_acts_168 (by decide) ?_
                          refine lv_irem hx hb dL_acts_169 (by decide) ?_
                          obtain ⟨o20, eo20, h⟩ := obind h
                          have hJ178_o20 : ∀ (ls : Array Slot) (H : Heap) (locs : List Loc) (w : va_W), lv_has ls 5 [] → XG t x0 μ w → va_P D vwCl w H → va_D (OA L0 s.heap.size) w → va_S (OA L0 s.heap.size) s.heap H locs → W p l e (headSpec (ws_ yL_acts cL_acts 5 (some .int)) rm_L_acts).room s m ([.ref x0, .int a2] : List Value).toArray below meth c H locs 0 0 (MQ below (QB (fun _ : va_W => some (.int res.1)) D (fun w9 => w9) (XG t x0 (res.2)) L0 s.heap.size) ([.ref x0, .int a2] : List Value).toArray s 5 70 (OA L0 s.heap.size)) (F0 m 178 ls [.int o20, .int x7, .int x4, .ref x0]) := by
                            intro ls H locs w hl hw hP hD hS
                            have hSz : s.heap.size ≤ H.size := hS.1
                            obtain ⟨r21, er21, h⟩ := obind h
                            have hsr := OA.ofD (L' := w.map Prod.fst) hD rfl hSz
                            refine call_Q (vx_runSW (As := [.ref x0, .int x4, .int x7, .int o20]) (rest := []) ⟨hx, hb, hml, hown, hts⟩ (hm_flip l hl9 z0 D t x0 μ x4 x7 o20 r21 er21 w hw H.size) (kH hts qw662 qw663 qw0 qw664 okL_flip ⟨Nat.le_of_ble_eq_true rfl, Nat.le_of_ble_eq_true rfl⟩) ⟨PMH.blind, fun U hU hW => ⟨rfl, ⟨by rw [hU]; exact (hC.at hS hZ).warm hW, hN.moved hW.alike⟩, by rw [hU], by rw [hU]; exact hP, ⟨hD.1, fun _ _ h9 => Or.inl (in_map (L := w.map Prod.fst) rfl h9)⟩, fun q hq => hZ q (hsr q hq)⟩⟩ rfl rfl hl.1 rfl (lv_room (Nat.le_of_ble_eq_true rfl)) dL_acts_178 ⟨Nat.le_of_ble_eq_true rfl, Nat.le_of_ble_eq_true rfl⟩) hS hsr (fun w H locs hw hP hD1 hS _ _ => ?_)
                            refine W.widen (k := 5) (n := 70) (by omega) (by omega) ?_
                            have hD : va_D (OA L0 s.heap.size) w := hD1.weaken (fun _ q _ h9 => hsr q.1 h9)
                            have hSz : s.heap.size ≤ H.size := hS.1
                            obtain rfl := Option.some.inj h
                            exact W.iret hx hb hr (fun t ht hW => ⟨w, hw, rfl, by rw [ht]; exact hP, hD, hS.F ht⟩) hS.2.2 dL_acts_181
                          have h := eo20
                          clear eo20
                          refine lv_if_ne (tgt := 177) hx hb dL_acts_170 (by decide) (fun hc => ?_) (fun hc => ?_)
                          · have h := iteF hc h
                            refine lv_iconst (v := (0)) hx hb dL_acts_177 (by decide) ?_
                            obtain rfl := Option.some.inj h
                            exact hJ178_o20 ls H locs w (lv_sub hl [] rfl) hw hP hD hS
                          · have h := iteT hc h
                            refine lv_iconst (v := (1)) hx hb dL_acts_173 (by decide) ?_
                            refine lv_goto (tgt := 178) hx hb dL_acts_174 (by decide) ?_
                            obtain rfl := Option.some.inj h
                            exact hJ178_o20 ls H locs w (lv_sub hl [] rfl) hw hP hD hS
                        · have h := iteF hc11 h
                          by_cases hc12 : (a2 - a2 / (16 : Int32) * (16 : Int32)) = (12 : Int32)
                          · have h := iteT hc12 h
                            refine lv_tableIn (tgt := 182) hx hb dL_acts_29 (by rw [hc12]; decide) (by rw [hc12]; decide) (by rw [hc12]; rfl) (by decide) ?_
                            refine lv_aload_n hx hb dL_acts_182 rfl (lv_at hl 3 rfl) ?_
                            obtain ⟨r22, er22, h⟩ := obind h
                            have hsr := OA.ofD (L' := w.map Prod.fst) hD rfl hSz
                            refine call_Q (vx_runSW (As := [.ref x0]) (rest := []) ⟨hx, hb, hml, hown, hts⟩ (hm_fill l hl9 z0 D t x0 μ r22 er22 w hw H.size) (kH hts qw855 qw856 qw0 qw857 okL_fill ⟨Nat.le_of_ble_eq_true rfl, Nat.le_of_ble_eq_true rfl⟩) ⟨PMH.blind, fun U hU hW => ⟨rfl, ⟨by rw [hU]; exact (hC.at hS hZ).warm hW, hN.moved hW.alike⟩, by rw [hU], by rw [hU]; exact hP, ⟨hD.1, fun _ _ h9 => Or.inl (in_map (L := w.map Prod.fst) rfl h9)⟩, fun q hq => hZ q (hsr q hq)⟩⟩ rfl rfl hl.1 rfl (lv_room (Nat.le_of_ble_eq_true rfl)) dL_acts_183 ⟨Nat.le_of_ble_eq_true rfl, Nat.le_of_ble_eq_true rfl⟩) hS hsr (fun w H locs hw hP hD1 hS _ _ => ?_)
                            refine W.widen (k := 5) (n := 70) (by omega) (by omega) ?_
                            have hD : va_D (OA L0 s.heap.size) w := hD1.weaken (fun _ q _ h9 => hsr q.1 h9)
                            have hSz : s.heap.size ≤ H.size := hS.1
                            obtain rfl := Option.some.inj h
                            exact W.iret hx hb hr (fun t ht hW => ⟨w, hw, rfl, by rw [ht]; exact hP, hD, hS.F ht⟩) hS.2.2 dL_acts_186
                          · have h := iteF hc12 h
                            by_cases hc13 : (a2 - a2 / (16 : Int32) * (16 : Int32)) = (13 : Int32)
                            · have h := iteT hc13 h
                              refine lv_tableIn (tgt := 182) hx hb dL_acts_29 (by rw [hc13]; decide) (by rw [hc13]; decide) (by rw [hc13]; rfl) (by decide) ?_
                              refine lv_aload_n hx hb dL_acts_182 rfl (lv_at hl 3 rfl) ?_
                              obtain ⟨r23, er23, h⟩ := obind h
                              have hsr := OA.ofD (L' := w.map Prod.fst) hD rfl hSz
                              refine call_Q (vx_runSW (As := [.ref x0]) (rest := []) ⟨hx, hb, hml, hown, hts⟩ (hm_fill l hl9 z0 D t x0 μ r23 er23 w hw H.size) (kH hts qw855 qw856 qw0 qw857 okL_fill ⟨Nat.le_of_ble_eq_true rfl, Nat.le_of_ble_eq_true rfl⟩) ⟨PMH.blind, fun U hU hW => ⟨rfl, ⟨by rw [hU]; exact (hC.at hS hZ).warm hW, hN.moved hW.alike⟩, by rw [hU], by rw [hU]; exact hP, ⟨hD.1, fun _ _ h9 => Or.inl (in_map (L := w.map Prod.fst) rfl h9)⟩, fun q hq => hZ q (hsr q hq)⟩⟩ rfl rfl hl.1 rfl (lv_room (Nat.le_of_ble_eq_true rfl)) dL_acts_183 ⟨Nat.le_of_ble_eq_true rfl, Nat.le_of_ble_eq_true rfl⟩) hS hsr (fun w H locs hw hP hD1 hS _ _ => ?_)
                              refine W.widen (k := 5) (n := 70) (by omega) (by omega) ?_
                              have hD : va_D (OA L0 s.heap.size) w := hD1.weaken (fun _ q _ h9 => hsr q.1 h9)
                              have hSz : s.heap.size ≤ H.size := hS.1
                              obtain rfl := Option.some.inj h
                              exact W.iret hx hb hr (fun t ht hW => ⟨w, hw, rfl, by rw [ht]; exact hP, hD, hS.F ht⟩) hS.2.2 dL_acts_186
                            · have h := iteF hc13 h
                              by_cases hc14 : (a2 - a2 / (16 : Int32) * (16 : Int32)) = (14 : Int32)
                              · have h := iteT hc14 h
                                refine lv_tableIn (tgt := 187) hx hb dL_acts_29 (by rw [hc14]; decide) (by rw [hc14]; decide) (by rw [hc14]; rfl) (by decide) ?_
                                refine lv_aload_n hx hb dL_acts_187 rfl (lv_at hl 3 rfl) ?_
                                obtain ⟨r24, er24, h⟩ := obind h
                                have hsr := OA.ofD (L' := w.map Prod.fst) hD rfl hSz
                                refine call_Q (vx_runSW (As := [.ref x0]) (rest := []) ⟨hx, hb, hml, hown, hts⟩ (hm_halve l hl9 z0 D t x0 μ r24 er24 w hw H.size) (kH hts qw873 qw874 qw0 qw875 okL_halve ⟨Nat.le_of_ble_eq_true rfl, Nat.le_of_ble_eq_true rfl⟩) ⟨PMH.blind, fun U hU hW => ⟨rfl, ⟨by rw [hU]; exact (hC.at hS hZ).warm hW, hN.moved hW.alike⟩, by rw [hU], by rw [hU]; exact hP, ⟨hD.1, fun _ _ h9 => Or.inl (in_map (L := w.map Prod.fst) rfl h9)⟩, fun q hq => hZ q (hsr q hq)⟩⟩ rfl rfl hl.1 rfl (lv_room (Nat.le_of_ble_eq_true rfl)) dL_acts_188 ⟨Nat.le_of_ble_eq_true rfl, Nat.le_of_ble_eq_true rfl⟩) hS hsr (fun w H locs hw hP hD1 hS _ _ => ?_)
                                refine W.widen (k := 5) (n := 70) (by omega) (by omega) ?_
                                have hD : va_D (OA L0 s.heap.size) w := hD1.weaken (fun _ q _ h9 => hsr q.1 h9)
                                have hSz : s.heap.size ≤ H.size := hS.1
                                obtain rfl := Option.some.inj h
                                exact W.iret hx hb hr (fun t ht hW => ⟨w, hw, rfl, by rw [ht]; exact hP, hD, hS.F ht⟩) hS.2.2 dL_acts_191
                              · have h := iteF hc14 h
                                refine lv_tableOut (tgt := 192) hx hb dL_acts_29 (sw_out2 (n := 15) (by decide) (by decide) (by decide) (fun k9 hk9 => by rcases (show k9 = 0 ∨ k9 = 1 ∨ k9 = 2 ∨ k9 = 3 ∨ k9 = 4 ∨ k9 = 5 ∨ k9 = 6 ∨ k9 = 7 ∨ k9 = 8 ∨ k9 = 9 ∨ k9 = 10 ∨ k9 = 11 ∨ k9 = 12 ∨ k9 = 13 ∨ k9 = 14 by omega) with rfl | rfl | rfl | rfl | rfl | rfl | rfl | rfl | rfl | rfl | rfl | rfl | rfl | rfl | rfl <;> assumption)) (by decide) ?_
                                refine lv_iload_n hx hb dL_acts_192 rfl (lv_at hl 2 rfl) ?_
                                refine lv_iconst (v := (2)) hx hb dL_acts_193 (by decide) ?_
                                refine lv_irem hx hb dL_acts_194 (by decide) ?_
                                refine lv_if_ne (tgt := 210) hx hb dL_acts_195 (by decide) (fun hc => ?_) (fun hc => ?_)
                                · have h := iteF hc h
                                  refine lv_aload_n hx hb dL_acts_210 rfl (lv_at hl 3 rfl) ?_
                                  refine lv_iload_n hx hb dL_acts_211 rfl (lv_at hl 2 rfl) ?_
                                  refine lv_iconst (v := (2)) hx hb dL_acts_212 (by decide) ?_
                                  refine lv_idiv hx hb dL_acts_213 (by decide) ?_
                                  refine lv_iconst (v := (2)) hx hb dL_acts_214 (by decide) ?_
                                  refine lv_irem hx hb dL_acts_215 (by decide) ?_
                                  obtain ⟨r25, er25, h⟩ := obind h
                                  have hsr := OA.ofD (L' := w.map Prod.fst) hD rfl hSz
                                  refine call_Q (vx_runSW (As := [.ref x0, .int ((x1 / (2 : Int32)) - (x1 / (2 : Int32)) / (2 : Int32) * (2 : Int32))]) (rest := []) ⟨hx, hb, hml, hown, hts⟩ (hm_keep l hl9 z0 D t x0 μ ((x1 / (2 : Int32)) - (x1 / (2 : Int32)) / (2 : Int32) * (2 : Int32)) r25 er25 w hw H.size) (kH hts qw721 qw722 qw0 qw723 okL_keep ⟨Nat.le_of_ble_eq_true rfl, Nat.le_of_ble_eq_true rfl⟩) ⟨PMH.blind, fun U hU hW => ⟨rfl, ⟨by rw [hU]; exact (hC.at hS hZ).warm hW, hN.moved hW.alike⟩, by rw [hU], by rw [hU]; exact hP, ⟨hD.1, fun _ _ h9 => Or.inl (in_map (L := w.map Prod.fst) rfl h9)⟩, fun q hq => hZ q (hsr q hq)⟩⟩ rfl rfl hl.1 rfl (lv_room (Nat.le_of_ble_eq_true rfl)) dL_acts_216 ⟨Nat.le_of_ble_eq_true rfl, Nat.le_of_ble_eq_true rfl⟩) hS hsr (fun w H locs hw hP hD1 hS _ _ => ?_)
                                  refine W.widen (k := 5) (n := 70) (by omega) (by omega) ?_
                                  have hD : va_D (OA L0 s.heap.size) w := hD1.weaken (fun _ q _ h9 => hsr q.1 h9)
                                  have hSz : s.heap.size ≤ H.size := hS.1
                                  obtain rfl := Option.some.inj h
                                  exact W.iret hx hb hr (fun t ht hW => ⟨w, hw, rfl, by rw [ht]; exact hP, hD, hS.F ht⟩) hS.2.2 dL_acts_219
                                · have h := iteT hc h
                                  refine lv_aload_n hx hb dL_acts_198 rfl (lv_at hl 3 rfl) ?_
                                  refine lv_iload_n hx hb dL_acts_199 rfl (lv_at hl 2 rfl) ?_
                                  refine lv_iconst (v := (2)) hx hb dL_acts_200 (by decide) ?_
                                  refine lv_idiv hx hb dL_acts_201 (by decide) ?_
                                  refine lv_iconst (v := (2)) hx hb dL_acts_202 (by decide) ?_
                                  refine lv_irem hx hb dL_acts_203 (by decide) ?_
                                  obtain ⟨r26, er26, h⟩ := obind h
                                  have hsr := OA.ofD (L' := w.map Prod.fst) hD rfl hSz
                                  refine call_Q (vx_runSW (As := [.ref x0, .int ((x1 / (2 : Int32)) - (x1 / (2 : Int32)) / (2 : Int32) * (2 : Int32))]) (rest := []) ⟨hx, hb, hml, hown, hts⟩ (hm_goBack l hl9 z0 D t x0 μ ((x1 / (2 : Int32)) - (x1 / (2 : Int32)) / (2 : Int32) * (2 : Int32)) r26 er26 w hw H.size) (kH hts qw733 qw734 qw0 qw735 okL_goBack ⟨Nat.le_of_ble_eq_true rfl, Nat.le_of_ble_eq_true rfl⟩) ⟨PMH.blind, fun U hU hW => ⟨rfl, ⟨by rw [hU]; exact (hC.at hS hZ).warm hW, hN.moved hW.alike⟩, by rw [hU], by rw [hU]; exact hP, ⟨hD.1, fun _ _ h9 => Or.inl (in_map (L := w.map Prod.fst) rfl h9)⟩, fun q hq => hZ q (hsr q hq)⟩⟩ rfl rfl hl.1 rfl (lv_room (Nat.le_of_ble_eq_true rfl)) dL_acts_204 ⟨Nat.le_of_ble_eq_true rfl, Nat.le_of_ble_eq_true rfl⟩) hS hsr (fun w H locs hw hP hD1 hS _ _ => ?_)
                                  refine W.widen (k := 5) (n := 70) (by omega) (by omega) ?_
                                  have hD : va_D (OA L0 s.heap.size) w := hD1.weaken (fun _ q _ h9 => hsr q.1 h9)
                                  have hSz : s.heap.size ≤ H.size := hS.1
                                  refine lv_goto (tgt := 219) hx hb dL_acts_207 (by decide) ?_
                                  obtain rfl := Option.some.inj h
                                  exact W.iret hx hb hr (fun t ht hW => ⟨w, hw, rfl, by rw [ht]; exact hP, hD, hS.F ht⟩) hS.2.2 dL_acts_219
