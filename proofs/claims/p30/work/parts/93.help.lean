/-! ===== p30: the law s helpers that catch ===== -/
abbrev rh_garden : Room := { frames := 11, cells := 5, slots := 70, locals := 362 }
theorem okL_garden : okY yL_garden 3 := ⟨by decide +kernel, by decide +kernel, by decide +kernel⟩
set_option maxHeartbeats 4000000 in
theorem gr_garden (l : Launch) (z0 : Nat) (D : va_G) (t : Nat → ClassId) (x0 : Nat) {w : va_W} {R' : va_W → Prop} {v : Int32} (a1 : Int32) (a2 : Int32) (h0 : ∃ fs, w[0]? = some (x0, .inr (5, fs))) (hu : ∀ sz, UM l yX4_garden cX4_garden 3 (some .int) rm_X4_garden (some (.int v)) z0 D t (.ref x0 :: [.int a1, .int a2]) w sz R' 3 40) (sz : Nat) : Met l yL_garden (wh_ yL_garden cL_garden 4 (some .int) [(0, 6, 7, 15)]) rh_garden (PMH z0 D t [.ref x0, .int a1, .int a2] w (w.map Prod.fst) sz) (QB (fun _ : va_W => some (.int v)) D (fun w9 => w9) R' (w.map Prod.fst) sz) 5 70 (OA (w.map Prod.fst) sz) := by
  refine met_ofWH (cc := cL_garden) (maxL := 4) (ret := (some .int)) (hh := [(0, 6, 7, 15)]) (by decide) rfl ?_
  intro p e s m args below meth c s₁ Bo hml hxt hv
  obtain ⟨rfl, ⟨hC, hN⟩, hsz, hP, hD, hZ⟩ := hv
  have hx := Bo.exec
  have hb := Bo.bytes
  have hr := Bo.returns
  have hts : ∀ w ∈ LA, w.before _ s = true := fun w hw => atoms_spec (ws := (wh_ yL_garden cL_garden 4 (some .int) [(0, 6, 7, 15)])) Bo.pre w (List.mem_cons_of_mem _ hw)
  have hown : s.vm.findClass RL = some m.cls := findClass_of_methodNamed Bo.named
  have hlocks := Bo.notSynchronized
  have hK := hC.1
  subst hsz
  obtain ⟨fs, h0⟩ := h0
  have hsub : ∀ q, OA (w.map Prod.fst) s.heap.size q → OA (w.map Prod.fst) s.heap.size q := fun _ h => h
  have hS : va_S (OA (w.map Prod.fst) s.heap.size) s.heap s.heap [] := va_S.rf
  have hl := lv_entry ([.ref x0, .int a1, .int a2]) (n := 4) (Nat.le_of_ble_eq_true rfl)
  rw [lg_entry_eq]
  generalize (lg_sl ([.ref x0, .int a1, .int a2]) ++ List.replicate (4 - (lg_sl ([.ref x0, .int a1, .int a2])).length) Slot.unset).toArray = ls at hl ⊢
  have hl : lv_has ls 4 [(0, .ref x0), (1, .int a1), (2, .int a2)] := hl
  refine lv_aload_n hx hb dL_garden_0 rfl (lv_at hl 0 rfl) ?_
  refine lv_iload_n hx hb dL_garden_1 rfl (lv_at hl 1 rfl) ?_
  refine lv_iload_n hx hb dL_garden_2 rfl (lv_at hl 2 rfl) ?_
  refine call_Q (va_runV (As := [.int a1, .int a2]) (rest := []) ⟨hx, hb, hml, hown, hts⟩ (hu s.heap.size) (kV hts qw382 qw383 qw384 qw1 qw385 ok_X4_garden ⟨Nat.le_of_ble_eq_true rfl, Nat.le_of_ble_eq_true rfl⟩) ⟨PM.blind, va_recv hK hP (ci := 5) (q0 := 0) rfl h0, fun U hU hW => ⟨rfl, by rw [hU]; exact hC.warm hW, by rw [hU], by rw [hU]; exact hP, hD, hZ⟩⟩ rfl rfl hl.1 rfl (lv_room (Nat.le_of_ble_eq_true rfl)) dL_garden_3 ⟨Nat.le_of_ble_eq_true rfl, Nat.le_of_ble_eq_true rfl⟩) hS hsub (fun w1 H1 locs1 hR1 hP1 hD1 hS hsz1 hk1 => ?_)
  refine W.widen (k := 5) (n := 70) (by decide) (by decide) ?_
  exact W.iret hx hb hr (fun t9 ht hW => ⟨w1, hR1, rfl, by rw [ht]; exact hP1, hD1, hS.F ht⟩) hS.2.2 dL_garden_6
set_option maxHeartbeats 4000000 in
theorem gx1_garden (l : Launch) (z0 : Nat) (D : va_G) (t : Nat → ClassId) (x0 : Nat) {w : va_W} {R' : va_W → Prop} (a1 : Int32) (a2 : Int32) (h0 : ∃ fs, w[0]? = some (x0, .inr (5, fs))) (hu : ∀ sz, UX l yX4_garden cX4_garden 3 (some .int) rx_X4_garden IAE z0 D t (.ref x0 :: [.int a1, .int a2]) w sz R' 4 46) (sz : Nat) : Met l yL_garden (wh_ yL_garden cL_garden 4 (some .int) [(0, 6, 7, 15)]) rh_garden (PMH z0 D t [.ref x0, .int a1, .int a2] w (w.map Prod.fst) sz) (QB (fun _ : va_W => some (.int (-2000001))) D (fun w9 => w9) R' (w.map Prod.fst) sz) 5 70 (OA (w.map Prod.fst) sz) := by
  refine met_ofWH (cc := cL_garden) (maxL := 4) (ret := (some .int)) (hh := [(0, 6, 7, 15)]) (by decide) rfl ?_
  intro p e s m args below meth c s₁ Bo hml hxt hv
  obtain ⟨rfl, ⟨hC, hN⟩, hsz, hP, hD, hZ⟩ := hv
  have hx := Bo.exec
  have hb := Bo.bytes
  have hr := Bo.returns
  have hts : ∀ w ∈ LA, w.before _ s = true := fun w hw => atoms_spec (ws := (wh_ yL_garden cL_garden 4 (some .int) [(0, 6, 7, 15)])) Bo.pre w (List.mem_cons_of_mem _ hw)
  have hown : s.vm.findClass RL = some m.cls := findClass_of_methodNamed Bo.named
  have hlocks := Bo.notSynchronized
  have hK := hC.1
  subst hsz
  obtain ⟨fs, h0⟩ := h0
  have hsub : ∀ q, OA (w.map Prod.fst) s.heap.size q → OA (w.map Prod.fst) s.heap.size q := fun _ h => h
  have hS : va_S (OA (w.map Prod.fst) s.heap.size) s.heap s.heap [] := va_S.rf
  have hl := lv_entry ([.ref x0, .int a1, .int a2]) (n := 4) (Nat.le_of_ble_eq_true rfl)
  rw [lg_entry_eq]
  generalize (lg_sl ([.ref x0, .int a1, .int a2]) ++ List.replicate (4 - (lg_sl ([.ref x0, .int a1, .int a2])).length) Slot.unset).toArray = ls at hl ⊢
  have hl : lv_has ls 4 [(0, .ref x0), (1, .int a1), (2, .int a2)] := hl
  refine lv_aload_n hx hb dL_garden_0 rfl (lv_at hl 0 rfl) ?_
  refine lv_iload_n hx hb dL_garden_1 rfl (lv_at hl 1 rfl) ?_
  refine lv_iload_n hx hb dL_garden_2 rfl (lv_at hl 2 rfl) ?_
  refine call_XB (vx_runV (As := [.int a1, .int a2]) (rest := []) ⟨hx, hb, hml, hown, hts⟩ (hu s.heap.size) (kV hts qw382 qw383 qw384 qw1 qw385 ok_X4_garden ⟨Nat.le_of_ble_eq_true rfl, Nat.le_of_ble_eq_true rfl⟩) ⟨PM.blind, va_recv hK hP (ci := 5) (q0 := 0) rfl h0, fun U hU hW => ⟨rfl, by rw [hU]; exact hC.warm hW, by rw [hU], by rw [hU]; exact hP, hD, hZ⟩⟩ rfl rfl hl.1 rfl (lv_room (Nat.le_of_ble_eq_true rfl)) dL_garden_3 ⟨Nat.le_of_ble_eq_true rfl, Nat.le_of_ble_eq_true rfl⟩) hS hsub (fun w1 H1 locs1 q9 ce hR1 hP1 hD1 hS hsz1 hk1 hce hcv hcl => ?_)
  refine vx_catch (name := "java/lang/IllegalArgumentException") hown [] ⟨0, 6, 7, 15⟩ [] hxt (fun z hz => nomatch hz) (by decide) (by decide) (hts _ qw381) (va_Nw.use rfl (hC.2.1 _ qw391)) hce hcv hcl ?_
  refine lv_astore_n (lv' := (3, .ref q9) :: [(0, .ref x0), (1, .int a1), (2, .int a2)]) hx hb dL_garden_7 rfl hl (by decide) rfl (fun ls hl => ?_)
  refine W.widen (k := 5) (n := 70) (by decide) (by decide) ?_
  refine lv_ldc (v := (-2000001)) hx hb hown (hts _ qw544) dL_garden_8 ?_
  exact W.iret hx hb hr (fun t9 ht hW => ⟨w1, hR1, rfl, by rw [ht]; exact hP1, hD1, hS.F ht⟩) hS.2.2 dL_garden_10
abbrev rh_pond : Room := { frames := 11, cells := 5, slots := 70, locals := 365 }
theorem okL_pond : okY yL_pond 3 := ⟨by decide +kernel, by decide +kernel, by decide +kernel⟩
set_option maxHeartbeats 4000000 in
theorem gr_pond (l : Launch) (z0 : Nat) (D : va_G) (t : Nat → ClassId) (x0 : Nat) {w : va_W} {R' : va_W → Prop} {v : Int32} (a1 : Int32) (a2 : Int32) (h0 : ∃ fs, w[0]? = some (x0, .inr (5, fs))) (hu : ∀ sz, UM l yX4_pond cX4_pond 6 (some .int) rm_X4_pond (some (.int v)) z0 D t (.ref x0 :: [.int a1, .int a2]) w sz R' 3 40) (sz : Nat) : Met l yL_pond (wh_ yL_pond cL_pond 4 (some .int) [(0, 6, 7, 21), (0, 6, 11, 23)]) rh_pond (PMH z0 D t [.ref x0, .int a1, .int a2] w (w.map Prod.fst) sz) (QB (fun _ : va_W => some (.int v)) D (fun w9 => w9) R' (w.map Prod.fst) sz) 5 70 (OA (w.map Prod.fst) sz) := by
  refine met_ofWH (cc := cL_pond) (maxL := 4) (ret := (some .int)) (hh := [(0, 6, 7, 21), (0, 6, 11, 23)]) (by decide) rfl ?_
  intro p e s m args below meth c s₁ Bo hml hxt hv
  obtain ⟨rfl, ⟨hC, hN⟩, hsz, hP, hD, hZ⟩ := hv
  have hx := Bo.exec
  have hb := Bo.bytes
  have hr := Bo.returns
  have hts : ∀ w ∈ LA, w.before _ s = true := fun w hw => atoms_spec (ws := (wh_ yL_pond cL_pond 4 (some .int) [(0, 6, 7, 21), (0, 6, 11, 23)])) Bo.pre w (List.mem_cons_of_mem _ hw)
  have hown : s.vm.findClass RL = some m.cls := findClass_of_methodNamed Bo.named
  have hlocks := Bo.notSynchronized
  have hK := hC.1
  subst hsz
  obtain ⟨fs, h0⟩ := h0
  have hsub : ∀ q, OA (w.map Prod.fst) s.heap.size q → OA (w.map Prod.fst) s.heap.size q := fun _ h => h
  have hS : va_S (OA (w.map Prod.fst) s.heap.size) s.heap s.heap [] := va_S.rf
  have hl := lv_entry ([.ref x0, .int a1, .int a2]) (n := 4) (Nat.le_of_ble_eq_true rfl)
  rw [lg_entry_eq]
  generalize (lg_sl ([.ref x0, .int a1, .int a2]) ++ List.replicate (4 - (lg_sl ([.ref x0, .int a1, .int a2])).length) Slot.unset).toArray = ls at hl ⊢
  have hl : lv_has ls 4 [(0, .ref x0), (1, .int a1), (2, .int a2)] := hl
  refine lv_aload_n hx hb dL_pond_0 rfl (lv_at hl 0 rfl) ?_
  refine lv_iload_n hx hb dL_pond_1 rfl (lv_at hl 1 rfl) ?_
  refine lv_iload_n hx hb dL_pond_2 rfl (lv_at hl 2 rfl) ?_
  refine call_Q (va_runV (As := [.int a1, .int a2]) (rest := []) ⟨hx, hb, hml, hown, hts⟩ (hu s.heap.size) (kV hts qw550 qw551 qw552 qw1 qw553 ok_X4_pond ⟨Nat.le_of_ble_eq_true rfl, Nat.le_of_ble_eq_true rfl⟩) ⟨PM.blind, va_recv hK hP (ci := 5) (q0 := 0) rfl h0, fun U hU hW => ⟨rfl, by rw [hU]; exact hC.warm hW, by rw [hU], by rw [hU]; exact hP, hD, hZ⟩⟩ rfl rfl hl.1 rfl (lv_room (Nat.le_of_ble_eq_true rfl)) dL_pond_3 ⟨Nat.le_of_ble_eq_true rfl, Nat.le_of_ble_eq_true rfl⟩) hS hsub (fun w1 H1 locs1 hR1 hP1 hD1 hS hsz1 hk1 => ?_)
  refine W.widen (k := 5) (n := 70) (by decide) (by decide) ?_
  exact W.iret hx hb hr (fun t9 ht hW => ⟨w1, hR1, rfl, by rw [ht]; exact hP1, hD1, hS.F ht⟩) hS.2.2 dL_pond_6
set_option maxHeartbeats 4000000 in
theorem gx1_pond (l : Launch) (z0 : Nat) (D : va_G) (t : Nat → ClassId) (x0 : Nat) {w : va_W} {R' : va_W → Prop} (a1 : Int32) (a2 : Int32) (h0 : ∃ fs, w[0]? = some (x0, .inr (5, fs))) (hu : ∀ sz, UX l yX4_pond cX4_pond 6 (some .int) rx_X4_pond IOE z0 D t (.ref x0 :: [.int a1, .int a2]) w sz R' 4 46) (sz : Nat) : Met l yL_pond (wh_ yL_pond cL_pond 4 (some .int) [(0, 6, 7, 21), (0, 6, 11, 23)]) rh_pond (PMH z0 D t [.ref x0, .int a1, .int a2] w (w.map Prod.fst) sz) (QB (fun _ : va_W => some (.int (-2000001))) D (fun w9 => w9) R' (w.map Prod.fst) sz) 5 70 (OA (w.map Prod.fst) sz) := by
  refine met_ofWH (cc := cL_pond) (maxL := 4) (ret := (some .int)) (hh := [(0, 6, 7, 21), (0, 6, 11, 23)]) (by decide) rfl ?_
  intro p e s m args below meth c s₁ Bo hml hxt hv
  obtain ⟨rfl, ⟨hC, hN⟩, hsz, hP, hD, hZ⟩ := hv
  have hx := Bo.exec
  have hb := Bo.bytes
  have hr := Bo.returns
  have hts : ∀ w ∈ LA, w.before _ s = true := fun w hw => atoms_spec (ws := (wh_ yL_pond cL_pond 4 (some .int) [(0, 6, 7, 21), (0, 6, 11, 23)])) Bo.pre w (List.mem_cons_of_mem _ hw)
  have hown : s.vm.findClass RL = some m.cls := findClass_of_methodNamed Bo.named
  have hlocks := Bo.notSynchronized
  have hK := hC.1
  subst hsz
  obtain ⟨fs, h0⟩ := h0
  have hsub : ∀ q, OA (w.map Prod.fst) s.heap.size q → OA (w.map Prod.fst) s.heap.size q := fun _ h => h
  have hS : va_S (OA (w.map Prod.fst) s.heap.size) s.heap s.heap [] := va_S.rf
  have hl := lv_entry ([.ref x0, .int a1, .int a2]) (n := 4) (Nat.le_of_ble_eq_true rfl)
  rw [lg_entry_eq]
  generalize (lg_sl ([.ref x0, .int a1, .int a2]) ++ List.replicate (4 - (lg_sl ([.ref x0, .int a1, .int a2])).length) Slot.unset).toArray = ls at hl ⊢
  have hl : lv_has ls 4 [(0, .ref x0), (1, .int a1), (2, .int a2)] := hl
  refine lv_aload_n hx hb dL_pond_0 rfl (lv_at hl 0 rfl) ?_
  refine lv_iload_n hx hb dL_pond_1 rfl (lv_at hl 1 rfl) ?_
  refine lv_iload_n hx hb dL_pond_2 rfl (lv_at hl 2 rfl) ?_
  refine call_XB (vx_runV (As := [.int a1, .int a2]) (rest := []) ⟨hx, hb, hml, hown, hts⟩ (hu s.heap.size) (kV hts qw550 qw551 qw552 qw1 qw553 ok_X4_pond ⟨Nat.le_of_ble_eq_true rfl, Nat.le_of_ble_eq_true rfl⟩) ⟨PM.blind, va_recv hK hP (ci := 5) (q0 := 0) rfl h0, fun U hU hW => ⟨rfl, by rw [hU]; exact hC.warm hW, by rw [hU], by rw [hU]; exact hP, hD, hZ⟩⟩ rfl rfl hl.1 rfl (lv_room (Nat.le_of_ble_eq_true rfl)) dL_pond_3 ⟨Nat.le_of_ble_eq_true rfl, Nat.le_of_ble_eq_true rfl⟩) hS hsub (fun w1 H1 locs1 q9 ce hR1 hP1 hD1 hS hsz1 hk1 hce hcv hcl => ?_)
  refine vx_catch (name := "java/lang/IndexOutOfBoundsException") hown [] ⟨0, 6, 7, 21⟩ [⟨0, 6, 11, 23⟩] hxt (fun z hz => nomatch hz) (by decide) (by decide) (hts _ qw548) (va_Nw.use rfl (hC.2.1 _ qw564)) hce hcv hcl ?_
  refine lv_astore_n (lv' := (3, .ref q9) :: [(0, .ref x0), (1, .int a1), (2, .int a2)]) hx hb dL_pond_7 rfl hl (by decide) rfl (fun ls hl => ?_)
  refine W.widen (k := 5) (n := 70) (by decide) (by decide) ?_
  refine lv_ldc (v := (-2000001)) hx hb hown (hts _ qw544) dL_pond_8 ?_
  exact W.iret hx hb hr (fun t9 ht hW => ⟨w1, hR1, rfl, by rw [ht]; exact hP1, hD1, hS.F ht⟩) hS.2.2 dL_pond_10
set_option maxHeartbeats 4000000 in
theorem gx2_pond (l : Launch) (z0 : Nat) (D : va_G) (t : Nat → ClassId) (x0 : Nat) {w : va_W} {R' : va_W → Prop} (a1 : Int32) (a2 : Int32) (h0 : ∃ fs, w[0]? = some (x0, .inr (5, fs))) (hu : ∀ sz, UX l yX4_pond cX4_pond 6 (some .int) rx_X4_pond ISE z0 D t (.ref x0 :: [.int a1, .int a2]) w sz R' 4 46) (sz : Nat) : Met l yL_pond (wh_ yL_pond cL_pond 4 (some .int) [(0, 6, 7, 21), (0, 6, 11, 23)]) rh_pond (PMH z0 D t [.ref x0, .int a1, .int a2] w (w.map Prod.fst) sz) (QB (fun _ : va_W => some (.int (-2000002))) D (fun w9 => w9) R' (w.map Prod.fst) sz) 5 70 (OA (w.map Prod.fst) sz) := by
  refine met_ofWH (cc := cL_pond) (maxL := 4) (ret := (some .int)) (hh := [(0, 6, 7, 21), (0, 6, 11, 23)]) (by decide) rfl ?_
  intro p e s m args below meth c s₁ Bo hml hxt hv
  obtain ⟨rfl, ⟨hC, hN⟩, hsz, hP, hD, hZ⟩ := hv
  have hx := Bo.exec
  have hb := Bo.bytes
  have hr := Bo.returns
  have hts : ∀ w ∈ LA, w.before _ s = true := fun w hw => atoms_spec (ws := (wh_ yL_pond cL_pond 4 (some .int) [(0, 6, 7, 21), (0, 6, 11, 23)])) Bo.pre w (List.mem_cons_of_mem _ hw)
  have hown : s.vm.findClass RL = some m.cls := findClass_of_methodNamed Bo.named
  have hlocks := Bo.notSynchronized
  have hK := hC.1
  subst hsz
  obtain ⟨fs, h0⟩ := h0
  have hsub : ∀ q, OA (w.map Prod.fst) s.heap.size q → OA (w.map Prod.fst) s.heap.size q := fun _ h => h
  have hS : va_S (OA (w.map Prod.fst) s.heap.size) s.heap s.heap [] := va_S.rf
  have hl := lv_entry ([.ref x0, .int a1, .int a2]) (n := 4) (Nat.le_of_ble_eq_true rfl)
  rw [lg_entry_eq]
  generalize (lg_sl ([.ref x0, .int a1, .int a2]) ++ List.replicate (4 - (lg_sl ([.ref x0, .int a1, .int a2])).length) Slot.unset).toArray = ls at hl ⊢
  have hl : lv_has ls 4 [(0, .ref x0), (1, .int a1), (2, .int a2)] := hl
  refine lv_aload_n hx hb dL_pond_0 rfl (lv_at hl 0 rfl) ?_
  refine lv_iload_n hx hb dL_pond_1 rfl (lv_at hl 1 rfl) ?_
  refine lv_iload_n hx hb dL_pond_2 rfl (lv_at hl 2 rfl) ?_
  refine call_XB (vx_runV (As := [.int a1, .int a2]) (rest := []) ⟨hx, hb, hml, hown, hts⟩ (hu s.heap.size) (kV hts qw550 qw551 qw552 qw1 qw553 ok_X4_pond ⟨Nat.le_of_ble_eq_true rfl, Nat.le_of_ble_eq_true rfl⟩) ⟨PM.blind, va_recv hK hP (ci := 5) (q0 := 0) rfl h0, fun U hU hW => ⟨rfl, by rw [hU]; exact hC.warm hW, by rw [hU], by rw [hU]; exact hP, hD, hZ⟩⟩ rfl rfl hl.1 rfl (lv_room (Nat.le_of_ble_eq_true rfl)) dL_pond_3 ⟨Nat.le_of_ble_eq_true rfl, Nat.le_of_ble_eq_true rfl⟩) hS hsub (fun w1 H1 locs1 q9 ce hR1 hP1 hD1 hS hsz1 hk1 hce hcv hcl => ?_)
  refine vx_catch (name := "java/lang/IllegalStateException") hown [⟨0, 6, 7, 21⟩] ⟨0, 6, 11, 23⟩ [] hxt (fun z hz => by
      cases List.mem_singleton.mp hz
      exact Or.inr ⟨by decide, IOE, hts _ qw548, hN.2.1⟩) (by decide) (by decide) (hts _ qw549) (va_Nw.use rfl (hC.2.1 _ qw581)) hce hcv hcl ?_
  refine lv_astore_n (lv' := (3, .ref q9) :: [(0, .ref x0), (1, .int a1), (2, .int a2)]) hx hb dL_pond_11 rfl hl (by decide) rfl (fun ls hl => ?_)
  refine W.widen (k := 5) (n := 70) (by decide) (by decide) ?_
  refine lv_ldc (v := (-2000002)) hx hb hown (hts _ qw595) dL_pond_12 ?_
  exact W.iret hx hb hr (fun t9 ht hW => ⟨w1, hR1, rfl, by rw [ht]; exact hP1, hD1, hS.F ht⟩) hS.2.2 dL_pond_14
abbrev rh_wall : Room := { frames := 11, cells := 5, slots := 70, locals := 364 }
theorem okL_wall : okY yL_wall 3 := ⟨by decide +kernel, by decide +kernel, by decide +kernel⟩
set_option maxHeartbeats 4000000 in
theorem gr_wall (l : Launch) (z0 : Nat) (D : va_G) (t : Nat → ClassId) (x0 : Nat) {w : va_W} {R' : va_W → Prop} {v : Int32} (a1 : Int32) (a2 : Int32) (h0 : ∃ fs, w[0]? = some (x0, .inr (5, fs))) (hu : ∀ sz, UM l yX4_wall cX4_wall 5 (some .int) rm_X4_wall (some (.int v)) z0 D t (.ref x0 :: [.int a1, .int a2]) w sz R' 3 40) (sz : Nat) : Met l yL_wall (wh_ yL_wall cL_wall 4 (some .int) [(0, 6, 7, 21), (0, 6, 11, 23)]) rh_wall (PMH z0 D t [.ref x0, .int a1, .int a2] w (w.map Prod.fst) sz) (QB (fun _ : va_W => some (.int v)) D (fun w9 => w9) R' (w.map Prod.fst) sz) 5 70 (OA (w.map Prod.fst) sz) := by
  refine met_ofWH (cc := cL_wall) (maxL := 4) (ret := (some .int)) (hh := [(0, 6, 7, 21), (0, 6, 11, 23)]) (by decide) rfl ?_
  intro p e s m args below meth c s₁ Bo hml hxt hv
  obtain ⟨rfl, ⟨hC, hN⟩, hsz, hP, hD, hZ⟩ := hv
  have hx := Bo.exec
  have hb := Bo.bytes
  have hr := Bo.returns
  have hts : ∀ w ∈ LA, w.before _ s = true := fun w hw => atoms_spec (ws := (wh_ yL_wall cL_wall 4 (some .int) [(0, 6, 7, 21), (0, 6, 11, 23)])) Bo.pre w (List.mem_cons_of_mem _ hw)
  have hown : s.vm.findClass RL = some m.cls := findClass_of_methodNamed Bo.named
  have hlocks := Bo.notSynchronized
  have hK := hC.1
  subst hsz
  obtain ⟨fs, h0⟩ := h0
  have hsub : ∀ q, OA (w.map Prod.fst) s.heap.size q → OA (w.map Prod.fst) s.heap.size q := fun _ h => h
  have hS : va_S (OA (w.map Prod.fst) s.heap.size) s.heap s.heap [] := va_S.rf
  have hl := lv_entry ([.ref x0, .int a1, .int a2]) (n := 4) (Nat.le_of_ble_eq_true rfl)
  rw [lg_entry_eq]
  generalize (lg_sl ([.ref x0, .int a1, .int a2]) ++ List.replicate (4 - (lg_sl ([.ref x0, .int a1, .int a2])).length) Slot.unset).toArray = ls at hl ⊢
  have hl : lv_has ls 4 [(0, .ref x0), (1, .int a1), (2, .int a2)] := hl
  refine lv_aload_n hx hb dL_wall_0 rfl (lv_at hl 0 rfl) ?_
  refine lv_iload_n hx hb dL_wall_1 rfl (lv_at hl 1 rfl) ?_
  refine lv_iload_n hx hb dL_wall_2 rfl (lv_at hl 2 rfl) ?_
  refine call_Q (va_runV (As := [.int a1, .int a2]) (rest := []) ⟨hx, hb, hml, hown, hts⟩ (hu s.heap.size) (kV hts qw599 qw600 qw601 qw1 qw602 ok_X4_wall ⟨Nat.le_of_ble_eq_true rfl, Nat.le_of_ble_eq_true rfl⟩) ⟨PM.blind, va_recv hK hP (ci := 5) (q0 := 0) rfl h0, fun U hU hW => ⟨rfl, by rw [hU]; exact hC.warm hW, by rw [hU], by rw [hU]; exact hP, hD, hZ⟩⟩ rfl rfl hl.1 rfl (lv_room (Nat.le_of_ble_eq_true rfl)) dL_wall_3 ⟨Nat.le_of_ble_eq_true rfl, Nat.le_of_ble_eq_true rfl⟩) hS hsub (fun w1 H1 locs1 hR1 hP1 hD1 hS hsz1 hk1 => ?_)
  refine W.widen (k := 5) (n := 70) (by decide) (by decide) ?_
  exact W.iret hx hb hr (fun t9 ht hW => ⟨w1, hR1, rfl, by rw [ht]; exact hP1, hD1, hS.F ht⟩) hS.2.2 dL_wall_6
set_option maxHeartbeats 4000000 in
theorem gx1_wall (l : Launch) (z0 : Nat) (D : va_G) (t : Nat → ClassId) (x0 : Nat) {w : va_W} {R' : va_W → Prop} (a1 : Int32) (a2 : Int32) (h0 : ∃ fs, w[0]? = some (x0, .inr (5, fs))) (hu : ∀ sz, UX l yX4_wall cX4_wall 5 (some .int) rx_X4_wall IOE z0 D t (.ref x0 :: [.int a1, .int a2]) w sz R' 4 46) (sz : Nat) : Met l yL_wall (wh_ yL_wall cL_wall 4 (some .int) [(0, 6, 7, 21), (0, 6, 11, 23)]) rh_wall (PMH z0 D t [.ref x0, .int a1, .int a2] w (w.map Prod.fst) sz) (QB (fun _ : va_W => some (.int (-2000001))) D (fun w9 => w9) R' (w.map Prod.fst) sz) 5 70 (OA (w.map Prod.fst) sz) := by
  refine met_ofWH (cc := cL_wall) (maxL := 4) (ret := (some .int)) (hh := [(0, 6, 7, 21), (0, 6, 11, 23)]) (by decide) rfl ?_
  intro p e s m args below meth c s₁ Bo hml hxt hv
  obtain ⟨rfl, ⟨hC, hN⟩, hsz, hP, hD, hZ⟩ := hv
  have hx := Bo.exec
  have hb := Bo.bytes
  have hr := Bo.returns
  have hts : ∀ w ∈ LA, w.before _ s = true := fun w hw => atoms_spec (ws := (wh_ yL_wall cL_wall 4 (some .int) [(0, 6, 7, 21), (0, 6, 11, 23)])) Bo.pre w (List.mem_cons_of_mem _ hw)
  have hown : s.vm.findClass RL = some m.cls := findClass_of_methodNamed Bo.named
  have hlocks := Bo.notSynchronized
  have hK := hC.1
  subst hsz
  obtain ⟨fs, h0⟩ := h0
  have hsub : ∀ q, OA (w.map Prod.fst) s.heap.size q → OA (w.map Prod.fst) s.heap.size q := fun _ h => h
  have hS : va_S (OA (w.map Prod.fst) s.heap.size) s.heap s.heap [] := va_S.rf
  have hl := lv_entry ([.ref x0, .int a1, .int a2]) (n := 4) (Nat.le_of_ble_eq_true rfl)
  rw [lg_entry_eq]
  generalize (lg_sl ([.ref x0, .int a1, .int a2]) ++ List.replicate (4 - (lg_sl ([.ref x0, .int a1, .int a2])).length) Slot.unset).toArray = ls at hl ⊢
  have hl : lv_has ls 4 [(0, .ref x0), (1, .int a1), (2, .int a2)] := hl
  refine lv_aload_n hx hb dL_wall_0 rfl (lv_at hl 0 rfl) ?_
  refine lv_iload_n hx hb dL_wall_1 rfl (lv_at hl 1 rfl) ?_
  refine lv_iload_n hx hb dL_wall_2 rfl (lv_at hl 2 rfl) ?_
  refine call_XB (vx_runV (As := [.int a1, .int a2]) (rest := []) ⟨hx, hb, hml, hown, hts⟩ (hu s.heap.size) (kV hts qw599 qw600 qw601 qw1 qw602 ok_X4_wall ⟨Nat.le_of_ble_eq_true rfl, Nat.le_of_ble_eq_true rfl⟩) ⟨PM.blind, va_recv hK hP (ci := 5) (q0 := 0) rfl h0, fun U hU hW => ⟨rfl, by rw [hU]; exact hC.warm hW, by rw [hU], by rw [hU]; exact hP, hD, hZ⟩⟩ rfl rfl hl.1 rfl (lv_room (Nat.le_of_ble_eq_true rfl)) dL_wall_3 ⟨Nat.le_of_ble_eq_true rfl, Nat.le_of_ble_eq_true rfl⟩) hS hsub (fun w1 H1 locs1 q9 ce hR1 hP1 hD1 hS hsz1 hk1 hce hcv hcl => ?_)
  refine vx_catch (name := "java/lang/IndexOutOfBoundsException") hown [] ⟨0, 6, 7, 21⟩ [⟨0, 6, 11, 23⟩] hxt (fun z hz => nomatch hz) (by decide) (by decide) (hts _ qw548) (va_Nw.use rfl (hC.2.1 _ qw564)) hce hcv hcl ?_
  refine lv_astore_n (lv' := (3, .ref q9) :: [(0, .ref x0), (1, .int a1), (2, .int a2)]) hx hb dL_wall_7 rfl hl (by decide) rfl (fun ls hl => ?_)
  refine W.widen (k := 5) (n := 70) (by decide) (by decide) ?_
  refine lv_ldc (v := (-2000001)) hx hb hown (hts _ qw544) dL_wall_8 ?_
  exact W.iret hx hb hr (fun t9 ht hW => ⟨w1, hR1, rfl, by rw [ht]; exact hP1, hD1, hS.F ht⟩) hS.2.2 dL_wall_10
set_option maxHeartbeats 4000000 in
theorem gx2_wall (l : Launch) (z0 : Nat) (D : va_G) (t : Nat → ClassId) (x0 : Nat) {w : va_W} {R' : va_W → Prop} (a1 : Int32) (a2 : Int32) (h0 : ∃ fs, w[0]? = some (x0, .inr (5, fs))) (hu : ∀ sz, UX l yX4_wall cX4_wall 5 (some .int) rx_X4_wall ISE z0 D t (.ref x0 :: [.int a1, .int a2]) w sz R' 4 46) (sz : Nat) : Met l yL_wall (wh_ yL_wall cL_wall 4 (some .int) [(0, 6, 7, 21), (0, 6, 11, 23)]) rh_wall (PMH z0 D t [.ref x0, .int a1, .int a2] w (w.map Prod.fst) sz) (QB (fun _ : va_W => some (.int (-2000002))) D (fun w9 => w9) R' (w.map Prod.fst) sz) 5 70 (OA (w.map Prod.fst) sz) := by
  refine met_ofWH (cc := cL_wall) (maxL := 4) (ret := (some .int)) (hh := [(0, 6, 7, 21), (0, 6, 11, 23)]) (by decide) rfl ?_
  intro p e s m args below meth c s₁ Bo hml hxt hv
  obtain ⟨rfl, ⟨hC, hN⟩, hsz, hP, hD, hZ⟩ := hv
  have hx := Bo.exec
  have hb := Bo.bytes
  have hr := Bo.returns
  have hts : ∀ w ∈ LA, w.before _ s = true := fun w hw => atoms_spec (ws := (wh_ yL_wall cL_wall 4 (some .int) [(0, 6, 7, 21), (0, 6, 11, 23)])) Bo.pre w (List.mem_cons_of_mem _ hw)
  have hown : s.vm.findClass RL = some m.cls := findClass_of_methodNamed Bo.named
  have hlocks := Bo.notSynchronized
  have hK := hC.1
  subst hsz
  obtain ⟨fs, h0⟩ := h0
  have hsub : ∀ q, OA (w.map Prod.fst) s.heap.size q → OA (w.map Prod.fst) s.heap.size q := fun _ h => h
  have hS : va_S (OA (w.map Prod.fst) s.heap.size) s.heap s.heap [] := va_S.rf
  have hl := lv_entry ([.ref x0, .int a1, .int a2]) (n := 4) (Nat.le_of_ble_eq_true rfl)
  rw [lg_entry_eq]
  generalize (lg_sl ([.ref x0, .int a1, .int a2]) ++ List.replicate (4 - (lg_sl ([.ref x0, .int a1, .int a2])).length) Slot.unset).toArray = ls at hl ⊢
  have hl : lv_has ls 4 [(0, .ref x0), (1, .int a1), (2, .int a2)] := hl
  refine lv_aload_n hx hb dL_wall_0 rfl (lv_at hl 0 rfl) ?_
  refine lv_iload_n hx hb dL_wall_1 rfl (lv_at hl 1 rfl) ?_
  refine lv_iload_n hx hb dL_wall_2 rfl (lv_at hl 2 rfl) ?_
  refine call_XB (vx_runV (As := [.int a1, .int a2]) (rest := []) ⟨hx, hb, hml, hown, hts⟩ (hu s.heap.size) (kV hts qw599 qw600 qw601 qw1 qw602 ok_X4_wall ⟨Nat.le_of_ble_eq_true rfl, Nat.le_of_ble_eq_true rfl⟩) ⟨PM.blind, va_recv hK hP (ci := 5) (q0 := 0) rfl h0, fun U hU hW => ⟨rfl, by rw [hU]; exact hC.warm hW, by rw [hU], by rw [hU]; exact hP, hD, hZ⟩⟩ rfl rfl hl.1 rfl (lv_room (Nat.le_of_ble_eq_true rfl)) dL_wall_3 ⟨Nat.le_of_ble_eq_true rfl, Nat.le_of_ble_eq_true rfl⟩) hS hsub (fun w1 H1 locs1 q9 ce hR1 hP1 hD1 hS hsz1 hk1 hce hcv hcl => ?_)
  refine vx_catch (name := "java/lang/IllegalStateException") hown [⟨0, 6, 7, 21⟩] ⟨0, 6, 11, 23⟩ [] hxt (fun z hz => by
      cases List.mem_singleton.mp hz
      exact Or.inr ⟨by decide, IOE, hts _ qw548, hN.2.1⟩) (by decide) (by decide) (hts _ qw549) (va_Nw.use rfl (hC.2.1 _ qw581)) hce hcv hcl ?_
  refine lv_astore_n (lv' := (3, .ref q9) :: [(0, .ref x0), (1, .int a1), (2, .int a2)]) hx hb dL_wall_11 rfl hl (by decide) rfl (fun ls hl => ?_)
  refine W.widen (k := 5) (n := 70) (by decide) (by decide) ?_
  refine lv_ldc (v := (-2000002)) hx hb hown (hts _ qw595) dL_wall_12 ?_
  exact W.iret hx hb hr (fun t9 ht hW => ⟨w1, hR1, rfl, by rw [ht]; exact hP1, hD1, hS.F ht⟩) hS.2.2 dL_wall_14
abbrev rh_lay : Room := { frames := 11, cells := 5, slots := 70, locals := 364 }
theorem okL_lay : okY yL_lay 4 := ⟨by decide +kernel, by decide +kernel, by decide +kernel⟩
set_option maxHeartbeats 4000000 in
theorem gr_lay (l : Launch) (z0 : Nat) (D : va_G) (t : Nat → ClassId) (x0 : Nat) {w : va_W} {R' : va_W → Prop} {v : Int32} (a1 : Int32) (a2 : Int32) (a3 : Int32) (h0 : ∃ fs, w[0]? = some (x0, .inr (5, fs))) (hu : ∀ sz, UM l yX4_lay cX4_lay 5 (some .int) rm_X4_lay (some (.int v)) z0 D t (.ref x0 :: [.int a1, .int a2, .int a3]) w sz R' 3 40) (sz : Nat) : Met l yL_lay (wh_ yL_lay cL_lay 5 (some .int) [(0, 7, 8, 15)]) rh_lay (PMH z0 D t [.ref x0, .int a1, .int a2, .int a3] w (w.map Prod.fst) sz) (QB (fun _ : va_W => some (.int v)) D (fun w9 => w9) R' (w.map Prod.fst) sz) 5 70 (OA (w.map Prod.fst) sz) := by
  refine met_ofWH (cc := cL_lay) (maxL := 5) (ret := (some .int)) (hh := [(0, 7, 8, 15)]) (by decide) rfl ?_
  intro p e s m args below meth c s₁ Bo hml hxt hv
  obtain ⟨rfl, ⟨hC, hN⟩, hsz, hP, hD, hZ⟩ := hv
  have hx := Bo.exec
  have hb := Bo.bytes
  have hr := Bo.returns
  have hts : ∀ w ∈ LA, w.before _ s = true := fun w hw => atoms_spec (ws := (wh_ yL_lay cL_lay 5 (some .int) [(0, 7, 8, 15)])) Bo.pre w (List.mem_cons_of_mem _ hw)
  have hown : s.vm.findClass RL = some m.cls := findClass_of_methodNamed Bo.named
  have hlocks := Bo.notSynchronized
  have hK := hC.1
  subst hsz
  obtain ⟨fs, h0⟩ := h0
  have hsub : ∀ q, OA (w.map Prod.fst) s.heap.size q → OA (w.map Prod.fst) s.heap.size q := fun _ h => h
  have hS : va_S (OA (w.map Prod.fst) s.heap.size) s.heap s.heap [] := va_S.rf
  have hl := lv_entry ([.ref x0, .int a1, .int a2, .int a3]) (n := 5) (Nat.le_of_ble_eq_true rfl)
  rw [lg_entry_eq]
  generalize (lg_sl ([.ref x0, .int a1, .int a2, .int a3]) ++ List.replicate (5 - (lg_sl ([.ref x0, .int a1, .int a2, .int a3])).length) Slot.unset).toArray = ls at hl ⊢
  have hl : lv_has ls 5 [(0, .ref x0), (1, .int a1), (2, .int a2), (3, .int a3)] := hl
  refine lv_aload_n hx hb dL_lay_0 rfl (lv_at hl 0 rfl) ?_
  refine lv_iload_n hx hb dL_lay_1 rfl (lv_at hl 1 rfl) ?_
  refine lv_iload_n hx hb dL_lay_2 rfl (lv_at hl 2 rfl) ?_
  refine lv_iload_n hx hb dL_lay_3 rfl (lv_at hl 3 rfl) ?_
  refine call_Q (va_runV (As := [.int a1, .int a2, .int a3]) (rest := []) ⟨hx, hb, hml, hown, hts⟩ (hu s.heap.size) (kV hts qw608 qw609 qw610 qw1 qw611 ok_X4_lay ⟨Nat.le_of_ble_eq_true rfl, Nat.le_of_ble_eq_true rfl⟩) ⟨PM.blind, va_recv hK hP (ci := 5) (q0 := 0) rfl h0, fun U hU hW => ⟨rfl, by rw [hU]; exact hC.warm hW, by rw [hU], by rw [hU]; exact hP, hD, hZ⟩⟩ rfl rfl hl.1 rfl (lv_room (Nat.le_of_ble_eq_true rfl)) dL_lay_4 ⟨Nat.le_of_ble_eq_true rfl, Nat.le_of_ble_eq_true rfl⟩) hS hsub (fun w1 H1 locs1 hR1 hP1 hD1 hS hsz1 hk1 => ?_)
  refine W.widen (k := 5) (n := 70) (by decide) (by decide) ?_
  exact W.iret hx hb hr (fun t9 ht hW => ⟨w1, hR1, rfl, by rw [ht]; exact hP1, hD1, hS.F ht⟩) hS.2.2 dL_lay_7
set_option maxHeartbeats 4000000 in
theorem gx1_lay (l : Launch) (z0 : Nat) (D : va_G) (t : Nat → ClassId) (x0 : Nat) {w : va_W} {R' : va_W → Prop} (a1 : Int32) (a2 : Int32) (a3 : Int32) (h0 : ∃ fs, w[0]? = some (x0, .inr (5, fs))) (hu : ∀ sz, UX l yX4_lay cX4_lay 5 (some .int) rx_X4_lay IAE z0 D t (.ref x0 :: [.int a1, .int a2, .int a3]) w sz R' 4 46) (sz : Nat) : Met l yL_lay (wh_ yL_lay cL_lay 5 (some .int) [(0, 7, 8, 15)]) rh_lay (PMH z0 D t [.ref x0, .int a1, .int a2, .int a3] w (w.map Prod.fst) sz) (QB (fun _ : va_W => some (.int (-2000001))) D (fun w9 => w9) R' (w.map Prod.fst) sz) 5 70 (OA (w.map Prod.fst) sz) := by
  refine met_ofWH (cc := cL_lay) (maxL := 5) (ret := (some .int)) (hh := [(0, 7, 8, 15)]) (by decide) rfl ?_
  intro p e s m args below meth c s₁ Bo hml hxt hv
  obtain ⟨rfl, ⟨hC, hN⟩, hsz, hP, hD, hZ⟩ := hv
  have hx := Bo.exec
  have hb := Bo.bytes
  have hr := Bo.returns
  have hts : ∀ w ∈ LA, w.before _ s = true := fun w hw => atoms_spec (ws := (wh_ yL_lay cL_lay 5 (some .int) [(0, 7, 8, 15)])) Bo.pre w (List.mem_cons_of_mem _ hw)
  have hown : s.vm.findClass RL = some m.cls := findClass_of_methodNamed Bo.named
  have hlocks := Bo.notSynchronized
  have hK := hC.1
  subst hsz
  obtain ⟨fs, h0⟩ := h0
  have hsub : ∀ q, OA (w.map Prod.fst) s.heap.size q → OA (w.map Prod.fst) s.heap.size q := fun _ h => h
  have hS : va_S (OA (w.map Prod.fst) s.heap.size) s.heap s.heap [] := va_S.rf
  have hl := lv_entry ([.ref x0, .int a1, .int a2, .int a3]) (n := 5) (Nat.le_of_ble_eq_true rfl)
  rw [lg_entry_eq]
  generalize (lg_sl ([.ref x0, .int a1, .int a2, .int a3]) ++ List.replicate (5 - (lg_sl ([.ref x0, .int a1, .int a2, .int a3])).length) Slot.unset).toArray = ls at hl ⊢
  have hl : lv_has ls 5 [(0, .ref x0), (1, .int a1), (2, .int a2), (3, .int a3)] := hl
  refine lv_aload_n hx hb dL_lay_0 rfl (lv_at hl 0 rfl) ?_
  refine lv_iload_n hx hb dL_lay_1 rfl (lv_at hl 1 rfl) ?_
  refine lv_iload_n hx hb dL_lay_2 rfl (lv_at hl 2 rfl) ?_
  refine lv_iload_n hx hb dL_lay_3 rfl (lv_at hl 3 rfl) ?_
  refine call_XB (vx_runV (As := [.int a1, .int a2, .int a3]) (rest := []) ⟨hx, hb, hml, hown, hts⟩ (hu s.heap.size) (kV hts qw608 qw609 qw610 qw1 qw611 ok_X4_lay ⟨Nat.le_of_ble_eq_true rfl, Nat.le_of_ble_eq_true rfl⟩) ⟨PM.blind, va_recv hK hP (ci := 5) (q0 := 0) rfl h0, fun U hU hW => ⟨rfl, by rw [hU]; exact hC.warm hW, by rw [hU], by rw [hU]; exact hP, hD, hZ⟩⟩ rfl rfl hl.1 rfl (lv_room (Nat.le_of_ble_eq_true rfl)) dL_lay_4 ⟨Nat.le_of_ble_eq_true rfl, Nat.le_of_ble_eq_true rfl⟩) hS hsub (fun w1 H1 locs1 q9 ce hR1 hP1 hD1 hS hsz1 hk1 hce hcv hcl => ?_)
  refine vx_catch (name := "java/lang/IllegalArgumentException") hown [] ⟨0, 7, 8, 15⟩ [] hxt (fun z hz => nomatch hz) (by decide) (by decide) (hts _ qw381) (va_Nw.use rfl (hC.2.1 _ qw391)) hce hcv hcl ?_
  refine lv_astore (lv' := (4, .ref q9) :: [(0, .ref x0), (1, .int a1), (2, .int a2), (3, .int a3)]) hx hb dL_lay_8 hl (by decide) rfl (fun ls hl => ?_)
  refine W.widen (k := 5) (n := 70) (by decide) (by decide) ?_
  refine lv_ldc (v := (-2000001)) hx hb hown (hts _ qw544) dL_lay_10 ?_
  exact W.iret hx hb hr (fun t9 ht hW => ⟨w1, hR1, rfl, by rw [ht]; exact hP1, hD1, hS.F ht⟩) hS.2.2 dL_lay_12
abbrev rh_lift : Room := { frames := 11, cells := 5, slots := 70, locals := 363 }
theorem okL_lift : okY yL_lift 3 := ⟨by decide +kernel, by decide +kernel, by decide +kernel⟩
set_option maxHeartbeats 4000000 in
theorem gr_lift (l : Launch) (z0 : Nat) (D : va_G) (t : Nat → ClassId) (x0 : Nat) {w : va_W} {R' : va_W → Prop} {v : Int32} (a1 : Int32) (a2 : Int32) (h0 : ∃ fs, w[0]? = some (x0, .inr (5, fs))) (hu : ∀ sz, UM l yX4_lift cX4_lift 4 (some .int) rm_X4_lift (some (.int v)) z0 D t (.ref x0 :: [.int a1, .int a2]) w sz R' 3 40) (sz : Nat) : Met l yL_lift (wh_ yL_lift cL_lift 4 (some .int) [(0, 6, 7, 21), (0, 6, 11, 23)]) rh_lift (PMH z0 D t [.ref x0, .int a1, .int a2] w (w.map Prod.fst) sz) (QB (fun _ : va_W => some (.int v)) D (fun w9 => w9) R' (w.map Prod.fst) sz) 5 70 (OA (w.map Prod.fst) sz) := by
  refine met_ofWH (cc := cL_lift) (maxL := 4) (ret := (some .int)) (hh := [(0, 6, 7, 21), (0, 6, 11, 23)]) (by decide) rfl ?_
  intro p e s m args below meth c s₁ Bo hml hxt hv
  obtain ⟨rfl, ⟨hC, hN⟩, hsz, hP, hD, hZ⟩ := hv
  have hx := Bo.exec
  have hb := Bo.bytes
  have hr := Bo.returns
  have hts : ∀ w ∈ LA, w.before _ s = true := fun w hw => atoms_spec (ws := (wh_ yL_lift cL_lift 4 (some .int) [(0, 6, 7, 21), (0, 6, 11, 23)])) Bo.pre w (List.mem_cons_of_mem _ hw)
  have hown : s.vm.findClass RL = some m.cls := findClass_of_methodNamed Bo.named
  have hlocks := Bo.notSynchronized
  have hK := hC.1
  subst hsz
  obtain ⟨fs, h0⟩ := h0
  have hsub : ∀ q, OA (w.map Prod.fst) s.heap.size q → OA (w.map Prod.fst) s.heap.size q := fun _ h => h
  have hS : va_S (OA (w.map Prod.fst) s.heap.size) s.heap s.heap [] := va_S.rf
  have hl := lv_entry ([.ref x0, .int a1, .int a2]) (n := 4) (Nat.le_of_ble_eq_true rfl)
  rw [lg_entry_eq]
  generalize (lg_sl ([.ref x0, .int a1, .int a2]) ++ List.replicate (4 - (lg_sl ([.ref x0, .int a1, .int a2])).length) Slot.unset).toArray = ls at hl ⊢
  have hl : lv_has ls 4 [(0, .ref x0), (1, .int a1), (2, .int a2)] := hl
  refine lv_aload_n hx hb dL_lift_0 rfl (lv_at hl 0 rfl) ?_
  refine lv_iload_n hx hb dL_lift_1 rfl (lv_at hl 1 rfl) ?_
  refine lv_iload_n hx hb dL_lift_2 rfl (lv_at hl 2 rfl) ?_
  refine call_Q (va_runV (As := [.int a1, .int a2]) (rest := []) ⟨hx, hb, hml, hown, hts⟩ (hu s.heap.size) (kV hts qw632 qw633 qw634 qw1 qw635 ok_X4_lift ⟨Nat.le_of_ble_eq_true rfl, Nat.le_of_ble_eq_true rfl⟩) ⟨PM.blind, va_recv hK hP (ci := 5) (q0 := 0) rfl h0, fun U hU hW => ⟨rfl, by rw [hU]; exact hC.warm hW, by rw [hU], by rw [hU]; exact hP, hD, hZ⟩⟩ rfl rfl hl.1 rfl (lv_room (Nat.le_of_ble_eq_true rfl)) dL_lift_3 ⟨Nat.le_of_ble_eq_true rfl, Nat.le_of_ble_eq_true rfl⟩) hS hsub (fun w1 H1 locs1 hR1 hP1 hD1 hS hsz1 hk1 => ?_)
  refine W.widen (k := 5) (n := 70) (by decide) (by decide) ?_
  exact W.iret hx hb hr (fun t9 ht hW => ⟨w1, hR1, rfl, by rw [ht]; exact hP1, hD1, hS.F ht⟩) hS.2.2 dL_lift_6
set_option maxHeartbeats 4000000 in
theorem gx1_lift (l : Launch) (z0 : Nat) (D : va_G) (t : Nat → ClassId) (x0 : Nat) {w : va_W} {R' : va_W → Prop} (a1 : Int32) (a2 : Int32) (h0 : ∃ fs, w[0]? = some (x0, .inr (5, fs))) (hu : ∀ sz, UX l yX4_lift cX4_lift 4 (some .int) rx_X4_lift IOE z0 D t (.ref x0 :: [.int a1, .int a2]) w sz R' 4 46) (sz : Nat) : Met l yL_lift (wh_ yL_lift cL_lift 4 (some .int) [(0, 6, 7, 21), (0, 6, 11, 23)]) rh_lift (PMH z0 D t [.ref x0, .int a1, .int a2] w (w.map Prod.fst) sz) (QB (fun _ : va_W => some (.int (-2000001))) D (fun w9 => w9) R' (w.map Prod.fst) sz) 5 70 (OA (w.map Prod.fst) sz) := by
  refine met_ofWH (cc := cL_lift) (maxL := 4) (ret := (some .int)) (hh := [(0, 6, 7, 21), (0, 6, 11, 23)]) (by decide) rfl ?_
  intro p e s m args below meth c s₁ Bo hml hxt hv
  obtain ⟨rfl, ⟨hC, hN⟩, hsz, hP, hD, hZ⟩ := hv
  have hx := Bo.exec
  have hb := Bo.bytes
  have hr := Bo.returns
  have hts : ∀ w ∈ LA, w.before _ s = true := fun w hw => atoms_spec (ws := (wh_ yL_lift cL_lift 4 (some .int) [(0, 6, 7, 21), (0, 6, 11, 23)])) Bo.pre w (List.mem_cons_of_mem _ hw)
  have hown : s.vm.findClass RL = some m.cls := findClass_of_methodNamed Bo.named
  have hlocks := Bo.notSynchronized
  have hK := hC.1
  subst hsz
  obtain ⟨fs, h0⟩ := h0
  have hsub : ∀ q, OA (w.map Prod.fst) s.heap.size q → OA (w.map Prod.fst) s.heap.size q := fun _ h => h
  have hS : va_S (OA (w.map Prod.fst) s.heap.size) s.heap s.heap [] := va_S.rf
  have hl := lv_entry ([.ref x0, .int a1, .int a2]) (n := 4) (Nat.le_of_ble_eq_true rfl)
  rw [lg_entry_eq]
  generalize (lg_sl ([.ref x0, .int a1, .int a2]) ++ List.replicate (4 - (lg_sl ([.ref x0, .int a1, .int a2])).length) Slot.unset).toArray = ls at hl ⊢
  have hl : lv_has ls 4 [(0, .ref x0), (1, .int a1), (2, .int a2)] := hl
  refine lv_aload_n hx hb dL_lift_0 rfl (lv_at hl 0 rfl) ?_
  refine lv_iload_n hx hb dL_lift_1 rfl (lv_at hl 1 rfl) ?_
  refine lv_iload_n hx hb dL_lift_2 rfl (lv_at hl 2 rfl) ?_
  refine call_XB (vx_runV (As := [.int a1, .int a2]) (rest := []) ⟨hx, hb, hml, hown, hts⟩ (hu s.heap.size) (kV hts qw632 qw633 qw634 qw1 qw635 ok_X4_lift ⟨Nat.le_of_ble_eq_true rfl, Nat.le_of_ble_eq_true rfl⟩) ⟨PM.blind, va_recv hK hP (ci := 5) (q0 := 0) rfl h0, fun U hU hW => ⟨rfl, by rw [hU]; exact hC.warm hW, by rw [hU], by rw [hU]; exact hP, hD, hZ⟩⟩ rfl rfl hl.1 rfl (lv_room (Nat.le_of_ble_eq_true rfl)) dL_lift_3 ⟨Nat.le_of_ble_eq_true rfl, Nat.le_of_ble_eq_true rfl⟩) hS hsub (fun w1 H1 locs1 q9 ce hR1 hP1 hD1 hS hsz1 hk1 hce hcv hcl => ?_)
  refine vx_catch (name := "java/lang/IndexOutOfBoundsException") hown [] ⟨0, 6, 7, 21⟩ [⟨0, 6, 11, 23⟩] hxt (fun z hz => nomatch hz) (by decide) (by decide) (hts _ qw548) (va_Nw.use rfl (hC.2.1 _ qw564)) hce hcv hcl ?_
  refine lv_astore_n (lv' := (3, .ref q9) :: [(0, .ref x0), (1, .int a1), (2, .int a2)]) hx hb dL_lift_7 rfl hl (by decide) rfl (fun ls hl => ?_)
  refine W.widen (k := 5) (n := 70) (by decide) (by decide) ?_
  refine lv_ldc (v := (-2000001)) hx hb hown (hts _ qw544) dL_lift_8 ?_
  exact W.iret hx hb hr (fun t9 ht hW => ⟨w1, hR1, rfl, by rw [ht]; exact hP1, hD1, hS.F ht⟩) hS.2.2 dL_lift_10
set_option maxHeartbeats 4000000 in
theorem gx2_lift (l : Launch) (z0 : Nat) (D : va_G) (t : Nat → ClassId) (x0 : Nat) {w : va_W} {R' : va_W → Prop} (a1 : Int32) (a2 : Int32) (h0 : ∃ fs, w[0]? = some (x0, .inr (5, fs))) (hu : ∀ sz, UX l yX4_lift cX4_lift 4 (some .int) rx_X4_lift ISE z0 D t (.ref x0 :: [.int a1, .int a2]) w sz R' 4 46) (sz : Nat) : Met l yL_lift (wh_ yL_lift cL_lift 4 (some .int) [(0, 6, 7, 21), (0, 6, 11, 23)]) rh_lift (PMH z0 D t [.ref x0, .int a1, .int a2] w (w.map Prod.fst) sz) (QB (fun _ : va_W => some (.int (-2000002))) D (fun w9 => w9) R' (w.map Prod.fst) sz) 5 70 (OA (w.map Prod.fst) sz) := by
  refine met_ofWH (cc := cL_lift) (maxL := 4) (ret := (some .int)) (hh := [(0, 6, 7, 21), (0, 6, 11, 23)]) (by decide) rfl ?_
  intro p e s m args below meth c s₁ Bo hml hxt hv
  obtain ⟨rfl, ⟨hC, hN⟩, hsz, hP, hD, hZ⟩ := hv
  have hx := Bo.exec
  have hb := Bo.bytes
  have hr := Bo.returns
  have hts : ∀ w ∈ LA, w.before _ s = true := fun w hw => atoms_spec (ws := (wh_ yL_lift cL_lift 4 (some .int) [(0, 6, 7, 21), (0, 6, 11, 23)])) Bo.pre w (List.mem_cons_of_mem _ hw)
  have hown : s.vm.findClass RL = some m.cls := findClass_of_methodNamed Bo.named
  have hlocks := Bo.notSynchronized
  have hK := hC.1
  subst hsz
  obtain ⟨fs, h0⟩ := h0
  have hsub : ∀ q, OA (w.map Prod.fst) s.heap.size q → OA (w.map Prod.fst) s.heap.size q := fun _ h => h
  have hS : va_S (OA (w.map Prod.fst) s.heap.size) s.heap s.heap [] := va_S.rf
  have hl := lv_entry ([.ref x0, .int a1, .int a2]) (n := 4) (Nat.le_of_ble_eq_true rfl)
  rw [lg_entry_eq]
  generalize (lg_sl ([.ref x0, .int a1, .int a2]) ++ List.replicate (4 - (lg_sl ([.ref x0, .int a1, .int a2])).length) Slot.unset).toArray = ls at hl ⊢
  have hl : lv_has ls 4 [(0, .ref x0), (1, .int a1), (2, .int a2)] := hl
  refine lv_aload_n hx hb dL_lift_0 rfl (lv_at hl 0 rfl) ?_
  refine lv_iload_n hx hb dL_lift_1 rfl (lv_at hl 1 rfl) ?_
  refine lv_iload_n hx hb dL_lift_2 rfl (lv_at hl 2 rfl) ?_
  refine call_XB (vx_runV (As := [.int a1, .int a2]) (rest := []) ⟨hx, hb, hml, hown, hts⟩ (hu s.heap.size) (kV hts qw632 qw633 qw634 qw1 qw635 ok_X4_lift ⟨Nat.le_of_ble_eq_true rfl, Nat.le_of_ble_eq_true rfl⟩) ⟨PM.blind, va_recv hK hP (ci := 5) (q0 := 0) rfl h0, fun U hU hW => ⟨rfl, by rw [hU]; exact hC.warm hW, by rw [hU], by rw [hU]; exact hP, hD, hZ⟩⟩ rfl rfl hl.1 rfl (lv_room (Nat.le_of_ble_eq_true rfl)) dL_lift_3 ⟨Nat.le_of_ble_eq_true rfl, Nat.le_of_ble_eq_true rfl⟩) hS hsub (fun w1 H1 locs1 q9 ce hR1 hP1 hD1 hS hsz1 hk1 hce hcv hcl => ?_)
  refine vx_catch (name := "java/lang/IllegalStateException") hown [⟨0, 6, 7, 21⟩] ⟨0, 6, 11, 23⟩ [] hxt (fun z hz => by
      cases List.mem_singleton.mp hz
      exact Or.inr ⟨by decide, IOE, hts _ qw548, hN.2.1⟩) (by decide) (by decide) (hts _ qw549) (va_Nw.use rfl (hC.2.1 _ qw581)) hce hcv hcl ?_
  refine lv_astore_n (lv' := (3, .ref q9) :: [(0, .ref x0), (1, .int a1), (2, .int a2)]) hx hb dL_lift_11 rfl hl (by decide) rfl (fun ls hl => ?_)
  refine W.widen (k := 5) (n := 70) (by decide) (by decide) ?_
  refine lv_ldc (v := (-2000002)) hx hb hown (hts _ qw595) dL_lift_12 ?_
  exact W.iret hx hb hr (fun t9 ht hW => ⟨w1, hR1, rfl, by rw [ht]; exact hP1, hD1, hS.F ht⟩) hS.2.2 dL_lift_14
abbrev rh_flip : Room := { frames := 11, cells := 5, slots := 70, locals := 363 }
theorem okL_flip : okY yL_flip 4 := ⟨by decide +kernel, by decide +kernel, by decide +kernel⟩
set_option maxHeartbeats 4000000 in
theorem gr_flip (l : Launch) (z0 : Nat) (D : va_G) (t : Nat → ClassId) (x0 : Nat) {w : va_W} {R' : va_W → Prop} {v : Int32} (a1 : Int32) (a2 : Int32) (a3 : Int32) (h0 : ∃ fs, w[0]? = some (x0, .inr (5, fs))) (hu : ∀ sz, UM l yX4_flip cX4_flip 4 (some .int) rm_X4_flip (some (.int v)) z0 D t (.ref x0 :: [.int a1, .int a2, .int a3]) w sz R' 3 40) (sz : Nat) : Met l yL_flip (wh_ yL_flip cL_flip 5 (some .int) [(0, 7, 8, 21), (0, 7, 13, 23)]) rh_flip (PMH z0 D t [.ref x0, .int a1, .int a2, .int a3] w (w.map Prod.fst) sz) (QB (fun _ : va_W => some (.int v)) D (fun w9 => w9) R' (w.map Prod.fst) sz) 5 70 (OA (w.map Prod.fst) sz) := by
  refine met_ofWH (cc := cL_flip) (maxL := 5) (ret := (some .int)) (hh := [(0, 7, 8, 21), (0, 7, 13, 23)]) (by decide) rfl ?_
  intro p e s m args below meth c s₁ Bo hml hxt hv
  obtain ⟨rfl, ⟨hC, hN⟩, hsz, hP, hD, hZ⟩ := hv
  have hx := Bo.exec
  have hb := Bo.bytes
  have hr := Bo.returns
  have hts : ∀ w ∈ LA, w.before _ s = true := fun w hw => atoms_spec (ws := (wh_ yL_flip cL_flip 5 (some .int) [(0, 7, 8, 21), (0, 7, 13, 23)])) Bo.pre w (List.mem_cons_of_mem _ hw)
  have hown : s.vm.findClass RL = some m.cls := findClass_of_methodNamed Bo.named
  have hlocks := Bo.notSynchronized
  have hK := hC.1
  subst hsz
  obtain ⟨fs, h0⟩ := h0
  have hsub : ∀ q, OA (w.map Prod.fst) s.heap.size q → OA (w.map Prod.fst) s.heap.size q := fun _ h => h
  have hS : va_S (OA (w.map Prod.fst) s.heap.size) s.heap s.heap [] := va_S.rf
  have hl := lv_entry ([.ref x0, .int a1, .int a2, .int a3]) (n := 5) (Nat.le_of_ble_eq_true rfl)
  rw [lg_entry_eq]
  generalize (lg_sl ([.ref x0, .int a1, .int a2, .int a3]) ++ List.replicate (5 - (lg_sl ([.ref x0, .int a1, .int a2, .int a3])).length) Slot.unset).toArray = ls at hl ⊢
  have hl : lv_has ls 5 [(0, .ref x0), (1, .int a1), (2, .int a2), (3, .int a3)] := hl
  refine lv_aload_n hx hb dL_flip_0 rfl (lv_at hl 0 rfl) ?_
  refine lv_iload_n hx hb dL_flip_1 rfl (lv_at hl 1 rfl) ?_
  refine lv_iload_n hx hb dL_flip_2 rfl (lv_at hl 2 rfl) ?_
  refine lv_iload_n hx hb dL_flip_3 rfl (lv_at hl 3 rfl) ?_
  refine call_Q (va_runV (As := [.int a1, .int a2, .int a3]) (rest := []) ⟨hx, hb, hml, hown, hts⟩ (hu s.heap.size) (kV hts qw665 qw666 qw667 qw1 qw668 ok_X4_flip ⟨Nat.le_of_ble_eq_true rfl, Nat.le_of_ble_eq_true rfl⟩) ⟨PM.blind, va_recv hK hP (ci := 5) (q0 := 0) rfl h0, fun U hU hW => ⟨rfl, by rw [hU]; exact hC.warm hW, by rw [hU], by rw [hU]; exact hP, hD, hZ⟩⟩ rfl rfl hl.1 rfl (lv_room (Nat.le_of_ble_eq_true rfl)) dL_flip_4 ⟨Nat.le_of_ble_eq_true rfl, Nat.le_of_ble_eq_true rfl⟩) hS hsub (fun w1 H1 locs1 hR1 hP1 hD1 hS hsz1 hk1 => ?_)
  refine W.widen (k := 5) (n := 70) (by decide) (by decide) ?_
  exact W.iret hx hb hr (fun t9 ht hW => ⟨w1, hR1, rfl, by rw [ht]; exact hP1, hD1, hS.F ht⟩) hS.2.2 dL_flip_7
set_option maxHeartbeats 4000000 in
theorem gx1_flip (l : Launch) (z0 : Nat) (D : va_G) (t : Nat → ClassId) (x0 : Nat) {w : va_W} {R' : va_W → Prop} (a1 : Int32) (a2 : Int32) (a3 : Int32) (h0 : ∃ fs, w[0]? = some (x0, .inr (5, fs))) (hu : ∀ sz, UX l yX4_flip cX4_flip 4 (some .int) rx_X4_flip IOE z0 D t (.ref x0 :: [.int a1, .int a2, .int a3]) w sz R' 4 46) (sz : Nat) : Met l yL_flip (wh_ yL_flip cL_flip 5 (some .int) [(0, 7, 8, 21), (0, 7, 13, 23)]) rh_flip (PMH z0 D t [.ref x0, .int a1, .int a2, .int a3] w (w.map Prod.fst) sz) (QB (fun _ : va_W => some (.int (-2000001))) D (fun w9 => w9) R' (w.map Prod.fst) sz) 5 70 (OA (w.map Prod.fst) sz) := by
  refine met_ofWH (cc := cL_flip) (maxL := 5) (ret := (some .int)) (hh := [(0, 7, 8, 21), (0, 7, 13, 23)]) (by decide) rfl ?_
  intro p e s m args below meth c s₁ Bo hml hxt hv
  obtain ⟨rfl, ⟨hC, hN⟩, hsz, hP, hD, hZ⟩ := hv
  have hx := Bo.exec
  have hb := Bo.bytes
  have hr := Bo.returns
  have hts : ∀ w ∈ LA, w.before _ s = true := fun w hw => atoms_spec (ws := (wh_ yL_flip cL_flip 5 (some .int) [(0, 7, 8, 21), (0, 7, 13, 23)])) Bo.pre w (List.mem_cons_of_mem _ hw)
  have hown : s.vm.findClass RL = some m.cls := findClass_of_methodNamed Bo.named
  have hlocks := Bo.notSynchronized
  have hK := hC.1
  subst hsz
  obtain ⟨fs, h0⟩ := h0
  have hsub : ∀ q, OA (w.map Prod.fst) s.heap.size q → OA (w.map Prod.fst) s.heap.size q := fun _ h => h
  have hS : va_S (OA (w.map Prod.fst) s.heap.size) s.heap s.heap [] := va_S.rf
  have hl := lv_entry ([.ref x0, .int a1, .int a2, .int a3]) (n := 5) (Nat.le_of_ble_eq_true rfl)
  rw [lg_entry_eq]
  generalize (lg_sl ([.ref x0, .int a1, .int a2, .int a3]) ++ List.replicate (5 - (lg_sl ([.ref x0, .int a1, .int a2, .int a3])).length) Slot.unset).toArray = ls at hl ⊢
  have hl : lv_has ls 5 [(0, .ref x0), (1, .int a1), (2, .int a2), (3, .int a3)] := hl
  refine lv_aload_n hx hb dL_flip_0 rfl (lv_at hl 0 rfl) ?_
  refine lv_iload_n hx hb dL_flip_1 rfl (lv_at hl 1 rfl) ?_
  refine lv_iload_n hx hb dL_flip_2 rfl (lv_at hl 2 rfl) ?_
  refine lv_iload_n hx hb dL_flip_3 rfl (lv_at hl 3 rfl) ?_
  refine call_XB (vx_runV (As := [.int a1, .int a2, .int a3]) (rest := []) ⟨hx, hb, hml, hown, hts⟩ (hu s.heap.size) (kV hts qw665 qw666 qw667 qw1 qw668 ok_X4_flip ⟨Nat.le_of_ble_eq_true rfl, Nat.le_of_ble_eq_true rfl⟩) ⟨PM.blind, va_recv hK hP (ci := 5) (q0 := 0) rfl h0, fun U hU hW => ⟨rfl, by rw [hU]; exact hC.warm hW, by rw [hU], by rw [hU]; exact hP, hD, hZ⟩⟩ rfl rfl hl.1 rfl (lv_room (Nat.le_of_ble_eq_true rfl)) dL_flip_4 ⟨Nat.le_of_ble_eq_true rfl, Nat.le_of_ble_eq_true rfl⟩) hS hsub (fun w1 H1 locs1 q9 ce hR1 hP1 hD1 hS hsz1 hk1 hce hcv hcl => ?_)
  refine vx_catch (name := "java/lang/IndexOutOfBoundsException") hown [] ⟨0, 7, 8, 21⟩ [⟨0, 7, 13, 23⟩] hxt (fun z hz => nomatch hz) (by decide) (by decide) (hts _ qw548) (va_Nw.use rfl (hC.2.1 _ qw564)) hce hcv hcl ?_
  refine lv_astore (lv' := (4, .ref q9) :: [(0, .ref x0), (1, .int a1), (2, .int a2), (3, .int a3)]) hx hb dL_flip_8 hl (by decide) rfl (fun ls hl => ?_)
  refine W.widen (k := 5) (n := 70) (by decide) (by decide) ?_
  refine lv_ldc (v := (-2000001)) hx hb hown (hts _ qw544) dL_flip_10 ?_
  exact W.iret hx hb hr (fun t9 ht hW => ⟨w1, hR1, rfl, by rw [ht]; exact hP1, hD1, hS.F ht⟩) hS.2.2 dL_flip_12
set_option maxHeartbeats 4000000 in
theorem gx2_flip (l : Launch) (z0 : Nat) (D : va_G) (t : Nat → ClassId) (x0 : Nat) {w : va_W} {R' : va_W → Prop} (a1 : Int32) (a2 : Int32) (a3 : Int32) (h0 : ∃ fs, w[0]? = some (x0, .inr (5, fs))) (hu : ∀ sz, UX l yX4_flip cX4_flip 4 (some .int) rx_X4_flip ISE z0 D t (.ref x0 :: [.int a1, .int a2, .int a3]) w sz R' 4 46) (sz : Nat) : Met l yL_flip (wh_ yL_flip cL_flip 5 (some .int) [(0, 7, 8, 21), (0, 7, 13, 23)]) rh_flip (PMH z0 D t [.ref x0, .int a1, .int a2, .int a3] w (w.map Prod.fst) sz) (QB (fun _ : va_W => some (.int (-2000002))) D (fun w9 => w9) R' (w.map Prod.fst) sz) 5 70 (OA (w.map Prod.fst) sz) := by
  refine met_ofWH (cc := cL_flip) (maxL := 5) (ret := (some .int)) (hh := [(0, 7, 8, 21), (0, 7, 13, 23)]) (by decide) rfl ?_
  intro p e s m args below meth c s₁ Bo hml hxt hv
  obtain ⟨rfl, ⟨hC, hN⟩, hsz, hP, hD, hZ⟩ := hv
  have hx := Bo.exec
  have hb := Bo.bytes
  have hr := Bo.returns
  have hts : ∀ w ∈ LA, w.before _ s = true := fun w hw => atoms_spec (ws := (wh_ yL_flip cL_flip 5 (some .int) [(0, 7, 8, 21), (0, 7, 13, 23)])) Bo.pre w (List.mem_cons_of_mem _ hw)
  have hown : s.vm.findClass RL = some m.cls := findClass_of_methodNamed Bo.named
  have hlocks := Bo.notSynchronized
  have hK := hC.1
  subst hsz
  obtain ⟨fs, h0⟩ := h0
  have hsub : ∀ q, OA (w.map Prod.fst) s.heap.size q → OA (w.map Prod.fst) s.heap.size q := fun _ h => h
  have hS : va_S (OA (w.map Prod.fst) s.heap.size) s.heap s.heap [] := va_S.rf
  have hl := lv_entry ([.ref x0, .int a1, .int a2, .int a3]) (n := 5) (Nat.le_of_ble_eq_true rfl)
  rw [lg_entry_eq]
  generalize (lg_sl ([.ref x0, .int a1, .int a2, .int a3]) ++ List.replicate (5 - (lg_sl ([.ref x0, .int a1, .int a2, .int a3])).length) Slot.unset).toArray = ls at hl ⊢
  have hl : lv_has ls 5 [(0, .ref x0), (1, .int a1), (2, .int a2), (3, .int a3)] := hl
  refine lv_aload_n hx hb dL_flip_0 rfl (lv_at hl 0 rfl) ?_
  refine lv_iload_n hx hb dL_flip_1 rfl (lv_at hl 1 rfl) ?_
  refine lv_iload_n hx hb dL_flip_2 rfl (lv_at hl 2 rfl) ?_
  refine lv_iload_n hx hb dL_flip_3 rfl (lv_at hl 3 rfl) ?_
  refine call_XB (vx_runV (As := [.int a1, .int a2, .int a3]) (rest := []) ⟨hx, hb, hml, hown, hts⟩ (hu s.heap.size) (kV hts qw665 qw666 qw667 qw1 qw668 ok_X4_flip ⟨Nat.le_of_ble_eq_true rfl, Nat.le_of_ble_eq_true rfl⟩) ⟨PM.blind, va_recv hK hP (ci := 5) (q0 := 0) rfl h0, fun U hU hW => ⟨rfl, by rw [hU]; exact hC.warm hW, by rw [hU], by rw [hU]; exact hP, hD, hZ⟩⟩ rfl rfl hl.1 rfl (lv_room (Nat.le_of_ble_eq_true rfl)) dL_flip_4 ⟨Nat.le_of_ble_eq_true rfl, Nat.le_of_ble_eq_true rfl⟩) hS hsub (fun w1 H1 locs1 q9 ce hR1 hP1 hD1 hS hsz1 hk1 hce hcv hcl => ?_)
  refine vx_catch (name := "java/lang/IllegalStateException") hown [⟨0, 7, 8, 21⟩] ⟨0, 7, 13, 23⟩ [] hxt (fun z hz => by
      cases List.mem_singleton.mp hz
      exact Or.inr ⟨by decide, IOE, hts _ qw548, hN.2.1⟩) (by decide) (by decide) (hts _ qw549) (va_Nw.use rfl (hC.2.1 _ qw581)) hce hcv hcl ?_
  refine lv_astore (lv' := (4, .ref q9) :: [(0, .ref x0), (1, .int a1), (2, .int a2), (3, .int a3)]) hx hb dL_flip_13 hl (by decide) rfl (fun ls hl => ?_)
  refine W.widen (k := 5) (n := 70) (by decide) (by decide) ?_
  refine lv_ldc (v := (-2000002)) hx hb hown (hts _ qw595) dL_flip_15 ?_
  exact W.iret hx hb hr (fun t9 ht hW => ⟨w1, hR1, rfl, by rw [ht]; exact hP1, hD1, hS.F ht⟩) hS.2.2 dL_flip_17
abbrev rh_fill : Room := { frames := 11, cells := 5, slots := 70, locals := 361 }
theorem okL_fill : okY yL_fill 1 := ⟨by decide +kernel, by decide +kernel, by decide +kernel⟩
set_option maxHeartbeats 4000000 in
theorem gr_fill (l : Launch) (z0 : Nat) (D : va_G) (t : Nat → ClassId) (x0 : Nat) {w : va_W} {R' : va_W → Prop} {v : Int32} (h0 : ∃ fs, w[0]? = some (x0, .inr (5, fs))) (hu : ∀ sz, UM l yX4_fill cX4_fill 2 (some .int) rm_X4_fill (some (.int v)) z0 D t (.ref x0 :: []) w sz R' 3 40) (sz : Nat) : Met l yL_fill (wh_ yL_fill cL_fill 2 (some .int) [(0, 4, 5, 23)]) rh_fill (PMH z0 D t [.ref x0] w (w.map Prod.fst) sz) (QB (fun _ : va_W => some (.int v)) D (fun w9 => w9) R' (w.map Prod.fst) sz) 5 70 (OA (w.map Prod.fst) sz) := by
  refine met_ofWH (cc := cL_fill) (maxL := 2) (ret := (some .int)) (hh := [(0, 4, 5, 23)]) (by decide) rfl ?_
  intro p e s m args below meth c s₁ Bo hml hxt hv
  obtain ⟨rfl, ⟨hC, hN⟩, hsz, hP, hD, hZ⟩ := hv
  have hx := Bo.exec
  have hb := Bo.bytes
  have hr := Bo.returns
  have hts : ∀ w ∈ LA, w.before _ s = true := fun w hw => atoms_spec (ws := (wh_ yL_fill cL_fill 2 (some .int) [(0, 4, 5, 23)])) Bo.pre w (List.mem_cons_of_mem _ hw)
  have hown : s.vm.findClass RL = some m.cls := findClass_of_methodNamed Bo.named
  have hlocks := Bo.notSynchronized
  have hK := hC.1
  subst hsz
  obtain ⟨fs, h0⟩ := h0
  have hsub : ∀ q, OA (w.map Prod.fst) s.heap.size q → OA (w.map Prod.fst) s.heap.size q := fun _ h => h
  have hS : va_S (OA (w.map Prod.fst) s.heap.size) s.heap s.heap [] := va_S.rf
  have hl := lv_entry ([.ref x0]) (n := 2) (Nat.le_of_ble_eq_true rfl)
  rw [lg_entry_eq]
  generalize (lg_sl ([.ref x0]) ++ List.replicate (2 - (lg_sl ([.ref x0])).length) Slot.unset).toArray = ls at hl ⊢
  have hl : lv_has ls 2 [(0, .ref x0)] := hl
  refine lv_aload_n hx hb dL_fill_0 rfl (lv_at hl 0 rfl) ?_
  refine call_Q (va_runV (As := []) (rest := []) ⟨hx, hb, hml, hown, hts⟩ (hu s.heap.size) (kV hts qw858 qw859 qw860 qw1 qw861 ok_X4_fill ⟨Nat.le_of_ble_eq_true rfl, Nat.le_of_ble_eq_true rfl⟩) ⟨PM.blind, va_recv hK hP (ci := 5) (q0 := 0) rfl h0, fun U hU hW => ⟨rfl, by rw [hU]; exact hC.warm hW, by rw [hU], by rw [hU]; exact hP, hD, hZ⟩⟩ rfl rfl hl.1 rfl (lv_room (Nat.le_of_ble_eq_true rfl)) dL_fill_1 ⟨Nat.le_of_ble_eq_true rfl, Nat.le_of_ble_eq_true rfl⟩) hS hsub (fun w1 H1 locs1 hR1 hP1 hD1 hS hsz1 hk1 => ?_)
  refine W.widen (k := 5) (n := 70) (by decide) (by decide) ?_
  exact W.iret hx hb hr (fun t9 ht hW => ⟨w1, hR1, rfl, by rw [ht]; exact hP1, hD1, hS.F ht⟩) hS.2.2 dL_fill_4
set_option maxHeartbeats 4000000 in
theorem gx1_fill (l : Launch) (z0 : Nat) (D : va_G) (t : Nat → ClassId) (x0 : Nat) {w : va_W} {R' : va_W → Prop} (h0 : ∃ fs, w[0]? = some (x0, .inr (5, fs))) (hu : ∀ sz, UX l yX4_fill cX4_fill 2 (some .int) rx_X4_fill ISE z0 D t (.ref x0 :: []) w sz R' 4 46) (sz : Nat) : Met l yL_fill (wh_ yL_fill cL_fill 2 (some .int) [(0, 4, 5, 23)]) rh_fill (PMH z0 D t [.ref x0] w (w.map Prod.fst) sz) (QB (fun _ : va_W => some (.int (-2000001))) D (fun w9 => w9) R' (w.map Prod.fst) sz) 5 70 (OA (w.map Prod.fst) sz) := by
  refine met_ofWH (cc := cL_fill) (maxL := 2) (ret := (some .int)) (hh := [(0, 4, 5, 23)]) (by decide) rfl ?_
  intro p e s m args below meth c s₁ Bo hml hxt hv
  obtain ⟨rfl, ⟨hC, hN⟩, hsz, hP, hD, hZ⟩ := hv
  have hx := Bo.exec
  have hb := Bo.bytes
  have hr := Bo.returns
  have hts : ∀ w ∈ LA, w.before _ s = true := fun w hw => atoms_spec (ws := (wh_ yL_fill cL_fill 2 (some .int) [(0, 4, 5, 23)])) Bo.pre w (List.mem_cons_of_mem _ hw)
  have hown : s.vm.findClass RL = some m.cls := findClass_of_methodNamed Bo.named
  have hlocks := Bo.notSynchronized
  have hK := hC.1
  subst hsz
  obtain ⟨fs, h0⟩ := h0
  have hsub : ∀ q, OA (w.map Prod.fst) s.heap.size q → OA (w.map Prod.fst) s.heap.size q := fun _ h => h
  have hS : va_S (OA (w.map Prod.fst) s.heap.size) s.heap s.heap [] := va_S.rf
  have hl := lv_entry ([.ref x0]) (n := 2) (Nat.le_of_ble_eq_true rfl)
  rw [lg_entry_eq]
  generalize (lg_sl ([.ref x0]) ++ List.replicate (2 - (lg_sl ([.ref x0])).length) Slot.unset).toArray = ls at hl ⊢
  have hl : lv_has ls 2 [(0, .ref x0)] := hl
  refine lv_aload_n hx hb dL_fill_0 rfl (lv_at hl 0 rfl) ?_
  refine call_XB (vx_runV (As := []) (rest := []) ⟨hx, hb, hml, hown, hts⟩ (hu s.heap.size) (kV hts qw858 qw859 qw860 qw1 qw861 ok_X4_fill ⟨Nat.le_of_ble_eq_true rfl, Nat.le_of_ble_eq_true rfl⟩) ⟨PM.blind, va_recv hK hP (ci := 5) (q0 := 0) rfl h0, fun U hU hW => ⟨rfl, by rw [hU]; exact hC.warm hW, by rw [hU], by rw [hU]; exact hP, hD, hZ⟩⟩ rfl rfl hl.1 rfl (lv_room (Nat.le_of_ble_eq_true rfl)) dL_fill_1 ⟨Nat.le_of_ble_eq_true rfl, Nat.le_of_ble_eq_true rfl⟩) hS hsub (fun w1 H1 locs1 q9 ce hR1 hP1 hD1 hS hsz1 hk1 hce hcv hcl => ?_)
  refine vx_catch (name := "java/lang/IllegalStateException") hown [] ⟨0, 4, 5, 23⟩ [] hxt (fun z hz => nomatch hz) (by decide) (by decide) (hts _ qw549) (va_Nw.use rfl (hC.2.1 _ qw581)) hce hcv hcl ?_
  refine lv_astore_n (lv' := (1, .ref q9) :: [(0, .ref x0)]) hx hb dL_fill_5 rfl hl (by decide) rfl (fun ls hl => ?_)
  refine W.widen (k := 5) (n := 70) (by decide) (by decide) ?_
  refine lv_ldc (v := (-2000001)) hx hb hown (hts _ qw544) dL_fill_6 ?_
  exact W.iret hx hb hr (fun t9 ht hW => ⟨w1, hR1, rfl, by rw [ht]; exact hP1, hD1, hS.F ht⟩) hS.2.2 dL_fill_8
abbrev rh_halve : Room := { frames := 11, cells := 5, slots := 70, locals := 360 }
theorem okL_halve : okY yL_halve 1 := ⟨by decide +kernel, by decide +kernel, by decide +kernel⟩
set_option maxHeartbeats 4000000 in
theorem gr_halve (l : Launch) (z0 : Nat) (D : va_G) (t : Nat → ClassId) (x0 : Nat) {w : va_W} {R' : va_W → Prop} {v : Int32} (h0 : ∃ fs, w[0]? = some (x0, .inr (5, fs))) (hu : ∀ sz, UM l yX4_halve cX4_halve 1 (some .int) rm_X4_halve (some (.int v)) z0 D t (.ref x0 :: []) w sz R' 3 40) (sz : Nat) : Met l yL_halve (wh_ yL_halve cL_halve 2 (some .int) [(0, 4, 5, 23)]) rh_halve (PMH z0 D t [.ref x0] w (w.map Prod.fst) sz) (QB (fun _ : va_W => some (.int v)) D (fun w9 => w9) R' (w.map Prod.fst) sz) 5 70 (OA (w.map Prod.fst) sz) := by
  refine met_ofWH (cc := cL_halve) (maxL := 2) (ret := (some .int)) (hh := [(0, 4, 5, 23)]) (by decide) rfl ?_
  intro p e s m args below meth c s₁ Bo hml hxt hv
  obtain ⟨rfl, ⟨hC, hN⟩, hsz, hP, hD, hZ⟩ := hv
  have hx := Bo.exec
  have hb := Bo.bytes
  have hr := Bo.returns
  have hts : ∀ w ∈ LA, w.before _ s = true := fun w hw => atoms_spec (ws := (wh_ yL_halve cL_halve 2 (some .int) [(0, 4, 5, 23)])) Bo.pre w (List.mem_cons_of_mem _ hw)
  have hown : s.vm.findClass RL = some m.cls := findClass_of_methodNamed Bo.named
  have hlocks := Bo.notSynchronized
  have hK := hC.1
  subst hsz
  obtain ⟨fs, h0⟩ := h0
  have hsub : ∀ q, OA (w.map Prod.fst) s.heap.size q → OA (w.map Prod.fst) s.heap.size q := fun _ h => h
  have hS : va_S (OA (w.map Prod.fst) s.heap.size) s.heap s.heap [] := va_S.rf
  have hl := lv_entry ([.ref x0]) (n := 2) (Nat.le_of_ble_eq_true rfl)
  rw [lg_entry_eq]
  generalize (lg_sl ([.ref x0]) ++ List.replicate (2 - (lg_sl ([.ref x0])).length) Slot.unset).toArray = ls at hl ⊢
  have hl : lv_has ls 2 [(0, .ref x0)] := hl
  refine lv_aload_n hx hb dL_halve_0 rfl (lv_at hl 0 rfl) ?_
  refine call_Q (va_runV (As := []) (rest := []) ⟨hx, hb, hml, hown, hts⟩ (hu s.heap.size) (kV hts qw876 qw877 qw878 qw1 qw879 ok_X4_halve ⟨Nat.le_of_ble_eq_true rfl, Nat.le_of_ble_eq_true rfl⟩) ⟨PM.blind, va_recv hK hP (ci := 5) (q0 := 0) rfl h0, fun U hU hW => ⟨rfl, by rw [hU]; exact hC.warm hW, by rw [hU], by rw [hU]; exact hP, hD, hZ⟩⟩ rfl rfl hl.1 rfl (lv_room (Nat.le_of_ble_eq_true rfl)) dL_halve_1 ⟨Nat.le_of_ble_eq_true rfl, Nat.le_of_ble_eq_true rfl⟩) hS hsub (fun w1 H1 locs1 hR1 hP1 hD1 hS hsz1 hk1 => ?_)
  refine W.widen (k := 5) (n := 70) (by decide) (by decide) ?_
  exact W.iret hx hb hr (fun t9 ht hW => ⟨w1, hR1, rfl, by rw [ht]; exact hP1, hD1, hS.F ht⟩) hS.2.2 dL_halve_4
set_option maxHeartbeats 4000000 in
theorem gx1_halve (l : Launch) (z0 : Nat) (D : va_G) (t : Nat → ClassId) (x0 : Nat) {w : va_W} {R' : va_W → Prop} (h0 : ∃ fs, w[0]? = some (x0, .inr (5, fs))) (hu : ∀ sz, UX l yX4_halve cX4_halve 1 (some .int) rx_X4_halve ISE z0 D t (.ref x0 :: []) w sz R' 4 46) (sz : Nat) : Met l yL_halve (wh_ yL_halve cL_halve 2 (some .int) [(0, 4, 5, 23)]) rh_halve (PMH z0 D t [.ref x0] w (w.map Prod.fst) sz) (QB (fun _ : va_W => some (.int (-2000001))) D (fun w9 => w9) R' (w.map Prod.fst) sz) 5 70 (OA (w.map Prod.fst) sz) := by
  refine met_ofWH (cc := cL_halve) (maxL := 2) (ret := (some .int)) (hh := [(0, 4, 5, 23)]) (by decide) rfl ?_
  intro p e s m args below meth c s₁ Bo hml hxt hv
  obtain ⟨rfl, ⟨hC, hN⟩, hsz, hP, hD, hZ⟩ := hv
  have hx := Bo.exec
  have hb := Bo.bytes
  have hr := Bo.returns
  have hts : ∀ w ∈ LA, w.before _ s = true := fun w hw => atoms_spec (ws := (wh_ yL_halve cL_halve 2 (some .int) [(0, 4, 5, 23)])) Bo.pre w (List.mem_cons_of_mem _ hw)
  have hown : s.vm.findClass RL = some m.cls := findClass_of_methodNamed Bo.named
  have hlocks := Bo.notSynchronized
  have hK := hC.1
  subst hsz
  obtain ⟨fs, h0⟩ := h0
  have hsub : ∀ q, OA (w.map Prod.fst) s.heap.size q → OA (w.map Prod.fst) s.heap.size q := fun _ h => h
  have hS : va_S (OA (w.map Prod.fst) s.heap.size) s.heap s.heap [] := va_S.rf
  have hl := lv_entry ([.ref x0]) (n := 2) (Nat.le_of_ble_eq_true rfl)
  rw [lg_entry_eq]
  generalize (lg_sl ([.ref x0]) ++ List.replicate (2 - (lg_sl ([.ref x0])).length) Slot.unset).toArray = ls at hl ⊢
  have hl : lv_has ls 2 [(0, .ref x0)] := hl
  refine lv_aload_n hx hb dL_halve_0 rfl (lv_at hl 0 rfl) ?_
  refine call_XB (vx_runV (As := []) (rest := []) ⟨hx, hb, hml, hown, hts⟩ (hu s.heap.size) (kV hts qw876 qw877 qw878 qw1 qw879 ok_X4_halve ⟨Nat.le_of_ble_eq_true rfl, Nat.le_of_ble_eq_true rfl⟩) ⟨PM.blind, va_recv hK hP (ci := 5) (q0 := 0) rfl h0, fun U hU hW => ⟨rfl, by rw [hU]; exact hC.warm hW, by rw [hU], by rw [hU]; exact hP, hD, hZ⟩⟩ rfl rfl hl.1 rfl (lv_room (Nat.le_of_ble_eq_true rfl)) dL_halve_1 ⟨Nat.le_of_ble_eq_true rfl, Nat.le_of_ble_eq_true rfl⟩) hS hsub (fun w1 H1 locs1 q9 ce hR1 hP1 hD1 hS hsz1 hk1 hce hcv hcl => ?_)
  refine vx_catch (name := "java/lang/IllegalStateException") hown [] ⟨0, 4, 5, 23⟩ [] hxt (fun z hz => nomatch hz) (by decide) (by decide) (hts _ qw549) (va_Nw.use rfl (hC.2.1 _ qw581)) hce hcv hcl ?_
  refine lv_astore_n (lv' := (1, .ref q9) :: [(0, .ref x0)]) hx hb dL_halve_5 rfl hl (by decide) rfl (fun ls hl => ?_)
  refine W.widen (k := 5) (n := 70) (by decide) (by decide) ?_
  refine lv_ldc (v := (-2000001)) hx hb hown (hts _ qw544) dL_halve_6 ?_
  exact W.iret hx hb hr (fun t9 ht hW => ⟨w1, hR1, rfl, by rw [ht]; exact hP1, hD1, hS.F ht⟩) hS.2.2 dL_halve_8
abbrev rh_append : Room := { frames := 7, cells := 5, slots := 70, locals := 141 }
theorem okL_append : okY yL_append 2 := ⟨by decide +kernel, by decide +kernel, by decide +kernel⟩
set_option maxHeartbeats 4000000 in
theorem gx1_append (l : Launch) (z0 : Nat) (D : va_G) (t : Nat → ClassId) (x0 : Nat) {w : va_W} {R' : va_W → Prop} (a1 : Int32) (h0 : ∃ fs, w[0]? = some (x0, .inr (5, fs))) (hu : ∀ sz, UX l yX4_append cX4_append 2 (some .int) rx_X4_append IAE z0 D t (.ref x0 :: [.int a1]) w sz R' 1 6) (sz : Nat) : Met l yL_append (wh_ yL_append cL_append 3 (some .int) [(0, 5, 6, 15), (0, 5, 10, 23)]) rh_append (PMH z0 D t [.ref x0, .int a1] w (w.map Prod.fst) sz) (QB (fun _ : va_W => some (.int (-2000001))) D (fun w9 => w9) R' (w.map Prod.fst) sz) 5 70 (OA (w.map Prod.fst) sz) := by
  refine met_ofWH (cc := cL_append) (maxL := 3) (ret := (some .int)) (hh := [(0, 5, 6, 15), (0, 5, 10, 23)]) (by decide) rfl ?_
  intro p e s m args below meth c s₁ Bo hml hxt hv
  obtain ⟨rfl, ⟨hC, hN⟩, hsz, hP, hD, hZ⟩ := hv
  have hx := Bo.exec
  have hb := Bo.bytes
  have hr := Bo.returns
  have hts : ∀ w ∈ LA, w.before _ s = true := fun w hw => atoms_spec (ws := (wh_ yL_append cL_append 3 (some .int) [(0, 5, 6, 15), (0, 5, 10, 23)])) Bo.pre w (List.mem_cons_of_mem _ hw)
  have hown : s.vm.findClass RL = some m.cls := findClass_of_methodNamed Bo.named
  have hlocks := Bo.notSynchronized
  have hK := hC.1
  subst hsz
  obtain ⟨fs, h0⟩ := h0
  have hsub : ∀ q, OA (w.map Prod.fst) s.heap.size q → OA (w.map Prod.fst) s.heap.size q := fun _ h => h
  have hS : va_S (OA (w.map Prod.fst) s.heap.size) s.heap s.heap [] := va_S.rf
  have hl := lv_entry ([.ref x0, .int a1]) (n := 3) (Nat.le_of_ble_eq_true rfl)
  rw [lg_entry_eq]
  generalize (lg_sl ([.ref x0, .int a1]) ++ List.replicate (3 - (lg_sl ([.ref x0, .int a1])).length) Slot.unset).toArray = ls at hl ⊢
  have hl : lv_has ls 3 [(0, .ref x0), (1, .int a1)] := hl
  refine lv_aload_n hx hb dL_append_0 rfl (lv_at hl 0 rfl) ?_
  refine lv_iload_n hx hb dL_append_1 rfl (lv_at hl 1 rfl) ?_
  refine call_XB (vx_runV (As := [.int a1]) (rest := []) ⟨hx, hb, hml, hown, hts⟩ (hu s.heap.size) (kV hts qw695 qw696 qw697 qw1 qw698 ok_X4_append ⟨Nat.le_of_ble_eq_true rfl, Nat.le_of_ble_eq_true rfl⟩) ⟨PM.blind, va_recv hK hP (ci := 5) (q0 := 0) rfl h0, fun U hU hW => ⟨rfl, by rw [hU]; exact hC.warm hW, by rw [hU], by rw [hU]; exact hP, hD, hZ⟩⟩ rfl rfl hl.1 rfl (lv_room (Nat.le_of_ble_eq_true rfl)) dL_append_2 ⟨Nat.le_of_ble_eq_true rfl, Nat.le_of_ble_eq_true rfl⟩) hS hsub (fun w1 H1 locs1 q9 ce hR1 hP1 hD1 hS hsz1 hk1 hce hcv hcl => ?_)
  refine vx_catch (name := "java/lang/IllegalArgumentException") hown [] ⟨0, 5, 6, 15⟩ [⟨0, 5, 10, 23⟩] hxt (fun z hz => nomatch hz) (by decide) (by decide) (hts _ qw381) (va_Nw.use rfl (hC.2.1 _ qw391)) hce hcv hcl ?_
  refine lv_astore_n (lv' := (2, .ref q9) :: [(0, .ref x0), (1, .int a1)]) hx hb dL_append_6 rfl hl (by decide) rfl (fun ls hl => ?_)
  refine W.widen (k := 5) (n := 70) (by decide) (by decide) ?_
  refine lv_ldc (v := (-2000001)) hx hb hown (hts _ qw544) dL_append_7 ?_
  exact W.iret hx hb hr (fun t9 ht hW => ⟨w1, hR1, rfl, by rw [ht]; exact hP1, hD1, hS.F ht⟩) hS.2.2 dL_append_9
abbrev rh_load : Room := { frames := 11, cells := 5, slots := 70, locals := 362 }
theorem okL_load : okY yL_load 1 := ⟨by decide +kernel, by decide +kernel, by decide +kernel⟩
set_option maxHeartbeats 4000000 in
theorem gx1_load (l : Launch) (z0 : Nat) (D : va_G) (t : Nat → ClassId) (x0 : Nat) {w : va_W} {R' : va_W → Prop} (h0 : ∃ fs, w[0]? = some (x0, .inr (5, fs))) (hu : ∀ sz, UX l yX4_load cX4_load 2 (some .int) rx_X4_load IAE z0 D t (.ref x0 :: []) w sz R' 2 11) (sz : Nat) : Met l yL_load (wh_ yL_load cL_load 2 (some .int) [(0, 4, 5, 15)]) rh_load (PMH z0 D t [.ref x0] w (w.map Prod.fst) sz) (QB (fun _ : va_W => some (.int (-2000001))) D (fun w9 => w9) R' (w.map Prod.fst) sz) 5 70 (OA (w.map Prod.fst) sz) := by
  refine met_ofWH (cc := cL_load) (maxL := 2) (ret := (some .int)) (hh := [(0, 4, 5, 15)]) (by decide) rfl ?_
  intro p e s m args below meth c s₁ Bo hml hxt hv
  obtain ⟨rfl, ⟨hC, hN⟩, hsz, hP, hD, hZ⟩ := hv
  have hx := Bo.exec
  have hb := Bo.bytes
  have hr := Bo.returns
  have hts : ∀ w ∈ LA, w.before _ s = true := fun w hw => atoms_spec (ws := (wh_ yL_load cL_load 2 (some .int) [(0, 4, 5, 15)])) Bo.pre w (List.mem_cons_of_mem _ hw)
  have hown : s.vm.findClass RL = some m.cls := findClass_of_methodNamed Bo.named
  have hlocks := Bo.notSynchronized
  have hK := hC.1
  subst hsz
  obtain ⟨fs, h0⟩ := h0
  have hsub : ∀ q, OA (w.map Prod.fst) s.heap.size q → OA (w.map Prod.fst) s.heap.size q := fun _ h => h
  have hS : va_S (OA (w.map Prod.fst) s.heap.size) s.heap s.heap [] := va_S.rf
  have hl := lv_entry ([.ref x0]) (n := 2) (Nat.le_of_ble_eq_true rfl)
  rw [lg_entry_eq]
  generalize (lg_sl ([.ref x0]) ++ List.replicate (2 - (lg_sl ([.ref x0])).length) Slot.unset).toArray = ls at hl ⊢
  have hl : lv_has ls 2 [(0, .ref x0)] := hl
  refine lv_aload_n hx hb dL_load_0 rfl (lv_at hl 0 rfl) ?_
  refine call_XB (vx_runV (As := []) (rest := []) ⟨hx, hb, hml, hown, hts⟩ (hu s.heap.size) (kV hts qw712 qw713 qw714 qw1 qw715 ok_X4_load ⟨Nat.le_of_ble_eq_true rfl, Nat.le_of_ble_eq_true rfl⟩) ⟨PM.blind, va_recv hK hP (ci := 5) (q0 := 0) rfl h0, fun U hU hW => ⟨rfl, by rw [hU]; exact hC.warm hW, by rw [hU], by rw [hU]; exact hP, hD, hZ⟩⟩ rfl rfl hl.1 rfl (lv_room (Nat.le_of_ble_eq_true rfl)) dL_load_1 ⟨Nat.le_of_ble_eq_true rfl, Nat.le_of_ble_eq_true rfl⟩) hS hsub (fun w1 H1 locs1 q9 ce hR1 hP1 hD1 hS hsz1 hk1 hce hcv hcl => ?_)
  refine vx_catch (name := "java/lang/IllegalArgumentException") hown [] ⟨0, 4, 5, 15⟩ [] hxt (fun z hz => nomatch hz) (by decide) (by decide) (hts _ qw381) (va_Nw.use rfl (hC.2.1 _ qw391)) hce hcv hcl ?_
  refine lv_astore_n (lv' := (1, .ref q9) :: [(0, .ref x0)]) hx hb dL_load_5 rfl hl (by decide) rfl (fun ls hl => ?_)
  refine W.widen (k := 5) (n := 70) (by decide) (by decide) ?_
  refine lv_ldc (v := (-2000001)) hx hb hown (hts _ qw544) dL_load_6 ?_
  exact W.iret hx hb hr (fun t9 ht hW => ⟨w1, hR1, rfl, by rw [ht]; exact hP1, hD1, hS.F ht⟩) hS.2.2 dL_load_8
abbrev rh_keep : Room := { frames := 8, cells := 5, slots := 70, locals := 261 }
theorem okL_keep : okY yL_keep 2 := ⟨by decide +kernel, by decide +kernel, by decide +kernel⟩
set_option maxHeartbeats 4000000 in
theorem gr_keep (l : Launch) (z0 : Nat) (D : va_G) (t : Nat → ClassId) (x0 : Nat) {w : va_W} {R' : va_W → Prop} {v : Int32} (a1 : Int32) (h0 : ∃ fs, w[0]? = some (x0, .inr (5, fs))) (hu : ∀ sz, UM l yX4_keep cX4_keep 2 (some .int) rm_X4_keep (some (.int v)) z0 D t (.ref x0 :: [.int a1]) w sz R' 2 30) (sz : Nat) : Met l yL_keep (wh_ yL_keep cL_keep 3 (some .int) [(0, 5, 6, 15)]) rh_keep (PMH z0 D t [.ref x0, .int a1] w (w.map Prod.fst) sz) (QB (fun _ : va_W => some (.int v)) D (fun w9 => w9) R' (w.map Prod.fst) sz) 5 70 (OA (w.map Prod.fst) sz) := by
  refine met_ofWH (cc := cL_keep) (maxL := 3) (ret := (some .int)) (hh := [(0, 5, 6, 15)]) (by decide) rfl ?_
  intro p e s m args below meth c s₁ Bo hml hxt hv
  obtain ⟨rfl, ⟨hC, hN⟩, hsz, hP, hD, hZ⟩ := hv
  have hx := Bo.exec
  have hb := Bo.bytes
  have hr := Bo.returns
  have hts : ∀ w ∈ LA, w.before _ s = true := fun w hw => atoms_spec (ws := (wh_ yL_keep cL_keep 3 (some .int) [(0, 5, 6, 15)])) Bo.pre w (List.mem_cons_of_mem _ hw)
  have hown : s.vm.findClass RL = some m.cls := findClass_of_methodNamed Bo.named
  have hlocks := Bo.notSynchronized
  have hK := hC.1
  subst hsz
  obtain ⟨fs, h0⟩ := h0
  have hsub : ∀ q, OA (w.map Prod.fst) s.heap.size q → OA (w.map Prod.fst) s.heap.size q := fun _ h => h
  have hS : va_S (OA (w.map Prod.fst) s.heap.size) s.heap s.heap [] := va_S.rf
  have hl := lv_entry ([.ref x0, .int a1]) (n := 3) (Nat.le_of_ble_eq_true rfl)
  rw [lg_entry_eq]
  generalize (lg_sl ([.ref x0, .int a1]) ++ List.replicate (3 - (lg_sl ([.ref x0, .int a1])).length) Slot.unset).toArray = ls at hl ⊢
  have hl : lv_has ls 3 [(0, .ref x0), (1, .int a1)] := hl
  refine lv_aload_n hx hb dL_keep_0 rfl (lv_at hl 0 rfl) ?_
  refine lv_iload_n hx hb dL_keep_1 rfl (lv_at hl 1 rfl) ?_
  refine call_Q (va_runV (As := [.int a1]) (rest := []) ⟨hx, hb, hml, hown, hts⟩ (hu s.heap.size) (kV hts qw724 qw725 qw726 qw1 qw727 ok_X4_keep ⟨Nat.le_of_ble_eq_true rfl, Nat.le_of_ble_eq_true rfl⟩) ⟨PM.blind, va_recv hK hP (ci := 5) (q0 := 0) rfl h0, fun U hU hW => ⟨rfl, by rw [hU]; exact hC.warm hW, by rw [hU], by rw [hU]; exact hP, hD, hZ⟩⟩ rfl rfl hl.1 rfl (lv_room (Nat.le_of_ble_eq_true rfl)) dL_keep_2 ⟨Nat.le_of_ble_eq_true rfl, Nat.le_of_ble_eq_true rfl⟩) hS hsub (fun w1 H1 locs1 hR1 hP1 hD1 hS hsz1 hk1 => ?_)
  refine W.widen (k := 5) (n := 70) (by decide) (by decide) ?_
  exact W.iret hx hb hr (fun t9 ht hW => ⟨w1, hR1, rfl, by rw [ht]; exact hP1, hD1, hS.F ht⟩) hS.2.2 dL_keep_5
set_option maxHeartbeats 4000000 in
theorem gx1_keep (l : Launch) (z0 : Nat) (D : va_G) (t : Nat → ClassId) (x0 : Nat) {w : va_W} {R' : va_W → Prop} (a1 : Int32) (h0 : ∃ fs, w[0]? = some (x0, .inr (5, fs))) (hu : ∀ sz, UX l yX4_keep cX4_keep 2 (some .int) rx_X4_keep IAE z0 D t (.ref x0 :: [.int a1]) w sz R' 1 6) (sz : Nat) : Met l yL_keep (wh_ yL_keep cL_keep 3 (some .int) [(0, 5, 6, 15)]) rh_keep (PMH z0 D t [.ref x0, .int a1] w (w.map Prod.fst) sz) (QB (fun _ : va_W => some (.int (-2000001))) D (fun w9 => w9) R' (w.map Prod.fst) sz) 5 70 (OA (w.map Prod.fst) sz) := by
  refine met_ofWH (cc := cL_keep) (maxL := 3) (ret := (some .int)) (hh := [(0, 5, 6, 15)]) (by decide) rfl ?_
  intro p e s m args below meth c s₁ Bo hml hxt hv
  obtain ⟨rfl, ⟨hC, hN⟩, hsz, hP, hD, hZ⟩ := hv
  have hx := Bo.exec
  have hb := Bo.bytes
  have hr := Bo.returns
  have hts : ∀ w ∈ LA, w.before _ s = true := fun w hw => atoms_spec (ws := (wh_ yL_keep cL_keep 3 (some .int) [(0, 5, 6, 15)])) Bo.pre w (List.mem_cons_of_mem _ hw)
  have hown : s.vm.findClass RL = some m.cls := findClass_of_methodNamed Bo.named
  have hlocks := Bo.notSynchronized
  have hK := hC.1
  subst hsz
  obtain ⟨fs, h0⟩ := h0
  have hsub : ∀ q, OA (w.map Prod.fst) s.heap.size q → OA (w.map Prod.fst) s.heap.size q := fun _ h => h
  have hS : va_S (OA (w.map Prod.fst) s.heap.size) s.heap s.heap [] := va_S.rf
  have hl := lv_entry ([.ref x0, .int a1]) (n := 3) (Nat.le_of_ble_eq_true rfl)
  rw [lg_entry_eq]
  generalize (lg_sl ([.ref x0, .int a1]) ++ List.replicate (3 - (lg_sl ([.ref x0, .int a1])).length) Slot.unset).toArray = ls at hl ⊢
  have hl : lv_has ls 3 [(0, .ref x0), (1, .int a1)] := hl
  refine lv_aload_n hx hb dL_keep_0 rfl (lv_at hl 0 rfl) ?_
  refine lv_iload_n hx hb dL_keep_1 rfl (lv_at hl 1 rfl) ?_
  refine call_XB (vx_runV (As := [.int a1]) (rest := []) ⟨hx, hb, hml, hown, hts⟩ (hu s.heap.size) (kV hts qw724 qw725 qw726 qw1 qw727 ok_X4_keep ⟨Nat.le_of_ble_eq_true rfl, Nat.le_of_ble_eq_true rfl⟩) ⟨PM.blind, va_recv hK hP (ci := 5) (q0 := 0) rfl h0, fun U hU hW => ⟨rfl, by rw [hU]; exact hC.warm hW, by rw [hU], by rw [hU]; exact hP, hD, hZ⟩⟩ rfl rfl hl.1 rfl (lv_room (Nat.le_of_ble_eq_true rfl)) dL_keep_2 ⟨Nat.le_of_ble_eq_true rfl, Nat.le_of_ble_eq_true rfl⟩) hS hsub (fun w1 H1 locs1 q9 ce hR1 hP1 hD1 hS hsz1 hk1 hce hcv hcl => ?_)
  refine vx_catch (name := "java/lang/IllegalArgumentException") hown [] ⟨0, 5, 6, 15⟩ [] hxt (fun z hz => nomatch hz) (by decide) (by decide) (hts _ qw381) (va_Nw.use rfl (hC.2.1 _ qw391)) hce hcv hcl ?_
  refine lv_astore_n (lv' := (2, .ref q9) :: [(0, .ref x0), (1, .int a1)]) hx hb dL_keep_6 rfl hl (by decide) rfl (fun ls hl => ?_)
  refine W.widen (k := 5) (n := 70) (by decide) (by decide) ?_
  refine lv_ldc (v := (-2000001)) hx hb hown (hts _ qw544) dL_keep_7 ?_
  exact W.iret hx hb hr (fun t9 ht hW => ⟨w1, hR1, rfl, by rw [ht]; exact hP1, hD1, hS.F ht⟩) hS.2.2 dL_keep_9
abbrev rh_goBack : Room := { frames := 11, cells := 5, slots := 70, locals := 382 }
theorem okL_goBack : okY yL_goBack 2 := ⟨by decide +kernel, by decide +kernel, by decide +kernel⟩
set_option maxHeartbeats 4000000 in
theorem gr_goBack (l : Launch) (z0 : Nat) (D : va_G) (t : Nat → ClassId) (x0 : Nat) {w : va_W} {R' : va_W → Prop} {v : Int32} (a1 : Int32) (h0 : ∃ fs, w[0]? = some (x0, .inr (5, fs))) (hu : ∀ sz, UM l yX4_goBack cX4_goBack 3 (some .int) rm_X4_goBack (some (.int v)) z0 D t (.ref x0 :: [.int a1]) w sz R' 5 70) (sz : Nat) : Met l yL_goBack (wh_ yL_goBack cL_goBack 3 (some .int) [(0, 5, 6, 15), (0, 5, 10, 23)]) rh_goBack (PMH z0 D t [.ref x0, .int a1] w (w.map Prod.fst) sz) (QB (fun _ : va_W => some (.int v)) D (fun w9 => w9) R' (w.map Prod.fst) sz) 5 70 (OA (w.map Prod.fst) sz) := by
  refine met_ofWH (cc := cL_goBack) (maxL := 3) (ret := (some .int)) (hh := [(0, 5, 6, 15), (0, 5, 10, 23)]) (by decide) rfl ?_
  intro p e s m args below meth c s₁ Bo hml hxt hv
  obtain ⟨rfl, ⟨hC, hN⟩, hsz, hP, hD, hZ⟩ := hv
  have hx := Bo.exec
  have hb := Bo.bytes
  have hr := Bo.returns
  have hts : ∀ w ∈ LA, w.before _ s = true := fun w hw => atoms_spec (ws := (wh_ yL_goBack cL_goBack 3 (some .int) [(0, 5, 6, 15), (0, 5, 10, 23)])) Bo.pre w (List.mem_cons_of_mem _ hw)
  have hown : s.vm.findClass RL = some m.cls := findClass_of_methodNamed Bo.named
  have hlocks := Bo.notSynchronized
  have hK := hC.1
  subst hsz
  obtain ⟨fs, h0⟩ := h0
  have hsub : ∀ q, OA (w.map Prod.fst) s.heap.size q → OA (w.map Prod.fst) s.heap.size q := fun _ h => h
  have hS : va_S (OA (w.map Prod.fst) s.heap.size) s.heap s.heap [] := va_S.rf
  have hl := lv_entry ([.ref x0, .int a1]) (n := 3) (Nat.le_of_ble_eq_true rfl)
  rw [lg_entry_eq]
  generalize (lg_sl ([.ref x0, .int a1]) ++ List.replicate (3 - (lg_sl ([.ref x0, .int a1])).length) Slot.unset).toArray = ls at hl ⊢
  have hl : lv_has ls 3 [(0, .ref x0), (1, .int a1)] := hl
  refine lv_aload_n hx hb dL_goBack_0 rfl (lv_at hl 0 rfl) ?_
  refine lv_iload_n hx hb dL_goBack_1 rfl (lv_at hl 1 rfl) ?_
  refine call_Q (va_runV (As := [.int a1]) (rest := []) ⟨hx, hb, hml, hown, hts⟩ (hu s.heap.size) (kV hts qw736 qw737 qw738 qw1 qw739 ok_X4_goBack ⟨Nat.le_of_ble_eq_true rfl, Nat.le_of_ble_eq_true rfl⟩) ⟨PM.blind, va_recv hK hP (ci := 5) (q0 := 0) rfl h0, fun U hU hW => ⟨rfl, by rw [hU]; exact hC.warm hW, by rw [hU], by rw [hU]; exact hP, hD, hZ⟩⟩ rfl rfl hl.1 rfl (lv_room (Nat.le_of_ble_eq_true rfl)) dL_goBack_2 ⟨Nat.le_of_ble_eq_true rfl, Nat.le_of_ble_eq_true rfl⟩) hS hsub (fun w1 H1 locs1 hR1 hP1 hD1 hS hsz1 hk1 => ?_)
  refine W.widen (k := 5) (n := 70) (by decide) (by decide) ?_
  exact W.iret hx hb hr (fun t9 ht hW => ⟨w1, hR1, rfl, by rw [ht]; exact hP1, hD1, hS.F ht⟩) hS.2.2 dL_goBack_5
set_option maxHeartbeats 4000000 in
theorem gx1_goBack (l : Launch) (z0 : Nat) (D : va_G) (t : Nat → ClassId) (x0 : Nat) {w : va_W} {R' : va_W → Prop} (a1 : Int32) (h0 : ∃ fs, w[0]? = some (x0, .inr (5, fs))) (hu : ∀ sz, UX l yX4_goBack cX4_goBack 3 (some .int) rx_X4_goBack IAE z0 D t (.ref x0 :: [.int a1]) w sz R' 1 6) (sz : Nat) : Met l yL_goBack (wh_ yL_goBack cL_goBack 3 (some .int) [(0, 5, 6, 15), (0, 5, 10, 23)]) rh_goBack (PMH z0 D t [.ref x0, .int a1] w (w.map Prod.fst) sz) (QB (fun _ : va_W => some (.int (-2000001))) D (fun w9 => w9) R' (w.map Prod.fst) sz) 5 70 (OA (w.map Prod.fst) sz) := by
  refine met_ofWH (cc := cL_goBack) (maxL := 3) (ret := (some .int)) (hh := [(0, 5, 6, 15), (0, 5, 10, 23)]) (by decide) rfl ?_
  intro p e s m args below meth c s₁ Bo hml hxt hv
  obtain ⟨rfl, ⟨hC, hN⟩, hsz, hP, hD, hZ⟩ := hv
  have hx := Bo.exec
  have hb := Bo.bytes
  have hr := Bo.returns
  have hts : ∀ w ∈ LA, w.before _ s = true := fun w hw => atoms_spec (ws := (wh_ yL_goBack cL_goBack 3 (some .int) [(0, 5, 6, 15), (0, 5, 10, 23)])) Bo.pre w (List.mem_cons_of_mem _ hw)
  have hown : s.vm.findClass RL = some m.cls := findClass_of_methodNamed Bo.named
  have hlocks := Bo.notSynchronized
  have hK := hC.1
  subst hsz
  obtain ⟨fs, h0⟩ := h0
  have hsub : ∀ q, OA (w.map Prod.fst) s.heap.size q → OA (w.map Prod.fst) s.heap.size q := fun _ h => h
  have hS : va_S (OA (w.map Prod.fst) s.heap.size) s.heap s.heap [] := va_S.rf
  have hl := lv_entry ([.ref x0, .int a1]) (n := 3) (Nat.le_of_ble_eq_true rfl)
  rw [lg_entry_eq]
  generalize (lg_sl ([.ref x0, .int a1]) ++ List.replicate (3 - (lg_sl ([.ref x0, .int a1])).length) Slot.unset).toArray = ls at hl ⊢
  have hl : lv_has ls 3 [(0, .ref x0), (1, .int a1)] := hl
  refine lv_aload_n hx hb dL_goBack_0 rfl (lv_at hl 0 rfl) ?_
  refine lv_iload_n hx hb dL_goBack_1 rfl (lv_at hl 1 rfl) ?_
  refine call_XB (vx_runV (As := [.int a1]) (rest := []) ⟨hx, hb, hml, hown, hts⟩ (hu s.heap.size) (kV hts qw736 qw737 qw738 qw1 qw739 ok_X4_goBack ⟨Nat.le_of_ble_eq_true rfl, Nat.le_of_ble_eq_true rfl⟩) ⟨PM.blind, va_recv hK hP (ci := 5) (q0 := 0) rfl h0, fun U hU hW => ⟨rfl, by rw [hU]; exact hC.warm hW, by rw [hU], by rw [hU]; exact hP, hD, hZ⟩⟩ rfl rfl hl.1 rfl (lv_room (Nat.le_of_ble_eq_true rfl)) dL_goBack_2 ⟨Nat.le_of_ble_eq_true rfl, Nat.le_of_ble_eq_true rfl⟩) hS hsub (fun w1 H1 locs1 q9 ce hR1 hP1 hD1 hS hsz1 hk1 hce hcv hcl => ?_)
  refine vx_catch (name := "java/lang/IllegalArgumentException") hown [] ⟨0, 5, 6, 15⟩ [⟨0, 5, 10, 23⟩] hxt (fun z hz => nomatch hz) (by decide) (by decide) (hts _ qw381) (va_Nw.use rfl (hC.2.1 _ qw391)) hce hcv hcl ?_
  refine lv_astore_n (lv' := (2, .ref q9) :: [(0, .ref x0), (1, .int a1)]) hx hb dL_goBack_6 rfl hl (by decide) rfl (fun ls hl => ?_)
  refine W.widen (k := 5) (n := 70) (by decide) (by decide) ?_
  refine lv_ldc (v := (-2000001)) hx hb hown (hts _ qw544) dL_goBack_7 ?_
  exact W.iret hx hb hr (fun t9 ht hW => ⟨w1, hR1, rfl, by rw [ht]; exact hP1, hD1, hS.F ht⟩) hS.2.2 dL_goBack_9
set_option maxHeartbeats 4000000 in
theorem gx2_goBack (l : Launch) (z0 : Nat) (D : va_G) (t : Nat → ClassId) (x0 : Nat) {w : va_W} {R' : va_W → Prop} (a1 : Int32) (h0 : ∃ fs, w[0]? = some (x0, .inr (5, fs))) (hu : ∀ sz, UX l yX4_goBack cX4_goBack 3 (some .int) rx_X4_goBack ISE z0 D t (.ref x0 :: [.int a1]) w sz R' 1 6) (sz : Nat) : Met l yL_goBack (wh_ yL_goBack cL_goBack 3 (some .int) [(0, 5, 6, 15), (0, 5, 10, 23)]) rh_goBack (PMH z0 D t [.ref x0, .int a1] w (w.map Prod.fst) sz) (QB (fun _ : va_W => some (.int (-2000002))) D (fun w9 => w9) R' (w.map Prod.fst) sz) 5 70 (OA (w.map Prod.fst) sz) := by
  refine met_ofWH (cc := cL_goBack) (maxL := 3) (ret := (some .int)) (hh := [(0, 5, 6, 15), (0, 5, 10, 23)]) (by decide) rfl ?_
  intro p e s m args below meth c s₁ Bo hml hxt hv
  obtain ⟨rfl, ⟨hC, hN⟩, hsz, hP, hD, hZ⟩ := hv
  have hx := Bo.exec
  have hb := Bo.bytes
  have hr := Bo.returns
  have hts : ∀ w ∈ LA, w.before _ s = true := fun w hw => atoms_spec (ws := (wh_ yL_goBack cL_goBack 3 (some .int) [(0, 5, 6, 15), (0, 5, 10, 23)])) Bo.pre w (List.mem_cons_of_mem _ hw)
  have hown : s.vm.findClass RL = some m.cls := findClass_of_methodNamed Bo.named
  have hlocks := Bo.notSynchronized
  have hK := hC.1
  subst hsz
  obtain ⟨fs, h0⟩ := h0
  have hsub : ∀ q, OA (w.map Prod.fst) s.heap.size q → OA (w.map Prod.fst) s.heap.size q := fun _ h => h
  have hS : va_S (OA (w.map Prod.fst) s.heap.size) s.heap s.heap [] := va_S.rf
  have hl := lv_entry ([.ref x0, .int a1]) (n := 3) (Nat.le_of_ble_eq_true rfl)
  rw [lg_entry_eq]
  generalize (lg_sl ([.ref x0, .int a1]) ++ List.replicate (3 - (lg_sl ([.ref x0, .int a1])).length) Slot.unset).toArray = ls at hl ⊢
  have hl : lv_has ls 3 [(0, .ref x0), (1, .int a1)] := hl
  refine lv_aload_n hx hb dL_goBack_0 rfl (lv_at hl 0 rfl) ?_
  refine lv_iload_n hx hb dL_goBack_1 rfl (lv_at hl 1 rfl) ?_
  refine call_XB (vx_runV (As := [.int a1]) (rest := []) ⟨hx, hb, hml, hown, hts⟩ (hu s.heap.size) (kV hts qw736 qw737 qw738 qw1 qw739 ok_X4_goBack ⟨Nat.le_of_ble_eq_true rfl, Nat.le_of_ble_eq_true rfl⟩) ⟨PM.blind, va_recv hK hP (ci := 5) (q0 := 0) rfl h0, fun U hU hW => ⟨rfl, by rw [hU]; exact hC.warm hW, by rw [hU], by rw [hU]; exact hP, hD, hZ⟩⟩ rfl rfl hl.1 rfl (lv_room (Nat.le_of_ble_eq_true rfl)) dL_goBack_2 ⟨Nat.le_of_ble_eq_true rfl, Nat.le_of_ble_eq_true rfl⟩) hS hsub (fun w1 H1 locs1 q9 ce hR1 hP1 hD1 hS hsz1 hk1 hce hcv hcl => ?_)
  refine vx_catch (name := "java/lang/IllegalStateException") hown [⟨0, 5, 6, 15⟩] ⟨0, 5, 10, 23⟩ [] hxt (fun z hz => by
      cases List.mem_singleton.mp hz
      exact Or.inr ⟨by decide, IAE, hts _ qw381, hN.1⟩) (by decide) (by decide) (hts _ qw549) (va_Nw.use rfl (hC.2.1 _ qw581)) hce hcv hcl ?_
  refine lv_astore_n (lv' := (2, .ref q9) :: [(0, .ref x0), (1, .int a1)]) hx hb dL_goBack_10 rfl hl (by decide) rfl (fun ls hl => ?_)
  refine W.widen (k := 5) (n := 70) (by decide) (by decide) ?_
  refine lv_ldc (v := (-2000002)) hx hb hown (hts _ qw595) dL_goBack_11 ?_
  exact W.iret hx hb hr (fun t9 ht hW => ⟨w1, hR1, rfl, by rw [ht]; exact hP1, hD1, hS.F ht⟩) hS.2.2 dL_goBack_13
abbrev rh_undo : Room := { frames := 8, cells := 5, slots := 70, locals := 261 }
theorem okL_undo : okY yL_undo 1 := ⟨by decide +kernel, by decide +kernel, by decide +kernel⟩
set_option maxHeartbeats 4000000 in
theorem gr_undo (l : Launch) (z0 : Nat) (D : va_G) (t : Nat → ClassId) (x0 : Nat) {w : va_W} {R' : va_W → Prop} {v : Int32} (h0 : ∃ fs, w[0]? = some (x0, .inr (5, fs))) (hu : ∀ sz, UM l yX4_undo cX4_undo 2 (some .int) rm_X4_undo (some (.int v)) z0 D t (.ref x0 :: []) w sz R' 0 0) (sz : Nat) : Met l yL_undo (wh_ yL_undo cL_undo 2 (some .int) [(0, 4, 5, 23)]) rh_undo (PMH z0 D t [.ref x0] w (w.map Prod.fst) sz) (QB (fun _ : va_W => some (.int v)) D (fun w9 => w9) R' (w.map Prod.fst) sz) 5 70 (OA (w.map Prod.fst) sz) := by
  refine met_ofWH (cc := cL_undo) (maxL := 2) (ret := (some .int)) (hh := [(0, 4, 5, 23)]) (by decide) rfl ?_
  intro p e s m args below meth c s₁ Bo hml hxt hv
  obtain ⟨rfl, ⟨hC, hN⟩, hsz, hP, hD, hZ⟩ := hv
  have hx := Bo.exec
  have hb := Bo.bytes
  have hr := Bo.returns
  have hts : ∀ w ∈ LA, w.before _ s = true := fun w hw => atoms_spec (ws := (wh_ yL_undo cL_undo 2 (some .int) [(0, 4, 5, 23)])) Bo.pre w (List.mem_cons_of_mem _ hw)
  have hown : s.vm.findClass RL = some m.cls := findClass_of_methodNamed Bo.named
  have hlocks := Bo.notSynchronized
  have hK := hC.1
  subst hsz
  obtain ⟨fs, h0⟩ := h0
  have hsub : ∀ q, OA (w.map Prod.fst) s.heap.size q → OA (w.map Prod.fst) s.heap.size q := fun _ h => h
  have hS : va_S (OA (w.map Prod.fst) s.heap.size) s.heap s.heap [] := va_S.rf
  have hl := lv_entry ([.ref x0]) (n := 2) (Nat.le_of_ble_eq_true rfl)
  rw [lg_entry_eq]
  generalize (lg_sl ([.ref x0]) ++ List.replicate (2 - (lg_sl ([.ref x0])).length) Slot.unset).toArray = ls at hl ⊢
  have hl : lv_has ls 2 [(0, .ref x0)] := hl
  refine lv_aload_n hx hb dL_undo_0 rfl (lv_at hl 0 rfl) ?_
  refine call_Q (va_runV (As := []) (rest := []) ⟨hx, hb, hml, hown, hts⟩ (hu s.heap.size) (kV hts qw744 qw745 qw746 qw1 qw747 ok_X4_undo ⟨Nat.le_of_ble_eq_true rfl, Nat.le_of_ble_eq_true rfl⟩) ⟨PM.blind, va_recv hK hP (ci := 5) (q0 := 0) rfl h0, fun U hU hW => ⟨rfl, by rw [hU]; exact hC.warm hW, by rw [hU], by rw [hU]; exact hP, hD, hZ⟩⟩ rfl rfl hl.1 rfl (lv_room (Nat.le_of_ble_eq_true rfl)) dL_undo_1 ⟨Nat.le_of_ble_eq_true rfl, Nat.le_of_ble_eq_true rfl⟩) hS hsub (fun w1 H1 locs1 hR1 hP1 hD1 hS hsz1 hk1 => ?_)
  refine W.widen (k := 5) (n := 70) (by decide) (by decide) ?_
  exact W.iret hx hb hr (fun t9 ht hW => ⟨w1, hR1, rfl, by rw [ht]; exact hP1, hD1, hS.F ht⟩) hS.2.2 dL_undo_4
set_option maxHeartbeats 4000000 in
theorem gx1_undo (l : Launch) (z0 : Nat) (D : va_G) (t : Nat → ClassId) (x0 : Nat) {w : va_W} {R' : va_W → Prop} (h0 : ∃ fs, w[0]? = some (x0, .inr (5, fs))) (hu : ∀ sz, UX l yX4_undo cX4_undo 2 (some .int) rx_X4_undo ISE z0 D t (.ref x0 :: []) w sz R' 1 6) (sz : Nat) : Met l yL_undo (wh_ yL_undo cL_undo 2 (some .int) [(0, 4, 5, 23)]) rh_undo (PMH z0 D t [.ref x0] w (w.map Prod.fst) sz) (QB (fun _ : va_W => some (.int (-2000001))) D (fun w9 => w9) R' (w.map Prod.fst) sz) 5 70 (OA (w.map Prod.fst) sz) := by
  refine met_ofWH (cc := cL_undo) (maxL := 2) (ret := (some .int)) (hh := [(0, 4, 5, 23)]) (by decide) rfl ?_
  intro p e s m args below meth c s₁ Bo hml hxt hv
  obtain ⟨rfl, ⟨hC, hN⟩, hsz, hP, hD, hZ⟩ := hv
  have hx := Bo.exec
  have hb := Bo.bytes
  have hr := Bo.returns
  have hts : ∀ w ∈ LA, w.before _ s = true := fun w hw => atoms_spec (ws := (wh_ yL_undo cL_undo 2 (some .int) [(0, 4, 5, 23)])) Bo.pre w (List.mem_cons_of_mem _ hw)
  have hown : s.vm.findClass RL = some m.cls := findClass_of_methodNamed Bo.named
  have hlocks := Bo.notSynchronized
  have hK := hC.1
  subst hsz
  obtain ⟨fs, h0⟩ := h0
  have hsub : ∀ q, OA (w.map Prod.fst) s.heap.size q → OA (w.map Prod.fst) s.heap.size q := fun _ h => h
  have hS : va_S (OA (w.map Prod.fst) s.heap.size) s.heap s.heap [] := va_S.rf
  have hl := lv_entry ([.ref x0]) (n := 2) (Nat.le_of_ble_eq_true rfl)
  rw [lg_entry_eq]
  generalize (lg_sl ([.ref x0]) ++ List.replicate (2 - (lg_sl ([.ref x0])).length) Slot.unset).toArray = ls at hl ⊢
  have hl : lv_has ls 2 [(0, .ref x0)] := hl
  refine lv_aload_n hx hb dL_undo_0 rfl (lv_at hl 0 rfl) ?_
  refine call_XB (vx_runV (As := []) (rest := []) ⟨hx, hb, hml, hown, hts⟩ (hu s.heap.size) (kV hts qw744 qw745 qw746 qw1 qw747 ok_X4_undo ⟨Nat.le_of_ble_eq_true rfl, Nat.le_of_ble_eq_true rfl⟩) ⟨PM.blind, va_recv hK hP (ci := 5) (q0 := 0) rfl h0, fun U hU hW => ⟨rfl, by rw [hU]; exact hC.warm hW, by rw [hU], by rw [hU]; exact hP, hD, hZ⟩⟩ rfl rfl hl.1 rfl (lv_room (Nat.le_of_ble_eq_true rfl)) dL_undo_1 ⟨Nat.le_of_ble_eq_true rfl, Nat.le_of_ble_eq_true rfl⟩) hS hsub (fun w1 H1 locs1 q9 ce hR1 hP1 hD1 hS hsz1 hk1 hce hcv hcl => ?_)
  refine vx_catch (name := "java/lang/IllegalStateException") hown [] ⟨0, 4, 5, 23⟩ [] hxt (fun z hz => nomatch hz) (by decide) (by decide) (hts _ qw549) (va_Nw.use rfl (hC.2.1 _ qw581)) hce hcv hcl ?_
  refine lv_astore_n (lv' := (1, .ref q9) :: [(0, .ref x0)]) hx hb dL_undo_5 rfl hl (by decide) rfl (fun ls hl => ?_)
  refine W.widen (k := 5) (n := 70) (by decide) (by decide) ?_
  refine lv_ldc (v := (-2000001)) hx hb hown (hts _ qw544) dL_undo_6 ?_
  exact W.iret hx hb hr (fun t9 ht hW => ⟨w1, hR1, rfl, by rw [ht]; exact hP1, hD1, hS.F ht⟩) hS.2.2 dL_undo_8
abbrev rh_cellOf : Room := { frames := 8, cells := 1, slots := 6, locals := 165 }
abbrev rq_cellOf : Room := { frames := 8, cells := 0, slots := 0, locals := 165 }
theorem okL_cellOf : okY yL_cellOf 4 := ⟨by decide +kernel, by decide +kernel, by decide +kernel⟩
set_option maxHeartbeats 4000000 in
theorem gr_cellOf (l : Launch) (z0 : Nat) (D : va_G) (t : Nat → ClassId) (x0 : Nat) {w : va_W} {R' : va_W → Prop} {v : Int32} (a1 : Int32) (a2 : Int32) (a3 : Int32) (h0 : ∃ fs, w[0]? = some (x0, .inr (5, fs))) (hu : ∀ sz, UM l yX4_cell cX4_cell 4 (some .int) rm_X4_cell (some (.int v)) z0 D t (.ref x0 :: [.int a1, .int a2, .int a3]) w sz R' 0 0) (sz : Nat) : Met l yL_cellOf (wh_ yL_cellOf cL_cellOf 5 (some .int) [(0, 7, 8, 21), (0, 7, 13, 15)]) rq_cellOf (PMH z0 D t [.ref x0, .int a1, .int a2, .int a3] w (w.map Prod.fst) sz) (QB (fun _ : va_W => some (.int v)) D (fun w9 => w9) R' (w.map Prod.fst) sz) 0 0 (OA (w.map Prod.fst) sz) := by
  refine met_ofWH (cc := cL_cellOf) (maxL := 5) (ret := (some .int)) (hh := [(0, 7, 8, 21), (0, 7, 13, 15)]) (by decide) rfl ?_
  intro p e s m args below meth c s₁ Bo hml hxt hv
  obtain ⟨rfl, ⟨hC, hN⟩, hsz, hP, hD, hZ⟩ := hv
  have hx := Bo.exec
  have hb := Bo.bytes
  have hr := Bo.returns
  have hts : ∀ w ∈ LA, w.before _ s = true := fun w hw => atoms_spec (ws := (wh_ yL_cellOf cL_cellOf 5 (some .int) [(0, 7, 8, 21), (0, 7, 13, 15)])) Bo.pre w (List.mem_cons_of_mem _ hw)
  have hown : s.vm.findClass RL = some m.cls := findClass_of_methodNamed Bo.named
  have hlocks := Bo.notSynchronized
  have hK := hC.1
  subst hsz
  obtain ⟨fs, h0⟩ := h0
  have hsub : ∀ q, OA (w.map Prod.fst) s.heap.size q → OA (w.map Prod.fst) s.heap.size q := fun _ h => h
  have hS : va_S (OA (w.map Prod.fst) s.heap.size) s.heap s.heap [] := va_S.rf
  have hl := lv_entry ([.ref x0, .int a1, .int a2, .int a3]) (n := 5) (Nat.le_of_ble_eq_true rfl)
  rw [lg_entry_eq]
  generalize (lg_sl ([.ref x0, .int a1, .int a2, .int a3]) ++ List.replicate (5 - (lg_sl ([.ref x0, .int a1, .int a2, .int a3])).length) Slot.unset).toArray = ls at hl ⊢
  have hl : lv_has ls 5 [(0, .ref x0), (1, .int a1), (2, .int a2), (3, .int a3)] := hl
  refine lv_aload_n hx hb dL_cellOf_0 rfl (lv_at hl 0 rfl) ?_
  refine lv_iload_n hx hb dL_cellOf_1 rfl (lv_at hl 1 rfl) ?_
  refine lv_iload_n hx hb dL_cellOf_2 rfl (lv_at hl 2 rfl) ?_
  refine lv_iload_n hx hb dL_cellOf_3 rfl (lv_at hl 3 rfl) ?_
  refine call_Q (va_runV (As := [.int a1, .int a2, .int a3]) (rest := []) ⟨hx, hb, hml, hown, hts⟩ (hu s.heap.size) (kV hts qw760 qw761 qw762 qw1 qw763 ok_X4_cell ⟨Nat.le_of_ble_eq_true rfl, Nat.le_of_ble_eq_true rfl⟩) ⟨PM.blind, va_recv hK hP (ci := 5) (q0 := 0) rfl h0, fun U hU hW => ⟨rfl, by rw [hU]; exact hC.warm hW, by rw [hU], by rw [hU]; exact hP, hD, hZ⟩⟩ rfl rfl hl.1 rfl (lv_room (Nat.le_of_ble_eq_true rfl)) dL_cellOf_4 ⟨Nat.le_of_ble_eq_true rfl, Nat.le_of_ble_eq_true rfl⟩) hS hsub (fun w1 H1 locs1 hR1 hP1 hD1 hS hsz1 hk1 => ?_)
  exact W.iret hx hb hr (fun t9 ht hW => ⟨w1, hR1, rfl, by rw [ht]; exact hP1, hD1, hS.F ht⟩) hS.2.2 dL_cellOf_7
set_option maxHeartbeats 4000000 in
theorem gx1_cellOf (l : Launch) (z0 : Nat) (D : va_G) (t : Nat → ClassId) (x0 : Nat) {w : va_W} {R' : va_W → Prop} (a1 : Int32) (a2 : Int32) (a3 : Int32) (h0 : ∃ fs, w[0]? = some (x0, .inr (5, fs))) (hu : ∀ sz, UX l yX4_cell cX4_cell 4 (some .int) rx_X4_cell IOE z0 D t (.ref x0 :: [.int a1, .int a2, .int a3]) w sz R' 1 6) (sz : Nat) : Met l yL_cellOf (wh_ yL_cellOf cL_cellOf 5 (some .int) [(0, 7, 8, 21), (0, 7, 13, 15)]) rh_cellOf (PMH z0 D t [.ref x0, .int a1, .int a2, .int a3] w (w.map Prod.fst) sz) (QB (fun _ : va_W => some (.int (-2000001))) D (fun w9 => w9) R' (w.map Prod.fst) sz) 1 6 (OA (w.map Prod.fst) sz) := by
  refine met_ofWH (cc := cL_cellOf) (maxL := 5) (ret := (some .int)) (hh := [(0, 7, 8, 21), (0, 7, 13, 15)]) (by decide) rfl ?_
  intro p e s m args below meth c s₁ Bo hml hxt hv
  obtain ⟨rfl, ⟨hC, hN⟩, hsz, hP, hD, hZ⟩ := hv
  have hx := Bo.exec
  have hb := Bo.bytes
  have hr := Bo.returns
  have hts : ∀ w ∈ LA, w.before _ s = true := fun w hw => atoms_spec (ws := (wh_ yL_cellOf cL_cellOf 5 (some .int) [(0, 7, 8, 21), (0, 7, 13, 15)])) Bo.pre w (List.mem_cons_of_mem _ hw)
  have hown : s.vm.findClass RL = some m.cls := findClass_of_methodNamed Bo.named
  have hlocks := Bo.notSynchronized
  have hK := hC.1
  subst hsz
  obtain ⟨fs, h0⟩ := h0
  have hsub : ∀ q, OA (w.map Prod.fst) s.heap.size q → OA (w.map Prod.fst) s.heap.size q := fun _ h => h
  have hS : va_S (OA (w.map Prod.fst) s.heap.size) s.heap s.heap [] := va_S.rf
  have hl := lv_entry ([.ref x0, .int a1, .int a2, .int a3]) (n := 5) (Nat.le_of_ble_eq_true rfl)
  rw [lg_entry_eq]
  generalize (lg_sl ([.ref x0, .int a1, .int a2, .int a3]) ++ List.replicate (5 - (lg_sl ([.ref x0, .int a1, .int a2, .int a3])).length) Slot.unset).toArray = ls at hl ⊢
  have hl : lv_has ls 5 [(0, .ref x0), (1, .int a1), (2, .int a2), (3, .int a3)] := hl
  refine lv_aload_n hx hb dL_cellOf_0 rfl (lv_at hl 0 rfl) ?_
  refine lv_iload_n hx hb dL_cellOf_1 rfl (lv_at hl 1 rfl) ?_
  refine lv_iload_n hx hb dL_cellOf_2 rfl (lv_at hl 2 rfl) ?_
  refine lv_iload_n hx hb dL_cellOf_3 rfl (lv_at hl 3 rfl) ?_
  refine call_XB (vx_runV (As := [.int a1, .int a2, .int a3]) (rest := []) ⟨hx, hb, hml, hown, hts⟩ (hu s.heap.size) (kV hts qw760 qw761 qw762 qw1 qw763 ok_X4_cell ⟨Nat.le_of_ble_eq_true rfl, Nat.le_of_ble_eq_true rfl⟩) ⟨PM.blind, va_recv hK hP (ci := 5) (q0 := 0) rfl h0, fun U hU hW => ⟨rfl, by rw [hU]; exact hC.warm hW, by rw [hU], by rw [hU]; exact hP, hD, hZ⟩⟩ rfl rfl hl.1 rfl (lv_room (Nat.le_of_ble_eq_true rfl)) dL_cellOf_4 ⟨Nat.le_of_ble_eq_true rfl, Nat.le_of_ble_eq_true rfl⟩) hS hsub (fun w1 H1 locs1 q9 ce hR1 hP1 hD1 hS hsz1 hk1 hce hcv hcl => ?_)
  refine vx_catch (name := "java/lang/IndexOutOfBoundsException") hown [] ⟨0, 7, 8, 21⟩ [⟨0, 7, 13, 15⟩] hxt (fun z hz => nomatch hz) (by decide) (by decide) (hts _ qw548) (va_Nw.use rfl (hC.2.1 _ qw564)) hce hcv hcl ?_
  refine lv_astore (lv' := (4, .ref q9) :: [(0, .ref x0), (1, .int a1), (2, .int a2), (3, .int a3)]) hx hb dL_cellOf_8 hl (by decide) rfl (fun ls hl => ?_)
  refine W.widen (k := 1) (n := 6) (by decide) (by decide) ?_
  refine lv_ldc (v := (-2000001)) hx hb hown (hts _ qw544) dL_cellOf_10 ?_
  exact W.iret hx hb hr (fun t9 ht hW => ⟨w1, hR1, rfl, by rw [ht]; exact hP1, hD1, hS.F ht⟩) hS.2.2 dL_cellOf_12
set_option maxHeartbeats 4000000 in
theorem gx2_cellOf (l : Launch) (z0 : Nat) (D : va_G) (t : Nat → ClassId) (x0 : Nat) {w : va_W} {R' : va_W → Prop} (a1 : Int32) (a2 : Int32) (a3 : Int32) (h0 : ∃ fs, w[0]? = some (x0, .inr (5, fs))) (hu : ∀ sz, UX l yX4_cell cX4_cell 4 (some .int) rx_X4_cell IAE z0 D t (.ref x0 :: [.int a1, .int a2, .int a3]) w sz R' 1 6) (sz : Nat) : Met l yL_cellOf (wh_ yL_cellOf cL_cellOf 5 (some .int) [(0, 7, 8, 21), (0, 7, 13, 15)]) rh_cellOf (PMH z0 D t [.ref x0, .int a1, .int a2, .int a3] w (w.map Prod.fst) sz) (QB (fun _ : va_W => some (.int (-2000002))) D (fun w9 => w9) R' (w.map Prod.fst) sz) 1 6 (OA (w.map Prod.fst) sz) := by
  refine met_ofWH (cc := cL_cellOf) (maxL := 5) (ret := (some .int)) (hh := [(0, 7, 8, 21), (0, 7, 13, 15)]) (by decide) rfl ?_
  intro p e s m args below meth c s₁ Bo hml hxt hv
  obtain ⟨rfl, ⟨hC, hN⟩, hsz, hP, hD, hZ⟩ := hv
  have hx := Bo.exec
  have hb := Bo.bytes
  have hr := Bo.returns
  have hts : ∀ w ∈ LA, w.before _ s = true := fun w hw => atoms_spec (ws := (wh_ yL_cellOf cL_cellOf 5 (some .int) [(0, 7, 8, 21), (0, 7, 13, 15)])) Bo.pre w (List.mem_cons_of_mem _ hw)
  have hown : s.vm.findClass RL = some m.cls := findClass_of_methodNamed Bo.named
  have hlocks := Bo.notSynchronized
  have hK := hC.1
  subst hsz
  obtain ⟨fs, h0⟩ := h0
  have hsub : ∀ q, OA (w.map Prod.fst) s.heap.size q → OA (w.map Prod.fst) s.heap.size q := fun _ h => h
  have hS : va_S (OA (w.map Prod.fst) s.heap.size) s.heap s.heap [] := va_S.rf
  have hl := lv_entry ([.ref x0, .int a1, .int a2, .int a3]) (n := 5) (Nat.le_of_ble_eq_true rfl)
  rw [lg_entry_eq]
  generalize (lg_sl ([.ref x0, .int a1, .int a2, .int a3]) ++ List.replicate (5 - (lg_sl ([.ref x0, .int a1, .int a2, .int a3])).length) Slot.unset).toArray = ls at hl ⊢
  have hl : lv_has ls 5 [(0, .ref x0), (1, .int a1), (2, .int a2), (3, .int a3)] := hl
  refine lv_aload_n hx hb dL_cellOf_0 rfl (lv_at hl 0 rfl) ?_
  refine lv_iload_n hx hb dL_cellOf_1 rfl (lv_at hl 1 rfl) ?_
  refine lv_iload_n hx hb dL_cellOf_2 rfl (lv_at hl 2 rfl) ?_
  refine lv_iload_n hx hb dL_cellOf_3 rfl (lv_at hl 3 rfl) ?_
  refine call_XB (vx_runV (As := [.int a1, .int a2, .int a3]) (rest := []) ⟨hx, hb, hml, hown, hts⟩ (hu s.heap.size) (kV hts qw760 qw761 qw762 qw1 qw763 ok_X4_cell ⟨Nat.le_of_ble_eq_true rfl, Nat.le_of_ble_eq_true rfl⟩) ⟨PM.blind, va_recv hK hP (ci := 5) (q0 := 0) rfl h0, fun U hU hW => ⟨rfl, by rw [hU]; exact hC.warm hW, by rw [hU], by rw [hU]; exact hP, hD, hZ⟩⟩ rfl rfl hl.1 rfl (lv_room (Nat.le_of_ble_eq_true rfl)) dL_cellOf_4 ⟨Nat.le_of_ble_eq_true rfl, Nat.le_of_ble_eq_true rfl⟩) hS hsub (fun w1 H1 locs1 q9 ce hR1 hP1 hD1 hS hsz1 hk1 hce hcv hcl => ?_)
  refine vx_catch (name := "java/lang/IllegalArgumentException") hown [⟨0, 7, 8, 21⟩] ⟨0, 7, 13, 15⟩ [] hxt (fun z hz => by
      cases List.mem_singleton.mp hz
      exact Or.inr ⟨by decide, IOE, hts _ qw548, hN.2.2⟩) (by decide) (by decide) (hts _ qw381) (va_Nw.use rfl (hC.2.1 _ qw391)) hce hcv hcl ?_
  refine lv_astore (lv' := (4, .ref q9) :: [(0, .ref x0), (1, .int a1), (2, .int a2), (3, .int a3)]) hx hb dL_cellOf_13 hl (by decide) rfl (fun ls hl => ?_)
  refine W.widen (k := 1) (n := 6) (by decide) (by decide) ?_
  refine lv_ldc (v := (-2000002)) hx hb hown (hts _ qw595) dL_cellOf_15 ?_
  exact W.iret hx hb hr (fun t9 ht hW => ⟨w1, hR1, rfl, by rw [ht]; exact hP1, hD1, hS.F ht⟩) hS.2.2 dL_cellOf_17
abbrev rh_triple : Room := { frames := 8, cells := 1, slots := 6, locals := 163 }
abbrev rq_triple : Room := { frames := 8, cells := 0, slots := 0, locals := 163 }
theorem okL_triple : okY yL_triple 3 := ⟨by decide +kernel, by decide +kernel, by decide +kernel⟩
set_option maxHeartbeats 4000000 in
theorem gr_triple (l : Launch) (z0 : Nat) (D : va_G) (t : Nat → ClassId) (x0 : Nat) {w : va_W} {R' : va_W → Prop} {v : Int32} (a1 : Int32) (a2 : Int32) (h0 : ∃ fs, w[0]? = some (x0, .inr (5, fs))) (hu : ∀ sz, UM l yX4_triple cX4_triple 4 (some .int) rm_X4_triple (some (.int v)) z0 D t (.ref x0 :: [.int a1, .int a2]) w sz R' 0 0) (sz : Nat) : Met l yL_triple (wh_ yL_triple cL_triple 4 (some .int) [(0, 6, 7, 21), (0, 6, 11, 15)]) rq_triple (PMH z0 D t [.ref x0, .int a1, .int a2] w (w.map Prod.fst) sz) (QB (fun _ : va_W => some (.int v)) D (fun w9 => w9) R' (w.map Prod.fst) sz) 0 0 (OA (w.map Prod.fst) sz) := by
  refine met_ofWH (cc := cL_triple) (maxL := 4) (ret := (some .int)) (hh := [(0, 6, 7, 21), (0, 6, 11, 15)]) (by decide) rfl ?_
  intro p e s m args below meth c s₁ Bo hml hxt hv
  obtain ⟨rfl, ⟨hC, hN⟩, hsz, hP, hD, hZ⟩ := hv
  have hx := Bo.exec
  have hb := Bo.bytes
  have hr := Bo.returns
  have hts : ∀ w ∈ LA, w.before _ s = true := fun w hw => atoms_spec (ws := (wh_ yL_triple cL_triple 4 (some .int) [(0, 6, 7, 21), (0, 6, 11, 15)])) Bo.pre w (List.mem_cons_of_mem _ hw)
  have hown : s.vm.findClass RL = some m.cls := findClass_of_methodNamed Bo.named
  have hlocks := Bo.notSynchronized
  have hK := hC.1
  subst hsz
  obtain ⟨fs, h0⟩ := h0
  have hsub : ∀ q, OA (w.map Prod.fst) s.heap.size q → OA (w.map Prod.fst) s.heap.size q := fun _ h => h
  have hS : va_S (OA (w.map Prod.fst) s.heap.size) s.heap s.heap [] := va_S.rf
  have hl := lv_entry ([.ref x0, .int a1, .int a2]) (n := 4) (Nat.le_of_ble_eq_true rfl)
  rw [lg_entry_eq]
  generalize (lg_sl ([.ref x0, .int a1, .int a2]) ++ List.replicate (4 - (lg_sl ([.ref x0, .int a1, .int a2])).length) Slot.unset).toArray = ls at hl ⊢
  have hl : lv_has ls 4 [(0, .ref x0), (1, .int a1), (2, .int a2)] := hl
  refine lv_aload_n hx hb dL_triple_0 rfl (lv_at hl 0 rfl) ?_
  refine lv_iload_n hx hb dL_triple_1 rfl (lv_at hl 1 rfl) ?_
  refine lv_iload_n hx hb dL_triple_2 rfl (lv_at hl 2 rfl) ?_
  refine call_Q (va_runV (As := [.int a1, .int a2]) (rest := []) ⟨hx, hb, hml, hown, hts⟩ (hu s.heap.size) (kV hts qw901 qw902 qw903 qw1 qw904 ok_X4_triple ⟨Nat.le_of_ble_eq_true rfl, Nat.le_of_ble_eq_true rfl⟩) ⟨PM.blind, va_recv hK hP (ci := 5) (q0 := 0) rfl h0, fun U hU hW => ⟨rfl, by rw [hU]; exact hC.warm hW, by rw [hU], by rw [hU]; exact hP, hD, hZ⟩⟩ rfl rfl hl.1 rfl (lv_room (Nat.le_of_ble_eq_true rfl)) dL_triple_3 ⟨Nat.le_of_ble_eq_true rfl, Nat.le_of_ble_eq_true rfl⟩) hS hsub (fun w1 H1 locs1 hR1 hP1 hD1 hS hsz1 hk1 => ?_)
  exact W.iret hx hb hr (fun t9 ht hW => ⟨w1, hR1, rfl, by rw [ht]; exact hP1, hD1, hS.F ht⟩) hS.2.2 dL_triple_6
set_option maxHeartbeats 4000000 in
theorem gx1_triple (l : Launch) (z0 : Nat) (D : va_G) (t : Nat → ClassId) (x0 : Nat) {w : va_W} {R' : va_W → Prop} (a1 : Int32) (a2 : Int32) (h0 : ∃ fs, w[0]? = some (x0, .inr (5, fs))) (hu : ∀ sz, UX l yX4_triple cX4_triple 4 (some .int) rx_X4_triple IOE z0 D t (.ref x0 :: [.int a1, .int a2]) w sz R' 1 6) (sz : Nat) : Met l yL_triple (wh_ yL_triple cL_triple 4 (some .int) [(0, 6, 7, 21), (0, 6, 11, 15)]) rh_triple (PMH z0 D t [.ref x0, .int a1, .int a2] w (w.map Prod.fst) sz) (QB (fun _ : va_W => some (.int (-2000001))) D (fun w9 => w9) R' (w.map Prod.fst) sz) 1 6 (OA (w.map Prod.fst) sz) := by
  refine met_ofWH (cc := cL_triple) (maxL := 4) (ret := (some .int)) (hh := [(0, 6, 7, 21), (0, 6, 11, 15)]) (by decide) rfl ?_
  intro p e s m args below meth c s₁ Bo hml hxt hv
  obtain ⟨rfl, ⟨hC, hN⟩, hsz, hP, hD, hZ⟩ := hv
  have hx := Bo.exec
  have hb := Bo.bytes
  have hr := Bo.returns
  have hts : ∀ w ∈ LA, w.before _ s = true := fun w hw => atoms_spec (ws := (wh_ yL_triple cL_triple 4 (some .int) [(0, 6, 7, 21), (0, 6, 11, 15)])) Bo.pre w (List.mem_cons_of_mem _ hw)
  have hown : s.vm.findClass RL = some m.cls := findClass_of_methodNamed Bo.named
  have hlocks := Bo.notSynchronized
  have hK := hC.1
  subst hsz
  obtain ⟨fs, h0⟩ := h0
  have hsub : ∀ q, OA (w.map Prod.fst) s.heap.size q → OA (w.map Prod.fst) s.heap.size q := fun _ h => h
  have hS : va_S (OA (w.map Prod.fst) s.heap.size) s.heap s.heap [] := va_S.rf
  have hl := lv_entry ([.ref x0, .int a1, .int a2]) (n := 4) (Nat.le_of_ble_eq_true rfl)
  rw [lg_entry_eq]
  generalize (lg_sl ([.ref x0, .int a1, .int a2]) ++ List.replicate (4 - (lg_sl ([.ref x0, .int a1, .int a2])).length) Slot.unset).toArray = ls at hl ⊢
  have hl : lv_has ls 4 [(0, .ref x0), (1, .int a1), (2, .int a2)] := hl
  refine lv_aload_n hx hb dL_triple_0 rfl (lv_at hl 0 rfl) ?_
  refine lv_iload_n hx hb dL_triple_1 rfl (lv_at hl 1 rfl) ?_
  refine lv_iload_n hx hb dL_triple_2 rfl (lv_at hl 2 rfl) ?_
  refine call_XB (vx_runV (As := [.int a1, .int a2]) (rest := []) ⟨hx, hb, hml, hown, hts⟩ (hu s.heap.size) (kV hts qw901 qw902 qw903 qw1 qw904 ok_X4_triple ⟨Nat.le_of_ble_eq_true rfl, Nat.le_of_ble_eq_true rfl⟩) ⟨PM.blind, va_recv hK hP (ci := 5) (q0 := 0) rfl h0, fun U hU hW => ⟨rfl, by rw [hU]; exact hC.warm hW, by rw [hU], by rw [hU]; exact hP, hD, hZ⟩⟩ rfl rfl hl.1 rfl (lv_room (Nat.le_of_ble_eq_true rfl)) dL_triple_3 ⟨Nat.le_of_ble_eq_true rfl, Nat.le_of_ble_eq_true rfl⟩) hS hsub (fun w1 H1 locs1 q9 ce hR1 hP1 hD1 hS hsz1 hk1 hce hcv hcl => ?_)
  refine vx_catch (name := "java/lang/IndexOutOfBoundsException") hown [] ⟨0, 6, 7, 21⟩ [⟨0, 6, 11, 15⟩] hxt (fun z hz => nomatch hz) (by decide) (by decide) (hts _ qw548) (va_Nw.use rfl (hC.2.1 _ qw564)) hce hcv hcl ?_
  refine lv_astore_n (lv' := (3, .ref q9) :: [(0, .ref x0), (1, .int a1), (2, .int a2)]) hx hb dL_triple_7 rfl hl (by decide) rfl (fun ls hl => ?_)
  refine W.widen (k := 1) (n := 6) (by decide) (by decide) ?_
  refine lv_ldc (v := (-2000001)) hx hb hown (hts _ qw544) dL_triple_8 ?_
  exact W.iret hx hb hr (fun t9 ht hW => ⟨w1, hR1, rfl, by rw [ht]; exact hP1, hD1, hS.F ht⟩) hS.2.2 dL_triple_10
set_option maxHeartbeats 4000000 in
theorem gx2_triple (l : Launch) (z0 : Nat) (D : va_G) (t : Nat → ClassId) (x0 : Nat) {w : va_W} {R' : va_W → Prop} (a1 : Int32) (a2 : Int32) (h0 : ∃ fs, w[0]? = some (x0, .inr (5, fs))) (hu : ∀ sz, UX l yX4_triple cX4_triple 4 (some .int) rx_X4_triple IAE z0 D t (.ref x0 :: [.int a1, .int a2]) w sz R' 1 6) (sz : Nat) : Met l yL_triple (wh_ yL_triple cL_triple 4 (some .int) [(0, 6, 7, 21), (0, 6, 11, 15)]) rh_triple (PMH z0 D t [.ref x0, .int a1, .int a2] w (w.map Prod.fst) sz) (QB (fun _ : va_W => some (.int (-2000002))) D (fun w9 => w9) R' (w.map Prod.fst) sz) 1 6 (OA (w.map Prod.fst) sz) := by
  refine met_ofWH (cc := cL_triple) (maxL := 4) (ret := (some .int)) (hh := [(0, 6, 7, 21), (0, 6, 11, 15)]) (by decide) rfl ?_
  intro p e s m args below meth c s₁ Bo hml hxt hv
  obtain ⟨rfl, ⟨hC, hN⟩, hsz, hP, hD, hZ⟩ := hv
  have hx := Bo.exec
  have hb := Bo.bytes
  have hr := Bo.returns
  have hts : ∀ w ∈ LA, w.before _ s = true := fun w hw => atoms_spec (ws := (wh_ yL_triple cL_triple 4 (some .int) [(0, 6, 7, 21), (0, 6, 11, 15)])) Bo.pre w (List.mem_cons_of_mem _ hw)
  have hown : s.vm.findClass RL = some m.cls := findClass_of_methodNamed Bo.named
  have hlocks := Bo.notSynchronized
  have hK := hC.1
  subst hsz
  obtain ⟨fs, h0⟩ := h0
  have hsub : ∀ q, OA (w.map Prod.fst) s.heap.size q → OA (w.map Prod.fst) s.heap.size q := fun _ h => h
  have hS : va_S (OA (w.map Prod.fst) s.heap.size) s.heap s.heap [] := va_S.rf
  have hl := lv_entry ([.ref x0, .int a1, .int a2]) (n := 4) (Nat.le_of_ble_eq_true rfl)
  rw [lg_entry_eq]
  generalize (lg_sl ([.ref x0, .int a1, .int a2]) ++ List.replicate (4 - (lg_sl ([.ref x0, .int a1, .int a2])).length) Slot.unset).toArray = ls at hl ⊢
  have hl : lv_has ls 4 [(0, .ref x0), (1, .int a1), (2, .int a2)] := hl
  refine lv_aload_n hx hb dL_triple_0 rfl (lv_at hl 0 rfl) ?_
  refine lv_iload_n hx hb dL_triple_1 rfl (lv_at hl 1 rfl) ?_
  refine lv_iload_n hx hb dL_triple_2 rfl (lv_at hl 2 rfl) ?_
  refine call_XB (vx_runV (As := [.int a1, .int a2]) (rest := []) ⟨hx, hb, hml, hown, hts⟩ (hu s.heap.size) (kV hts qw901 qw902 qw903 qw1 qw904 ok_X4_triple ⟨Nat.le_of_ble_eq_true rfl, Nat.le_of_ble_eq_true rfl⟩) ⟨PM.blind, va_recv hK hP (ci := 5) (q0 := 0) rfl h0, fun U hU hW => ⟨rfl, by rw [hU]; exact hC.warm hW, by rw [hU], by rw [hU]; exact hP, hD, hZ⟩⟩ rfl rfl hl.1 rfl (lv_room (Nat.le_of_ble_eq_true rfl)) dL_triple_3 ⟨Nat.le_of_ble_eq_true rfl, Nat.le_of_ble_eq_true rfl⟩) hS hsub (fun w1 H1 locs1 q9 ce hR1 hP1 hD1 hS hsz1 hk1 hce hcv hcl => ?_)
  refine vx_catch (name := "java/lang/IllegalArgumentException") hown [⟨0, 6, 7, 21⟩] ⟨0, 6, 11, 15⟩ [] hxt (fun z hz => by
      cases List.mem_singleton.mp hz
      exact Or.inr ⟨by decide, IOE, hts _ qw548, hN.2.2⟩) (by decide) (by decide) (hts _ qw381) (va_Nw.use rfl (hC.2.1 _ qw391)) hce hcv hcl ?_
  refine lv_astore_n (lv' := (3, .ref q9) :: [(0, .ref x0), (1, .int a1), (2, .int a2)]) hx hb dL_triple_11 rfl hl (by decide) rfl (fun ls hl => ?_)
  refine W.widen (k := 1) (n := 6) (by decide) (by decide) ?_
  refine lv_ldc (v := (-2000002)) hx hb hown (hts _ qw595) dL_triple_12 ?_
  exact W.iret hx hb hr (fun t9 ht hW => ⟨w1, hR1, rfl, by rw [ht]; exact hP1, hD1, hS.F ht⟩) hS.2.2 dL_triple_14
abbrev rh_row : Room := { frames := 8, cells := 1, slots := 6, locals := 162 }
abbrev rq_row : Room := { frames := 8, cells := 0, slots := 0, locals := 162 }
theorem okL_row : okY yL_row 3 := ⟨by decide +kernel, by decide +kernel, by decide +kernel⟩
set_option maxHeartbeats 4000000 in
theorem gr_row (l : Launch) (z0 : Nat) (D : va_G) (t : Nat → ClassId) (x0 : Nat) {w : va_W} {R' : va_W → Prop} {v : Int32} (a1 : Int32) (a2 : Int32) (h0 : ∃ fs, w[0]? = some (x0, .inr (5, fs))) (hu : ∀ sz, UM l yX4_row cX4_row 3 (some .int) rm_X4_row (some (.int v)) z0 D t (.ref x0 :: [.int a1, .int a2]) w sz R' 0 0) (sz : Nat) : Met l yL_row (wh_ yL_row cL_row 4 (some .int) [(0, 6, 7, 21), (0, 6, 11, 15)]) rq_row (PMH z0 D t [.ref x0, .int a1, .int a2] w (w.map Prod.fst) sz) (QB (fun _ : va_W => some (.int v)) D (fun w9 => w9) R' (w.map Prod.fst) sz) 0 0 (OA (w.map Prod.fst) sz) := by
  refine met_ofWH (cc := cL_row) (maxL := 4) (ret := (some .int)) (hh := [(0, 6, 7, 21), (0, 6, 11, 15)]) (by decide) rfl ?_
  intro p e s m args below meth c s₁ Bo hml hxt hv
  obtain ⟨rfl, ⟨hC, hN⟩, hsz, hP, hD, hZ⟩ := hv
  have hx := Bo.exec
  have hb := Bo.bytes
  have hr := Bo.returns
  have hts : ∀ w ∈ LA, w.before _ s = true := fun w hw => atoms_spec (ws := (wh_ yL_row cL_row 4 (some .int) [(0, 6, 7, 21), (0, 6, 11, 15)])) Bo.pre w (List.mem_cons_of_mem _ hw)
  have hown : s.vm.findClass RL = some m.cls := findClass_of_methodNamed Bo.named
  have hlocks := Bo.notSynchronized
  have hK := hC.1
  subst hsz
  obtain ⟨fs, h0⟩ := h0
  have hsub : ∀ q, OA (w.map Prod.fst) s.heap.size q → OA (w.map Prod.fst) s.heap.size q := fun _ h => h
  have hS : va_S (OA (w.map Prod.fst) s.heap.size) s.heap s.heap [] := va_S.rf
  have hl := lv_entry ([.ref x0, .int a1, .int a2]) (n := 4) (Nat.le_of_ble_eq_true rfl)
  rw [lg_entry_eq]
  generalize (lg_sl ([.ref x0, .int a1, .int a2]) ++ List.replicate (4 - (lg_sl ([.ref x0, .int a1, .int a2])).length) Slot.unset).toArray = ls at hl ⊢
  have hl : lv_has ls 4 [(0, .ref x0), (1, .int a1), (2, .int a2)] := hl
  refine lv_aload_n hx hb dL_row_0 rfl (lv_at hl 0 rfl) ?_
  refine lv_iload_n hx hb dL_row_1 rfl (lv_at hl 1 rfl) ?_
  refine lv_iload_n hx hb dL_row_2 rfl (lv_at hl 2 rfl) ?_
  refine call_Q (va_runV (As := [.int a1, .int a2]) (rest := []) ⟨hx, hb, hml, hown, hts⟩ (hu s.heap.size) (kV hts qw791 qw792 qw793 qw1 qw794 ok_X4_row ⟨Nat.le_of_ble_eq_true rfl, Nat.le_of_ble_eq_true rfl⟩) ⟨PM.blind, va_recv hK hP (ci := 5) (q0 := 0) rfl h0, fun U hU hW => ⟨rfl, by rw [hU]; exact hC.warm hW, by rw [hU], by rw [hU]; exact hP, hD, hZ⟩⟩ rfl rfl hl.1 rfl (lv_room (Nat.le_of_ble_eq_true rfl)) dL_row_3 ⟨Nat.le_of_ble_eq_true rfl, Nat.le_of_ble_eq_true rfl⟩) hS hsub (fun w1 H1 locs1 hR1 hP1 hD1 hS hsz1 hk1 => ?_)
  exact W.iret hx hb hr (fun t9 ht hW => ⟨w1, hR1, rfl, by rw [ht]; exact hP1, hD1, hS.F ht⟩) hS.2.2 dL_row_6
set_option maxHeartbeats 4000000 in
theorem gx1_row (l : Launch) (z0 : Nat) (D : va_G) (t : Nat → ClassId) (x0 : Nat) {w : va_W} {R' : va_W → Prop} (a1 : Int32) (a2 : Int32) (h0 : ∃ fs, w[0]? = some (x0, .inr (5, fs))) (hu : ∀ sz, UX l yX4_row cX4_row 3 (some .int) rx_X4_row IOE z0 D t (.ref x0 :: [.int a1, .int a2]) w sz R' 1 6) (sz : Nat) : Met l yL_row (wh_ yL_row cL_row 4 (some .int) [(0, 6, 7, 21), (0, 6, 11, 15)]) rh_row (PMH z0 D t [.ref x0, .int a1, .int a2] w (w.map Prod.fst) sz) (QB (fun _ : va_W => some (.int (-2000001))) D (fun w9 => w9) R' (w.map Prod.fst) sz) 1 6 (OA (w.map Prod.fst) sz) := by
  refine met_ofWH (cc := cL_row) (maxL := 4) (ret := (some .int)) (hh := [(0, 6, 7, 21), (0, 6, 11, 15)]) (by decide) rfl ?_
  intro p e s m args below meth c s₁ Bo hml hxt hv
  obtain ⟨rfl, ⟨hC, hN⟩, hsz, hP, hD, hZ⟩ := hv
  have hx := Bo.exec
  have hb := Bo.bytes
  have hr := Bo.returns
  have hts : ∀ w ∈ LA, w.before _ s = true := fun w hw => atoms_spec (ws := (wh_ yL_row cL_row 4 (some .int) [(0, 6, 7, 21), (0, 6, 11, 15)])) Bo.pre w (List.mem_cons_of_mem _ hw)
  have hown : s.vm.findClass RL = some m.cls := findClass_of_methodNamed Bo.named
  have hlocks := Bo.notSynchronized
  have hK := hC.1
  subst hsz
  obtain ⟨fs, h0⟩ := h0
  have hsub : ∀ q, OA (w.map Prod.fst) s.heap.size q → OA (w.map Prod.fst) s.heap.size q := fun _ h => h
  have hS : va_S (OA (w.map Prod.fst) s.heap.size) s.heap s.heap [] := va_S.rf
  have hl := lv_entry ([.ref x0, .int a1, .int a2]) (n := 4) (Nat.le_of_ble_eq_true rfl)
  rw [lg_entry_eq]
  generalize (lg_sl ([.ref x0, .int a1, .int a2]) ++ List.replicate (4 - (lg_sl ([.ref x0, .int a1, .int a2])).length) Slot.unset).toArray = ls at hl ⊢
  have hl : lv_has ls 4 [(0, .ref x0), (1, .int a1), (2, .int a2)] := hl
  refine lv_aload_n hx hb dL_row_0 rfl (lv_at hl 0 rfl) ?_
  refine lv_iload_n hx hb dL_row_1 rfl (lv_at hl 1 rfl) ?_
  refine lv_iload_n hx hb dL_row_2 rfl (lv_at hl 2 rfl) ?_
  refine call_XB (vx_runV (As := [.int a1, .int a2]) (rest := []) ⟨hx, hb, hml, hown, hts⟩ (hu s.heap.size) (kV hts qw791 qw792 qw793 qw1 qw794 ok_X4_row ⟨Nat.le_of_ble_eq_true rfl, Nat.le_of_ble_eq_true rfl⟩) ⟨PM.blind, va_recv hK hP (ci := 5) (q0 := 0) rfl h0, fun U hU hW => ⟨rfl, by rw [hU]; exact hC.warm hW, by rw [hU], by rw [hU]; exact hP, hD, hZ⟩⟩ rfl rfl hl.1 rfl (lv_room (Nat.le_of_ble_eq_true rfl)) dL_row_3 ⟨Nat.le_of_ble_eq_true rfl, Nat.le_of_ble_eq_true rfl⟩) hS hsub (fun w1 H1 locs1 q9 ce hR1 hP1 hD1 hS hsz1 hk1 hce hcv hcl => ?_)
  refine vx_catch (name := "java/lang/IndexOutOfBoundsException") hown [] ⟨0, 6, 7, 21⟩ [⟨0, 6, 11, 15⟩] hxt (fun z hz => nomatch hz) (by decide) (by decide) (hts _ qw548) (va_Nw.use rfl (hC.2.1 _ qw564)) hce hcv hcl ?_
  refine lv_astore_n (lv' := (3, .ref q9) :: [(0, .ref x0), (1, .int a1), (2, .int a2)]) hx hb dL_row_7 rfl hl (by decide) rfl (fun ls hl => ?_)
  refine W.widen (k := 1) (n := 6) (by decide) (by decide) ?_
  refine lv_ldc (v := (-2000001)) hx hb hown (hts _ qw544) dL_row_8 ?_
  exact W.iret hx hb hr (fun t9 ht hW => ⟨w1, hR1, rfl, by rw [ht]; exact hP1, hD1, hS.F ht⟩) hS.2.2 dL_row_10
set_option maxHeartbeats 4000000 in
theorem gx2_row (l : Launch) (z0 : Nat) (D : va_G) (t : Nat → ClassId) (x0 : Nat) {w : va_W} {R' : va_W → Prop} (a1 : Int32) (a2 : Int32) (h0 : ∃ fs, w[0]? = some (x0, .inr (5, fs))) (hu : ∀ sz, UX l yX4_row cX4_row 3 (some .int) rx_X4_row IAE z0 D t (.ref x0 :: [.int a1, .int a2]) w sz R' 1 6) (sz : Nat) : Met l yL_row (wh_ yL_row cL_row 4 (some .int) [(0, 6, 7, 21), (0, 6, 11, 15)]) rh_row (PMH z0 D t [.ref x0, .int a1, .int a2] w (w.map Prod.fst) sz) (QB (fun _ : va_W => some (.int (-2000002))) D (fun w9 => w9) R' (w.map Prod.fst) sz) 1 6 (OA (w.map Prod.fst) sz) := by
  refine met_ofWH (cc := cL_row) (maxL := 4) (ret := (some .int)) (hh := [(0, 6, 7, 21), (0, 6, 11, 15)]) (by decide) rfl ?_
  intro p e s m args below meth c s₁ Bo hml hxt hv
  obtain ⟨rfl, ⟨hC, hN⟩, hsz, hP, hD, hZ⟩ := hv
  have hx := Bo.exec
  have hb := Bo.bytes
  have hr := Bo.returns
  have hts : ∀ w ∈ LA, w.before _ s = true := fun w hw => atoms_spec (ws := (wh_ yL_row cL_row 4 (some .int) [(0, 6, 7, 21), (0, 6, 11, 15)])) Bo.pre w (List.mem_cons_of_mem _ hw)
  have hown : s.vm.findClass RL = some m.cls := findClass_of_methodNamed Bo.named
  have hlocks := Bo.notSynchronized
  have hK := hC.1
  subst hsz
  obtain ⟨fs, h0⟩ := h0
  have hsub : ∀ q, OA (w.map Prod.fst) s.heap.size q → OA (w.map Prod.fst) s.heap.size q := fun _ h => h
  have hS : va_S (OA (w.map Prod.fst) s.heap.size) s.heap s.heap [] := va_S.rf
  have hl := lv_entry ([.ref x0, .int a1, .int a2]) (n := 4) (Nat.le_of_ble_eq_true rfl)
  rw [lg_entry_eq]
  generalize (lg_sl ([.ref x0, .int a1, .int a2]) ++ List.replicate (4 - (lg_sl ([.ref x0, .int a1, .int a2])).length) Slot.unset).toArray = ls at hl ⊢
  have hl : lv_has ls 4 [(0, .ref x0), (1, .int a1), (2, .int a2)] := hl
  refine lv_aload_n hx hb dL_row_0 rfl (lv_at hl 0 rfl) ?_
  refine lv_iload_n hx hb dL_row_1 rfl (lv_at hl 1 rfl) ?_
  refine lv_iload_n hx hb dL_row_2 rfl (lv_at hl 2 rfl) ?_
  refine call_XB (vx_runV (As := [.int a1, .int a2]) (rest := []) ⟨hx, hb, hml, hown, hts⟩ (hu s.heap.size) (kV hts qw791 qw792 qw793 qw1 qw794 ok_X4_row ⟨Nat.le_of_ble_eq_true rfl, Nat.le_of_ble_eq_true rfl⟩) ⟨PM.blind, va_recv hK hP (ci := 5) (q0 := 0) rfl h0, fun U hU hW => ⟨rfl, by rw [hU]; exact hC.warm hW, by rw [hU], by rw [hU]; exact hP, hD, hZ⟩⟩ rfl rfl hl.1 rfl (lv_room (Nat.le_of_ble_eq_true rfl)) dL_row_3 ⟨Nat.le_of_ble_eq_true rfl, Nat.le_of_ble_eq_true rfl⟩) hS hsub (fun w1 H1 locs1 q9 ce hR1 hP1 hD1 hS hsz1 hk1 hce hcv hcl => ?_)
  refine vx_catch (name := "java/lang/IllegalArgumentException") hown [⟨0, 6, 7, 21⟩] ⟨0, 6, 11, 15⟩ [] hxt (fun z hz => by
      cases List.mem_singleton.mp hz
      exact Or.inr ⟨by decide, IOE, hts _ qw548, hN.2.2⟩) (by decide) (by decide) (hts _ qw381) (va_Nw.use rfl (hC.2.1 _ qw391)) hce hcv hcl ?_
  refine lv_astore_n (lv' := (3, .ref q9) :: [(0, .ref x0), (1, .int a1), (2, .int a2)]) hx hb dL_row_11 rfl hl (by decide) rfl (fun ls hl => ?_)
  refine W.widen (k := 1) (n := 6) (by decide) (by decide) ?_
  refine lv_ldc (v := (-2000002)) hx hb hown (hts _ qw595) dL_row_12 ?_
  exact W.iret hx hb hr (fun t9 ht hW => ⟨w1, hR1, rfl, by rw [ht]; exact hP1, hD1, hS.F ht⟩) hS.2.2 dL_row_14
abbrev rh_count : Room := { frames := 7, cells := 1, slots := 6, locals := 156 }
abbrev rq_count : Room := { frames := 7, cells := 0, slots := 0, locals := 156 }
theorem okL_count : okY yL_count 2 := ⟨by decide +kernel, by decide +kernel, by decide +kernel⟩
set_option maxHeartbeats 4000000 in
theorem gr_count (l : Launch) (z0 : Nat) (D : va_G) (t : Nat → ClassId) (x0 : Nat) {w : va_W} {R' : va_W → Prop} {v : Int32} (a1 : Int32) (h0 : ∃ fs, w[0]? = some (x0, .inr (5, fs))) (hu : ∀ sz, UM l yX4_count cX4_count 2 (some .int) rm_X4_count (some (.int v)) z0 D t (.ref x0 :: [.int a1]) w sz R' 0 0) (sz : Nat) : Met l yL_count (wh_ yL_count cL_count 3 (some .int) [(0, 5, 6, 15)]) rq_count (PMH z0 D t [.ref x0, .int a1] w (w.map Prod.fst) sz) (QB (fun _ : va_W => some (.int v)) D (fun w9 => w9) R' (w.map Prod.fst) sz) 0 0 (OA (w.map Prod.fst) sz) := by
  refine met_ofWH (cc := cL_count) (maxL := 3) (ret := (some .int)) (hh := [(0, 5, 6, 15)]) (by decide) rfl ?_
  intro p e s m args below meth c s₁ Bo hml hxt hv
  obtain ⟨rfl, ⟨hC, hN⟩, hsz, hP, hD, hZ⟩ := hv
  have hx := Bo.exec
  have hb := Bo.bytes
  have hr := Bo.returns
  have hts : ∀ w ∈ LA, w.before _ s = true := fun w hw => atoms_spec (ws := (wh_ yL_count cL_count 3 (some .int) [(0, 5, 6, 15)])) Bo.pre w (List.mem_cons_of_mem _ hw)
  have hown : s.vm.findClass RL = some m.cls := findClass_of_methodNamed Bo.named
  have hlocks := Bo.notSynchronized
  have hK := hC.1
  subst hsz
  obtain ⟨fs, h0⟩ := h0
  have hsub : ∀ q, OA (w.map Prod.fst) s.heap.size q → OA (w.map Prod.fst) s.heap.size q := fun _ h => h
  have hS : va_S (OA (w.map Prod.fst) s.heap.size) s.heap s.heap [] := va_S.rf
  have hl := lv_entry ([.ref x0, .int a1]) (n := 3) (Nat.le_of_ble_eq_true rfl)
  rw [lg_entry_eq]
  generalize (lg_sl ([.ref x0, .int a1]) ++ List.replicate (3 - (lg_sl ([.ref x0, .int a1])).length) Slot.unset).toArray = ls at hl ⊢
  have hl : lv_has ls 3 [(0, .ref x0), (1, .int a1)] := hl
  refine lv_aload_n hx hb dL_count_0 rfl (lv_at hl 0 rfl) ?_
  refine lv_iload_n hx hb dL_count_1 rfl (lv_at hl 1 rfl) ?_
  refine call_Q (va_runV (As := [.int a1]) (rest := []) ⟨hx, hb, hml, hown, hts⟩ (hu s.heap.size) (kV hts qw803 qw804 qw805 qw1 qw806 ok_X4_count ⟨Nat.le_of_ble_eq_true rfl, Nat.le_of_ble_eq_true rfl⟩) ⟨PM.blind, va_recv hK hP (ci := 5) (q0 := 0) rfl h0, fun U hU hW => ⟨rfl, by rw [hU]; exact hC.warm hW, by rw [hU], by rw [hU]; exact hP, hD, hZ⟩⟩ rfl rfl hl.1 rfl (lv_room (Nat.le_of_ble_eq_true rfl)) dL_count_2 ⟨Nat.le_of_ble_eq_true rfl, Nat.le_of_ble_eq_true rfl⟩) hS hsub (fun w1 H1 locs1 hR1 hP1 hD1 hS hsz1 hk1 => ?_)
  exact W.iret hx hb hr (fun t9 ht hW => ⟨w1, hR1, rfl, by rw [ht]; exact hP1, hD1, hS.F ht⟩) hS.2.2 dL_count_5
set_option maxHeartbeats 4000000 in
theorem gx1_count (l : Launch) (z0 : Nat) (D : va_G) (t : Nat → ClassId) (x0 : Nat) {w : va_W} {R' : va_W → Prop} (a1 : Int32) (h0 : ∃ fs, w[0]? = some (x0, .inr (5, fs))) (hu : ∀ sz, UX l yX4_count cX4_count 2 (some .int) rx_X4_count IAE z0 D t (.ref x0 :: [.int a1]) w sz R' 1 6) (sz : Nat) : Met l yL_count (wh_ yL_count cL_count 3 (some .int) [(0, 5, 6, 15)]) rh_count (PMH z0 D t [.ref x0, .int a1] w (w.map Prod.fst) sz) (QB (fun _ : va_W => some (.int (-2000001))) D (fun w9 => w9) R' (w.map Prod.fst) sz) 1 6 (OA (w.map Prod.fst) sz) := by
  refine met_ofWH (cc := cL_count) (maxL := 3) (ret := (some .int)) (hh := [(0, 5, 6, 15)]) (by decide) rfl ?_
  intro p e s m args below meth c s₁ Bo hml hxt hv
  obtain ⟨rfl, ⟨hC, hN⟩, hsz, hP, hD, hZ⟩ := hv
  have hx := Bo.exec
  have hb := Bo.bytes
  have hr := Bo.returns
  have hts : ∀ w ∈ LA, w.before _ s = true := fun w hw => atoms_spec (ws := (wh_ yL_count cL_count 3 (some .int) [(0, 5, 6, 15)])) Bo.pre w (List.mem_cons_of_mem _ hw)
  have hown : s.vm.findClass RL = some m.cls := findClass_of_methodNamed Bo.named
  have hlocks := Bo.notSynchronized
  have hK := hC.1
  subst hsz
  obtain ⟨fs, h0⟩ := h0
  have hsub : ∀ q, OA (w.map Prod.fst) s.heap.size q → OA (w.map Prod.fst) s.heap.size q := fun _ h => h
  have hS : va_S (OA (w.map Prod.fst) s.heap.size) s.heap s.heap [] := va_S.rf
  have hl := lv_entry ([.ref x0, .int a1]) (n := 3) (Nat.le_of_ble_eq_true rfl)
  rw [lg_entry_eq]
  generalize (lg_sl ([.ref x0, .int a1]) ++ List.replicate (3 - (lg_sl ([.ref x0, .int a1])).length) Slot.unset).toArray = ls at hl ⊢
  have hl : lv_has ls 3 [(0, .ref x0), (1, .int a1)] := hl
  refine lv_aload_n hx hb dL_count_0 rfl (lv_at hl 0 rfl) ?_
  refine lv_iload_n hx hb dL_count_1 rfl (lv_at hl 1 rfl) ?_
  refine call_XB (vx_runV (As := [.int a1]) (rest := []) ⟨hx, hb, hml, hown, hts⟩ (hu s.heap.size) (kV hts qw803 qw804 qw805 qw1 qw806 ok_X4_count ⟨Nat.le_of_ble_eq_true rfl, Nat.le_of_ble_eq_true rfl⟩) ⟨PM.blind, va_recv hK hP (ci := 5) (q0 := 0) rfl h0, fun U hU hW => ⟨rfl, by rw [hU]; exact hC.warm hW, by rw [hU], by rw [hU]; exact hP, hD, hZ⟩⟩ rfl rfl hl.1 rfl (lv_room (Nat.le_of_ble_eq_true rfl)) dL_count_2 ⟨Nat.le_of_ble_eq_true rfl, Nat.le_of_ble_eq_true rfl⟩) hS hsub (fun w1 H1 locs1 q9 ce hR1 hP1 hD1 hS hsz1 hk1 hce hcv hcl => ?_)
  refine vx_catch (name := "java/lang/IllegalArgumentException") hown [] ⟨0, 5, 6, 15⟩ [] hxt (fun z hz => nomatch hz) (by decide) (by decide) (hts _ qw381) (va_Nw.use rfl (hC.2.1 _ qw391)) hce hcv hcl ?_
  refine lv_astore_n (lv' := (2, .ref q9) :: [(0, .ref x0), (1, .int a1)]) hx hb dL_count_6 rfl hl (by decide) rfl (fun ls hl => ?_)
  refine W.widen (k := 1) (n := 6) (by decide) (by decide) ?_
  refine lv_ldc (v := (-2000001)) hx hb hown (hts _ qw544) dL_count_7 ?_
  exact W.iret hx hb hr (fun t9 ht hW => ⟨w1, hR1, rfl, by rw [ht]; exact hP1, hD1, hS.F ht⟩) hS.2.2 dL_count_9
abbrev rh_whyNot : Room := { frames := 8, cells := 1, slots := 6, locals := 163 }
abbrev rq_whyNot : Room := { frames := 8, cells := 0, slots := 0, locals := 163 }
theorem okL_whyNot : okY yL_whyNot 4 := ⟨by decide +kernel, by decide +kernel, by decide +kernel⟩
set_option maxHeartbeats 4000000 in
theorem gr_whyNot (l : Launch) (z0 : Nat) (D : va_G) (t : Nat → ClassId) (x0 : Nat) {w : va_W} {R' : va_W → Prop} {v : Int32} (a1 : Int32) (a2 : Int32) (a3 : Int32) (h0 : ∃ fs, w[0]? = some (x0, .inr (5, fs))) (hu : ∀ sz, UM l yX4_whyNot cX4_whyNot 4 (some .int) rm_X4_whyNot (some (.int v)) z0 D t (.ref x0 :: [.int a1, .int a2, .int a3]) w sz R' 0 0) (sz : Nat) : Met l yL_whyNot (wh_ yL_whyNot cL_whyNot 5 (some .int) [(0, 7, 8, 15)]) rq_whyNot (PMH z0 D t [.ref x0, .int a1, .int a2, .int a3] w (w.map Prod.fst) sz) (QB (fun _ : va_W => some (.int v)) D (fun w9 => w9) R' (w.map Prod.fst) sz) 0 0 (OA (w.map Prod.fst) sz) := by
  refine met_ofWH (cc := cL_whyNot) (maxL := 5) (ret := (some .int)) (hh := [(0, 7, 8, 15)]) (by decide) rfl ?_
  intro p e s m args below meth c s₁ Bo hml hxt hv
  obtain ⟨rfl, ⟨hC, hN⟩, hsz, hP, hD, hZ⟩ := hv
  have hx := Bo.exec
  have hb := Bo.bytes
  have hr := Bo.returns
  have hts : ∀ w ∈ LA, w.before _ s = true := fun w hw => atoms_spec (ws := (wh_ yL_whyNot cL_whyNot 5 (some .int) [(0, 7, 8, 15)])) Bo.pre w (List.mem_cons_of_mem _ hw)
  have hown : s.vm.findClass RL = some m.cls := findClass_of_methodNamed Bo.named
  have hlocks := Bo.notSynchronized
  have hK := hC.1
  subst hsz
  obtain ⟨fs, h0⟩ := h0
  have hsub : ∀ q, OA (w.map Prod.fst) s.heap.size q → OA (w.map Prod.fst) s.heap.size q := fun _ h => h
  have hS : va_S (OA (w.map Prod.fst) s.heap.size) s.heap s.heap [] := va_S.rf
  have hl := lv_entry ([.ref x0, .int a1, .int a2, .int a3]) (n := 5) (Nat.le_of_ble_eq_true rfl)
  rw [lg_entry_eq]
  generalize (lg_sl ([.ref x0, .int a1, .int a2, .int a3]) ++ List.replicate (5 - (lg_sl ([.ref x0, .int a1, .int a2, .int a3])).length) Slot.unset).toArray = ls at hl ⊢
  have hl : lv_has ls 5 [(0, .ref x0), (1, .int a1), (2, .int a2), (3, .int a3)] := hl
  refine lv_aload_n hx hb dL_whyNot_0 rfl (lv_at hl 0 rfl) ?_
  refine lv_iload_n hx hb dL_whyNot_1 rfl (lv_at hl 1 rfl) ?_
  refine lv_iload_n hx hb dL_whyNot_2 rfl (lv_at hl 2 rfl) ?_
  refine lv_iload_n hx hb dL_whyNot_3 rfl (lv_at hl 3 rfl) ?_
  refine call_Q (va_runV (As := [.int a1, .int a2, .int a3]) (rest := []) ⟨hx, hb, hml, hown, hts⟩ (hu s.heap.size) (kV hts qw821 qw822 qw823 qw1 qw824 ok_X4_whyNot ⟨Nat.le_of_ble_eq_true rfl, Nat.le_of_ble_eq_true rfl⟩) ⟨PM.blind, va_recv hK hP (ci := 5) (q0 := 0) rfl h0, fun U hU hW => ⟨rfl, by rw [hU]; exact hC.warm hW, by rw [hU], by rw [hU]; exact hP, hD, hZ⟩⟩ rfl rfl hl.1 rfl (lv_room (Nat.le_of_ble_eq_true rfl)) dL_whyNot_4 ⟨Nat.le_of_ble_eq_true rfl, Nat.le_of_ble_eq_true rfl⟩) hS hsub (fun w1 H1 locs1 hR1 hP1 hD1 hS hsz1 hk1 => ?_)
  exact W.iret hx hb hr (fun t9 ht hW => ⟨w1, hR1, rfl, by rw [ht]; exact hP1, hD1, hS.F ht⟩) hS.2.2 dL_whyNot_7
abbrev rh_waysWith : Room := { frames := 8, cells := 1, slots := 6, locals := 163 }
abbrev rq_waysWith : Room := { frames := 8, cells := 0, slots := 0, locals := 163 }
theorem okL_waysWith : okY yL_waysWith 4 := ⟨by decide +kernel, by decide +kernel, by decide +kernel⟩
set_option maxHeartbeats 4000000 in
theorem gr_waysWith (l : Launch) (z0 : Nat) (D : va_G) (t : Nat → ClassId) (x0 : Nat) {w : va_W} {R' : va_W → Prop} {v : Int32} (a1 : Int32) (a2 : Int32) (a3 : Int32) (h0 : ∃ fs, w[0]? = some (x0, .inr (5, fs))) (hu : ∀ sz, UM l yX4_waysWith cX4_waysWith 4 (some .int) rm_X4_waysWith (some (.int v)) z0 D t (.ref x0 :: [.int a1, .int a2, .int a3]) w sz R' 0 0) (sz : Nat) : Met l yL_waysWith (wh_ yL_waysWith cL_waysWith 5 (some .int) [(0, 7, 8, 15)]) rq_waysWith (PMH z0 D t [.ref x0, .int a1, .int a2, .int a3] w (w.map Prod.fst) sz) (QB (fun _ : va_W => some (.int v)) D (fun w9 => w9) R' (w.map Prod.fst) sz) 0 0 (OA (w.map Prod.fst) sz) := by
  refine met_ofWH (cc := cL_waysWith) (maxL := 5) (ret := (some .int)) (hh := [(0, 7, 8, 15)]) (by decide) rfl ?_
  intro p e s m args below meth c s₁ Bo hml hxt hv
  obtain ⟨rfl, ⟨hC, hN⟩, hsz, hP, hD, hZ⟩ := hv
  have hx := Bo.exec
  have hb := Bo.bytes
  have hr := Bo.returns
  have hts : ∀ w ∈ LA, w.before _ s = true := fun w hw => atoms_spec (ws := (wh_ yL_waysWith cL_waysWith 5 (some .int) [(0, 7, 8, 15)])) Bo.pre w (List.mem_cons_of_mem _ hw)
  have hown : s.vm.findClass RL = some m.cls := findClass_of_methodNamed Bo.named
  have hlocks := Bo.notSynchronized
  have hK := hC.1
  subst hsz
  obtain ⟨fs, h0⟩ := h0
  have hsub : ∀ q, OA (w.map Prod.fst) s.heap.size q → OA (w.map Prod.fst) s.heap.size q := fun _ h => h
  have hS : va_S (OA (w.map Prod.fst) s.heap.size) s.heap s.heap [] := va_S.rf
  have hl := lv_entry ([.ref x0, .int a1, .int a2, .int a3]) (n := 5) (Nat.le_of_ble_eq_true rfl)
  rw [lg_entry_eq]
  generalize (lg_sl ([.ref x0, .int a1, .int a2, .int a3]) ++ List.replicate (5 - (lg_sl ([.ref x0, .int a1, .int a2, .int a3])).length) Slot.unset).toArray = ls at hl ⊢
  have hl : lv_has ls 5 [(0, .ref x0), (1, .int a1), (2, .int a2), (3, .int a3)] := hl
  refine lv_aload_n hx hb dL_waysWith_0 rfl (lv_at hl 0 rfl) ?_
  refine lv_iload_n hx hb dL_waysWith_1 rfl (lv_at hl 1 rfl) ?_
  refine lv_iload_n hx hb dL_waysWith_2 rfl (lv_at hl 2 rfl) ?_
  refine lv_iload_n hx hb dL_waysWith_3 rfl (lv_at hl 3 rfl) ?_
  refine call_Q (va_runV (As := [.int a1, .int a2, .int a3]) (rest := []) ⟨hx, hb, hml, hown, hts⟩ (hu s.heap.size) (kV hts qw828 qw829 qw830 qw1 qw831 ok_X4_waysWith ⟨Nat.le_of_ble_eq_true rfl, Nat.le_of_ble_eq_true rfl⟩) ⟨PM.blind, va_recv hK hP (ci := 5) (q0 := 0) rfl h0, fun U hU hW => ⟨rfl, by rw [hU]; exact hC.warm hW, by rw [hU], by rw [hU]; exact hP, hD, hZ⟩⟩ rfl rfl hl.1 rfl (lv_room (Nat.le_of_ble_eq_true rfl)) dL_waysWith_4 ⟨Nat.le_of_ble_eq_true rfl, Nat.le_of_ble_eq_true rfl⟩) hS hsub (fun w1 H1 locs1 hR1 hP1 hD1 hS hsz1 hk1 => ?_)
  exact W.iret hx hb hr (fun t9 ht hW => ⟨w1, hR1, rfl, by rw [ht]; exact hP1, hD1, hS.F ht⟩) hS.2.2 dL_waysWith_7
set_option maxHeartbeats 4000000 in
theorem gx1_waysWith (l : Launch) (z0 : Nat) (D : va_G) (t : Nat → ClassId) (x0 : Nat) {w : va_W} {R' : va_W → Prop} (a1 : Int32) (a2 : Int32) (a3 : Int32) (h0 : ∃ fs, w[0]? = some (x0, .inr (5, fs))) (hu : ∀ sz, UX l yX4_waysWith cX4_waysWith 4 (some .int) rx_X4_waysWith IAE z0 D t (.ref x0 :: [.int a1, .int a2, .int a3]) w sz R' 1 6) (sz : Nat) : Met l yL_waysWith (wh_ yL_waysWith cL_waysWith 5 (some .int) [(0, 7, 8, 15)]) rh_waysWith (PMH z0 D t [.ref x0, .int a1, .int a2, .int a3] w (w.map Prod.fst) sz) (QB (fun _ : va_W => some (.int (-2000001))) D (fun w9 => w9) R' (w.map Prod.fst) sz) 1 6 (OA (w.map Prod.fst) sz) := by
  refine met_ofWH (cc := cL_waysWith) (maxL := 5) (ret := (some .int)) (hh := [(0, 7, 8, 15)]) (by decide) rfl ?_
  intro p e s m args below meth c s₁ Bo hml hxt hv
  obtain ⟨rfl, ⟨hC, hN⟩, hsz, hP, hD, hZ⟩ := hv
  have hx := Bo.exec
  have hb := Bo.bytes
  have hr := Bo.returns
  have hts : ∀ w ∈ LA, w.before _ s = true := fun w hw => atoms_spec (ws := (wh_ yL_waysWith cL_waysWith 5 (some .int) [(0, 7, 8, 15)])) Bo.pre w (List.mem_cons_of_mem _ hw)
  have hown : s.vm.findClass RL = some m.cls := findClass_of_methodNamed Bo.named
  have hlocks := Bo.notSynchronized
  have hK := hC.1
  subst hsz
  obtain ⟨fs, h0⟩ := h0
  have hsub : ∀ q, OA (w.map Prod.fst) s.heap.size q → OA (w.map Prod.fst) s.heap.size q := fun _ h => h
  have hS : va_S (OA (w.map Prod.fst) s.heap.size) s.heap s.heap [] := va_S.rf
  have hl := lv_entry ([.ref x0, .int a1, .int a2, .int a3]) (n := 5) (Nat.le_of_ble_eq_true rfl)
  rw [lg_entry_eq]
  generalize (lg_sl ([.ref x0, .int a1, .int a2, .int a3]) ++ List.replicate (5 - (lg_sl ([.ref x0, .int a1, .int a2, .int a3])).length) Slot.unset).toArray = ls at hl ⊢
  have hl : lv_has ls 5 [(0, .ref x0), (1, .int a1), (2, .int a2), (3, .int a3)] := hl
  refine lv_aload_n hx hb dL_waysWith_0 rfl (lv_at hl 0 rfl) ?_
  refine lv_iload_n hx hb dL_waysWith_1 rfl (lv_at hl 1 rfl) ?_
  refine lv_iload_n hx hb dL_waysWith_2 rfl (lv_at hl 2 rfl) ?_
  refine lv_iload_n hx hb dL_waysWith_3 rfl (lv_at hl 3 rfl) ?_
  refine call_XB (vx_runV (As := [.int a1, .int a2, .int a3]) (rest := []) ⟨hx, hb, hml, hown, hts⟩ (hu s.heap.size) (kV hts qw828 qw829 qw830 qw1 qw831 ok_X4_waysWith ⟨Nat.le_of_ble_eq_true rfl, Nat.le_of_ble_eq_true rfl⟩) ⟨PM.blind, va_recv hK hP (ci := 5) (q0 := 0) rfl h0, fun U hU hW => ⟨rfl, by rw [hU]; exact hC.warm hW, by rw [hU], by rw [hU]; exact hP, hD, hZ⟩⟩ rfl rfl hl.1 rfl (lv_room (Nat.le_of_ble_eq_true rfl)) dL_waysWith_4 ⟨Nat.le_of_ble_eq_true rfl, Nat.le_of_ble_eq_true rfl⟩) hS hsub (fun w1 H1 locs1 q9 ce hR1 hP1 hD1 hS hsz1 hk1 hce hcv hcl => ?_)
  refine vx_catch (name := "java/lang/IllegalArgumentException") hown [] ⟨0, 7, 8, 15⟩ [] hxt (fun z hz => nomatch hz) (by decide) (by decide) (hts _ qw381) (va_Nw.use rfl (hC.2.1 _ qw391)) hce hcv hcl ?_
  refine lv_astore (lv' := (4, .ref q9) :: [(0, .ref x0), (1, .int a1), (2, .int a2), (3, .int a3)]) hx hb dL_waysWith_8 hl (by decide) rfl (fun ls hl => ?_)
  refine W.widen (k := 1) (n := 6) (by decide) (by decide) ?_
  refine lv_ldc (v := (-2000001)) hx hb hown (hts _ qw544) dL_waysWith_10 ?_
  exact W.iret hx hb hr (fun t9 ht hW => ⟨w1, hR1, rfl, by rw [ht]; exact hP1, hD1, hS.F ht⟩) hS.2.2 dL_waysWith_12
abbrev rh_forced : Room := { frames := 7, cells := 1, slots := 6, locals := 159 }
abbrev rq_forced : Room := { frames := 7, cells := 0, slots := 0, locals := 159 }
theorem okL_forced : okY yL_forced 2 := ⟨by decide +kernel, by decide +kernel, by decide +kernel⟩
set_option maxHeartbeats 4000000 in
theorem gr_forced (l : Launch) (z0 : Nat) (D : va_G) (t : Nat → ClassId) (x0 : Nat) {w : va_W} {R' : va_W → Prop} {v : Int32} (a1 : Int32) (h0 : ∃ fs, w[0]? = some (x0, .inr (5, fs))) (hu : ∀ sz, UM l yX4_forced cX4_forced 3 (some .int) rm_X4_forced (some (.int v)) z0 D t (.ref x0 :: [.int a1]) w sz R' 0 0) (sz : Nat) : Met l yL_forced (wh_ yL_forced cL_forced 3 (some .int) [(0, 5, 6, 15)]) rq_forced (PMH z0 D t [.ref x0, .int a1] w (w.map Prod.fst) sz) (QB (fun _ : va_W => some (.int v)) D (fun w9 => w9) R' (w.map Prod.fst) sz) 0 0 (OA (w.map Prod.fst) sz) := by
  refine met_ofWH (cc := cL_forced) (maxL := 3) (ret := (some .int)) (hh := [(0, 5, 6, 15)]) (by decide) rfl ?_
  intro p e s m args below meth c s₁ Bo hml hxt hv
  obtain ⟨rfl, ⟨hC, hN⟩, hsz, hP, hD, hZ⟩ := hv
  have hx := Bo.exec
  have hb := Bo.bytes
  have hr := Bo.returns
  have hts : ∀ w ∈ LA, w.before _ s = true := fun w hw => atoms_spec (ws := (wh_ yL_forced cL_forced 3 (some .int) [(0, 5, 6, 15)])) Bo.pre w (List.mem_cons_of_mem _ hw)
  have hown : s.vm.findClass RL = some m.cls := findClass_of_methodNamed Bo.named
  have hlocks := Bo.notSynchronized
  have hK := hC.1
  subst hsz
  obtain ⟨fs, h0⟩ := h0
  have hsub : ∀ q, OA (w.map Prod.fst) s.heap.size q → OA (w.map Prod.fst) s.heap.size q := fun _ h => h
  have hS : va_S (OA (w.map Prod.fst) s.heap.size) s.heap s.heap [] := va_S.rf
  have hl := lv_entry ([.ref x0, .int a1]) (n := 3) (Nat.le_of_ble_eq_true rfl)
  rw [lg_entry_eq]
  generalize (lg_sl ([.ref x0, .int a1]) ++ List.replicate (3 - (lg_sl ([.ref x0, .int a1])).length) Slot.unset).toArray = ls at hl ⊢
  have hl : lv_has ls 3 [(0, .ref x0), (1, .int a1)] := hl
  refine lv_aload_n hx hb dL_forced_0 rfl (lv_at hl 0 rfl) ?_
  refine lv_iload_n hx hb dL_forced_1 rfl (lv_at hl 1 rfl) ?_
  refine call_Q (va_runV (As := [.int a1]) (rest := []) ⟨hx, hb, hml, hown, hts⟩ (hu s.heap.size) (kV hts qw837 qw838 qw839 qw1 qw840 ok_X4_forced ⟨Nat.le_of_ble_eq_true rfl, Nat.le_of_ble_eq_true rfl⟩) ⟨PM.blind, va_recv hK hP (ci := 5) (q0 := 0) rfl h0, fun U hU hW => ⟨rfl, by rw [hU]; exact hC.warm hW, by rw [hU], by rw [hU]; exact hP, hD, hZ⟩⟩ rfl rfl hl.1 rfl (lv_room (Nat.le_of_ble_eq_true rfl)) dL_forced_2 ⟨Nat.le_of_ble_eq_true rfl, Nat.le_of_ble_eq_true rfl⟩) hS hsub (fun w1 H1 locs1 hR1 hP1 hD1 hS hsz1 hk1 => ?_)
  exact W.iret hx hb hr (fun t9 ht hW => ⟨w1, hR1, rfl, by rw [ht]; exact hP1, hD1, hS.F ht⟩) hS.2.2 dL_forced_5
set_option maxHeartbeats 4000000 in
theorem gx1_forced (l : Launch) (z0 : Nat) (D : va_G) (t : Nat → ClassId) (x0 : Nat) {w : va_W} {R' : va_W → Prop} (a1 : Int32) (h0 : ∃ fs, w[0]? = some (x0, .inr (5, fs))) (hu : ∀ sz, UX l yX4_forced cX4_forced 3 (some .int) rx_X4_forced IAE z0 D t (.ref x0 :: [.int a1]) w sz R' 1 6) (sz : Nat) : Met l yL_forced (wh_ yL_forced cL_forced 3 (some .int) [(0, 5, 6, 15)]) rh_forced (PMH z0 D t [.ref x0, .int a1] w (w.map Prod.fst) sz) (QB (fun _ : va_W => some (.int (-2000001))) D (fun w9 => w9) R' (w.map Prod.fst) sz) 1 6 (OA (w.map Prod.fst) sz) := by
  refine met_ofWH (cc := cL_forced) (maxL := 3) (ret := (some .int)) (hh := [(0, 5, 6, 15)]) (by decide) rfl ?_
  intro p e s m args below meth c s₁ Bo hml hxt hv
  obtain ⟨rfl, ⟨hC, hN⟩, hsz, hP, hD, hZ⟩ := hv
  have hx := Bo.exec
  have hb := Bo.bytes
  have hr := Bo.returns
  have hts : ∀ w ∈ LA, w.before _ s = true := fun w hw => atoms_spec (ws := (wh_ yL_forced cL_forced 3 (some .int) [(0, 5, 6, 15)])) Bo.pre w (List.mem_cons_of_mem _ hw)
  have hown : s.vm.findClass RL = some m.cls := findClass_of_methodNamed Bo.named
  have hlocks := Bo.notSynchronized
  have hK := hC.1
  subst hsz
  obtain ⟨fs, h0⟩ := h0
  have hsub : ∀ q, OA (w.map Prod.fst) s.heap.size q → OA (w.map Prod.fst) s.heap.size q := fun _ h => h
  have hS : va_S (OA (w.map Prod.fst) s.heap.size) s.heap s.heap [] := va_S.rf
  have hl := lv_entry ([.ref x0, .int a1]) (n := 3) (Nat.le_of_ble_eq_true rfl)
  rw [lg_entry_eq]
  generalize (lg_sl ([.ref x0, .int a1]) ++ List.replicate (3 - (lg_sl ([.ref x0, .int a1])).length) Slot.unset).toArray = ls at hl ⊢
  have hl : lv_has ls 3 [(0, .ref x0), (1, .int a1)] := hl
  refine lv_aload_n hx hb dL_forced_0 rfl (lv_at hl 0 rfl) ?_
  refine lv_iload_n hx hb dL_forced_1 rfl (lv_at hl 1 rfl) ?_
  refine call_XB (vx_runV (As := [.int a1]) (rest := []) ⟨hx, hb, hml, hown, hts⟩ (hu s.heap.size) (kV hts qw837 qw838 qw839 qw1 qw840 ok_X4_forced ⟨Nat.le_of_ble_eq_true rfl, Nat.le_of_ble_eq_true rfl⟩) ⟨PM.blind, va_recv hK hP (ci := 5) (q0 := 0) rfl h0, fun U hU hW => ⟨rfl, by rw [hU]; exact hC.warm hW, by rw [hU], by rw [hU]; exact hP, hD, hZ⟩⟩ rfl rfl hl.1 rfl (lv_room (Nat.le_of_ble_eq_true rfl)) dL_forced_2 ⟨Nat.le_of_ble_eq_true rfl, Nat.le_of_ble_eq_true rfl⟩) hS hsub (fun w1 H1 locs1 q9 ce hR1 hP1 hD1 hS hsz1 hk1 hce hcv hcl => ?_)
  refine vx_catch (name := "java/lang/IllegalArgumentException") hown [] ⟨0, 5, 6, 15⟩ [] hxt (fun z hz => nomatch hz) (by decide) (by decide) (hts _ qw381) (va_Nw.use rfl (hC.2.1 _ qw391)) hce hcv hcl ?_
  refine lv_astore_n (lv' := (2, .ref q9) :: [(0, .ref x0), (1, .int a1)]) hx hb dL_forced_6 rfl hl (by decide) rfl (fun ls hl => ?_)
  refine W.widen (k := 1) (n := 6) (by decide) (by decide) ?_
  refine lv_ldc (v := (-2000001)) hx hb hown (hts _ qw544) dL_forced_7 ?_
  exact W.iret hx hb hr (fun t9 ht hW => ⟨w1, hR1, rfl, by rw [ht]; exact hP1, hD1, hS.F ht⟩) hS.2.2 dL_forced_9
