/-! ArrayList -/
theorem ck_ok {i n : Int32} (h0 : ¬ i < 0) (h1 : i < n) : f_J15_checkIndex_7cf53 i n = some i := by
  unfold f_J15_checkIndex_7cf53 f_J3_checkIndex_8e157
  simp [h0, h1]
theorem tl2 {a b : Nat × va_E} {K : va_W} {k : Nat} {q : Nat × va_E} (h : K[k]? = some q) : ([a, b] ++ K)[2 + k]? = some q := by
  rw [List.getElem?_append_right (by simp)]
  simpa using h
theorem cast_ok {C E : String} {s : State} (h : va_Nw (.castable C E) s) {c1 c0 : ClassId} (h1 : s.vm.findClass E = some c1) (h0 : s.vm.findClass C = some c0) : s.vm.assignable c0 c1 = true := by
  obtain ⟨c2, t2, f1, f2, f3⟩ := Cond.castable_spec (va_Nw.use (A := #[]) rfl h)
  cases f1.symm.trans h0
  cases f2.symm.trans h1
  exact f3
abbrev rm_Jxa1e45_init_da8c8 : Room := { frames := 2, cells := 0, slots := 0, locals := 60 }
theorem ok_Jxa1e45_init_da8c8 : okY yJxa1e45_init_da8c8 0 := ⟨by decide +kernel, by decide +kernel, by decide +kernel⟩
set_option maxHeartbeats 4000000 in
set_option maxRecDepth 100000 in
theorem c_Jxa1e45_init_da8c8 (l : Launch) (z0 : Nat) (D : va_G) (t : Nat → ClassId) (g0 : Nat) (x y : Int32) (sz : Nat) : Met l yJxa1e45_init_da8c8 (ws_ yJxa1e45_init_da8c8 cJxa1e45_init_da8c8 1 none) rm_Jxa1e45_init_da8c8 (PM z0 D t [.ref g0] [(g0, .inr (0, [.int x, .null, .int y]))] [g0] sz) (QE (fun _ : Unit => none) D (fun _ => [(g0, .inr (0, [.int x, .null, .int y]))]) [g0] sz) 0 0 (OA [g0] sz) := by
  refine Met.ofW (cc := cJxa1e45_init_da8c8) (maxL := 1) (ret := none) (by decide) rfl ?_
  intro p e s m args below meth c s₁ Bo hml hv
  obtain ⟨rfl, hC, hsz, hP, hD, hZ⟩ := hv
  have hx := Bo.exec
  have hb := Bo.bytes
  have hr := Bo.returns
  have hts : ∀ w ∈ LA, w.before _ s = true := fun w hw => atoms_spec (ws := ws_ yJxa1e45_init_da8c8 cJxa1e45_init_da8c8 1 none) Bo.pre w (List.mem_cons_of_mem _ hw)
  have hown : s.vm.findClass RJxa1e45 = some m.cls := findClass_of_methodNamed Bo.named
  have hlocks := Bo.notSynchronized
  have hK := hC.1
  have hin : meth.name = "<init>" := (name_of_methodNamed Bo.named Bo.method).1
  subst hsz
  obtain ⟨L0, hL0⟩ : ∃ L0, L0 = [g0] := ⟨_, rfl⟩
  rw [← hL0] at hD hZ ⊢
  have hS : va_S (OA L0 s.heap.size) s.heap s.heap [] := va_S.rf
  suffices K9 : ∀ (H : Heap), va_P D vwCl [(g0, .inr (0, [.int x, .null, .int y]))] H → va_S (OA L0 s.heap.size) s.heap H [] → W p l e (headSpec (ws_ yJxa1e45_init_da8c8 cJxa1e45_init_da8c8 1 none) rm_Jxa1e45_init_da8c8).room s m ([.ref g0] : List Value).toArray below meth c H [] 0 0 (MQ below (QE (fun _ : Unit => none) D (fun _ => [(g0, .inr (0, [.int x, .null, .int y]))]) L0 s.heap.size) ([.ref g0] : List Value).toArray s 0 0 (OA L0 s.heap.size)) (entryFrame m ([.ref g0] : List Value).toArray 1) from K9 s.heap hP hS
  intro H hP hS
  have hSz : s.heap.size ≤ H.size := hS.1
  have hl := lv_entry ([.ref g0]) (n := 1) (Nat.le_of_ble_eq_true rfl)
  rw [lg_entry_eq]
  generalize (lg_sl ([.ref g0]) ++ List.replicate (1 - (lg_sl ([.ref g0])).length) Slot.unset).toArray = ls at hl ⊢
  have hl : lv_has ls 1 [(0, .ref g0)] := hl
  refine lv_aload_n hx hb dJxa1e45_init_da8c8_0 rfl (lv_at hl 0 rfl) ?_
  refine W.objInit hx hb hown (hts _ qw44) (hts _ qw31) (hts _ qw32) rfl (by rw [hml]; exact hl.1) rfl dJxa1e45_init_da8c8_1 (Nat.le_of_ble_eq_true rfl) (Nat.le_of_ble_eq_true rfl) ?_
  refine W.eq (g2 := F0 m 4 ls []) rfl ?_
  exact W.vret hx hb hr (fun t9 ht hW => ⟨(), rfl, by rw [ht]; exact hP, hD, hS.F ht⟩) hS.2.2 dJxa1e45_init_da8c8_4

abbrev rm_Jxc12de_init_da8c8 : Room := { frames := 4, cells := 0, slots := 0, locals := 100 }
theorem ok_Jxc12de_init_da8c8 : okY yJxc12de_init_da8c8 0 := ⟨by decide +kernel, by decide +kernel, by decide +kernel⟩
set_option maxHeartbeats 4000000 in
set_option maxRecDepth 100000 in
theorem c_Jxc12de_init_da8c8 (l : Launch) (z0 : Nat) (D : va_G) (t : Nat → ClassId) (g0 : Nat) (x y : Int32) (sz : Nat) : Met l yJxc12de_init_da8c8 (ws_ yJxc12de_init_da8c8 cJxc12de_init_da8c8 1 none) rm_Jxc12de_init_da8c8 (PM z0 D t [.ref g0] [(g0, .inr (0, [.int x, .null, .int y]))] [g0] sz) (QE (fun _ : Unit => none) D (fun _ => [(g0, .inr (0, [.int 0, .null, .int y]))]) [g0] sz) 0 0 (OA [g0] sz) := by
  refine Met.ofW (cc := cJxc12de_init_da8c8) (maxL := 1) (ret := none) (by decide) rfl ?_
  intro p e s m args below meth c s₁ Bo hml hv
  obtain ⟨rfl, hC, hsz, hP, hD, hZ⟩ := hv
  have hx := Bo.exec
  have hb := Bo.bytes
  have hr := Bo.returns
  have hts : ∀ w ∈ LA, w.before _ s = true := fun w hw => atoms_spec (ws := ws_ yJxc12de_init_da8c8 cJxc12de_init_da8c8 1 none) Bo.pre w (List.mem_cons_of_mem _ hw)
  have hown : s.vm.findClass RJxc12de = some m.cls := findClass_of_methodNamed Bo.named
  have hlocks := Bo.notSynchronized
  have hK := hC.1
  have hin : meth.name = "<init>" := (name_of_methodNamed Bo.named Bo.method).1
  subst hsz
  obtain ⟨L0, hL0⟩ : ∃ L0, L0 = [g0] := ⟨_, rfl⟩
  rw [← hL0] at hD hZ ⊢
  have hS : va_S (OA L0 s.heap.size) s.heap s.heap [] := va_S.rf
  suffices K9 : ∀ (H : Heap), va_P D vwCl [(g0, .inr (0, [.int x, .null, .int y]))] H → va_S (OA L0 s.heap.size) s.heap H [] → W p l e (headSpec (ws_ yJxc12de_init_da8c8 cJxc12de_init_da8c8 1 none) rm_Jxc12de_init_da8c8).room s m ([.ref g0] : List Value).toArray below meth c H [] 0 0 (MQ below (QE (fun _ : Unit => none) D (fun _ => [(g0, .inr (0, [.int 0, .null, .int y]))]) L0 s.heap.size) ([.ref g0] : List Value).toArray s 0 0 (OA L0 s.heap.size)) (entryFrame m ([.ref g0] : List Value).toArray 1) from K9 s.heap hP hS
  intro H hP hS
  have hSz : s.heap.size ≤ H.size := hS.1
  have hl := lv_entry ([.ref g0]) (n := 1) (Nat.le_of_ble_eq_true rfl)
  rw [lg_entry_eq]
  generalize (lg_sl ([.ref g0]) ++ List.replicate (1 - (lg_sl ([.ref g0])).length) Slot.unset).toArray = ls at hl ⊢
  have hl : lv_has ls 1 [(0, .ref g0)] := hl
  refine lv_aload_n hx hb dJxc12de_init_da8c8_0 rfl (lv_at hl 0 rfl) ?_
  refine call_E (va_runI (As := []) (rest := []) ⟨hx, hb, hml, hown, hts⟩ (c_Jxa1e45_init_da8c8 l z0 D t g0 x y H.size) (kI hts qw41 qw42 qw2 qw43 rfl ok_Jxa1e45_init_da8c8 ⟨Nat.le_of_ble_eq_true rfl, Nat.le_of_ble_eq_true rfl⟩) ⟨PM.blind, fun U hU hW => ⟨rfl, by rw [hU]; exact (hC.at hS hZ).warm hW, by rw [hU], by rw [hU]; exact (hP.sub (ws' := [(g0, .inr (0, [.int x, .null, .int y]))]) [0] rfl), ⟨(hD.sub (ws' := [(g0, .inr (0, [.int x, .null, .int y]))]) [0] (by decide) rfl).1, fun _ _ h9 => Or.inl (in_map (L := [g0]) rfl h9)⟩, fun q hq => hZ q (OA.ofD (hD.sub (ws' := [(g0, .inr (0, [.int x, .null, .int y]))]) [0] (by decide) rfl) rfl hSz q hq)⟩⟩ rfl rfl hl.1 rfl (lv_room (Nat.le_of_ble_eq_true rfl)) dJxc12de_init_da8c8_1 ⟨Nat.le_of_ble_eq_true rfl, Nat.le_of_ble_eq_true rfl⟩) hS (OA.ofD (hD.sub (ws' := [(g0, .inr (0, [.int x, .null, .int y]))]) [0] (by decide) rfl) rfl hSz) (fun b9 H locs hP1 hD1 hS _ hk1 => ?_)
  obtain ⟨hP, hD⟩ := va_back (wr := []) (w1 := ([(g0, .inr (0, [.int x, .null, .int y]))] : va_W)) (ws' := ([(g0, .inr (0, [.int x, .null, .int y]))] : va_W)) hP hD [0] [] rfl rfl (by decide) (by decide) hk1 (OA.ofD (hD.sub (ws' := [(g0, .inr (0, [.int x, .null, .int y]))]) [0] (by decide) rfl) rfl hSz) hP1 hD1 [0] rfl (by decide)
  have hP : va_P D vwCl ([(g0, .inr (0, [.int x, .null, .int y]))] : va_W) H := hP
  have hD : va_D (OA L0 s.heap.size) ([(g0, .inr (0, [.int x, .null, .int y]))] : va_W) := hD
  have hSz : s.heap.size ≤ H.size := hS.1
  refine W.widen (k := 0) (n := 0) (by omega) (by omega) ?_
  refine lv_aload_n hx hb dJxc12de_init_da8c8_4 rfl (lv_at hl 0 rfl) ?_
  refine lv_iconst (v := (0)) hx hb dJxc12de_init_da8c8_5 (by decide) ?_
  refine va_put (D := D) (ci := 0) (v := .int (0 : Int32)) (ty := .int) hx hb hts inJx4a65c tyJx4a65c tyJx4a65c_ok nmJx4a65c hown hK hP hD hS 0 rfl rfl 0 (by decide) (hts _ qw49) (fun _ h9 => h9) rfl (by decide +kernel) rfl rfl (Nat.le_of_ble_eq_true rfl) dJxc12de_init_da8c8_6 (fun H locs hP hD hS => ?_)
  have hP : va_P D vwCl ([(g0, .inr (0, [.int (0 : Int32), .null, .int y]))] : va_W) H := hP
  have hD : va_D (OA L0 s.heap.size) ([(g0, .inr (0, [.int (0 : Int32), .null, .int y]))] : va_W) := hD
  have hSz : s.heap.size ≤ H.size := hS.1
  exact W.vret hx hb hr (fun t9 ht hW => ⟨(), rfl, by rw [ht]; exact hP, hD, hS.F ht⟩) hS.2.2 dJxc12de_init_da8c8_9

abbrev rm_Jx4a65c_init_da8c8 : Room := { frames := 6, cells := 0, slots := 0, locals := 140 }
theorem ok_Jx4a65c_init_da8c8 : okY yJx4a65c_init_da8c8 0 := ⟨by decide +kernel, by decide +kernel, by decide +kernel⟩
set_option maxHeartbeats 4000000 in
set_option maxRecDepth 100000 in
theorem c_Jx4a65c_init_da8c8 (l : Launch) (z0 : Nat) (D : va_G) (t : Nat → ClassId) (g0 : Nat) (sz : Nat) : Met l yJx4a65c_init_da8c8 (ws_ yJx4a65c_init_da8c8 cJx4a65c_init_da8c8 1 none) rm_Jx4a65c_init_da8c8 (PM z0 D t [.ref g0] [(g0, .inr (0, [.int (0 : Int32), .null, .int (0 : Int32)]))] [g0] sz) (QE (fun _ : Unit => none) D (fun _ => LSW g0 (t 100) t (0, 0)) [g0] sz) 0 0 (OA [g0] sz) := by
  refine Met.ofW (cc := cJx4a65c_init_da8c8) (maxL := 1) (ret := none) (by decide) rfl ?_
  intro p e s m args below meth c s₁ Bo hml hv
  obtain ⟨rfl, hC, hsz, hP, hD, hZ⟩ := hv
  have hx := Bo.exec
  have hb := Bo.bytes
  have hr := Bo.returns
  have hts : ∀ w ∈ LA, w.before _ s = true := fun w hw => atoms_spec (ws := ws_ yJx4a65c_init_da8c8 cJx4a65c_init_da8c8 1 none) Bo.pre w (List.mem_cons_of_mem _ hw)
  have hown : s.vm.findClass RJx4a65c = some m.cls := findClass_of_methodNamed Bo.named
  have hlocks := Bo.notSynchronized
  have hK := hC.1
  have hin : meth.name = "<init>" := (name_of_methodNamed Bo.named Bo.method).1
  subst hsz
  obtain ⟨L0, hL0⟩ : ∃ L0, L0 = [g0] := ⟨_, rfl⟩
  rw [← hL0] at hD hZ ⊢
  have hS : va_S (OA L0 s.heap.size) s.heap s.heap [] := va_S.rf
  suffices K9 : ∀ (H : Heap), va_P D vwCl [(g0, .inr (0, [.int (0 : Int32), .null, .int (0 : Int32)]))] H → va_S (OA L0 s.heap.size) s.heap H [] → W p l e (headSpec (ws_ yJx4a65c_init_da8c8 cJx4a65c_init_da8c8 1 none) rm_Jx4a65c_init_da8c8).room s m ([.ref g0] : List Value).toArray below meth c H [] 0 0 (MQ below (QE (fun _ : Unit => none) D (fun _ => LSW g0 (t 100) t (0, 0)) L0 s.heap.size) ([.ref g0] : List Value).toArray s 0 0 (OA L0 s.heap.size)) (entryFrame m ([.ref g0] : List Value).toArray 1) from K9 s.heap hP hS
  intro H hP hS
  have hSz : s.heap.size ≤ H.size := hS.1
  have hl := lv_entry ([.ref g0]) (n := 1) (Nat.le_of_ble_eq_true rfl)
  rw [lg_entry_eq]
  generalize (lg_sl ([.ref g0]) ++ List.replicate (1 - (lg_sl ([.ref g0])).length) Slot.unset).toArray = ls at hl ⊢
  have hl : lv_has ls 1 [(0, .ref g0)] := hl
  refine lv_aload_n hx hb dJx4a65c_init_da8c8_0 rfl (lv_at hl 0 rfl) ?_
  refine call_E (va_runI (As := []) (rest := []) ⟨hx, hb, hml, hown, hts⟩ (c_Jxc12de_init_da8c8 l z0 D t g0 0 0 H.size) (kI hts qw38 qw39 qw3 qw40 rfl ok_Jxc12de_init_da8c8 ⟨Nat.le_of_ble_eq_true rfl, Nat.le_of_ble_eq_true rfl⟩) ⟨PM.blind, fun U hU hW => ⟨rfl, by rw [hU]; exact (hC.at hS hZ).warm hW, by rw [hU], by rw [hU]; exact (hP.sub (ws' := [(g0, .inr (0, [.int (0 : Int32), .null, .int (0 : Int32)]))]) [0] rfl), ⟨(hD.sub (ws' := [(g0, .inr (0, [.int (0 : Int32), .null, .int (0 : Int32)]))]) [0] (by decide) rfl).1, fun _ _ h9 => Or.inl (in_map (L := [g0]) rfl h9)⟩, fun q hq => hZ q (OA.ofD (hD.sub (ws' := [(g0, .inr (0, [.int (0 : Int32), .null, .int (0 : Int32)]))]) [0] (by decide) rfl) rfl hSz q hq)⟩⟩ rfl rfl hl.1 rfl (lv_room (Nat.le_of_ble_eq_true rfl)) dJx4a65c_init_da8c8_1 ⟨Nat.le_of_ble_eq_true rfl, Nat.le_of_ble_eq_true rfl⟩) hS (OA.ofD (hD.sub (ws' := [(g0, .inr (0, [.int (0 : Int32), .null, .int (0 : Int32)]))]) [0] (by decide) rfl) rfl hSz) (fun b9 H locs hP1 hD1 hS _ hk1 => ?_)
  obtain ⟨hP, hD⟩ := va_back (wr := []) (w1 := ([(g0, .inr (0, [.int (0 : Int32), .null, .int (0 : Int32)]))] : va_W)) (ws' := ([(g0, .inr (0, [.int (0 : Int32), .null, .int (0 : Int32)]))] : va_W)) hP hD [0] [] rfl rfl (by decide) (by decide) hk1 (OA.ofD (hD.sub (ws' := [(g0, .inr (0, [.int (0 : Int32), .null, .int (0 : Int32)]))]) [0] (by decide) rfl) rfl hSz) hP1 hD1 [0] rfl (by decide)
  have hP : va_P D vwCl ([(g0, .inr (0, [.int (0 : Int32), .null, .int (0 : Int32)]))] : va_W) H := hP
  have hD : va_D (OA L0 s.heap.size) ([(g0, .inr (0, [.int (0 : Int32), .null, .int (0 : Int32)]))] : va_W) := hD
  have hSz : s.heap.size ≤ H.size := hS.1
  refine W.widen (k := 0) (n := 0) (by omega) (by omega) ?_
  refine lv_aload_n hx hb dJx4a65c_init_da8c8_4 rfl (lv_at hl 0 rfl) ?_
  refine va_gets hx hb (hC.2.2.2.2.2.2.2.2.2.1.narrow hZ) hS hown (hts _ qw45) (fun _ h9 => h9) dJx4a65c_init_da8c8_5 ?_
  refine va_put (D := D) (ci := 0) (v := .ref (t 100)) (ty := (.array (.object "java/lang/Object"))) hx hb hts inJx4a65c tyJx4a65c tyJx4a65c_ok nmJx4a65c hown hK hP hD hS 0 rfl rfl 1 (by decide) (hts _ qw47) (fun _ h9 => h9) rfl (by decide +kernel) rfl rfl (Nat.le_of_ble_eq_true rfl) dJx4a65c_init_da8c8_8 (fun H locs hP hD hS => ?_)
  have hP : va_P D vwCl ([(g0, .inr (0, [.int (0 : Int32), .ref (t 100), .int (0 : Int32)]))] : va_W) H := hP
  have hD : va_D (OA L0 s.heap.size) ([(g0, .inr (0, [.int (0 : Int32), .ref (t 100), .int (0 : Int32)]))] : va_W) := hD
  have hSz : s.heap.size ≤ H.size := hS.1
  exact W.vret hx hb hr (fun t9 ht hW => ⟨(), rfl, by rw [ht]; exact hP, hD, hS.F ht⟩) hS.2.2 dJx4a65c_init_da8c8_11

abbrev rm_Jx4a65c_elementData_915e3 : Room := { frames := 1, cells := 0, slots := 0, locals := 40 }
theorem ok_Jx4a65c_elementData_915e3 : okY yJx4a65c_elementData_915e3 1 := ⟨by decide +kernel, by decide +kernel, by decide +kernel⟩
set_option maxHeartbeats 4000000 in
set_option maxRecDepth 100000 in
theorem c_Jx4a65c_elementData_915e3 (l : Launch) (z0 : Nat) (D : va_G) (t : Nat → ClassId) (s0 e0 y : Nat) (m0 n0 : Int32) (f : Nat → Option Nat) (i : Int32) (sz : Nat) (hi : vp_in i 10) (hy : f i.toNatClampNeg = some y) : Met l yJx4a65c_elementData_915e3 (ws_ yJx4a65c_elementData_915e3 cJx4a65c_elementData_915e3 2 (some (.object "java/lang/Object"))) rm_Jx4a65c_elementData_915e3 (PM z0 D t [.ref s0, .int i] [(s0, .inr (0, [.int m0, .ref e0, .int n0])), (e0, .inl (t 4, (10, .inr (.inr (.inr (.inr f))))))] [s0, e0] sz) (QE (fun _ : Unit => some (.ref y)) D (fun _ => [(s0, .inr (0, [.int m0, .ref e0, .int n0])), (e0, .inl (t 4, (10, .inr (.inr (.inr (.inr f))))))]) [s0, e0] sz) 0 0 (OA [s0, e0] sz) := by
  refine Met.ofW (cc := cJx4a65c_elementData_915e3) (maxL := 2) (ret := (some (.object "java/lang/Object"))) (by decide) rfl ?_
  intro p e s m args below meth c s₁ Bo hml hv
  obtain ⟨rfl, hC, hsz, hP, hD, hZ⟩ := hv
  have hx := Bo.exec
  have hb := Bo.bytes
  have hr := Bo.returns
  have hts : ∀ w ∈ LA, w.before _ s = true := fun w hw => atoms_spec (ws := ws_ yJx4a65c_elementData_915e3 cJx4a65c_elementData_915e3 2 (some (.object "java/lang/Object"))) Bo.pre w (List.mem_cons_of_mem _ hw)
  have hown : s.vm.findClass RJx4a65c = some m.cls := findClass_of_methodNamed Bo.named
  have hlocks := Bo.notSynchronized
  have hK := hC.1
  subst hsz
  obtain ⟨L0, hL0⟩ : ∃ L0, L0 = [s0, e0] := ⟨_, rfl⟩
  rw [← hL0] at hD hZ ⊢
  have hS : va_S (OA L0 s.heap.size) s.heap s.heap [] := va_S.rf
  suffices K9 : ∀ (H : Heap), va_P D vwCl [(s0, .inr (0, [.int m0, .ref e0, .int n0])), (e0, .inl (t 4, (10, .inr (.inr (.inr (.inr f))))))] H → va_S (OA L0 s.heap.size) s.heap H [] → W p l e (headSpec (ws_ yJx4a65c_elementData_915e3 cJx4a65c_elementData_915e3 2 (some (.object "java/lang/Object"))) rm_Jx4a65c_elementData_915e3).room s m ([.ref s0, .int i] : List Value).toArray below meth c H [] 0 0 (MQ below (QE (fun _ : Unit => some (.ref y)) D (fun _ => [(s0, .inr (0, [.int m0, .ref e0, .int n0])), (e0, .inl (t 4, (10, .inr (.inr (.inr (.inr f))))))]) L0 s.heap.size) ([.ref s0, .int i] : List Value).toArray s 0 0 (OA L0 s.heap.size)) (entryFrame m ([.ref s0, .int i] : List Value).toArray 2) from K9 s.heap hP hS
  intro H hP hS
  have hSz : s.heap.size ≤ H.size := hS.1
  have hl := lv_entry ([.ref s0, .int i]) (n := 2) (Nat.le_of_ble_eq_true rfl)
  rw [lg_entry_eq]
  generalize (lg_sl ([.ref s0, .int i]) ++ List.replicate (2 - (lg_sl ([.ref s0, .int i])).length) Slot.unset).toArray = ls at hl ⊢
  have hl : lv_has ls 2 [(0, .ref s0), (1, .int i)] := hl
  refine lv_aload_n hx hb dJx4a65c_elementData_915e3_0 rfl (lv_at hl 0 rfl) ?_
  refine va_get hx hb hts inJx4a65c hown hK hP 0 rfl rfl 1 (by decide) (hts _ qw47) (fun _ h9 => h9) rfl dJx4a65c_elementData_915e3_1 ?_
  refine lv_iload_n hx hb dJx4a65c_elementData_915e3_4 rfl (lv_at hl 1 rfl) ?_
  refine va_aldq hx hb hK hP 1 4 rfl rfl hi dJx4a65c_elementData_915e3_5 ?_
  refine topQ hy.symm ?_
  exact W.aret hx hb hr (Or.inl ⟨_, rfl⟩) (Or.inr ⟨_, rfl⟩) (fun t9 ht hW => ⟨(), rfl, by rw [ht]; exact hP, hD, hS.F ht⟩) hS.2.2 dJx4a65c_elementData_915e3_6

abbrev rm_Jx4a65c_get_915e3 : Room := { frames := 4, cells := 0, slots := 0, locals := 140 }
theorem ok_Jx4a65c_get_915e3 : okY yJx4a65c_get_915e3 1 := ⟨by decide +kernel, by decide +kernel, by decide +kernel⟩
set_option maxHeartbeats 4000000 in
set_option maxRecDepth 100000 in
theorem c_Jx4a65c_get_915e3 (l : Launch) (z0 : Nat) (D : va_G) (t : Nat → ClassId) (s0 e0 y : Nat) (m0 n0 : Int32) (f : Nat → Option Nat) (i : Int32) (sz : Nat) (hi : vp_in i 10) (h0 : ¬ i < 0) (h1 : i < n0) (hy : f i.toNatClampNeg = some y) : Met l yJx4a65c_get_915e3 (ws_ yJx4a65c_get_915e3 cJx4a65c_get_915e3 2 (some (.object "java/lang/Object"))) rm_Jx4a65c_get_915e3 (PM z0 D t [.ref s0, .int i] [(s0, .inr (0, [.int m0, .ref e0, .int n0])), (e0, .inl (t 4, (10, .inr (.inr (.inr (.inr f))))))] [s0, e0] sz) (QE (fun _ : Unit => some (.ref y)) D (fun _ => [(s0, .inr (0, [.int m0, .ref e0, .int n0])), (e0, .inl (t 4, (10, .inr (.inr (.inr (.inr f))))))]) [s0, e0] sz) 0 0 (OA [s0, e0] sz) := by
  refine Met.ofW (cc := cJx4a65c_get_915e3) (maxL := 2) (ret := (some (.object "java/lang/Object"))) (by decide) rfl ?_
  intro p e s m args below meth c s₁ Bo hml hv
  obtain ⟨rfl, hC, hsz, hP, hD, hZ⟩ := hv
  have hx := Bo.exec
  have hb := Bo.bytes
  have hr := Bo.returns
  have hts : ∀ w ∈ LA, w.before _ s = true := fun w hw => atoms_spec (ws := ws_ yJx4a65c_get_915e3 cJx4a65c_get_915e3 2 (some (.object "java/lang/Object"))) Bo.pre w (List.mem_cons_of_mem _ hw)
  have hown : s.vm.findClass RJx4a65c = some m.cls := findClass_of_methodNamed Bo.named
  have hlocks := Bo.notSynchronized
  have hK := hC.1
  subst hsz
  obtain ⟨L0, hL0⟩ : ∃ L0, L0 = [s0, e0] := ⟨_, rfl⟩
  rw [← hL0] at hD hZ ⊢
  have hS : va_S (OA L0 s.heap.size) s.heap s.heap [] := va_S.rf
  suffices K9 : ∀ (H : Heap), va_P D vwCl [(s0, .inr (0, [.int m0, .ref e0, .int n0])), (e0, .inl (t 4, (10, .inr (.inr (.inr (.inr f))))))] H → va_S (OA L0 s.heap.size) s.heap H [] → W p l e (headSpec (ws_ yJx4a65c_get_915e3 cJx4a65c_get_915e3 2 (some (.object "java/lang/Object"))) rm_Jx4a65c_get_915e3).room s m ([.ref s0, .int i] : List Value).toArray below meth c H [] 0 0 (MQ below (QE (fun _ : Unit => some (.ref y)) D (fun _ => [(s0, .inr (0, [.int m0, .ref e0, .int n0])), (e0, .inl (t 4, (10, .inr (.inr (.inr (.inr f))))))]) L0 s.heap.size) ([.ref s0, .int i] : List Value).toArray s 0 0 (OA L0 s.heap.size)) (entryFrame m ([.ref s0, .int i] : List Value).toArray 2) from K9 s.heap hP hS
  intro H hP hS
  have hSz : s.heap.size ≤ H.size := hS.1
  have hl := lv_entry ([.ref s0, .int i]) (n := 2) (Nat.le_of_ble_eq_true rfl)
  rw [lg_entry_eq]
  generalize (lg_sl ([.ref s0, .int i]) ++ List.replicate (2 - (lg_sl ([.ref s0, .int i])).length) Slot.unset).toArray = ls at hl ⊢
  have hl : lv_has ls 2 [(0, .ref s0), (1, .int i)] := hl
  refine lv_iload_n hx hb dJx4a65c_get_915e3_0 rfl (lv_at hl 1 rfl) ?_
  refine lv_aload_n hx hb dJx4a65c_get_915e3_1 rfl (lv_at hl 0 rfl) ?_
  refine va_get hx hb hts inJx4a65c hown hK hP 0 rfl rfl 2 (by decide) (hts _ qw48) (fun _ h9 => h9) rfl dJx4a65c_get_915e3_2 ?_
  refine call_R (va_runS (As := [.int i, .int n0]) (rest := []) ⟨hx, hb, hml, hown, hts⟩ (c_J15_checkIndex_7cf53 l z0 D t i n0 _ (ck_ok h0 h1)) (kS hts qw469 qw470 qw13 qw471 ok_J15_checkIndex_7cf53 ⟨Nat.le_of_ble_eq_true rfl, Nat.le_of_ble_eq_true rfl⟩) ⟨PR.blind, fun U hU hW => ⟨rfl, by rw [hU]; exact (hC.at hS hZ).warm hW, by rw [hU]; exact va_P_nil⟩⟩ rfl rfl hl.1 rfl (lv_room (Nat.le_of_ble_eq_true rfl)) dJx4a65c_get_915e3_5 ⟨Nat.le_of_ble_eq_true rfl, Nat.le_of_ble_eq_true rfl⟩) ?_
  refine lv_pop hx hb dJx4a65c_get_915e3_8 rfl ?_
  refine lv_aload_n hx hb dJx4a65c_get_915e3_9 rfl (lv_at hl 0 rfl) ?_
  refine lv_iload_n hx hb dJx4a65c_get_915e3_10 rfl (lv_at hl 1 rfl) ?_
  refine call_E (va_runV (As := [.int i]) (rest := []) ⟨hx, hb, hml, hown, hts⟩ (c_Jx4a65c_elementData_915e3 l z0 D t s0 e0 y m0 n0 f i H.size hi hy) (kV hts qw753 qw754 qw755 qw4 qw756 ok_Jx4a65c_elementData_915e3 ⟨Nat.le_of_ble_eq_true rfl, Nat.le_of_ble_eq_true rfl⟩) ⟨PM.blind, va_recv hK (hP.sub (ws' := [(s0, .inr (0, [.int m0, .ref e0, .int n0])), (e0, .inl (t 4, (10, .inr (.inr (.inr (.inr f))))))]) [0, 1] rfl) (ci := 0) (q0 := 0) rfl rfl, fun U hU hW => ⟨rfl, by rw [hU]; exact (hC.at hS hZ).warm hW, by rw [hU], by rw [hU]; exact (hP.sub (ws' := [(s0, .inr (0, [.int m0, .ref e0, .int n0])), (e0, .inl (t 4, (10, .inr (.inr (.inr (.inr f))))))]) [0, 1] rfl), ⟨(hD.sub (ws' := [(s0, .inr (0, [.int m0, .ref e0, .int n0])), (e0, .inl (t 4, (10, .inr (.inr (.inr (.inr f))))))]) [0, 1] (by decide) rfl).1, fun _ _ h9 => Or.inl (in_map (L := [s0, e0]) rfl h9)⟩, fun q hq => hZ q (OA.ofD (hD.sub (ws' := [(s0, .inr (0, [.int m0, .ref e0, .int n0])), (e0, .inl (t 4, (10, .inr (.inr (.inr (.inr f))))))]) [0, 1] (by decide) rfl) rfl hSz q hq)⟩⟩ rfl rfl hl.1 rfl (lv_room (Nat.le_of_ble_eq_true rfl)) dJx4a65c_get_915e3_11 ⟨Nat.le_of_ble_eq_true rfl, Nat.le_of_ble_eq_true rfl⟩) hS (OA.ofD (hD.sub (ws' := [(s0, .inr (0, [.int m0, .ref e0, .int n0])), (e0, .inl (t 4, (10, .inr (.inr (.inr (.inr f))))))]) [0, 1] (by decide) rfl) rfl hSz) (fun b9 H locs hP1 hD1 hS _ hk1 => ?_)
  obtain ⟨hP, hD⟩ := va_back (wr := []) (w1 := ([(s0, .inr (0, [.int m0, .ref e0, .int n0])), (e0, .inl (t 4, (10, .inr (.inr (.inr (.inr f))))))] : va_W)) (ws' := ([(s0, .inr (0, [.int m0, .ref e0, .int n0])), (e0, .inl (t 4, (10, .inr (.inr (.inr (.inr f))))))] : va_W)) hP hD [0, 1] [] rfl rfl (by decide) (by decide) hk1 (OA.ofD (hD.sub (ws' := [(s0, .inr (0, [.int m0, .ref e0, .int n0])), (e0, .inl (t 4, (10, .inr (.inr (.inr (.inr f))))))]) [0, 1] (by decide) rfl) rfl hSz) hP1 hD1 [0, 1] rfl (by decide)
  have hP : va_P D vwCl ([(s0, .inr (0, [.int m0, .ref e0, .int n0])), (e0, .inl (t 4, (10, .inr (.inr (.inr (.inr f))))))] : va_W) H := hP
  have hD : va_D (OA L0 s.heap.size) ([(s0, .inr (0, [.int m0, .ref e0, .int n0])), (e0, .inl (t 4, (10, .inr (.inr (.inr (.inr f))))))] : va_W) := hD
  have hSz : s.heap.size ≤ H.size := hS.1
  refine W.widen (k := 0) (n := 0) (by omega) (by omega) ?_
  exact W.aret hx hb hr (Or.inl ⟨_, rfl⟩) (Or.inr ⟨_, rfl⟩) (fun t9 ht hW => ⟨(), rfl, by rw [ht]; exact hP, hD, hS.F ht⟩) hS.2.2 dJx4a65c_get_915e3_14

abbrev rm_Jx4a65c_fastRemove_b59b0_l : Room := { frames := 2, cells := 0, slots := 0, locals := 80 }
theorem ok_Jx4a65c_fastRemove_b59b0 : okY yJx4a65c_fastRemove_b59b0 2 := ⟨by decide +kernel, by decide +kernel, by decide +kernel⟩
set_option maxHeartbeats 4000000 in
set_option maxRecDepth 100000 in
theorem c_Jx4a65c_fastRemove_b59b0_l (l : Launch) (z0 : Nat) (D : va_G) (t : Nat → ClassId) (s0 e0 : Nat) (m0 : Int32) (n : Nat) (f : Nat → Option Nat) (sz : Nat) (hn : n < 10) : Met l yJx4a65c_fastRemove_b59b0 (ws_ yJx4a65c_fastRemove_b59b0 cJx4a65c_fastRemove_b59b0 4 none) rm_Jx4a65c_fastRemove_b59b0_l (PM z0 D t [.ref s0, .ref e0, .int (nI n)] ([(s0, .inr (0, [.int m0, .ref e0, .int (nI (n + 1))])), (e0, .inl (t 4, (10, .inr (.inr (.inr (.inr f))))))] : va_W) [s0, e0] sz) (QE (fun _ : Unit => none) D (fun _ => ([(s0, .inr (0, [.int (m0 + 1), .ref e0, .int (nI n)])), (e0, .inl (t 4, (10, .inr (.inr (.inr (.inr (va_up f n none)))))))] : va_W)) [s0, e0] sz) 0 0 (OA [s0, e0] sz) := by
  refine Met.ofW (cc := cJx4a65c_fastRemove_b59b0) (maxL := 4) (ret := none) (by decide) rfl ?_
  intro p e s m args below meth c s₁ Bo hml hv
  obtain ⟨rfl, hC, hsz, hP, hD, hZ⟩ := hv
  have hx := Bo.exec
  have hb := Bo.bytes
  have hr := Bo.returns
  have hts : ∀ w ∈ LA, w.before _ s = true := fun w hw => atoms_spec (ws := ws_ yJx4a65c_fastRemove_b59b0 cJx4a65c_fastRemove_b59b0 4 none) Bo.pre w (List.mem_cons_of_mem _ hw)
  have hown : s.vm.findClass RJx4a65c = some m.cls := findClass_of_methodNamed Bo.named
  have hlocks := Bo.notSynchronized
  have hK := hC.1
  subst hsz
  obtain ⟨L0, hL0⟩ : ∃ L0, L0 = [s0, e0] := ⟨_, rfl⟩
  rw [← hL0] at hD hZ ⊢
  have hS : va_S (OA L0 s.heap.size) s.heap s.heap [] := va_S.rf
  suffices K9 : ∀ (H : Heap), va_P D vwCl ([(s0, .inr (0, [.int m0, .ref e0, .int (nI (n + 1))])), (e0, .inl (t 4, (10, .inr (.inr (.inr (.inr f))))))] : va_W) H → va_S (OA L0 s.heap.size) s.heap H [] → W p l e (headSpec (ws_ yJx4a65c_fastRemove_b59b0 cJx4a65c_fastRemove_b59b0 4 none) rm_Jx4a65c_fastRemove_b59b0_l).room s m ([.ref s0, .ref e0, .int (nI n)] : List Value).toArray below meth c H [] 0 0 (MQ below (QE (fun _ : Unit => none) D (fun _ => ([(s0, .inr (0, [.int (m0 + 1), .ref e0, .int (nI n)])), (e0, .inl (t 4, (10, .inr (.inr (.inr (.inr (va_up f n none)))))))] : va_W)) L0 s.heap.size) ([.ref s0, .ref e0, .int (nI n)] : List Value).toArray s 0 0 (OA L0 s.heap.size)) (entryFrame m ([.ref s0, .ref e0, .int (nI n)] : List Value).toArray 4) from K9 s.heap hP hS
  intro H hP hS
  have hSz : s.heap.size ≤ H.size := hS.1
  have hl := lv_entry ([.ref s0, .ref e0, .int (nI n)]) (n := 4) (Nat.le_of_ble_eq_true rfl)
  rw [lg_entry_eq]
  generalize (lg_sl ([.ref s0, .ref e0, .int (nI n)]) ++ List.replicate (4 - (lg_sl ([.ref s0, .ref e0, .int (nI n)])).length) Slot.unset).toArray = ls at hl ⊢
  have hl : lv_has ls 4 [(0, .ref s0), (1, .ref e0), (2, .int (nI n))] := hl
  refine lv_aload_n hx hb dJx4a65c_fastRemove_b59b0_0 rfl (lv_at hl 0 rfl) ?_
  refine lv_dup hx hb dJx4a65c_fastRemove_b59b0_1 rfl ?_
  refine va_get hx hb hts inJx4a65c hown hK hP 0 rfl rfl 0 (by decide) (hts _ qw50) (fun x9 h9 => u_same (hts _ qw51) x9 h9) rfl dJx4a65c_fastRemove_b59b0_2 ?_
  refine lv_iconst (v := (1)) hx hb dJx4a65c_fastRemove_b59b0_5 (by decide) ?_
  refine lv_iadd hx hb dJx4a65c_fastRemove_b59b0_6 ?_
  refine va_put (D := D) (ci := 0) (v := .int (m0 + (1 : Int32))) (ty := .int) hx hb hts inJx4a65c tyJx4a65c tyJx4a65c_ok nmJx4a65c hown hK hP hD hS 0 rfl rfl 0 (by decide) (hts _ qw50) (fun x9 h9 => u_same (hts _ qw51) x9 h9) rfl (by decide +kernel) rfl rfl (Nat.le_of_ble_eq_true rfl) dJx4a65c_fastRemove_b59b0_7 (fun H locs hP hD hS => ?_)
  have hP : va_P D vwCl ([(s0, .inr (0, [.int (m0 + (1 : Int32)), .ref e0, .int (nI (n + 1))])), (e0, .inl (t 4, (10, .inr (.inr (.inr (.inr f))))))] : va_W) H := hP
  have hD : va_D (OA L0 s.heap.size) ([(s0, .inr (0, [.int (m0 + (1 : Int32)), .ref e0, .int (nI (n + 1))])), (e0, .inl (t 4, (10, .inr (.inr (.inr (.inr f))))))] : va_W) := hD
  have hSz : s.heap.size ≤ H.size := hS.1
  refine lv_aload_n hx hb dJx4a65c_fastRemove_b59b0_10 rfl (lv_at hl 0 rfl) ?_
  refine va_get hx hb hts inJx4a65c hown hK hP 0 rfl rfl 2 (by decide) (hts _ qw48) (fun _ h9 => h9) rfl dJx4a65c_fastRemove_b59b0_11 ?_
  refine lv_iconst (v := (1)) hx hb dJx4a65c_fastRemove_b59b0_14 (by decide) ?_
  refine lv_isub hx hb dJx4a65c_fastRemove_b59b0_15 ?_
  refine lv_dup hx hb dJx4a65c_fastRemove_b59b0_16 rfl ?_
  refine lv_istore_n (lv' := [(3, .int ((nI (n + 1)) - (1 : Int32))), (0, .ref s0), (1, .ref e0), (2, .int (nI n))]) hx hb dJx4a65c_fastRemove_b59b0_17 rfl hl (by decide) rfl (fun ls hl => ?_)
  refine lv_iload_n hx hb dJx4a65c_fastRemove_b59b0_18 rfl (lv_at hl 3 rfl) ?_
  refine lv_icmp_le (tgt := 34) hx hb dJx4a65c_fastRemove_b59b0_19 (by decide) (fun _ => ?_) (fun hc => absurd (by rw [nI_pred]; exact Int32.le_refl _) hc)
  refine lv_aload_n hx hb dJx4a65c_fastRemove_b59b0_34 rfl (lv_at hl 2 rfl) ?_
  refine lv_aload_n hx hb dJx4a65c_fastRemove_b59b0_35 rfl (lv_at hl 1 rfl) ?_
  refine lv_iload_n hx hb dJx4a65c_fastRemove_b59b0_36 rfl (lv_at hl 0 rfl) ?_
  refine lv_dup_x1 hx hb dJx4a65c_fastRemove_b59b0_37 rfl rfl ?_
  refine va_put (D := D) (ci := 0) (v := .int ((nI (n + 1)) - (1 : Int32))) (ty := .int) hx hb hts inJx4a65c tyJx4a65c tyJx4a65c_ok nmJx4a65c hown hK hP hD hS 0 rfl rfl 2 (by decide) (hts _ qw48) (fun _ h9 => h9) rfl (by decide +kernel) rfl rfl (Nat.le_of_ble_eq_true rfl) dJx4a65c_fastRemove_b59b0_38 (fun H locs hP hD hS => ?_)
  have hP : va_P D vwCl ([(s0, .inr (0, [.int (m0 + (1 : Int32)), .ref e0, .int ((nI (n + 1)) - (1 : Int32))])), (e0, .inl (t 4, (10, .inr (.inr (.inr (.inr f))))))] : va_W) H := hP
  have hD : va_D (OA L0 s.heap.size) ([(s0, .inr (0, [.int (m0 + (1 : Int32)), .ref e0, .int ((nI (n + 1)) - (1 : Int32))])), (e0, .inl (t 4, (10, .inr (.inr (.inr (.inr f))))))] : va_W) := hD
  have hSz : s.heap.size ≤ H.size := hS.1
  refine lv_null hx hb dJx4a65c_fastRemove_b59b0_41 ?_
  refine va_astqN hx hb hK hP hD hS 1 4 rfl rfl (by rw [nI_pred]; exact vp_in_nI hn (by decide)) dJx4a65c_fastRemove_b59b0_42 (fun H locs hP hD hS => ?_)
  rw [nI_pred, nI_clamp (by omega)] at hP hD
  have hP : va_P D vwCl ([(s0, .inr (0, [.int (m0 + 1), .ref e0, .int (nI n)])), (e0, .inl (t 4, (10, .inr (.inr (.inr (.inr (va_up f n none)))))))] : va_W) H := hP
  have hD : va_D (OA L0 s.heap.size) ([(s0, .inr (0, [.int (m0 + 1), .ref e0, .int (nI n)])), (e0, .inl (t 4, (10, .inr (.inr (.inr (.inr (va_up f n none)))))))] : va_W) := hD
  have hSz : s.heap.size ≤ H.size := hS.1
  exact W.vret hx hb hr (fun t9 ht hW => ⟨(), rfl, by rw [ht]; exact hP, hD, hS.F ht⟩) hS.2.2 dJx4a65c_fastRemove_b59b0_43

abbrev rm_Jx4a65c_fastRemove_b59b0_z : Room := { frames := 2, cells := 0, slots := 0, locals := 80 }
set_option maxHeartbeats 4000000 in
set_option maxRecDepth 100000 in
theorem c_Jx4a65c_fastRemove_b59b0_z (l : Launch) (z0 : Nat) (D : va_G) (t : Nat → ClassId) (s0 e0 : Nat) (m0 : Int32) (f : Nat → Option Nat) (sz : Nat) (K : va_W) (hy : ∀ j : Nat, j < 5 → ∀ y : Nat, f (1 + j) = some y → ∃ (k : Nat) (vs : List Value), K[k]? = some (y, .inr (2, vs))) : Met l yJx4a65c_fastRemove_b59b0 (ws_ yJx4a65c_fastRemove_b59b0 cJx4a65c_fastRemove_b59b0 4 none) rm_Jx4a65c_fastRemove_b59b0_z (PM z0 D t [.ref s0, .ref e0, .int (0)] ([(s0, .inr (0, [.int m0, .ref e0, .int 6])), (e0, .inl (t 4, (10, .inr (.inr (.inr (.inr f))))))] ++ K : va_W) (s0 :: e0 :: K.map Prod.fst) sz) (QE (fun _ : Unit => none) D (fun _ => ([(s0, .inr (0, [.int (m0 + 1), .ref e0, .int 5])), (e0, .inl (t 4, (10, .inr (.inr (.inr (.inr (va_up (va_cpy f f 1 0 5) 5 none)))))))] ++ K : va_W)) (s0 :: e0 :: K.map Prod.fst) sz) 0 0 (OA (s0 :: e0 :: K.map Prod.fst) sz) := by
  refine Met.ofW (cc := cJx4a65c_fastRemove_b59b0) (maxL := 4) (ret := none) (by decide) rfl ?_
  intro p e s m args below meth c s₁ Bo hml hv
  obtain ⟨rfl, hC, hsz, hP, hD, hZ⟩ := hv
  have hx := Bo.exec
  have hb := Bo.bytes
  have hr := Bo.returns
  have hts : ∀ w ∈ LA, w.before _ s = true := fun w hw => atoms_spec (ws := ws_ yJx4a65c_fastRemove_b59b0 cJx4a65c_fastRemove_b59b0 4 none) Bo.pre w (List.mem_cons_of_mem _ hw)
  have hown : s.vm.findClass RJx4a65c = some m.cls := findClass_of_methodNamed Bo.named
  have hlocks := Bo.notSynchronized
  have hK := hC.1
  subst hsz
  obtain ⟨L0, hL0⟩ : ∃ L0, L0 = (s0 :: e0 :: K.map Prod.fst) := ⟨_, rfl⟩
  rw [← hL0] at hD hZ ⊢
  have hS : va_S (OA L0 s.heap.size) s.heap s.heap [] := va_S.rf
  suffices K9 : ∀ (H : Heap), va_P D vwCl ([(s0, .inr (0, [.int m0, .ref e0, .int 6])), (e0, .inl (t 4, (10, .inr (.inr (.inr (.inr f))))))] ++ K : va_W) H → va_S (OA L0 s.heap.size) s.heap H [] → W p l e (headSpec (ws_ yJx4a65c_fastRemove_b59b0 cJx4a65c_fastRemove_b59b0 4 none) rm_Jx4a65c_fastRemove_b59b0_z).room s m ([.ref s0, .ref e0, .int (0)] : List Value).toArray below meth c H [] 0 0 (MQ below (QE (fun _ : Unit => none) D (fun _ => ([(s0, .inr (0, [.int (m0 + 1), .ref e0, .int 5])), (e0, .inl (t 4, (10, .inr (.inr (.inr (.inr (va_up (va_cpy f f 1 0 5) 5 none)))))))] ++ K : va_W)) L0 s.heap.size) ([.ref s0, .ref e0, .int (0)] : List Value).toArray s 0 0 (OA L0 s.heap.size)) (entryFrame m ([.ref s0, .ref e0, .int (0)] : List Value).toArray 4) from K9 s.heap hP hS
  intro H hP hS
  have hSz : s.heap.size ≤ H.size := hS.1
  have hl := lv_entry ([.ref s0, .ref e0, .int (0)]) (n := 4) (Nat.le_of_ble_eq_true rfl)
  rw [lg_entry_eq]
  generalize (lg_sl ([.ref s0, .ref e0, .int (0)]) ++ List.replicate (4 - (lg_sl ([.ref s0, .ref e0, .int (0)])).length) Slot.unset).toArray = ls at hl ⊢
  have hl : lv_has ls 4 [(0, .ref s0), (1, .ref e0), (2, .int (0))] := hl
  refine lv_aload_n hx hb dJx4a65c_fastRemove_b59b0_0 rfl (lv_at hl 0 rfl) ?_
  refine lv_dup hx hb dJx4a65c_fastRemove_b59b0_1 rfl ?_
  refine va_get hx hb hts inJx4a65c hown hK hP 0 rfl rfl 0 (by decide) (hts _ qw50) (fun x9 h9 => u_same (hts _ qw51) x9 h9) rfl dJx4a65c_fastRemove_b59b0_2 ?_
  refine lv_iconst (v := (1)) hx hb dJx4a65c_fastRemove_b59b0_5 (by decide) ?_
  refine lv_iadd hx hb dJx4a65c_fastRemove_b59b0_6 ?_
  refine va_put (D := D) (ci := 0) (v := .int (m0 + (1 : Int32))) (ty := .int) hx hb hts inJx4a65c tyJx4a65c tyJx4a65c_ok nmJx4a65c hown hK hP hD hS 0 rfl rfl 0 (by decide) (hts _ qw50) (fun x9 h9 => u_same (hts _ qw51) x9 h9) rfl (by decide +kernel) rfl rfl (Nat.le_of_ble_eq_true rfl) dJx4a65c_fastRemove_b59b0_7 (fun H locs hP hD hS => ?_)
  have hP : va_P D vwCl ([(s0, .inr (0, [.int (m0 + (1 : Int32)), .ref e0, .int 6])), (e0, .inl (t 4, (10, .inr (.inr (.inr (.inr f))))))] ++ K : va_W) H := hP
  have hD : va_D (OA L0 s.heap.size) ([(s0, .inr (0, [.int (m0 + (1 : Int32)), .ref e0, .int 6])), (e0, .inl (t 4, (10, .inr (.inr (.inr (.inr f))))))] ++ K : va_W) := hD
  have hSz : s.heap.size ≤ H.size := hS.1
  refine lv_aload_n hx hb dJx4a65c_fastRemove_b59b0_10 rfl (lv_at hl 0 rfl) ?_
  refine va_get hx hb hts inJx4a65c hown hK hP 0 rfl rfl 2 (by decide) (hts _ qw48) (fun _ h9 => h9) rfl dJx4a65c_fastRemove_b59b0_11 ?_
  refine lv_iconst (v := (1)) hx hb dJx4a65c_fastRemove_b59b0_14 (by decide) ?_
  refine lv_isub hx hb dJx4a65c_fastRemove_b59b0_15 ?_
  refine lv_dup hx hb dJx4a65c_fastRemove_b59b0_16 rfl ?_
  refine lv_istore_n (lv' := [(3, .int (6 - (1 : Int32))), (0, .ref s0), (1, .ref e0), (2, .int 0)]) hx hb dJx4a65c_fastRemove_b59b0_17 rfl hl (by decide) rfl (fun ls hl => ?_)
  refine lv_iload_n hx hb dJx4a65c_fastRemove_b59b0_18 rfl (lv_at hl 3 rfl) ?_
  refine lv_icmp_le (tgt := 34) hx hb dJx4a65c_fastRemove_b59b0_19 (by decide) (fun hc => absurd hc (by decide)) (fun _ => ?_)
  refine lv_aload_n hx hb dJx4a65c_fastRemove_b59b0_22 rfl (lv_at hl 2 rfl) ?_
  refine lv_iload_n hx hb dJx4a65c_fastRemove_b59b0_23 rfl (lv_at hl 3 rfl) ?_
  refine lv_iconst (v := (1)) hx hb dJx4a65c_fastRemove_b59b0_24 (by decide) ?_
  refine lv_iadd hx hb dJx4a65c_fastRemove_b59b0_25 ?_
  refine lv_aload_n hx hb dJx4a65c_fastRemove_b59b0_26 rfl (lv_at hl 2 rfl) ?_
  refine lv_iload_n hx hb dJx4a65c_fastRemove_b59b0_27 rfl (lv_at hl 3 rfl) ?_
  refine lv_iload_n hx hb dJx4a65c_fastRemove_b59b0_28 rfl (lv_at hl 0 rfl) ?_
  refine lv_iload_n hx hb dJx4a65c_fastRemove_b59b0_29 rfl (lv_at hl 3 rfl) ?_
  refine lv_isub hx hb dJx4a65c_fastRemove_b59b0_30 ?_
  refine va_copyq hx hb (hml.trans hl.1.symm) hown (hts _ qw479) (hts _ qw481) (hts _ qw480) (hts _ qw15) hK hP hD hS 1 1 4 4 (C := "BentGardens$Garden") rfl rfl rfl rfl (by decide) (by decide) (by decide) (by decide) (by decide) (fun j hj y hy9 => by obtain ⟨k9, vs9, hk9⟩ := hy j hj y hy9; exact va_recv hK hP (ci := 2) (q0 := 2 + k9) rfl (tl2 hk9)) (fun c1 c2 h1 h2 => cast_ok (hC.2.1 _ qw922) h1 h2) (Nat.le_of_ble_eq_true rfl) (Nat.le_of_ble_eq_true rfl) dJx4a65c_fastRemove_b59b0_31 (fun H locs hP hD hS => ?_)
  have hP : va_P D vwCl ([(s0, .inr (0, [.int (m0 + (1 : Int32)), .ref e0, .int 6])), (e0, .inl (t 4, (10, .inr (.inr (.inr (.inr (va_cpy f f 1 0 5)))))))] ++ K : va_W) H := hP
  have hD : va_D (OA L0 s.heap.size) ([(s0, .inr (0, [.int (m0 + (1 : Int32)), .ref e0, .int 6])), (e0, .inl (t 4, (10, .inr (.inr (.inr (.inr (va_cpy f f 1 0 5)))))))] ++ K : va_W) := hD
  have hSz : s.heap.size ≤ H.size := hS.1
  refine lv_aload_n hx hb dJx4a65c_fastRemove_b59b0_34 rfl (lv_at hl 2 rfl) ?_
  refine lv_aload_n hx hb dJx4a65c_fastRemove_b59b0_35 rfl (lv_at hl 1 rfl) ?_
  refine lv_iload_n hx hb dJx4a65c_fastRemove_b59b0_36 rfl (lv_at hl 0 rfl) ?_
  refine lv_dup_x1 hx hb dJx4a65c_fastRemove_b59b0_37 rfl rfl ?_
  refine va_put (D := D) (ci := 0) (v := .int (6 - (1 : Int32))) (ty := .int) hx hb hts inJx4a65c tyJx4a65c tyJx4a65c_ok nmJx4a65c hown hK hP hD hS 0 rfl rfl 2 (by decide) (hts _ qw48) (fun _ h9 => h9) rfl (by decide +kernel) rfl rfl (Nat.le_of_ble_eq_true rfl) dJx4a65c_fastRemove_b59b0_38 (fun H locs hP hD hS => ?_)
  have hP : va_P D vwCl ([(s0, .inr (0, [.int (m0 + (1 : Int32)), .ref e0, .int (6 - (1 : Int32))])), (e0, .inl (t 4, (10, .inr (.inr (.inr (.inr (va_cpy f f 1 0 5)))))))] ++ K : va_W) H := hP
  have hD : va_D (OA L0 s.heap.size) ([(s0, .inr (0, [.int (m0 + (1 : Int32)), .ref e0, .int (6 - (1 : Int32))])), (e0, .inl (t 4, (10, .inr (.inr (.inr (.inr (va_cpy f f 1 0 5)))))))] ++ K : va_W) := hD
  have hSz : s.heap.size ≤ H.size := hS.1
  refine lv_null hx hb dJx4a65c_fastRemove_b59b0_41 ?_
  refine va_astqN hx hb hK hP hD hS 1 4 rfl rfl (by unfold vp_in; decide) dJx4a65c_fastRemove_b59b0_42 (fun H locs hP hD hS => ?_)
  have hP : va_P D vwCl ([(s0, .inr (0, [.int (m0 + 1), .ref e0, .int 5])), (e0, .inl (t 4, (10, .inr (.inr (.inr (.inr (va_up (va_cpy f f 1 0 5) 5 none)))))))] ++ K : va_W) H := hP
  have hD : va_D (OA L0 s.heap.size) ([(s0, .inr (0, [.int (m0 + 1), .ref e0, .int 5])), (e0, .inl (t 4, (10, .inr (.inr (.inr (.inr (va_up (va_cpy f f 1 0 5) 5 none)))))))] ++ K : va_W) := hD
  have hSz : s.heap.size ≤ H.size := hS.1
  exact W.vret hx hb hr (fun t9 ht hW => ⟨(), rfl, by rw [ht]; exact hP, hD, hS.F ht⟩) hS.2.2 dJx4a65c_fastRemove_b59b0_43

abbrev rm_Jx4a65c_grow_92f84 : Room := { frames := 2, cells := 1, slots := 10, locals := 80 }
theorem ok_Jx4a65c_grow_92f84 : okY yJx4a65c_grow_92f84 1 := ⟨by decide +kernel, by decide +kernel, by decide +kernel⟩
set_option maxHeartbeats 4000000 in
set_option maxRecDepth 100000 in
theorem c_Jx4a65c_grow_92f84 (l : Launch) (z0 : Nat) (D : va_G) (t : Nat → ClassId) (s0 : Nat) (m0 : Int32) (sz : Nat) : Met l yJx4a65c_grow_92f84 (ws_ yJx4a65c_grow_92f84 cJx4a65c_grow_92f84 4 (some (.array (.object "java/lang/Object")))) rm_Jx4a65c_grow_92f84 (PM z0 D t [.ref s0, .int 1] ([(s0, .inr (0, [.int m0, .ref (t 100), .int (0 : Int32)]))] : va_W) [s0] sz) (QE (fun q : Nat => some (.ref q)) D (fun q => ([(s0, .inr (0, [.int m0, .ref q, .int (0 : Int32)])), (q, .inl (t 4, (10, .inr (.inr (.inr (.inr (fun _ => none)))))))] : va_W)) [s0] sz) 1 10 (OA [s0] sz) := by
  refine Met.ofW (cc := cJx4a65c_grow_92f84) (maxL := 4) (ret := (some (.array (.object "java/lang/Object")))) (by decide) rfl ?_
  intro p e s m args below meth c s₁ Bo hml hv
  obtain ⟨rfl, hC, hsz, hP, hD, hZ⟩ := hv
  have hx := Bo.exec
  have hb := Bo.bytes
  have hr := Bo.returns
  have hts : ∀ w ∈ LA, w.before _ s = true := fun w hw => atoms_spec (ws := ws_ yJx4a65c_grow_92f84 cJx4a65c_grow_92f84 4 (some (.array (.object "java/lang/Object")))) Bo.pre w (List.mem_cons_of_mem _ hw)
  have hown : s.vm.findClass RJx4a65c = some m.cls := findClass_of_methodNamed Bo.named
  have hlocks := Bo.notSynchronized
  have hK := hC.1
  subst hsz
  obtain ⟨L0, hL0⟩ : ∃ L0, L0 = [s0] := ⟨_, rfl⟩
  rw [← hL0] at hD hZ ⊢
  have hS : va_S (OA L0 s.heap.size) s.heap s.heap [] := va_S.rf
  suffices K9 : ∀ (H : Heap), va_P D vwCl ([(s0, .inr (0, [.int m0, .ref (t 100), .int (0 : Int32)]))] : va_W) H → va_S (OA L0 s.heap.size) s.heap H [] → W p l e (headSpec (ws_ yJx4a65c_grow_92f84 cJx4a65c_grow_92f84 4 (some (.array (.object "java/lang/Object")))) rm_Jx4a65c_grow_92f84).room s m ([.ref s0, .int 1] : List Value).toArray below meth c H [] 0 0 (MQ below (QE (fun q : Nat => some (.ref q)) D (fun q => ([(s0, .inr (0, [.int m0, .ref q, .int (0 : Int32)])), (q, .inl (t 4, (10, .inr (.inr (.inr (.inr (fun _ => none)))))))] : va_W)) L0 s.heap.size) ([.ref s0, .int 1] : List Value).toArray s 1 10 (OA L0 s.heap.size)) (entryFrame m ([.ref s0, .int 1] : List Value).toArray 4) from K9 s.heap hP hS
  intro H hP hS
  have hSz : s.heap.size ≤ H.size := hS.1
  have hl := lv_entry ([.ref s0, .int 1]) (n := 4) (Nat.le_of_ble_eq_true rfl)
  rw [lg_entry_eq]
  generalize (lg_sl ([.ref s0, .int 1]) ++ List.replicate (4 - (lg_sl ([.ref s0, .int 1])).length) Slot.unset).toArray = ls at hl ⊢
  have hl : lv_has ls 4 [(0, .ref s0), (1, .int 1)] := hl
  refine lv_aload_n hx hb dJx4a65c_grow_92f84_0 rfl (lv_at hl 0 rfl) ?_
  refine va_get hx hb hts inJx4a65c hown hK hP 0 rfl rfl 1 (by decide) (hts _ qw47) (fun _ h9 => h9) rfl dJx4a65c_grow_92f84_1 ?_
  refine va_tlen hx hb (hC.2.2.2.2.2.2.2.2.2.2.narrow hZ) hS (v := 0) rfl dJx4a65c_grow_92f84_4 ?_
  refine lv_istore_n (lv' := [(2, .int (0 : Int32)), (0, .ref s0), (1, .int (1 : Int32))]) hx hb dJx4a65c_grow_92f84_5 rfl hl (by decide) rfl (fun ls hl => ?_)
  refine lv_iload_n hx hb dJx4a65c_grow_92f84_6 rfl (lv_at hl 0 rfl) ?_
  refine lv_if_gt (tgt := 20) hx hb dJx4a65c_grow_92f84_7 (by decide) (fun hc => absurd hc (by decide)) (fun _ => ?_)
  refine lv_aload_n hx hb dJx4a65c_grow_92f84_10 rfl (lv_at hl 1 rfl) ?_
  refine va_get hx hb hts inJx4a65c hown hK hP 0 rfl rfl 1 (by decide) (hts _ qw47) (fun _ h9 => h9) rfl dJx4a65c_grow_92f84_11 ?_
  refine va_gets hx hb (hC.2.2.2.2.2.2.2.2.2.1.narrow hZ) hS hown (hts _ qw45) (fun _ h9 => h9) dJx4a65c_grow_92f84_14 ?_
  refine lv_acmp_eq (rx := some (t 100)) (ry := some (t 100)) (tgt := 45) hx hb dJx4a65c_grow_92f84_17 (by decide) (fun _ => ?_) (fun hc => absurd rfl hc)
  refine lv_aload_n hx hb dJx4a65c_grow_92f84_45 rfl (lv_at hl 1 rfl) ?_
  refine lv_bipush (v := (10)) hx hb dJx4a65c_grow_92f84_46 (by decide) ?_
  refine lv_iload_n hx hb dJx4a65c_grow_92f84_48 rfl (lv_at hl 2 rfl) ?_
  refine va_mmax hx hb (hml.trans hl.1.symm) hown (hts _ qw538) (hts _ qw349) (hts _ qw18) (hts _ qw350) (Nat.le_of_ble_eq_true rfl) (Nat.le_of_ble_eq_true rfl) (Nat.le_of_ble_eq_true rfl) (Nat.le_of_ble_eq_true rfl) dJx4a65c_grow_92f84_49 ?_
  refine topI (x := 10) (by decide) ?_
  refine va_newq (C := "java/lang/Object") (N' := 10) hx hb hown (hts _ qw539) hC.2.2.2.1 hK hP hD hS OA.new (by decide) (by decide) (by decide) (Nat.le_of_ble_eq_true rfl) (Nat.le_of_ble_eq_true rfl) dJx4a65c_grow_92f84_52 (fun q cA1 H hK9 hP hD hS => ?_)
  obtain rfl : cA1 = t 4 := KA_eq (k := 4) hK hK9 rfl
  have hP : va_P D vwCl ([(s0, .inr (0, [.int m0, .ref (t 100), .int (0 : Int32)])), (q, .inl (t 4, (10, .inr (.inr (.inr (.inr (fun _ => none)))))))] : va_W) H := hP
  have hD : va_D (OA L0 s.heap.size) ([(s0, .inr (0, [.int m0, .ref (t 100), .int (0 : Int32)])), (q, .inl (t 4, (10, .inr (.inr (.inr (.inr (fun _ => none)))))))] : va_W) := hD
  have hSz : s.heap.size ≤ H.size := hS.1
  refine W.widen (k := 1) (n := 10) (by omega) (by omega) ?_
  refine lv_dup_x1 hx hb dJx4a65c_grow_92f84_55 rfl rfl ?_
  refine va_put (D := D) (ci := 0) (v := .ref q) (ty := (.array (.object "java/lang/Object"))) hx hb hts inJx4a65c tyJx4a65c tyJx4a65c_ok nmJx4a65c hown hK hP hD hS 0 rfl rfl 1 (by decide) (hts _ qw47) (fun _ h9 => h9) rfl (by decide +kernel) rfl rfl (Nat.le_of_ble_eq_true rfl) dJx4a65c_grow_92f84_56 (fun H locs hP hD hS => ?_)
  have hP : va_P D vwCl ([(s0, .inr (0, [.int m0, .ref q, .int (0 : Int32)])), (q, .inl (t 4, (10, .inr (.inr (.inr (.inr (fun _ => none)))))))] : va_W) H := hP
  have hD : va_D (OA L0 s.heap.size) ([(s0, .inr (0, [.int m0, .ref q, .int (0 : Int32)])), (q, .inl (t 4, (10, .inr (.inr (.inr (.inr (fun _ => none)))))))] : va_W) := hD
  have hSz : s.heap.size ≤ H.size := hS.1
  exact W.aret hx hb hr (Or.inr ⟨_, rfl⟩) (Or.inr ⟨_, rfl⟩) (fun t9 ht hW => ⟨q, rfl, by rw [ht]; exact hP, hD, hS.F ht⟩) hS.2.2 dJx4a65c_grow_92f84_59

abbrev rm_Jx4a65c_grow_d5877 : Room := { frames := 3, cells := 1, slots := 10, locals := 120 }
theorem ok_Jx4a65c_grow_d5877 : okY yJx4a65c_grow_d5877 0 := ⟨by decide +kernel, by decide +kernel, by decide +kernel⟩
set_option maxHeartbeats 4000000 in
set_option maxRecDepth 100000 in
theorem c_Jx4a65c_grow_d5877 (l : Launch) (z0 : Nat) (D : va_G) (t : Nat → ClassId) (s0 : Nat) (m0 : Int32) (sz : Nat) : Met l yJx4a65c_grow_d5877 (ws_ yJx4a65c_grow_d5877 cJx4a65c_grow_d5877 1 (some (.array (.object "java/lang/Object")))) rm_Jx4a65c_grow_d5877 (PM z0 D t [.ref s0] ([(s0, .inr (0, [.int m0, .ref (t 100), .int (0 : Int32)]))] : va_W) [s0] sz) (QE (fun q : Nat => some (.ref q)) D (fun q => ([(s0, .inr (0, [.int m0, .ref q, .int (0 : Int32)])), (q, .inl (t 4, (10, .inr (.inr (.inr (.inr (fun _ => none)))))))] : va_W)) [s0] sz) 1 10 (OA [s0] sz) := by
  refine Met.ofW (cc := cJx4a65c_grow_d5877) (maxL := 1) (ret := (some (.array (.object "java/lang/Object")))) (by decide) rfl ?_
  intro p e s m args below meth c s₁ Bo hml hv
  obtain ⟨rfl, hC, hsz, hP, hD, hZ⟩ := hv
  have hx := Bo.exec
  have hb := Bo.bytes
  have hr := Bo.returns
  have hts : ∀ w ∈ LA, w.before _ s = true := fun w hw => atoms_spec (ws := ws_ yJx4a65c_grow_d5877 cJx4a65c_grow_d5877 1 (some (.array (.object "java/lang/Object")))) Bo.pre w (List.mem_cons_of_mem _ hw)
  have hown : s.vm.findClass RJx4a65c = some m.cls := findClass_of_methodNamed Bo.named
  have hlocks := Bo.notSynchronized
  have hK := hC.1
  subst hsz
  obtain ⟨L0, hL0⟩ : ∃ L0, L0 = [s0] := ⟨_, rfl⟩
  rw [← hL0] at hD hZ ⊢
  have hS : va_S (OA L0 s.heap.size) s.heap s.heap [] := va_S.rf
  suffices K9 : ∀ (H : Heap), va_P D vwCl ([(s0, .inr (0, [.int m0, .ref (t 100), .int (0 : Int32)]))] : va_W) H → va_S (OA L0 s.heap.size) s.heap H [] → W p l e (headSpec (ws_ yJx4a65c_grow_d5877 cJx4a65c_grow_d5877 1 (some (.array (.object "java/lang/Object")))) rm_Jx4a65c_grow_d5877).room s m ([.ref s0] : List Value).toArray below meth c H [] 0 0 (MQ below (QE (fun q : Nat => some (.ref q)) D (fun q => ([(s0, .inr (0, [.int m0, .ref q, .int (0 : Int32)])), (q, .inl (t 4, (10, .inr (.inr (.inr (.inr (fun _ => none)))))))] : va_W)) L0 s.heap.size) ([.ref s0] : List Value).toArray s 1 10 (OA L0 s.heap.size)) (entryFrame m ([.ref s0] : List Value).toArray 1) from K9 s.heap hP hS
  intro H hP hS
  have hSz : s.heap.size ≤ H.size := hS.1
  have hl := lv_entry ([.ref s0]) (n := 1) (Nat.le_of_ble_eq_true rfl)
  rw [lg_entry_eq]
  generalize (lg_sl ([.ref s0]) ++ List.replicate (1 - (lg_sl ([.ref s0])).length) Slot.unset).toArray = ls at hl ⊢
  have hl : lv_has ls 1 [(0, .ref s0)] := hl
  refine lv_aload_n hx hb dJx4a65c_grow_d5877_0 rfl (lv_at hl 0 rfl) ?_
  refine lv_aload_n hx hb dJx4a65c_grow_d5877_1 rfl (lv_at hl 0 rfl) ?_
  refine va_get hx hb hts inJx4a65c hown hK hP 0 rfl rfl 2 (by decide) (hts _ qw48) (fun _ h9 => h9) rfl dJx4a65c_grow_d5877_2 ?_
  refine lv_iconst (v := (1)) hx hb dJx4a65c_grow_d5877_5 (by decide) ?_
  refine lv_iadd hx hb dJx4a65c_grow_d5877_6 ?_
  refine topI (x := 1) (by decide) ?_
  refine call_E (va_runV (As := [.int (1 : Int32)]) (rest := []) ⟨hx, hb, hml, hown, hts⟩ (c_Jx4a65c_grow_92f84 l z0 D t s0 m0 H.size) (kV hts qw501 qw503 qs19 qw4 qw504 ok_Jx4a65c_grow_92f84 ⟨Nat.le_of_ble_eq_true rfl, Nat.le_of_ble_eq_true rfl⟩) ⟨PM.blind, va_recv hK (hP.sub (ws' := [(s0, .inr (0, [.int m0, .ref (t 100), .int (0 : Int32)]))]) [0] rfl) (ci := 0) (q0 := 0) rfl rfl, fun U hU hW => ⟨rfl, by rw [hU]; exact (hC.at hS hZ).warm hW, by rw [hU], by rw [hU]; exact (hP.sub (ws' := [(s0, .inr (0, [.int m0, .ref (t 100), .int (0 : Int32)]))]) [0] rfl), ⟨(hD.sub (ws' := [(s0, .inr (0, [.int m0, .ref (t 100), .int (0 : Int32)]))]) [0] (by decide) rfl).1, fun _ _ h9 => Or.inl (in_map (L := [s0]) rfl h9)⟩, fun q hq => hZ q (OA.ofD (hD.sub (ws' := [(s0, .inr (0, [.int m0, .ref (t 100), .int (0 : Int32)]))]) [0] (by decide) rfl) rfl hSz q hq)⟩⟩ rfl rfl hl.1 rfl (lv_room (Nat.le_of_ble_eq_true rfl)) dJx4a65c_grow_d5877_7 ⟨Nat.le_of_ble_eq_true rfl, Nat.le_of_ble_eq_true rfl⟩) hS (OA.ofD (hD.sub (ws' := [(s0, .inr (0, [.int m0, .ref (t 100), .int (0 : Int32)]))]) [0] (by decide) rfl) rfl hSz) (fun b9 H locs hP1 hD1 hS _ hk1 => ?_)
  obtain ⟨q, rfl⟩ : ∃ z, z = b9 := ⟨_, rfl⟩
  obtain ⟨hP, hD⟩ := va_back (wr := []) (w1 := ([(s0, .inr (0, [.int m0, .ref q, .int (0 : Int32)])), (q, .inl (t 4, (10, .inr (.inr (.inr (.inr (fun _ => none)))))))] : va_W)) (ws' := ([(s0, .inr (0, [.int m0, .ref q, .int (0 : Int32)])), (q, .inl (t 4, (10, .inr (.inr (.inr (.inr (fun _ => none)))))))] : va_W)) hP hD [0] [] rfl rfl (by decide) (by decide) hk1 (OA.ofD (hD.sub (ws' := [(s0, .inr (0, [.int m0, .ref (t 100), .int (0 : Int32)]))]) [0] (by decide) rfl) rfl hSz) hP1 hD1 [0, 1] rfl (by decide)
  have hP : va_P D vwCl ([(s0, .inr (0, [.int m0, .ref q, .int (0 : Int32)])), (q, .inl (t 4, (10, .inr (.inr (.inr (.inr (fun _ => none)))))))] : va_W) H := hP
  have hD : va_D (OA L0 s.heap.size) ([(s0, .inr (0, [.int m0, .ref q, .int (0 : Int32)])), (q, .inl (t 4, (10, .inr (.inr (.inr (.inr (fun _ => none)))))))] : va_W) := hD
  have hSz : s.heap.size ≤ H.size := hS.1
  refine W.widen (k := 1) (n := 10) (by omega) (by omega) ?_
  exact W.aret hx hb hr (Or.inr ⟨_, rfl⟩) (Or.inr ⟨_, rfl⟩) (fun t9 ht hW => ⟨q, rfl, by rw [ht]; exact hP, hD, hS.F ht⟩) hS.2.2 dJx4a65c_grow_d5877_10

abbrev rm_Jx4a65c_add_72be8_f : Room := { frames := 4, cells := 1, slots := 10, locals := 160 }
theorem ok_Jx4a65c_add_72be8 : okY yJx4a65c_add_72be8 3 := ⟨by decide +kernel, by decide +kernel, by decide +kernel⟩
set_option maxHeartbeats 4000000 in
set_option maxRecDepth 100000 in
theorem c_Jx4a65c_add_72be8_f (l : Launch) (z0 : Nat) (D : va_G) (t : Nat → ClassId) (s0 v0 : Nat) (m0 : Int32) (vs : List Value) (sz : Nat) : Met l yJx4a65c_add_72be8 (ws_ yJx4a65c_add_72be8 cJx4a65c_add_72be8 4 none) rm_Jx4a65c_add_72be8_f (PM z0 D t [.ref s0, .ref v0, .ref (t 100), .int (0)] ([(s0, .inr (0, [.int m0, .ref (t 100), .int (0 : Int32)])), (v0, .inr (2, vs))] : va_W) [s0, v0] sz) (QE (fun q : Nat => none) D (fun q => ([(s0, .inr (0, [.int m0, .ref q, .int (1 : Int32)])), (v0, .inr (2, vs)), (q, .inl (t 4, (10, .inr (.inr (.inr (.inr (va_up (fun _ => none) 0 (some v0))))))))] : va_W)) [s0, v0] sz) 1 10 (OA [s0, v0] sz) := by
  refine Met.ofW (cc := cJx4a65c_add_72be8) (maxL := 4) (ret := none) (by decide) rfl ?_
  intro p e s m args below meth c s₁ Bo hml hv
  obtain ⟨rfl, hC, hsz, hP, hD, hZ⟩ := hv
  have hx := Bo.exec
  have hb := Bo.bytes
  have hr := Bo.returns
  have hts : ∀ w ∈ LA, w.before _ s = true := fun w hw => atoms_spec (ws := ws_ yJx4a65c_add_72be8 cJx4a65c_add_72be8 4 none) Bo.pre w (List.mem_cons_of_mem _ hw)
  have hown : s.vm.findClass RJx4a65c = some m.cls := findClass_of_methodNamed Bo.named
  have hlocks := Bo.notSynchronized
  have hK := hC.1
  subst hsz
  obtain ⟨L0, hL0⟩ : ∃ L0, L0 = [s0, v0] := ⟨_, rfl⟩
  rw [← hL0] at hD hZ ⊢
  have hS : va_S (OA L0 s.heap.size) s.heap s.heap [] := va_S.rf
  suffices K9 : ∀ (H : Heap), va_P D vwCl ([(s0, .inr (0, [.int m0, .ref (t 100), .int (0 : Int32)])), (v0, .inr (2, vs))] : va_W) H → va_S (OA L0 s.heap.size) s.heap H [] → W p l e (headSpec (ws_ yJx4a65c_add_72be8 cJx4a65c_add_72be8 4 none) rm_Jx4a65c_add_72be8_f).room s m ([.ref s0, .ref v0, .ref (t 100), .int (0)] : List Value).toArray below meth c H [] 0 0 (MQ below (QE (fun q : Nat => none) D (fun q => ([(s0, .inr (0, [.int m0, .ref q, .int (1 : Int32)])), (v0, .inr (2, vs)), (q, .inl (t 4, (10, .inr (.inr (.inr (.inr (va_up (fun _ => none) 0 (some v0))))))))] : va_W)) L0 s.heap.size) ([.ref s0, .ref v0, .ref (t 100), .int (0)] : List Value).toArray s 1 10 (OA L0 s.heap.size)) (entryFrame m ([.ref s0, .ref v0, .ref (t 100), .int (0)] : List Value).toArray 4) from K9 s.heap hP hS
  intro H hP hS
  have hSz : s.heap.size ≤ H.size := hS.1
  have hl := lv_entry ([.ref s0, .ref v0, .ref (t 100), .int (0)]) (n := 4) (Nat.le_of_ble_eq_true rfl)
  rw [lg_entry_eq]
  generalize (lg_sl ([.ref s0, .ref v0, .ref (t 100), .int (0)]) ++ List.replicate (4 - (lg_sl ([.ref s0, .ref v0, .ref (t 100), .int (0)])).length) Slot.unset).toArray = ls at hl ⊢
  have hl : lv_has ls 4 [(0, .ref s0), (1, .ref v0), (2, .ref (t 100)), (3, .int (0 : Int32))] := hl
  refine lv_iload_n hx hb dJx4a65c_add_72be8_0 rfl (lv_at hl 3 rfl) ?_
  refine lv_aload_n hx hb dJx4a65c_add_72be8_1 rfl (lv_at hl 2 rfl) ?_
  refine va_tlen hx hb (hC.2.2.2.2.2.2.2.2.2.2.narrow hZ) hS (v := 0) rfl dJx4a65c_add_72be8_2 ?_
  refine lv_icmp_ne (tgt := 11) hx hb dJx4a65c_add_72be8_3 (by decide) (fun hc => absurd rfl hc) (fun _ => ?_)
  refine lv_aload_n hx hb dJx4a65c_add_72be8_6 rfl (lv_at hl 0 rfl) ?_
  refine call_E (va_runV (As := []) (rest := []) ⟨hx, hb, hml, hown, hts⟩ (c_Jx4a65c_grow_d5877 l z0 D t s0 m0 H.size) (kV hts qw497 qw499 qs18 qw4 qw500 ok_Jx4a65c_grow_d5877 ⟨Nat.le_of_ble_eq_true rfl, Nat.le_of_ble_eq_true rfl⟩) ⟨PM.blind, va_recv hK (hP.sub (ws' := [(s0, .inr (0, [.int m0, .ref (t 100), .int (0 : Int32)]))]) [0] rfl) (ci := 0) (q0 := 0) rfl rfl, fun U hU hW => ⟨rfl, by rw [hU]; exact (hC.at hS hZ).warm hW, by rw [hU], by rw [hU]; exact (hP.sub (ws' := [(s0, .inr (0, [.int m0, .ref (t 100), .int (0 : Int32)]))]) [0] rfl), ⟨(hD.sub (ws' := [(s0, .inr (0, [.int m0, .ref (t 100), .int (0 : Int32)]))]) [0] (by decide) rfl).1, fun _ _ h9 => Or.inl (in_map (L := [s0]) rfl h9)⟩, fun q hq => hZ q (OA.ofD (hD.sub (ws' := [(s0, .inr (0, [.int m0, .ref (t 100), .int (0 : Int32)]))]) [0] (by decide) rfl) rfl hSz q hq)⟩⟩ rfl rfl hl.1 rfl (lv_room (Nat.le_of_ble_eq_true rfl)) dJx4a65c_add_72be8_7 ⟨Nat.le_of_ble_eq_true rfl, Nat.le_of_ble_eq_true rfl⟩) hS (OA.ofD (hD.sub (ws' := [(s0, .inr (0, [.int m0, .ref (t 100), .int (0 : Int32)]))]) [0] (by decide) rfl) rfl hSz) (fun b9 H locs hP1 hD1 hS _ hk1 => ?_)
  obtain ⟨q, rfl⟩ : ∃ z, z = b9 := ⟨_, rfl⟩
  obtain ⟨hP, hD⟩ := va_back (wr := [(v0, .inr (2, vs))]) (w1 := ([(s0, .inr (0, [.int m0, .ref q, .int (0 : Int32)])), (q, .inl (t 4, (10, .inr (.inr (.inr (.inr (fun _ => none)))))))] : va_W)) (ws' := ([(v0, .inr (2, vs)), (s0, .inr (0, [.int m0, .ref q, .int (0 : Int32)])), (q, .inl (t 4, (10, .inr (.inr (.inr (.inr (fun _ => none)))))))] : va_W)) hP hD [0] [1] rfl rfl (by decide) (by decide) hk1 (OA.ofD (hD.sub (ws' := [(s0, .inr (0, [.int m0, .ref (t 100), .int (0 : Int32)]))]) [0] (by decide) rfl) rfl hSz) hP1 hD1 [0, 1, 2] rfl (by decide)
  have hP : va_P D vwCl ([(v0, .inr (2, vs)), (s0, .inr (0, [.int m0, .ref q, .int (0 : Int32)])), (q, .inl (t 4, (10, .inr (.inr (.inr (.inr (fun _ => none)))))))] : va_W) H := hP
  have hD : va_D (OA L0 s.heap.size) ([(v0, .inr (2, vs)), (s0, .inr (0, [.int m0, .ref q, .int (0 : Int32)])), (q, .inl (t 4, (10, .inr (.inr (.inr (.inr (fun _ => none)))))))] : va_W) := hD
  have hSz : s.heap.size ≤ H.size := hS.1
  refine W.widen (k := 1) (n := 10) (by omega) (by omega) ?_
  have hP := hP.sub (ws' := ([(s0, .inr (0, [.int m0, .ref q, .int (0 : Int32)])), (v0, .inr (2, vs)), (q, .inl (t 4, (10, .inr (.inr (.inr (.inr (fun _ => none)))))))] : va_W)) [1, 0, 2] rfl
  have hD := hD.sub (ws' := ([(s0, .inr (0, [.int m0, .ref q, .int (0 : Int32)])), (v0, .inr (2, vs)), (q, .inl (t 4, (10, .inr (.inr (.inr (.inr (fun _ => none)))))))] : va_W)) [1, 0, 2] (by decide) rfl
  have hP : va_P D vwCl ([(s0, .inr (0, [.int m0, .ref q, .int (0 : Int32)])), (v0, .inr (2, vs)), (q, .inl (t 4, (10, .inr (.inr (.inr (.inr (fun _ => none)))))))] : va_W) H := hP
  have hD : va_D (OA L0 s.heap.size) ([(s0, .inr (0, [.int m0, .ref q, .int (0 : Int32)])), (v0, .inr (2, vs)), (q, .inl (t 4, (10, .inr (.inr (.inr (.inr (fun _ => none)))))))] : va_W) := hD
  have hSz : s.heap.size ≤ H.size := hS.1
  refine lv_astore_n (lv' := [(2, .ref q), (0, .ref s0), (1, .ref v0), (3, .int (0 : Int32))]) hx hb dJx4a65c_add_72be8_10 rfl hl (by decide) rfl (fun ls hl => ?_)
  refine lv_aload_n hx hb dJx4a65c_add_72be8_11 rfl (lv_at hl 0 rfl) ?_
  refine lv_iload_n hx hb dJx4a65c_add_72be8_12 rfl (lv_at hl 3 rfl) ?_
  refine lv_aload_n hx hb dJx4a65c_add_72be8_13 rfl (lv_at hl 2 rfl) ?_
  refine va_astqO (r := (RX1, TX1, 9)) (E := "java/lang/Object") hx hb hK hP hD hS 2 4 1 2 rfl rfl (hC.2.1 _ qw922) rfl rfl (by unfold vp_in; decide) dJx4a65c_add_72be8_14 (fun H locs hP hD hS => ?_)
  have hP : va_P D vwCl ([(s0, .inr (0, [.int m0, .ref q, .int (0 : Int32)])), (v0, .inr (2, vs)), (q, .inl (t 4, (10, .inr (.inr (.inr (.inr (va_up (fun _ => none) 0 (some v0))))))))] : va_W) H := hP
  have hD : va_D (OA L0 s.heap.size) ([(s0, .inr (0, [.int m0, .ref q, .int (0 : Int32)])), (v0, .inr (2, vs)), (q, .inl (t 4, (10, .inr (.inr (.inr (.inr (va_up (fun _ => none) 0 (some v0))))))))] : va_W) := hD
  have hSz : s.heap.size ≤ H.size := hS.1
  refine lv_aload_n hx hb dJx4a65c_add_72be8_15 rfl (lv_at hl 1 rfl) ?_
  refine lv_iload_n hx hb dJx4a65c_add_72be8_16 rfl (lv_at hl 3 rfl) ?_
  refine lv_iconst (v := (1)) hx hb dJx4a65c_add_72be8_17 (by decide) ?_
  refine lv_iadd hx hb dJx4a65c_add_72be8_18 ?_
  refine topI (x := 1) (by decide) ?_
  refine va_put (D := D) (ci := 0) (v := .int (1 : Int32)) (ty := .int) hx hb hts inJx4a65c tyJx4a65c tyJx4a65c_ok nmJx4a65c hown hK hP hD hS 0 rfl rfl 2 (by decide) (hts _ qw48) (fun _ h9 => h9) rfl (by decide +kernel) rfl rfl (Nat.le_of_ble_eq_true rfl) dJx4a65c_add_72be8_19 (fun H locs hP hD hS => ?_)
  have hP : va_P D vwCl ([(s0, .inr (0, [.int m0, .ref q, .int (1 : Int32)])), (v0, .inr (2, vs)), (q, .inl (t 4, (10, .inr (.inr (.inr (.inr (va_up (fun _ => none) 0 (some v0))))))))] : va_W) H := hP
  have hD : va_D (OA L0 s.heap.size) ([(s0, .inr (0, [.int m0, .ref q, .int (1 : Int32)])), (v0, .inr (2, vs)), (q, .inl (t 4, (10, .inr (.inr (.inr (.inr (va_up (fun _ => none) 0 (some v0))))))))] : va_W) := hD
  have hSz : s.heap.size ≤ H.size := hS.1
  exact W.vret hx hb hr (fun t9 ht hW => ⟨q, rfl, by rw [ht]; exact hP, hD, hS.F ht⟩) hS.2.2 dJx4a65c_add_72be8_22

abbrev rm_Jx4a65c_add_72be8_n : Room := { frames := 4, cells := 0, slots := 0, locals := 160 }
set_option maxHeartbeats 4000000 in
set_option maxRecDepth 100000 in
theorem c_Jx4a65c_add_72be8_n (l : Launch) (z0 : Nat) (D : va_G) (t : Nat → ClassId) (s0 e0 v0 : Nat) (m0 : Int32) (n : Nat) (f : Nat → Option Nat) (vs : List Value) (sz : Nat) (hn : n < 10) : Met l yJx4a65c_add_72be8 (ws_ yJx4a65c_add_72be8 cJx4a65c_add_72be8 4 none) rm_Jx4a65c_add_72be8_n (PM z0 D t [.ref s0, .ref v0, .ref e0, .int (nI n)] ([(s0, .inr (0, [.int m0, .ref e0, .int (nI n)])), (v0, .inr (2, vs)), (e0, .inl (t 4, (10, .inr (.inr (.inr (.inr f))))))] : va_W) [s0, v0, e0] sz) (QE (fun _ : Unit => none) D (fun _ => ([(s0, .inr (0, [.int m0, .ref e0, .int (nI (n + 1))])), (v0, .inr (2, vs)), (e0, .inl (t 4, (10, .inr (.inr (.inr (.inr (va_up f n (some v0))))))))] : va_W)) [s0, v0, e0] sz) 0 0 (OA [s0, v0, e0] sz) := by
  refine Met.ofW (cc := cJx4a65c_add_72be8) (maxL := 4) (ret := none) (by decide) rfl ?_
  intro p e s m args below meth c s₁ Bo hml hv
  obtain ⟨rfl, hC, hsz, hP, hD, hZ⟩ := hv
  have hx := Bo.exec
  have hb := Bo.bytes
  have hr := Bo.returns
  have hts : ∀ w ∈ LA, w.before _ s = true := fun w hw => atoms_spec (ws := ws_ yJx4a65c_add_72be8 cJx4a65c_add_72be8 4 none) Bo.pre w (List.mem_cons_of_mem _ hw)
  have hown : s.vm.findClass RJx4a65c = some m.cls := findClass_of_methodNamed Bo.named
  have hlocks := Bo.notSynchronized
  have hK := hC.1
  subst hsz
  obtain ⟨L0, hL0⟩ : ∃ L0, L0 = [s0, v0, e0] := ⟨_, rfl⟩
  rw [← hL0] at hD hZ ⊢
  have hS : va_S (OA L0 s.heap.size) s.heap s.heap [] := va_S.rf
  suffices K9 : ∀ (H : Heap), va_P D vwCl ([(s0, .inr (0, [.int m0, .ref e0, .int (nI n)])), (v0, .inr (2, vs)), (e0, .inl (t 4, (10, .inr (.inr (.inr (.inr f))))))] : va_W) H → va_S (OA L0 s.heap.size) s.heap H [] → W p l e (headSpec (ws_ yJx4a65c_add_72be8 cJx4a65c_add_72be8 4 none) rm_Jx4a65c_add_72be8_n).room s m ([.ref s0, .ref v0, .ref e0, .int (nI n)] : List Value).toArray below meth c H [] 0 0 (MQ below (QE (fun _ : Unit => none) D (fun _ => ([(s0, .inr (0, [.int m0, .ref e0, .int (nI (n + 1))])), (v0, .inr (2, vs)), (e0, .inl (t 4, (10, .inr (.inr (.inr (.inr (va_up f n (some v0))))))))] : va_W)) L0 s.heap.size) ([.ref s0, .ref v0, .ref e0, .int (nI n)] : List Value).toArray s 0 0 (OA L0 s.heap.size)) (entryFrame m ([.ref s0, .ref v0, .ref e0, .int (nI n)] : List Value).toArray 4) from K9 s.heap hP hS
  intro H hP hS
  have hSz : s.heap.size ≤ H.size := hS.1
  have hl := lv_entry ([.ref s0, .ref v0, .ref e0, .int (nI n)]) (n := 4) (Nat.le_of_ble_eq_true rfl)
  rw [lg_entry_eq]
  generalize (lg_sl ([.ref s0, .ref v0, .ref e0, .int (nI n)]) ++ List.replicate (4 - (lg_sl ([.ref s0, .ref v0, .ref e0, .int (nI n)])).length) Slot.unset).toArray = ls at hl ⊢
  have hl : lv_has ls 4 [(0, .ref s0), (1, .ref v0), (2, .ref e0), (3, .int (nI n))] := hl
  refine lv_iload_n hx hb dJx4a65c_add_72be8_0 rfl (lv_at hl 3 rfl) ?_
  refine lv_aload_n hx hb dJx4a65c_add_72be8_1 rfl (lv_at hl 2 rfl) ?_
  refine va_alen hx hb hK hP 2 4 rfl rfl (v := 10) rfl dJx4a65c_add_72be8_2 ?_
  refine lv_icmp_ne (tgt := 11) hx hb dJx4a65c_add_72be8_3 (by decide) (fun _ => ?_) (fun hc => absurd ((nI_eq (b := 10) (by omega) (by omega)).mp hc) (by omega))
  refine lv_aload_n hx hb dJx4a65c_add_72be8_11 rfl (lv_at hl 2 rfl) ?_
  refine lv_iload_n hx hb dJx4a65c_add_72be8_12 rfl (lv_at hl 3 rfl) ?_
  refine lv_aload_n hx hb dJx4a65c_add_72be8_13 rfl (lv_at hl 1 rfl) ?_
  refine va_astqO (r := (RX1, TX1, 9)) (E := "java/lang/Object") hx hb hK hP hD hS 2 4 1 2 rfl rfl (hC.2.1 _ qw922) rfl rfl (vp_in_nI hn (by decide)) dJx4a65c_add_72be8_14 (fun H locs hP hD hS => ?_)
  rw [nI_clamp (by omega)] at hP hD
  have hP : va_P D vwCl ([(s0, .inr (0, [.int m0, .ref e0, .int (nI n)])), (v0, .inr (2, vs)), (e0, .inl (t 4, (10, .inr (.inr (.inr (.inr (va_up f n (some v0))))))))] : va_W) H := hP
  have hD : va_D (OA L0 s.heap.size) ([(s0, .inr (0, [.int m0, .ref e0, .int (nI n)])), (v0, .inr (2, vs)), (e0, .inl (t 4, (10, .inr (.inr (.inr (.inr (va_up f n (some v0))))))))] : va_W) := hD
  have hSz : s.heap.size ≤ H.size := hS.1
  refine lv_aload_n hx hb dJx4a65c_add_72be8_15 rfl (lv_at hl 0 rfl) ?_
  refine lv_iload_n hx hb dJx4a65c_add_72be8_16 rfl (lv_at hl 3 rfl) ?_
  refine lv_iconst (v := (1)) hx hb dJx4a65c_add_72be8_17 (by decide) ?_
  refine lv_iadd hx hb dJx4a65c_add_72be8_18 ?_
  refine topI (nI_1 n).symm ?_
  refine va_put (D := D) (ci := 0) (v := .int (nI (n + 1))) (ty := .int) hx hb hts inJx4a65c tyJx4a65c tyJx4a65c_ok nmJx4a65c hown hK hP hD hS 0 rfl rfl 2 (by decide) (hts _ qw48) (fun _ h9 => h9) rfl (by decide +kernel) rfl rfl (Nat.le_of_ble_eq_true rfl) dJx4a65c_add_72be8_19 (fun H locs hP hD hS => ?_)
  have hP : va_P D vwCl ([(s0, .inr (0, [.int m0, .ref e0, .int (nI (n + 1))])), (v0, .inr (2, vs)), (e0, .inl (t 4, (10, .inr (.inr (.inr (.inr (va_up f n (some v0))))))))] : va_W) H := hP
  have hD : va_D (OA L0 s.heap.size) ([(s0, .inr (0, [.int m0, .ref e0, .int (nI (n + 1))])), (v0, .inr (2, vs)), (e0, .inl (t 4, (10, .inr (.inr (.inr (.inr (va_up f n (some v0))))))))] : va_W) := hD
  have hSz : s.heap.size ≤ H.size := hS.1
  exact W.vret hx hb hr (fun t9 ht hW => ⟨(), rfl, by rw [ht]; exact hP, hD, hS.F ht⟩) hS.2.2 dJx4a65c_add_72be8_22

abbrev rm_Jx4a65c_add_9ea2d_f : Room := { frames := 5, cells := 1, slots := 10, locals := 200 }
theorem ok_Jx4a65c_add_9ea2d : okY yJx4a65c_add_9ea2d 1 := ⟨by decide +kernel, by decide +kernel, by decide +kernel⟩
set_option maxHeartbeats 4000000 in
set_option maxRecDepth 100000 in
theorem c_Jx4a65c_add_9ea2d_f (l : Launch) (z0 : Nat) (D : va_G) (t : Nat → ClassId) (s0 v0 : Nat) (m0 : Int32) (vs : List Value) (sz : Nat) : Met l yJx4a65c_add_9ea2d (ws_ yJx4a65c_add_9ea2d cJx4a65c_add_9ea2d 2 (some .boolean)) rm_Jx4a65c_add_9ea2d_f (PM z0 D t [.ref s0, .ref v0] ([(s0, .inr (0, [.int m0, .ref (t 100), .int (0 : Int32)])), (v0, .inr (2, vs))] : va_W) [s0, v0] sz) (QE (fun q : Nat => some (.int 1)) D (fun q => ([(s0, .inr (0, [.int (m0 + 1), .ref q, .int (1 : Int32)])), (v0, .inr (2, vs)), (q, .inl (t 4, (10, .inr (.inr (.inr (.inr (va_up (fun _ => none) 0 (some v0))))))))] : va_W)) [s0, v0] sz) 1 10 (OA [s0, v0] sz) := by
  refine Met.ofW (cc := cJx4a65c_add_9ea2d) (maxL := 2) (ret := (some .boolean)) (by decide) rfl ?_
  intro p e s m args below meth c s₁ Bo hml hv
  obtain ⟨rfl, hC, hsz, hP, hD, hZ⟩ := hv
  have hx := Bo.exec
  have hb := Bo.bytes
  have hr := Bo.returns
  have hts : ∀ w ∈ LA, w.before _ s = true := fun w hw => atoms_spec (ws := ws_ yJx4a65c_add_9ea2d cJx4a65c_add_9ea2d 2 (some .boolean)) Bo.pre w (List.mem_cons_of_mem _ hw)
  have hown : s.vm.findClass RJx4a65c = some m.cls := findClass_of_methodNamed Bo.named
  have hlocks := Bo.notSynchronized
  have hK := hC.1
  subst hsz
  obtain ⟨L0, hL0⟩ : ∃ L0, L0 = [s0, v0] := ⟨_, rfl⟩
  rw [← hL0] at hD hZ ⊢
  have hS : va_S (OA L0 s.heap.size) s.heap s.heap [] := va_S.rf
  suffices K9 : ∀ (H : Heap), va_P D vwCl ([(s0, .inr (0, [.int m0, .ref (t 100), .int (0 : Int32)])), (v0, .inr (2, vs))] : va_W) H → va_S (OA L0 s.heap.size) s.heap H [] → W p l e (headSpec (ws_ yJx4a65c_add_9ea2d cJx4a65c_add_9ea2d 2 (some .boolean)) rm_Jx4a65c_add_9ea2d_f).room s m ([.ref s0, .ref v0] : List Value).toArray below meth c H [] 0 0 (MQ below (QE (fun q : Nat => some (.int 1)) D (fun q => ([(s0, .inr (0, [.int (m0 + 1), .ref q, .int (1 : Int32)])), (v0, .inr (2, vs)), (q, .inl (t 4, (10, .inr (.inr (.inr (.inr (va_up (fun _ => none) 0 (some v0))))))))] : va_W)) L0 s.heap.size) ([.ref s0, .ref v0] : List Value).toArray s 1 10 (OA L0 s.heap.size)) (entryFrame m ([.ref s0, .ref v0] : List Value).toArray 2) from K9 s.heap hP hS
  intro H hP hS
  have hSz : s.heap.size ≤ H.size := hS.1
  have hl := lv_entry ([.ref s0, .ref v0]) (n := 2) (Nat.le_of_ble_eq_true rfl)
  rw [lg_entry_eq]
  generalize (lg_sl ([.ref s0, .ref v0]) ++ List.replicate (2 - (lg_sl ([.ref s0, .ref v0])).length) Slot.unset).toArray = ls at hl ⊢
  have hl : lv_has ls 2 [(0, .ref s0), (1, .ref v0)] := hl
  refine lv_aload_n hx hb dJx4a65c_add_9ea2d_0 rfl (lv_at hl 0 rfl) ?_
  refine lv_dup hx hb dJx4a65c_add_9ea2d_1 rfl ?_
  refine va_get hx hb hts inJx4a65c hown hK hP 0 rfl rfl 0 (by decide) (hts _ qw50) (fun x9 h9 => u_same (hts _ qw51) x9 h9) rfl dJx4a65c_add_9ea2d_2 ?_
  refine lv_iconst (v := (1)) hx hb dJx4a65c_add_9ea2d_5 (by decide) ?_
  refine lv_iadd hx hb dJx4a65c_add_9ea2d_6 ?_
  refine va_put (D := D) (ci := 0) (v := .int (m0 + (1 : Int32))) (ty := .int) hx hb hts inJx4a65c tyJx4a65c tyJx4a65c_ok nmJx4a65c hown hK hP hD hS 0 rfl rfl 0 (by decide) (hts _ qw50) (fun x9 h9 => u_same (hts _ qw51) x9 h9) rfl (by decide +kernel) rfl rfl (Nat.le_of_ble_eq_true rfl) dJx4a65c_add_9ea2d_7 (fun H locs hP hD hS => ?_)
  have hP : va_P D vwCl ([(s0, .inr (0, [.int (m0 + (1 : Int32)), .ref (t 100), .int (0 : Int32)])), (v0, .inr (2, vs))] : va_W) H := hP
  have hD : va_D (OA L0 s.heap.size) ([(s0, .inr (0, [.int (m0 + (1 : Int32)), .ref (t 100), .int (0 : Int32)])), (v0, .inr (2, vs))] : va_W) := hD
  have hSz : s.heap.size ≤ H.size := hS.1
  refine lv_aload_n hx hb dJx4a65c_add_9ea2d_10 rfl (lv_at hl 0 rfl) ?_
  refine lv_aload_n hx hb dJx4a65c_add_9ea2d_11 rfl (lv_at hl 1 rfl) ?_
  refine lv_aload_n hx hb dJx4a65c_add_9ea2d_12 rfl (lv_at hl 0 rfl) ?_
  refine va_get hx hb hts inJx4a65c hown hK hP 0 rfl rfl 1 (by decide) (hts _ qw47) (fun _ h9 => h9) rfl dJx4a65c_add_9ea2d_13 ?_
  refine lv_aload_n hx hb dJx4a65c_add_9ea2d_16 rfl (lv_at hl 0 rfl) ?_
  refine va_get hx hb hts inJx4a65c hown hK hP 0 rfl rfl 2 (by decide) (hts _ qw48) (fun _ h9 => h9) rfl dJx4a65c_add_9ea2d_17 ?_
  refine call_E (va_runV (As := [.ref v0, .ref (t 100), .int (0 : Int32)]) (rest := []) ⟨hx, hb, hml, hown, hts⟩ (c_Jx4a65c_add_72be8_f l z0 D t s0 v0 (m0 + 1) vs H.size) (kV hts qw493 qw495 qs17 qw4 qw496 ok_Jx4a65c_add_72be8 ⟨Nat.le_of_ble_eq_true rfl, Nat.le_of_ble_eq_true rfl⟩) ⟨PM.blind, va_recv hK (hP.sub (ws' := [(s0, .inr (0, [.int (m0 + (1 : Int32)), .ref (t 100), .int (0 : Int32)])), (v0, .inr (2, vs))]) [0, 1] rfl) (ci := 0) (q0 := 0) rfl rfl, fun U hU hW => ⟨rfl, by rw [hU]; exact (hC.at hS hZ).warm hW, by rw [hU], by rw [hU]; exact (hP.sub (ws' := [(s0, .inr (0, [.int (m0 + (1 : Int32)), .ref (t 100), .int (0 : Int32)])), (v0, .inr (2, vs))]) [0, 1] rfl), ⟨(hD.sub (ws' := [(s0, .inr (0, [.int (m0 + (1 : Int32)), .ref (t 100), .int (0 : Int32)])), (v0, .inr (2, vs))]) [0, 1] (by decide) rfl).1, fun _ _ h9 => Or.inl (in_map (L := [s0, v0]) rfl h9)⟩, fun q hq => hZ q (OA.ofD (hD.sub (ws' := [(s0, .inr (0, [.int (m0 + (1 : Int32)), .ref (t 100), .int (0 : Int32)])), (v0, .inr (2, vs))]) [0, 1] (by decide) rfl) rfl hSz q hq)⟩⟩ rfl rfl hl.1 rfl (lv_room (Nat.le_of_ble_eq_true rfl)) dJx4a65c_add_9ea2d_20 ⟨Nat.le_of_ble_eq_true rfl, Nat.le_of_ble_eq_true rfl⟩) hS (OA.ofD (hD.sub (ws' := [(s0, .inr (0, [.int (m0 + (1 : Int32)), .ref (t 100), .int (0 : Int32)])), (v0, .inr (2, vs))]) [0, 1] (by decide) rfl) rfl hSz) (fun b9 H locs hP1 hD1 hS _ hk1 => ?_)
  obtain ⟨q, rfl⟩ : ∃ z, z = b9 := ⟨_, rfl⟩
  obtain ⟨hP, hD⟩ := va_back (wr := []) (w1 := ([(s0, .inr (0, [.int (m0 + 1), .ref q, .int (1 : Int32)])), (v0, .inr (2, vs)), (q, .inl (t 4, (10, .inr (.inr (.inr (.inr (va_up (fun _ => none) 0 (some v0))))))))] : va_W)) (ws' := ([(s0, .inr (0, [.int (m0 + 1), .ref q, .int (1 : Int32)])), (v0, .inr (2, vs)), (q, .inl (t 4, (10, .inr (.inr (.inr (.inr (va_up (fun _ => none) 0 (some v0))))))))] : va_W)) hP hD [0, 1] [] rfl rfl (by decide) (by decide) hk1 (OA.ofD (hD.sub (ws' := [(s0, .inr (0, [.int (m0 + (1 : Int32)), .ref (t 100), .int (0 : Int32)])), (v0, .inr (2, vs))]) [0, 1] (by decide) rfl) rfl hSz) hP1 hD1 [0, 1, 2] rfl (by decide)
  have hP : va_P D vwCl ([(s0, .inr (0, [.int (m0 + 1), .ref q, .int (1 : Int32)])), (v0, .inr (2, vs)), (q, .inl (t 4, (10, .inr (.inr (.inr (.inr (va_up (fun _ => none) 0 (some v0))))))))] : va_W) H := hP
  have hD : va_D (OA L0 s.heap.size) ([(s0, .inr (0, [.int (m0 + 1), .ref q, .int (1 : Int32)])), (v0, .inr (2, vs)), (q, .inl (t 4, (10, .inr (.inr (.inr (.inr (va_up (fun _ => none) 0 (some v0))))))))] : va_W) := hD
  have hSz : s.heap.size ≤ H.size := hS.1
  refine W.widen (k := 1) (n := 10) (by omega) (by omega) ?_
  refine lv_iconst (v := (1)) hx hb dJx4a65c_add_9ea2d_23 (by decide) ?_
  exact W.zret hx hb hr rfl (fun t9 ht hW => ⟨q, rfl, by rw [ht]; exact hP, hD, hS.F ht⟩) hS.2.2 dJx4a65c_add_9ea2d_24

abbrev rm_Jx4a65c_add_9ea2d_n : Room := { frames := 5, cells := 0, slots := 0, locals := 200 }
set_option maxHeartbeats 4000000 in
set_option maxRecDepth 100000 in
theorem c_Jx4a65c_add_9ea2d_n (l : Launch) (z0 : Nat) (D : va_G) (t : Nat → ClassId) (s0 e0 v0 : Nat) (m0 : Int32) (n : Nat) (f : Nat → Option Nat) (vs : List Value) (sz : Nat) (hn : n < 10) : Met l yJx4a65c_add_9ea2d (ws_ yJx4a65c_add_9ea2d cJx4a65c_add_9ea2d 2 (some .boolean)) rm_Jx4a65c_add_9ea2d_n (PM z0 D t [.ref s0, .ref v0] ([(s0, .inr (0, [.int m0, .ref e0, .int (nI n)])), (v0, .inr (2, vs)), (e0, .inl (t 4, (10, .inr (.inr (.inr (.inr f))))))] : va_W) [s0, v0, e0] sz) (QE (fun _ : Unit => some (.int 1)) D (fun _ => ([(s0, .inr (0, [.int (m0 + 1), .ref e0, .int (nI (n + 1))])), (v0, .inr (2, vs)), (e0, .inl (t 4, (10, .inr (.inr (.inr (.inr (va_up f n (some v0))))))))] : va_W)) [s0, v0, e0] sz) 0 0 (OA [s0, v0, e0] sz) := by
  refine Met.ofW (cc := cJx4a65c_add_9ea2d) (maxL := 2) (ret := (some .boolean)) (by decide) rfl ?_
  intro p e s m args below meth c s₁ Bo hml hv
  obtain ⟨rfl, hC, hsz, hP, hD, hZ⟩ := hv
  have hx := Bo.exec
  have hb := Bo.bytes
  have hr := Bo.returns
  have hts : ∀ w ∈ LA, w.before _ s = true := fun w hw => atoms_spec (ws := ws_ yJx4a65c_add_9ea2d cJx4a65c_add_9ea2d 2 (some .boolean)) Bo.pre w (List.mem_cons_of_mem _ hw)
  have hown : s.vm.findClass RJx4a65c = some m.cls := findClass_of_methodNamed Bo.named
  have hlocks := Bo.notSynchronized
  have hK := hC.1
  subst hsz
  obtain ⟨L0, hL0⟩ : ∃ L0, L0 = [s0, v0, e0] := ⟨_, rfl⟩
  rw [← hL0] at hD hZ ⊢
  have hS : va_S (OA L0 s.heap.size) s.heap s.heap [] := va_S.rf
  suffices K9 : ∀ (H : Heap), va_P D vwCl ([(s0, .inr (0, [.int m0, .ref e0, .int (nI n)])), (v0, .inr (2, vs)), (e0, .inl (t 4, (10, .inr (.inr (.inr (.inr f))))))] : va_W) H → va_S (OA L0 s.heap.size) s.heap H [] → W p l e (headSpec (ws_ yJx4a65c_add_9ea2d cJx4a65c_add_9ea2d 2 (some .boolean)) rm_Jx4a65c_add_9ea2d_n).room s m ([.ref s0, .ref v0] : List Value).toArray below meth c H [] 0 0 (MQ below (QE (fun _ : Unit => some (.int 1)) D (fun _ => ([(s0, .inr (0, [.int (m0 + 1), .ref e0, .int (nI (n + 1))])), (v0, .inr (2, vs)), (e0, .inl (t 4, (10, .inr (.inr (.inr (.inr (va_up f n (some v0))))))))] : va_W)) L0 s.heap.size) ([.ref s0, .ref v0] : List Value).toArray s 0 0 (OA L0 s.heap.size)) (entryFrame m ([.ref s0, .ref v0] : List Value).toArray 2) from K9 s.heap hP hS
  intro H hP hS
  have hSz : s.heap.size ≤ H.size := hS.1
  have hl := lv_entry ([.ref s0, .ref v0]) (n := 2) (Nat.le_of_ble_eq_true rfl)
  rw [lg_entry_eq]
  generalize (lg_sl ([.ref s0, .ref v0]) ++ List.replicate (2 - (lg_sl ([.ref s0, .ref v0])).length) Slot.unset).toArray = ls at hl ⊢
  have hl : lv_has ls 2 [(0, .ref s0), (1, .ref v0)] := hl
  refine lv_aload_n hx hb dJx4a65c_add_9ea2d_0 rfl (lv_at hl 0 rfl) ?_
  refine lv_dup hx hb dJx4a65c_add_9ea2d_1 rfl ?_
  refine va_get hx hb hts inJx4a65c hown hK hP 0 rfl rfl 0 (by decide) (hts _ qw50) (fun x9 h9 => u_same (hts _ qw51) x9 h9) rfl dJx4a65c_add_9ea2d_2 ?_
  refine lv_iconst (v := (1)) hx hb dJx4a65c_add_9ea2d_5 (by decide) ?_
  refine lv_iadd hx hb dJx4a65c_add_9ea2d_6 ?_
  refine va_put (D := D) (ci := 0) (v := .int (m0 + (1 : Int32))) (ty := .int) hx hb hts inJx4a65c tyJx4a65c tyJx4a65c_ok nmJx4a65c hown hK hP hD hS 0 rfl rfl 0 (by decide) (hts _ qw50) (fun x9 h9 => u_same (hts _ qw51) x9 h9) rfl (by decide +kernel) rfl rfl (Nat.le_of_ble_eq_true rfl) dJx4a65c_add_9ea2d_7 (fun H locs hP hD hS => ?_)
  have hP : va_P D vwCl ([(s0, .inr (0, [.int (m0 + (1 : Int32)), .ref e0, .int (nI n)])), (v0, .inr (2, vs)), (e0, .inl (t 4, (10, .inr (.inr (.inr (.inr f))))))] : va_W) H := hP
  have hD : va_D (OA L0 s.heap.size) ([(s0, .inr (0, [.int (m0 + (1 : Int32)), .ref e0, .int (nI n)])), (v0, .inr (2, vs)), (e0, .inl (t 4, (10, .inr (.inr (.inr (.inr f))))))] : va_W) := hD
  have hSz : s.heap.size ≤ H.size := hS.1
  refine lv_aload_n hx hb dJx4a65c_add_9ea2d_10 rfl (lv_at hl 0 rfl) ?_
  refine lv_aload_n hx hb dJx4a65c_add_9ea2d_11 rfl (lv_at hl 1 rfl) ?_
  refine lv_aload_n hx hb dJx4a65c_add_9ea2d_12 rfl (lv_at hl 0 rfl) ?_
  refine va_get hx hb hts inJx4a65c hown hK hP 0 rfl rfl 1 (by decide) (hts _ qw47) (fun _ h9 => h9) rfl dJx4a65c_add_9ea2d_13 ?_
  refine lv_aload_n hx hb dJx4a65c_add_9ea2d_16 rfl (lv_at hl 0 rfl) ?_
  refine va_get hx hb hts inJx4a65c hown hK hP 0 rfl rfl 2 (by decide) (hts _ qw48) (fun _ h9 => h9) rfl dJx4a65c_add_9ea2d_17 ?_
  refine call_E (va_runV (As := [.ref v0, .ref e0, .int (nI n)]) (rest := []) ⟨hx, hb, hml, hown, hts⟩ (c_Jx4a65c_add_72be8_n l z0 D t s0 e0 v0 (m0 + 1) n f vs H.size hn) (kV hts qw493 qw495 qs17 qw4 qw496 ok_Jx4a65c_add_72be8 ⟨Nat.le_of_ble_eq_true rfl, Nat.le_of_ble_eq_true rfl⟩) ⟨PM.blind, va_recv hK (hP.sub (ws' := [(s0, .inr (0, [.int (m0 + (1 : Int32)), .ref e0, .int (nI n)])), (v0, .inr (2, vs)), (e0, .inl (t 4, (10, .inr (.inr (.inr (.inr f))))))]) [0, 1, 2] rfl) (ci := 0) (q0 := 0) rfl rfl, fun U hU hW => ⟨rfl, by rw [hU]; exact (hC.at hS hZ).warm hW, by rw [hU], by rw [hU]; exact (hP.sub (ws' := [(s0, .inr (0, [.int (m0 + (1 : Int32)), .ref e0, .int (nI n)])), (v0, .inr (2, vs)), (e0, .inl (t 4, (10, .inr (.inr (.inr (.inr f))))))]) [0, 1, 2] rfl), ⟨(hD.sub (ws' := [(s0, .inr (0, [.int (m0 + (1 : Int32)), .ref e0, .int (nI n)])), (v0, .inr (2, vs)), (e0, .inl (t 4, (10, .inr (.inr (.inr (.inr f))))))]) [0, 1, 2] (by decide) rfl).1, fun _ _ h9 => Or.inl (in_map (L := [s0, v0, e0]) rfl h9)⟩, fun q hq => hZ q (OA.ofD (hD.sub (ws' := [(s0, .inr (0, [.int (m0 + (1 : Int32)), .ref e0, .int (nI n)])), (v0, .inr (2, vs)), (e0, .inl (t 4, (10, .inr (.inr (.inr (.inr f))))))]) [0, 1, 2] (by decide) rfl) rfl hSz q hq)⟩⟩ rfl rfl hl.1 rfl (lv_room (Nat.le_of_ble_eq_true rfl)) dJx4a65c_add_9ea2d_20 ⟨Nat.le_of_ble_eq_true rfl, Nat.le_of_ble_eq_true rfl⟩) hS (OA.ofD (hD.sub (ws' := [(s0, .inr (0, [.int (m0 + (1 : Int32)), .ref e0, .int (nI n)])), (v0, .inr (2, vs)), (e0, .inl (t 4, (10, .inr (.inr (.inr (.inr f))))))]) [0, 1, 2] (by decide) rfl) rfl hSz) (fun b9 H locs hP1 hD1 hS _ hk1 => ?_)
  obtain ⟨hP, hD⟩ := va_back (wr := []) (w1 := ([(s0, .inr (0, [.int (m0 + 1), .ref e0, .int (nI (n + 1))])), (v0, .inr (2, vs)), (e0, .inl (t 4, (10, .inr (.inr (.inr (.inr (va_up f n (some v0))))))))] : va_W)) (ws' := ([(s0, .inr (0, [.int (m0 + 1), .ref e0, .int (nI (n + 1))])), (v0, .inr (2, vs)), (e0, .inl (t 4, (10, .inr (.inr (.inr (.inr (va_up f n (some v0))))))))] : va_W)) hP hD [0, 1, 2] [] rfl rfl (by decide) (by decide) hk1 (OA.ofD (hD.sub (ws' := [(s0, .inr (0, [.int (m0 + (1 : Int32)), .ref e0, .int (nI n)])), (v0, .inr (2, vs)), (e0, .inl (t 4, (10, .inr (.inr (.inr (.inr f))))))]) [0, 1, 2] (by decide) rfl) rfl hSz) hP1 hD1 [0, 1, 2] rfl (by decide)
  have hP : va_P D vwCl ([(s0, .inr (0, [.int (m0 + 1), .ref e0, .int (nI (n + 1))])), (v0, .inr (2, vs)), (e0, .inl (t 4, (10, .inr (.inr (.inr (.inr (va_up f n (some v0))))))))] : va_W) H := hP
  have hD : va_D (OA L0 s.heap.size) ([(s0, .inr (0, [.int (m0 + 1), .ref e0, .int (nI (n + 1))])), (v0, .inr (2, vs)), (e0, .inl (t 4, (10, .inr (.inr (.inr (.inr (va_up f n (some v0))))))))] : va_W) := hD
  have hSz : s.heap.size ≤ H.size := hS.1
  refine W.widen (k := 0) (n := 0) (by omega) (by omega) ?_
  refine lv_iconst (v := (1)) hx hb dJx4a65c_add_9ea2d_23 (by decide) ?_
  exact W.zret hx hb hr rfl (fun t9 ht hW => ⟨(), rfl, by rw [ht]; exact hP, hD, hS.F ht⟩) hS.2.2 dJx4a65c_add_9ea2d_24

abbrev rm_Jx4a65c_remove_915e3_l : Room := { frames := 4, cells := 0, slots := 0, locals := 140 }
theorem ok_Jx4a65c_remove_915e3 : okY yJx4a65c_remove_915e3 1 := ⟨by decide +kernel, by decide +kernel, by decide +kernel⟩
set_option maxHeartbeats 4000000 in
set_option maxRecDepth 100000 in
theorem c_Jx4a65c_remove_915e3_l (l : Launch) (z0 : Nat) (D : va_G) (t : Nat → ClassId) (s0 e0 y : Nat) (m0 : Int32) (n : Nat) (f : Nat → Option Nat) (sz : Nat) (hn : n < 10) (hy : f n = some y) : Met l yJx4a65c_remove_915e3 (ws_ yJx4a65c_remove_915e3 cJx4a65c_remove_915e3 4 (some (.object "java/lang/Object"))) rm_Jx4a65c_remove_915e3_l (PM z0 D t [.ref s0, .int (nI n)] ([(s0, .inr (0, [.int m0, .ref e0, .int (nI (n + 1))])), (e0, .inl (t 4, (10, .inr (.inr (.inr (.inr f))))))] : va_W) [s0, e0] sz) (QE (fun _ : Unit => some (.ref y)) D (fun _ => ([(s0, .inr (0, [.int (m0 + 1), .ref e0, .int (nI n)])), (e0, .inl (t 4, (10, .inr (.inr (.inr (.inr (va_up f n none)))))))] : va_W)) [s0, e0] sz) 0 0 (OA [s0, e0] sz) := by
  refine Met.ofW (cc := cJx4a65c_remove_915e3) (maxL := 4) (ret := (some (.object "java/lang/Object"))) (by decide) rfl ?_
  intro p e s m args below meth c s₁ Bo hml hv
  obtain ⟨rfl, hC, hsz, hP, hD, hZ⟩ := hv
  have hx := Bo.exec
  have hb := Bo.bytes
  have hr := Bo.returns
  have hts : ∀ w ∈ LA, w.before _ s = true := fun w hw => atoms_spec (ws := ws_ yJx4a65c_remove_915e3 cJx4a65c_remove_915e3 4 (some (.object "java/lang/Object"))) Bo.pre w (List.mem_cons_of_mem _ hw)
  have hown : s.vm.findClass RJx4a65c = some m.cls := findClass_of_methodNamed Bo.named
  have hlocks := Bo.notSynchronized
  have hK := hC.1
  subst hsz
  obtain ⟨L0, hL0⟩ : ∃ L0, L0 = [s0, e0] := ⟨_, rfl⟩
  rw [← hL0] at hD hZ ⊢
  have hS : va_S (OA L0 s.heap.size) s.heap s.heap [] := va_S.rf
  suffices K9 : ∀ (H : Heap), va_P D vwCl ([(s0, .inr (0, [.int m0, .ref e0, .int (nI (n + 1))])), (e0, .inl (t 4, (10, .inr (.inr (.inr (.inr f))))))] : va_W) H → va_S (OA L0 s.heap.size) s.heap H [] → W p l e (headSpec (ws_ yJx4a65c_remove_915e3 cJx4a65c_remove_915e3 4 (some (.object "java/lang/Object"))) rm_Jx4a65c_remove_915e3_l).room s m ([.ref s0, .int (nI n)] : List Value).toArray below meth c H [] 0 0 (MQ below (QE (fun _ : Unit => some (.ref y)) D (fun _ => ([(s0, .inr (0, [.int (m0 + 1), .ref e0, .int (nI n)])), (e0, .inl (t 4, (10, .inr (.inr (.inr (.inr (va_up f n none)))))))] : va_W)) L0 s.heap.size) ([.ref s0, .int (nI n)] : List Value).toArray s 0 0 (OA L0 s.heap.size)) (entryFrame m ([.ref s0, .int (nI n)] : List Value).toArray 4) from K9 s.heap hP hS
  intro H hP hS
  have hSz : s.heap.size ≤ H.size := hS.1
  have hl := lv_entry ([.ref s0, .int (nI n)]) (n := 4) (Nat.le_of_ble_eq_true rfl)
  rw [lg_entry_eq]
  generalize (lg_sl ([.ref s0, .int (nI n)]) ++ List.replicate (4 - (lg_sl ([.ref s0, .int (nI n)])).length) Slot.unset).toArray = ls at hl ⊢
  have hl : lv_has ls 4 [(0, .ref s0), (1, .int (nI n))] := hl
  refine lv_iload_n hx hb dJx4a65c_remove_915e3_0 rfl (lv_at hl 1 rfl) ?_
  refine lv_aload_n hx hb dJx4a65c_remove_915e3_1 rfl (lv_at hl 0 rfl) ?_
  refine va_get hx hb hts inJx4a65c hown hK hP 0 rfl rfl 2 (by decide) (hts _ qw48) (fun _ h9 => h9) rfl dJx4a65c_remove_915e3_2 ?_
  refine call_R (va_runS (As := [.int (nI n), .int (nI (n + 1))]) (rest := []) ⟨hx, hb, hml, hown, hts⟩ (c_J15_checkIndex_7cf53 l z0 D t (nI n) (nI (n + 1)) _ (ck_ok (nI_pos (by omega)) (nI_lt (by omega) (by omega)))) (kS hts qw469 qw470 qw13 qw471 ok_J15_checkIndex_7cf53 ⟨Nat.le_of_ble_eq_true rfl, Nat.le_of_ble_eq_true rfl⟩) ⟨PR.blind, fun U hU hW => ⟨rfl, by rw [hU]; exact (hC.at hS hZ).warm hW, by rw [hU]; exact va_P_nil⟩⟩ rfl rfl hl.1 rfl (lv_room (Nat.le_of_ble_eq_true rfl)) dJx4a65c_remove_915e3_5 ⟨Nat.le_of_ble_eq_true rfl, Nat.le_of_ble_eq_true rfl⟩) ?_
  refine lv_pop hx hb dJx4a65c_remove_915e3_8 rfl ?_
  refine lv_aload_n hx hb dJx4a65c_remove_915e3_9 rfl (lv_at hl 0 rfl) ?_
  refine va_get hx hb hts inJx4a65c hown hK hP 0 rfl rfl 1 (by decide) (hts _ qw47) (fun _ h9 => h9) rfl dJx4a65c_remove_915e3_10 ?_
  refine lv_astore_n (lv' := [(2, .ref e0), (0, .ref s0), (1, .int (nI n))]) hx hb dJx4a65c_remove_915e3_13 rfl hl (by decide) rfl (fun ls hl => ?_)
  refine lv_aload_n hx hb dJx4a65c_remove_915e3_14 rfl (lv_at hl 0 rfl) ?_
  refine lv_iload_n hx hb dJx4a65c_remove_915e3_15 rfl (lv_at hl 2 rfl) ?_
  refine va_aldq hx hb hK hP 1 4 rfl rfl (vp_in_nI hn (by decide)) dJx4a65c_remove_915e3_16 ?_
  refine topQ (x := some y) (by rw [nI_clamp (by omega)]; exact hy.symm) ?_
  refine lv_astore_n (lv' := [(3, .ref y), (2, .ref e0), (0, .ref s0), (1, .int (nI n))]) hx hb dJx4a65c_remove_915e3_17 rfl hl (by decide) rfl (fun ls hl => ?_)
  refine lv_aload_n hx hb dJx4a65c_remove_915e3_18 rfl (lv_at hl 2 rfl) ?_
  refine lv_aload_n hx hb dJx4a65c_remove_915e3_19 rfl (lv_at hl 1 rfl) ?_
  refine lv_iload_n hx hb dJx4a65c_remove_915e3_20 rfl (lv_at hl 3 rfl) ?_
  refine call_E (va_runV (As := [.ref e0, .int (nI n)]) (rest := []) ⟨hx, hb, hml, hown, hts⟩ (c_Jx4a65c_fastRemove_b59b0_l l z0 D t s0 e0 m0 n f H.size hn) (kV hts qw475 qw477 qs16 qw4 qw478 ok_Jx4a65c_fastRemove_b59b0 ⟨Nat.le_of_ble_eq_true rfl, Nat.le_of_ble_eq_true rfl⟩) ⟨PM.blind, va_recv hK (hP.sub (ws' := [(s0, .inr (0, [.int m0, .ref e0, .int (nI (n + 1))])), (e0, .inl (t 4, (10, .inr (.inr (.inr (.inr f))))))]) [0, 1] rfl) (ci := 0) (q0 := 0) rfl rfl, fun U hU hW => ⟨rfl, by rw [hU]; exact (hC.at hS hZ).warm hW, by rw [hU], by rw [hU]; exact (hP.sub (ws' := [(s0, .inr (0, [.int m0, .ref e0, .int (nI (n + 1))])), (e0, .inl (t 4, (10, .inr (.inr (.inr (.inr f))))))]) [0, 1] rfl), ⟨(hD.sub (ws' := [(s0, .inr (0, [.int m0, .ref e0, .int (nI (n + 1))])), (e0, .inl (t 4, (10, .inr (.inr (.inr (.inr f))))))]) [0, 1] (by decide) rfl).1, fun _ _ h9 => Or.inl (in_map (L := [s0, e0]) rfl h9)⟩, fun q hq => hZ q (OA.ofD (hD.sub (ws' := [(s0, .inr (0, [.int m0, .ref e0, .int (nI (n + 1))])), (e0, .inl (t 4, (10, .inr (.inr (.inr (.inr f))))))]) [0, 1] (by decide) rfl) rfl hSz q hq)⟩⟩ rfl rfl hl.1 rfl (lv_room (Nat.le_of_ble_eq_true rfl)) dJx4a65c_remove_915e3_21 ⟨Nat.le_of_ble_eq_true rfl, Nat.le_of_ble_eq_true rfl⟩) hS (OA.ofD (hD.sub (ws' := [(s0, .inr (0, [.int m0, .ref e0, .int (nI (n + 1))])), (e0, .inl (t 4, (10, .inr (.inr (.inr (.inr f))))))]) [0, 1] (by decide) rfl) rfl hSz) (fun b9 H locs hP1 hD1 hS _ hk1 => ?_)
  obtain ⟨hP, hD⟩ := va_back (wr := []) (w1 := ([(s0, .inr (0, [.int (m0 + 1), .ref e0, .int (nI n)])), (e0, .inl (t 4, (10, .inr (.inr (.inr (.inr (va_up f n none)))))))] : va_W)) (ws' := ([(s0, .inr (0, [.int (m0 + 1), .ref e0, .int (nI n)])), (e0, .inl (t 4, (10, .inr (.inr (.inr (.inr (va_up f n none)))))))] : va_W)) hP hD [0, 1] [] rfl rfl (by decide) (by decide) hk1 (OA.ofD (hD.sub (ws' := [(s0, .inr (0, [.int m0, .ref e0, .int (nI (n + 1))])), (e0, .inl (t 4, (10, .inr (.inr (.inr (.inr f))))))]) [0, 1] (by decide) rfl) rfl hSz) hP1 hD1 [0, 1] rfl (by decide)
  have hP : va_P D vwCl ([(s0, .inr (0, [.int (m0 + 1), .ref e0, .int (nI n)])), (e0, .inl (t 4, (10, .inr (.inr (.inr (.inr (va_up f n none)))))))] : va_W) H := hP
  have hD : va_D (OA L0 s.heap.size) ([(s0, .inr (0, [.int (m0 + 1), .ref e0, .int (nI n)])), (e0, .inl (t 4, (10, .inr (.inr (.inr (.inr (va_up f n none)))))))] : va_W) := hD
  have hSz : s.heap.size ≤ H.size := hS.1
  refine W.widen (k := 0) (n := 0) (by omega) (by omega) ?_
  refine lv_aload_n hx hb dJx4a65c_remove_915e3_24 rfl (lv_at hl 0 rfl) ?_
  exact W.aret hx hb hr (Or.inl ⟨_, rfl⟩) (Or.inr ⟨_, rfl⟩) (fun t9 ht hW => ⟨(), rfl, by rw [ht]; exact hP, hD, hS.F ht⟩) hS.2.2 dJx4a65c_remove_915e3_25

abbrev rm_Jx4a65c_remove_915e3_z : Room := { frames := 4, cells := 0, slots := 0, locals := 140 }
set_option maxHeartbeats 4000000 in
set_option maxRecDepth 100000 in
theorem c_Jx4a65c_remove_915e3_z (l : Launch) (z0 : Nat) (D : va_G) (t : Nat → ClassId) (s0 e0 y : Nat) (m0 : Int32) (f : Nat → Option Nat) (K : va_W) (sz : Nat) (hy : f 0 = some y) (hK9 : ∀ j : Nat, j < 5 → ∀ y : Nat, f (1 + j) = some y → ∃ (k : Nat) (vs : List Value), K[k]? = some (y, .inr (2, vs))) : Met l yJx4a65c_remove_915e3 (ws_ yJx4a65c_remove_915e3 cJx4a65c_remove_915e3 4 (some (.object "java/lang/Object"))) rm_Jx4a65c_remove_915e3_z (PM z0 D t [.ref s0, .int (0)] ([(s0, .inr (0, [.int m0, .ref e0, .int 6])), (e0, .inl (t 4, (10, .inr (.inr (.inr (.inr f))))))] ++ K : va_W) (s0 :: e0 :: K.map Prod.fst) sz) (QE (fun _ : Unit => some (.ref y)) D (fun _ => ([(s0, .inr (0, [.int (m0 + 1), .ref e0, .int 5])), (e0, .inl (t 4, (10, .inr (.inr (.inr (.inr (va_up (va_cpy f f 1 0 5) 5 none)))))))] ++ K : va_W)) (s0 :: e0 :: K.map Prod.fst) sz) 0 0 (OA (s0 :: e0 :: K.map Prod.fst) sz) := by
  refine Met.ofW (cc := cJx4a65c_remove_915e3) (maxL := 4) (ret := (some (.object "java/lang/Object"))) (by decide) rfl ?_
  intro p e s m args below meth c s₁ Bo hml hv
  obtain ⟨rfl, hC, hsz, hP, hD, hZ⟩ := hv
  have hx := Bo.exec
  have hb := Bo.bytes
  have hr := Bo.returns
  have hts : ∀ w ∈ LA, w.before _ s = true := fun w hw => atoms_spec (ws := ws_ yJx4a65c_remove_915e3 cJx4a65c_remove_915e3 4 (some (.object "java/lang/Object"))) Bo.pre w (List.mem_cons_of_mem _ hw)
  have hown : s.vm.findClass RJx4a65c = some m.cls := findClass_of_methodNamed Bo.named
  have hlocks := Bo.notSynchronized
  have hK := hC.1
  subst hsz
  obtain ⟨L0, hL0⟩ : ∃ L0, L0 = (s0 :: e0 :: K.map Prod.fst) := ⟨_, rfl⟩
  rw [← hL0] at hD hZ ⊢
  have hS : va_S (OA L0 s.heap.size) s.heap s.heap [] := va_S.rf
  suffices K9 : ∀ (H : Heap), va_P D vwCl ([(s0, .inr (0, [.int m0, .ref e0, .int 6])), (e0, .inl (t 4, (10, .inr (.inr (.inr (.inr f))))))] ++ K : va_W) H → va_S (OA L0 s.heap.size) s.heap H [] → W p l e (headSpec (ws_ yJx4a65c_remove_915e3 cJx4a65c_remove_915e3 4 (some (.object "java/lang/Object"))) rm_Jx4a65c_remove_915e3_z).room s m ([.ref s0, .int (0)] : List Value).toArray below meth c H [] 0 0 (MQ below (QE (fun _ : Unit => some (.ref y)) D (fun _ => ([(s0, .inr (0, [.int (m0 + 1), .ref e0, .int 5])), (e0, .inl (t 4, (10, .inr (.inr (.inr (.inr (va_up (va_cpy f f 1 0 5) 5 none)))))))] ++ K : va_W)) L0 s.heap.size) ([.ref s0, .int (0)] : List Value).toArray s 0 0 (OA L0 s.heap.size)) (entryFrame m ([.ref s0, .int (0)] : List Value).toArray 4) from K9 s.heap hP hS
  intro H hP hS
  have hSz : s.heap.size ≤ H.size := hS.1
  have hl := lv_entry ([.ref s0, .int (0)]) (n := 4) (Nat.le_of_ble_eq_true rfl)
  rw [lg_entry_eq]
  generalize (lg_sl ([.ref s0, .int (0)]) ++ List.replicate (4 - (lg_sl ([.ref s0, .int (0)])).length) Slot.unset).toArray = ls at hl ⊢
  have hl : lv_has ls 4 [(0, .ref s0), (1, .int (0))] := hl
  refine lv_iload_n hx hb dJx4a65c_remove_915e3_0 rfl (lv_at hl 1 rfl) ?_
  refine lv_aload_n hx hb dJx4a65c_remove_915e3_1 rfl (lv_at hl 0 rfl) ?_
  refine va_get hx hb hts inJx4a65c hown hK hP 0 rfl rfl 2 (by decide) (hts _ qw48) (fun _ h9 => h9) rfl dJx4a65c_remove_915e3_2 ?_
  refine call_R (va_runS (As := [.int 0, .int 6]) (rest := []) ⟨hx, hb, hml, hown, hts⟩ (c_J15_checkIndex_7cf53 l z0 D t 0 6 _ (ck_ok (by decide) (by decide))) (kS hts qw469 qw470 qw13 qw471 ok_J15_checkIndex_7cf53 ⟨Nat.le_of_ble_eq_true rfl, Nat.le_of_ble_eq_true rfl⟩) ⟨PR.blind, fun U hU hW => ⟨rfl, by rw [hU]; exact (hC.at hS hZ).warm hW, by rw [hU]; exact va_P_nil⟩⟩ rfl rfl hl.1 rfl (lv_room (Nat.le_of_ble_eq_true rfl)) dJx4a65c_remove_915e3_5 ⟨Nat.le_of_ble_eq_true rfl, Nat.le_of_ble_eq_true rfl⟩) ?_
  refine lv_pop hx hb dJx4a65c_remove_915e3_8 rfl ?_
  refine lv_aload_n hx hb dJx4a65c_remove_915e3_9 rfl (lv_at hl 0 rfl) ?_
  refine va_get hx hb hts inJx4a65c hown hK hP 0 rfl rfl 1 (by decide) (hts _ qw47) (fun _ h9 => h9) rfl dJx4a65c_remove_915e3_10 ?_
  refine lv_astore_n (lv' := [(2, .ref e0), (0, .ref s0), (1, .int 0)]) hx hb dJx4a65c_remove_915e3_13 rfl hl (by decide) rfl (fun ls hl => ?_)
  refine lv_aload_n hx hb dJx4a65c_remove_915e3_14 rfl (lv_at hl 0 rfl) ?_
  refine lv_iload_n hx hb dJx4a65c_remove_915e3_15 rfl (lv_at hl 2 rfl) ?_
  refine va_aldq hx hb hK hP 1 4 rfl rfl (by unfold vp_in; decide) dJx4a65c_remove_915e3_16 ?_
  refine topQ (x := some y) hy.symm ?_
  refine lv_astore_n (lv' := [(3, .ref y), (2, .ref e0), (0, .ref s0), (1, .int 0)]) hx hb dJx4a65c_remove_915e3_17 rfl hl (by decide) rfl (fun ls hl => ?_)
  refine lv_aload_n hx hb dJx4a65c_remove_915e3_18 rfl (lv_at hl 2 rfl) ?_
  refine lv_aload_n hx hb dJx4a65c_remove_915e3_19 rfl (lv_at hl 1 rfl) ?_
  refine lv_iload_n hx hb dJx4a65c_remove_915e3_20 rfl (lv_at hl 3 rfl) ?_
  refine call_E (va_runV (As := [.ref e0, .int 0]) (rest := []) ⟨hx, hb, hml, hown, hts⟩ (c_Jx4a65c_fastRemove_b59b0_z l z0 D t s0 e0 m0 f H.size K hK9) (kV hts qw475 qw477 qs16 qw4 qw478 ok_Jx4a65c_fastRemove_b59b0 ⟨Nat.le_of_ble_eq_true rfl, Nat.le_of_ble_eq_true rfl⟩) ⟨PM.blind, va_recv hK hP (ci := 0) (q0 := 0) rfl rfl, fun U hU hW => ⟨rfl, by rw [hU]; exact (hC.at hS hZ).warm hW, by rw [hU], by rw [hU]; exact hP, ⟨hD.1, fun _ _ h9 => Or.inl (in_map (L := (s0 :: e0 :: K.map Prod.fst)) rfl h9)⟩, fun q hq => hZ q (OA.ofD hD rfl hSz q hq)⟩⟩ rfl rfl hl.1 rfl (lv_room (Nat.le_of_ble_eq_true rfl)) dJx4a65c_remove_915e3_21 ⟨Nat.le_of_ble_eq_true rfl, Nat.le_of_ble_eq_true rfl⟩) hS (OA.ofD hD rfl hSz) (fun b9 H locs hP hD1 hS _ _ => ?_)
  have hD : va_D (OA L0 s.heap.size) ([(s0, .inr (0, [.int (m0 + 1), .ref e0, .int 5])), (e0, .inl (t 4, (10, .inr (.inr (.inr (.inr (va_up (va_cpy f f 1 0 5) 5 none)))))))] ++ K : va_W) := hD1.weaken (fun _ q _ h9 => OA.ofD hD rfl hSz q.1 h9)
  have hP : va_P D vwCl ([(s0, .inr (0, [.int (m0 + 1), .ref e0, .int 5])), (e0, .inl (t 4, (10, .inr (.inr (.inr (.inr (va_up (va_cpy f f 1 0 5) 5 none)))))))] ++ K : va_W) H := hP
  have hD : va_D (OA L0 s.heap.size) ([(s0, .inr (0, [.int (m0 + 1), .ref e0, .int 5])), (e0, .inl (t 4, (10, .inr (.inr (.inr (.inr (va_up (va_cpy f f 1 0 5) 5 none)))))))] ++ K : va_W) := hD
  have hSz : s.heap.size ≤ H.size := hS.1
  refine lv_aload_n hx hb dJx4a65c_remove_915e3_24 rfl (lv_at hl 0 rfl) ?_
  exact W.aret hx hb hr (Or.inl ⟨_, rfl⟩) (Or.inr ⟨_, rfl⟩) (fun t9 ht hW => ⟨(), rfl, by rw [ht]; exact hP, hD, hS.F ht⟩) hS.2.2 dJx4a65c_remove_915e3_25
