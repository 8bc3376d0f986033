abbrev rm_X1_putTriple : Room := { frames := 1, cells := 0, slots := 0, locals := 40 }
theorem ok_X1_putTriple : okY yX1_putTriple 3 := ⟨by decide +kernel, by decide +kernel, by decide +kernel⟩
set_option maxHeartbeats 4000000 in
set_option maxRecDepth 100000 in
theorem c_X1_putTriple (l : Launch) (z0 : Nat) (D : va_G) (t : Nat → ClassId) (G : Nat → Nat) (μ : GS) (a1 : Int32) (a2 : Int32) (a3 : Int32) (res : (Int64) × (Int32) × (Nat → Int32)) (sz : Nat) (h : f_X1_putTriple μ a1 a2 a3 = some res) : Met l yX1_putTriple (ws_ yX1_putTriple cX1_putTriple 4 none) rm_X1_putTriple (PM z0 D t [.ref (G 0), .int a1, .int a2, .int a3] (GW G t μ) (GL G) sz) (QM none D (GW G t (g_names' (g_tc' (g_paved' μ res.1) res.2.1) res.2.2)) (GL G) sz) 0 0 (OA (GL G) sz) := by
  refine Met.ofW (cc := cX1_putTriple) (maxL := 4) (ret := none) (by decide) rfl ?_
  intro p e s m args below meth c s₁ Bo hml hv
  obtain ⟨rfl, hC, hsz, hP, hD, hZ⟩ := hv
  have hx := Bo.exec
  have hb := Bo.bytes
  have hr := Bo.returns
  have hts : ∀ w ∈ LA, w.before _ s = true := fun w hw => atoms_spec (ws := ws_ yX1_putTriple cX1_putTriple 4 none) Bo.pre w (List.mem_cons_of_mem _ hw)
  have hown : s.vm.findClass RX1 = some m.cls := findClass_of_methodNamed Bo.named
  have hlocks := Bo.notSynchronized
  have hK := hC.1
  subst hsz
  have hl := lv_entry ([.ref (G 0), .int a1, .int a2, .int a3]) (n := 4) (Nat.le_of_ble_eq_true rfl)
  rw [lg_entry_eq]
  generalize (lg_sl ([.ref (G 0), .int a1, .int a2, .int a3]) ++ List.replicate (4 - (lg_sl ([.ref (G 0), .int a1, .int a2, .int a3])).length) Slot.unset).toArray = ls at hl ⊢
  have hl : lv_has ls 4 [(0, .ref (G 0)), (1, .int a1), (2, .int a2), (3, .int a3)] := hl
  suffices K9 : ∀ (H : Heap) (locs : List Loc), va_P D vwCl (GW G t μ) H → va_S (OA (GL G) s.heap.size) s.heap H locs → W p l e (headSpec (ws_ yX1_putTriple cX1_putTriple 4 none) rm_X1_putTriple).room s m ([.ref (G 0), .int a1, .int a2, .int a3] : List Value).toArray below meth c H locs 0 0 (MQ below (QM none D (GW G t (g_names' (g_tc' (g_paved' μ res.1) res.2.1) res.2.2)) (GL G) s.heap.size) ([.ref (G 0), .int a1, .int a2, .int a3] : List Value).toArray s 0 0 (OA (GL G) s.heap.size)) (F0 m 0 ls []) from K9 s.heap [] hP va_S.rf
  intro H locs hP hS
  have hSz : s.heap.size ≤ H.size := hS.1
  unfold f_X1_putTriple at h
  refine lv_aload_n hx hb dX1_putTriple_0 rfl (lv_at hl 0 rfl) ?_
  refine va_get hx hb hts inX1 hown hK hP 0 rfl rfl 5 (by decide) (hts _ qw113) (fun _ h9 => h9) rfl dX1_putTriple_1 ?_
  refine lv_aload_n hx hb dX1_putTriple_4 rfl (lv_at hl 0 rfl) ?_
  refine va_get hx hb hts inX1 hown hK hP 0 rfl rfl 8 (by decide) (hts _ qw119) (fun _ h9 => h9) rfl dX1_putTriple_5 ?_
  refine va_alen hx hb hK hP 1 0 rfl rfl (v := 21) rfl dX1_putTriple_8 ?_
  refine lv_icmp_ge (tgt := 52) hx hb dX1_putTriple_9 (by decide) (fun hc => ?_) (fun hc => ?_)
  · have h := iteT hc h
    obtain rfl := Option.some.inj h
    exact W.vret hx hb hr (fun t ht hW => ⟨rfl, by rw [ht]; exact hP, hD, hS.F ht⟩) hS.2.2 dX1_putTriple_52
  · have h := iteF hc h
    refine lv_aload_n hx hb dX1_putTriple_12 rfl (lv_at hl 0 rfl) ?_
    refine va_get hx hb hts inX1 hown hK hP 0 rfl rfl 8 (by decide) (hts _ qw119) (fun _ h9 => h9) rfl dX1_putTriple_13 ?_
    refine lv_aload_n hx hb dX1_putTriple_16 rfl (lv_at hl 0 rfl) ?_
    refine va_get hx hb hts inX1 hown hK hP 0 rfl rfl 5 (by decide) (hts _ qw113) (fun _ h9 => h9) rfl dX1_putTriple_17 ?_
    refine lv_iload_n hx hb dX1_putTriple_20 rfl (lv_at hl 1 rfl) ?_
    refine lv_iload_n hx hb dX1_putTriple_21 rfl (lv_at hl 2 rfl) ?_
    refine lv_iload_n hx hb dX1_putTriple_22 rfl (lv_at hl 3 rfl) ?_
    obtain ⟨r1, er1, h⟩ := obind h
    refine call_R (va_runSN (As := [.int a1, .int a2, .int a3]) (rest := [.int (g_tc μ), .ref (G 1)]) ⟨hx, hb, hml, hown, hts⟩ (c_X4_nameOf l z0 D t a1 a2 a3 _ er1) ⟨kN hts (hC.2.1 _ qw571) qw1 qw573 ok_X4_nameOf ⟨Nat.le_of_ble_eq_true rfl, Nat.le_of_ble_eq_true rfl⟩, hts _ qw572, trivial⟩ ⟨PR.blind, fun U hU hW => ⟨rfl, by rw [hU]; exact (hC.at hS hZ).warm hW, by rw [hU]; exact va_P_nil⟩⟩ rfl rfl hl.1 rfl (lv_room (Nat.le_of_ble_eq_true rfl)) dX1_putTriple_23 ⟨Nat.le_of_ble_eq_true rfl, Nat.le_of_ble_eq_true rfl⟩) ?_
    obtain ⟨f2, ef2, h⟩ := obind h
    refine k_iast (ws' := (GW G t (g_names' μ f2))) hx hb hK hP hD hS 1 rfl ef2 rfl dX1_putTriple_26 (fun H locs hP hD hS => ?_)
    have hSz : s.heap.size ≤ H.size := hS.1
    refine lv_aload_n hx hb dX1_putTriple_27 rfl (lv_at hl 0 rfl) ?_
    refine lv_dup hx hb dX1_putTriple_28 rfl ?_
    refine va_get hx hb hts inX1 hown hK hP 0 rfl rfl 5 (by decide) (hts _ qw113) (fun _ h9 => h9) rfl dX1_putTriple_29 ?_
    refine lv_iconst (v := (1)) hx hb dX1_putTriple_32 (by decide) ?_
    refine lv_iadd hx hb dX1_putTriple_33 ?_
    obtain ⟨x3, ex3, h⟩ := jlet_some h
    refine topI ex3 ?_
    refine va_put (D := D) (ci := 2) (v := .int x3) (ty := .int) hx hb hts inX1 tyX1 tyX1_ok nmX1 hown hK hP hD hS 0 rfl rfl 5 (by decide) (hts _ qw113) (fun _ h9 => h9) rfl (by decide +kernel) rfl rfl (Nat.le_of_ble_eq_true rfl) dX1_putTriple_34 (fun H locs hP hD hS => ?_)
    have hP : va_P D vwCl (GW G t (g_names' (g_tc' μ x3) f2)) H := hP
    have hD : va_D (OA (GL G) s.heap.size) (GW G t (g_names' (g_tc' μ x3) f2)) := hD
    have hSz : s.heap.size ≤ H.size := hS.1
    refine lv_aload_n hx hb dX1_putTriple_37 rfl (lv_at hl 0 rfl) ?_
    refine lv_dup hx hb dX1_putTriple_38 rfl ?_
    refine va_get hx hb hts inX1 hown hK hP 0 rfl rfl 4 (by decide) (hts _ qw111) (fun _ h9 => h9) rfl dX1_putTriple_39 ?_
    refine lv_iload_n hx hb dX1_putTriple_42 rfl (lv_at hl 1 rfl) ?_
    refine lv_iload_n hx hb dX1_putTriple_43 rfl (lv_at hl 2 rfl) ?_
    refine lv_iload_n hx hb dX1_putTriple_44 rfl (lv_at hl 3 rfl) ?_
    obtain ⟨r4, er4, h⟩ := obind h
    refine call_R (va_runSN (As := [.int a1, .int a2, .int a3]) (rest := [.long (g_paved μ), .ref (G 0)]) ⟨hx, hb, hml, hown, hts⟩ (c_X4_cellsOf l z0 D t a1 a2 a3 _ er4) ⟨kN hts (hC.2.1 _ qw328) qw1 qw273 ok_X4_cellsOf ⟨Nat.le_of_ble_eq_true rfl, Nat.le_of_ble_eq_true rfl⟩, hts _ qw272, trivial⟩ ⟨PR.blind, fun U hU hW => ⟨rfl, by rw [hU]; exact (hC.at hS hZ).warm hW, by rw [hU]; exact va_P_nil⟩⟩ rfl rfl hl.1 rfl (lv_room (Nat.le_of_ble_eq_true rfl)) dX1_putTriple_45 ⟨Nat.le_of_ble_eq_true rfl, Nat.le_of_ble_eq_true rfl⟩) ?_
    refine lv_lor hx hb dX1_putTriple_48 ?_
    obtain ⟨x5, ex5, h⟩ := jlet_some h
    refine topJ ex5 ?_
    refine va_put (D := D) (ci := 2) (v := .long x5) (ty := .long) hx hb hts inX1 tyX1 tyX1_ok nmX1 hown hK hP hD hS 0 rfl rfl 4 (by decide) (hts _ qw111) (fun _ h9 => h9) rfl (by decide +kernel) rfl rfl (Nat.le_of_ble_eq_true rfl) dX1_putTriple_49 (fun H locs hP hD hS => ?_)
    have hP : va_P D vwCl (GW G t (g_names' (g_tc' (g_paved' μ x5) x3) f2)) H := hP
    have hD : va_D (OA (GL G) s.heap.size) (GW G t (g_names' (g_tc' (g_paved' μ x5) x3) f2)) := hD
    have hSz : s.heap.size ≤ H.size := hS.1
    obtain rfl := Option.some.inj h
    exact W.vret hx hb hr (fun t ht hW => ⟨rfl, by rw [ht]; exact hP, hD, hS.F ht⟩) hS.2.2 dX1_putTriple_52

abbrev rm_X1_takeTriple : Room := { frames := 2, cells := 0, slots := 0, locals := 62 }
theorem ok_X1_takeTriple : okY yX1_takeTriple 1 := ⟨by decide +kernel, by decide +kernel, by decide +kernel⟩
set_option maxHeartbeats 4000000 in
set_option maxRecDepth 100000 in
theorem c_X1_takeTriple (l : Launch) (z0 : Nat) (D : va_G) (t : Nat → ClassId) (G : Nat → Nat) (μ : GS) (a1 : Int32) (res : (Int64) × (Int32) × (Nat → Int32)) (sz : Nat) (h : f_X1_takeTriple μ a1 = some res) : Met l yX1_takeTriple (ws_ yX1_takeTriple cX1_takeTriple 3 none) rm_X1_takeTriple (PM z0 D t [.ref (G 0), .int a1] (GW G t μ) (GL G) sz) (QM none D (GW G t (g_names' (g_tc' (g_paved' μ res.1) res.2.1) res.2.2)) (GL G) sz) 0 0 (OA (GL G) sz) := by
  refine Met.ofW (cc := cX1_takeTriple) (maxL := 3) (ret := none) (by decide) rfl ?_
  intro p e s m args below meth c s₁ Bo hml hv
  obtain ⟨rfl, hC, hsz, hP, hD, hZ⟩ := hv
  have hx := Bo.exec
  have hb := Bo.bytes
  have hr := Bo.returns
  have hts : ∀ w ∈ LA, w.before _ s = true := fun w hw => atoms_spec (ws := ws_ yX1_takeTriple cX1_takeTriple 3 none) Bo.pre w (List.mem_cons_of_mem _ hw)
  have hown : s.vm.findClass RX1 = some m.cls := findClass_of_methodNamed Bo.named
  have hlocks := Bo.notSynchronized
  have hK := hC.1
  subst hsz
  have hl := lv_entry ([.ref (G 0), .int a1]) (n := 3) (Nat.le_of_ble_eq_true rfl)
  rw [lg_entry_eq]
  generalize (lg_sl ([.ref (G 0), .int a1]) ++ List.replicate (3 - (lg_sl ([.ref (G 0), .int a1])).length) Slot.unset).toArray = ls at hl ⊢
  have hl : lv_has ls 3 [(0, .ref (G 0)), (1, .int a1)] := hl
  suffices K9 : ∀ (H : Heap) (locs : List Loc), va_P D vwCl (GW G t μ) H → va_S (OA (GL G) s.heap.size) s.heap H locs → W p l e (headSpec (ws_ yX1_takeTriple cX1_takeTriple 3 none) rm_X1_takeTriple).room s m ([.ref (G 0), .int a1] : List Value).toArray below meth c H locs 0 0 (MQ below (QM none D (GW G t (g_names' (g_tc' (g_paved' μ res.1) res.2.1) res.2.2)) (GL G) s.heap.size) ([.ref (G 0), .int a1] : List Value).toArray s 0 0 (OA (GL G) s.heap.size)) (F0 m 0 ls []) from K9 s.heap [] hP va_S.rf
  intro H locs hP hS
  have hSz : s.heap.size ≤ H.size := hS.1
  unfold f_X1_takeTriple at h
  refine lv_iload_n hx hb dX1_takeTriple_0 rfl (lv_at hl 1 rfl) ?_
  refine lv_if_lt (tgt := 12) hx hb dX1_takeTriple_1 (by decide) (fun hc => ?_) (fun hc => ?_)
  · have h := iteT hc h
    obtain rfl := Option.some.inj h
    exact W.vret hx hb hr (fun t ht hW => ⟨rfl, by rw [ht]; exact hP, hD, hS.F ht⟩) hS.2.2 dX1_takeTriple_12
  · have h := iteF hc h
    refine lv_iload_n hx hb dX1_takeTriple_4 rfl (lv_at hl 1 rfl) ?_
    refine lv_aload_n hx hb dX1_takeTriple_5 rfl (lv_at hl 0 rfl) ?_
    refine va_get hx hb hts inX1 hown hK hP 0 rfl rfl 5 (by decide) (hts _ qw113) (fun _ h9 => h9) rfl dX1_takeTriple_6 ?_
    refine lv_icmp_lt (tgt := 13) hx hb dX1_takeTriple_9 (by decide) (fun hc => ?_) (fun hc => ?_)
    · have h := iteT hc h
      refine lv_aload_n hx hb dX1_takeTriple_13 rfl (lv_at hl 0 rfl) ?_
      refine lv_dup hx hb dX1_takeTriple_14 rfl ?_
      refine va_get hx hb hts inX1 hown hK hP 0 rfl rfl 4 (by decide) (hts _ qw111) (fun _ h9 => h9) rfl dX1_takeTriple_15 ?_
      refine lv_aload_n hx hb dX1_takeTriple_18 rfl (lv_at hl 0 rfl) ?_
      refine lv_iload_n hx hb dX1_takeTriple_19 rfl (lv_at hl 1 rfl) ?_
      obtain ⟨r1, er1, h⟩ := obind h
      refine call_R (va_runV (As := [.int a1]) (rest := [.long (g_paved μ), .ref (G 0)]) ⟨hx, hb, hml, hown, hts⟩ (c_X1_tripleCells l z0 D t G μ a1 _ er1) (kV hts qw388 qw390 qs12 qw7 qw391 ok_X1_tripleCells ⟨Nat.le_of_ble_eq_true rfl, Nat.le_of_ble_eq_true rfl⟩) ⟨PR.blind, va_recv hK hP (ci := 2) (q0 := 0) rfl rfl, fun U hU hW => ⟨rfl, by rw [hU]; exact (hC.at hS hZ).warm hW, by rw [hU]; exact hP⟩⟩ rfl rfl hl.1 rfl (lv_room (Nat.le_of_ble_eq_true rfl)) dX1_takeTriple_20 ⟨Nat.le_of_ble_eq_true rfl, Nat.le_of_ble_eq_true rfl⟩) ?_
      refine lv_ldc2 (v := (-1)) hx hb hown (hts _ qw236) dX1_takeTriple_23 ?_
      refine lv_lxor hx hb dX1_takeTriple_26 ?_
      refine lv_land hx hb dX1_takeTriple_27 ?_
      obtain ⟨x2, ex2, h⟩ := jlet_some h
      refine topJ ex2 ?_
      refine va_put (D := D) (ci := 2) (v := .long x2) (ty := .long) hx hb hts inX1 tyX1 tyX1_ok nmX1 hown hK hP hD hS 0 rfl rfl 4 (by decide) (hts _ qw111) (fun _ h9 => h9) rfl (by decide +kernel) rfl rfl (Nat.le_of_ble_eq_true rfl) dX1_takeTriple_28 (fun H locs hP hD hS => ?_)
      have hP : va_P D vwCl (GW G t (g_paved' μ x2)) H := hP
      have hD : va_D (OA (GL G) s.heap.size) (GW G t (g_paved' μ x2)) := hD
      have hSz : s.heap.size ≤ H.size := hS.1
      refine lv_aload_n hx hb dX1_takeTriple_31 rfl (lv_at hl 0 rfl) ?_
      refine lv_dup hx hb dX1_takeTriple_32 rfl ?_
      refine va_get hx hb hts inX1 hown hK hP 0 rfl rfl 5 (by decide) (hts _ qw113) (fun _ h9 => h9) rfl dX1_takeTriple_33 ?_
      refine lv_iconst (v := (1)) hx hb dX1_takeTriple_36 (by decide) ?_
      refine lv_isub hx hb dX1_takeTriple_37 ?_
      obtain ⟨x3, ex3, h⟩ := jlet_some h
      refine topI ex3 ?_
      refine va_put (D := D) (ci := 2) (v := .int x3) (ty := .int) hx hb hts inX1 tyX1 tyX1_ok nmX1 hown hK hP hD hS 0 rfl rfl 5 (by decide) (hts _ qw113) (fun _ h9 => h9) rfl (by decide +kernel) rfl rfl (Nat.le_of_ble_eq_true rfl) dX1_takeTriple_38 (fun H locs hP hD hS => ?_)
      have hP : va_P D vwCl (GW G t (g_tc' (g_paved' μ x2) x3)) H := hP
      have hD : va_D (OA (GL G) s.heap.size) (GW G t (g_tc' (g_paved' μ x2) x3)) := hD
      have hSz : s.heap.size ≤ H.size := hS.1
      refine lv_iload_n hx hb dX1_takeTriple_41 rfl (lv_at hl 1 rfl) ?_
      refine lv_istore_n (lv' := [(2, .int a1), (0, .ref (G 0)), (1, .int a1)]) hx hb dX1_takeTriple_42 rfl hl (by decide) rfl (fun ls hl => ?_)
      obtain ⟨o10, eo10, h⟩ := obind h
      have hL43 : ∀ (n : Nat) (y2_43 : Int32) (names_43 : Nat → Int32) (o10 : (Nat → Int32)), f_X1_takeTriple_L43 x3 n y2_43 names_43 = some o10 → (∀ (ls : Array Slot) (H : Heap) (locs : List Loc), lv_has ls 3 [] → va_P D vwCl (GW G t (g_names' (g_tc' (g_paved' μ x2) x3) o10)) H → va_D (OA (GL G) s.heap.size) (GW G t (g_names' (g_tc' (g_paved' μ x2) x3) o10)) → va_S (OA (GL G) s.heap.size) s.heap H locs → W p l e (headSpec (ws_ yX1_takeTriple cX1_takeTriple 3 none) rm_X1_takeTriple).room s m ([.ref (G 0), .int a1] : List Value).toArray below meth c H locs 0 0 (MQ below (QM none D (GW G t (g_names' (g_tc' (g_paved' μ res.1) res.2.1) res.2.2)) (GL G) s.heap.size) ([.ref (G 0), .int a1] : List Value).toArray s 0 0 (OA (GL G) s.heap.size)) (F0 m 82 ls [])) → ∀ (ls : Array Slot) (H : Heap) (locs : List Loc), lv_has ls 3 [(0, .ref (G 0)), (2, .int y2_43)] → va_P D vwCl (GW G t (g_names' (g_tc' (g_paved' μ x2) x3) names_43)) H → va_D (OA (GL G) s.heap.size) (GW G t (g_names' (g_tc' (g_paved' μ x2) x3) names_43)) → va_S (OA (GL G) s.heap.size) s.heap H locs → W p l e (headSpec (ws_ yX1_takeTriple cX1_takeTriple 3 none) rm_X1_takeTriple).room s m ([.ref (G 0), .int a1] : List Value).toArray below meth c H locs 0 0 (MQ below (QM none D (GW G t (g_names' (g_tc' (g_paved' μ res.1) res.2.1) res.2.2)) (GL G) s.heap.size) ([.ref (G 0), .int a1] : List Value).toArray s 0 0 (OA (GL G) s.heap.size)) (F0 m 43 ls []) := by
        intro n
        induction n with
        | zero => intro y2_43 names_43 o10 h; exact absurd h (fun z => by cases z)
        | succ n ih =>
          intro y2_43 names_43 o10 h hK43 ls H locs hl hP hD hS
          replace h : f_X1_takeTriple_L43_b x3 (f_X1_takeTriple_L43 x3 n) y2_43 names_43 = some o10 := h
          unfold f_X1_takeTriple_L43_b at h
          have hSz : s.heap.size ≤ H.size := hS.1
          refine lv_iload_n hx hb dX1_takeTriple_43 rfl (lv_at hl 1 rfl) ?_
          refine lv_aload_n hx hb dX1_takeTriple_44 rfl (lv_at hl 0 rfl) ?_
          refine va_get hx hb hts inX1 hown hK hP 0 rfl rfl 5 (by decide) (hts _ qw113) (fun _ h9 => h9) rfl dX1_takeTriple_45 ?_
          refine lv_icmp_ge (tgt := 82) hx hb dX1_takeTriple_48 (by decide) (fun hc => ?_) (fun hc => ?_)
          · have h := iteT hc h
            obtain rfl := Option.some.inj h
            exact hK43 ls H locs (lv_sub hl [] rfl) hP hD hS
          · have h := iteF hc h
            refine lv_iload_n hx hb dX1_takeTriple_51 rfl (lv_at hl 1 rfl) ?_
            refine lv_iconst (v := (1)) hx hb dX1_takeTriple_52 (by decide) ?_
            refine lv_iadd hx hb dX1_takeTriple_53 ?_
            refine lv_aload_n hx hb dX1_takeTriple_54 rfl (lv_at hl 0 rfl) ?_
            refine va_get hx hb hts inX1 hown hK hP 0 rfl rfl 8 (by decide) (hts _ qw119) (fun _ h9 => h9) rfl dX1_takeTriple_55 ?_
            refine va_alen hx hb hK hP 1 0 rfl rfl (v := 21) rfl dX1_takeTriple_58 ?_
            refine lv_icmp_ge (tgt := 82) hx hb dX1_takeTriple_59 (by decide) (fun hc => ?_) (fun hc => ?_)
            · have h := iteT hc h
              obtain rfl := Option.some.inj h
              exact hK43 ls H locs (lv_sub hl [] rfl) hP hD hS
            · have h := iteF hc h
              refine lv_aload_n hx hb dX1_takeTriple_62 rfl (lv_at hl 0 rfl) ?_
              refine va_get hx hb hts inX1 hown hK hP 0 rfl rfl 8 (by decide) (hts _ qw119) (fun _ h9 => h9) rfl dX1_takeTriple_63 ?_
              refine lv_iload_n hx hb dX1_takeTriple_66 rfl (lv_at hl 1 rfl) ?_
              refine lv_aload_n hx hb dX1_takeTriple_67 rfl (lv_at hl 0 rfl) ?_
              refine va_get hx hb hts inX1 hown hK hP 0 rfl rfl 8 (by decide) (hts _ qw119) (fun _ h9 => h9) rfl dX1_takeTriple_68 ?_
              refine lv_iload_n hx hb dX1_takeTriple_71 rfl (lv_at hl 1 rfl) ?_
              refine lv_iconst (v := (1)) hx hb dX1_takeTriple_72 (by decide) ?_
              refine lv_iadd hx hb dX1_takeTriple_73 ?_
              obtain ⟨v11, ev11, h⟩ := obind h
              refine k_iald hx hb hK hP 1 rfl ev11 dX1_takeTriple_74 ?_
              obtain ⟨f12, ef12, h⟩ := obind h
              refine k_iast (ws' := (GW G t (g_names' (g_tc' (g_paved' μ x2) x3) f12))) hx hb hK hP hD hS 1 rfl ef12 rfl dX1_takeTriple_75 (fun H locs hP hD hS => ?_)
              have hSz : s.heap.size ≤ H.size := hS.1
              obtain ⟨x13, ex13, h⟩ := jlet_some h
              refine lv_iinc (v := x13) (lv' := [(2, .int x13), (0, .ref (G 0))]) hx hb dX1_takeTriple_76 hl (k := 1) rfl (by rw [ex13]; rfl) (by decide) rfl (fun ls hl => ?_)
              refine lv_goto (tgt := 43) hx hb dX1_takeTriple_79 (by decide) ?_
              exact ih _ _ _ h hK43 ls H locs (lv_sub hl [1, 0] rfl) hP hD hS
      refine hL43 _ _ _ _ eo10 (fun ls H locs hl hP hD hS => ?_) ls H locs (lv_sub hl [1, 0] rfl) hP hD hS
      have hSz : s.heap.size ≤ H.size := hS.1
      obtain rfl := Option.some.inj h
      exact W.vret hx hb hr (fun t ht hW => ⟨rfl, by rw [ht]; exact hP, hD, hS.F ht⟩) hS.2.2 dX1_takeTriple_82
    · have h := iteF hc h
      obtain rfl := Option.some.inj h
      exact W.vret hx hb hr (fun t ht hW => ⟨rfl, by rw [ht]; exact hP, hD, hS.F ht⟩) hS.2.2 dX1_takeTriple_12

abbrev rm_X1_flipBlock : Room := { frames := 3, cells := 0, slots := 0, locals := 85 }
theorem ok_X1_flipBlock : okY yX1_flipBlock 3 := ⟨by decide +kernel, by decide +kernel, by decide +kernel⟩
set_option maxHeartbeats 4000000 in
set_option maxRecDepth 100000 in
theorem c_X1_flipBlock (l : Launch) (z0 : Nat) (D : va_G) (t : Nat → ClassId) (G : Nat → Nat) (μ : GS) (a1 : Int32) (a2 : Int32) (a3 : Int32) (res : (Int64) × (Int32) × (Int32) × (Nat → Int32)) (sz : Nat) (h : f_X1_flipBlock μ a1 a2 a3 = some res) : Met l yX1_flipBlock (ws_ yX1_flipBlock cX1_flipBlock 7 none) rm_X1_flipBlock (PM z0 D t [.ref (G 0), .int a1, .int a2, .int a3] (GW G t μ) (GL G) sz) (QM none D (GW G t (g_names' (g_flips' (g_tc' (g_paved' μ res.1) res.2.1) res.2.2.1) res.2.2.2)) (GL G) sz) 0 0 (OA (GL G) sz) := by
  refine Met.ofW (cc := cX1_flipBlock) (maxL := 7) (ret := none) (by decide) rfl ?_
  intro p e s m args below meth c s₁ Bo hml hv
  obtain ⟨rfl, hC, hsz, hP, hD, hZ⟩ := hv
  have hx := Bo.exec
  have hb := Bo.bytes
  have hr := Bo.returns
  have hts : ∀ w ∈ LA, w.before _ s = true := fun w hw => atoms_spec (ws := ws_ yX1_flipBlock cX1_flipBlock 7 none) Bo.pre w (List.mem_cons_of_mem _ hw)
  have hown : s.vm.findClass RX1 = some m.cls := findClass_of_methodNamed Bo.named
  have hlocks := Bo.notSynchronized
  have hK := hC.1
  subst hsz
  have hl := lv_entry ([.ref (G 0), .int a1, .int a2, .int a3]) (n := 7) (Nat.le_of_ble_eq_true rfl)
  rw [lg_entry_eq]
  generalize (lg_sl ([.ref (G 0), .int a1, .int a2, .int a3]) ++ List.replicate (7 - (lg_sl ([.ref (G 0), .int a1, .int a2, .int a3])).length) Slot.unset).toArray = ls at hl ⊢
  have hl : lv_has ls 7 [(0, .ref (G 0)), (1, .int a1), (2, .int a2), (3, .int a3)] := hl
  suffices K9 : ∀ (H : Heap) (locs : List Loc), va_P D vwCl (GW G t μ) H → va_S (OA (GL G) s.heap.size) s.heap H locs → W p l e (headSpec (ws_ yX1_flipBlock cX1_flipBlock 7 none) rm_X1_flipBlock).room s m ([.ref (G 0), .int a1, .int a2, .int a3] : List Value).toArray below meth c H locs 0 0 (MQ below (QM none D (GW G t (g_names' (g_flips' (g_tc' (g_paved' μ res.1) res.2.1) res.2.2.1) res.2.2.2)) (GL G) s.heap.size) ([.ref (G 0), .int a1, .int a2, .int a3] : List Value).toArray s 0 0 (OA (GL G) s.heap.size)) (F0 m 0 ls []) from K9 s.heap [] hP va_S.rf
  intro H locs hP hS
  have hSz : s.heap.size ≤ H.size := hS.1
  unfold f_X1_flipBlock at h
  refine lv_aload_n hx hb dX1_flipBlock_0 rfl (lv_at hl 0 rfl) ?_
  refine lv_iload_n hx hb dX1_flipBlock_1 rfl (lv_at hl 1 rfl) ?_
  refine lv_iload_n hx hb dX1_flipBlock_2 rfl (lv_at hl 2 rfl) ?_
  obtain ⟨r1, er1, h⟩ := obind h
  refine call_R (va_runSN (As := [.int a1, .int a2]) (rest := [.ref (G 0)]) ⟨hx, hb, hml, hown, hts⟩ (c_X4_cellAt l z0 D t a1 a2 _ er1) ⟨kN hts (hC.2.1 _ qw383) qw1 qw218 ok_X4_cellAt ⟨Nat.le_of_ble_eq_true rfl, Nat.le_of_ble_eq_true rfl⟩, hts _ qw217, trivial⟩ ⟨PR.blind, fun U hU hW => ⟨rfl, by rw [hU]; exact (hC.at hS hZ).warm hW, by rw [hU]; exact va_P_nil⟩⟩ rfl rfl hl.1 rfl (lv_room (Nat.le_of_ble_eq_true rfl)) dX1_flipBlock_3 ⟨Nat.le_of_ble_eq_true rfl, Nat.le_of_ble_eq_true rfl⟩) ?_
  obtain ⟨r2, er2, h⟩ := obind h
  refine call_R (va_runV (As := [.long r1]) (rest := []) ⟨hx, hb, hml, hown, hts⟩ (c_X1_tripleOver l z0 D t G μ r1 _ er2) (kV hts qw384 qw385 qw386 qw7 qw387 ok_X1_tripleOver ⟨Nat.le_of_ble_eq_true rfl, Nat.le_of_ble_eq_true rfl⟩) ⟨PR.blind, va_recv hK hP (ci := 2) (q0 := 0) rfl rfl, fun U hU hW => ⟨rfl, by rw [hU]; exact (hC.at hS hZ).warm hW, by rw [hU]; exact hP⟩⟩ rfl rfl hl.1 rfl (lv_room (Nat.le_of_ble_eq_true rfl)) dX1_flipBlock_6 ⟨Nat.le_of_ble_eq_true rfl, Nat.le_of_ble_eq_true rfl⟩) ?_
  refine lv_istore (lv' := [(4, .int r2), (0, .ref (G 0)), (1, .int a1), (2, .int a2), (3, .int a3)]) hx hb dX1_flipBlock_9 hl (by decide) rfl (fun ls hl => ?_)
  refine lv_aload_n hx hb dX1_flipBlock_11 rfl (lv_at hl 1 rfl) ?_
  refine lv_iload_n hx hb dX1_flipBlock_12 rfl (lv_at hl 2 rfl) ?_
  refine lv_iload_n hx hb dX1_flipBlock_13 rfl (lv_at hl 3 rfl) ?_
  refine lv_iload_n hx hb dX1_flipBlock_14 rfl (lv_at hl 4 rfl) ?_
  obtain ⟨r3, er3, h⟩ := obind h
  refine call_R (va_runS (As := [.int a1, .int a2, .int a3]) (rest := [.ref (G 0)]) ⟨hx, hb, hml, hown, hts⟩ (c_X1_lastFlipCell l z0 D t a1 a2 a3 _ er3) (kS hts qw405 qw406 qw7 qw407 ok_X1_lastFlipCell ⟨Nat.le_of_ble_eq_true rfl, Nat.le_of_ble_eq_true rfl⟩) ⟨PR.blind, fun U hU hW => ⟨rfl, by rw [hU]; exact (hC.at hS hZ).warm hW, by rw [hU]; exact va_P_nil⟩⟩ rfl rfl hl.1 rfl (lv_room (Nat.le_of_ble_eq_true rfl)) dX1_flipBlock_15 ⟨Nat.le_of_ble_eq_true rfl, Nat.le_of_ble_eq_true rfl⟩) ?_
  obtain ⟨r4, er4, h⟩ := obind h
  refine call_R (va_runV (As := [.long r3]) (rest := []) ⟨hx, hb, hml, hown, hts⟩ (c_X1_tripleOver l z0 D t G μ r3 _ er4) (kV hts qw384 qw385 qw386 qw7 qw387 ok_X1_tripleOver ⟨Nat.le_of_ble_eq_true rfl, Nat.le_of_ble_eq_true rfl⟩) ⟨PR.blind, va_recv hK hP (ci := 2) (q0 := 0) rfl rfl, fun U hU hW => ⟨rfl, by rw [hU]; exact (hC.at hS hZ).warm hW, by rw [hU]; exact hP⟩⟩ rfl rfl hl.1 rfl (lv_room (Nat.le_of_ble_eq_true rfl)) dX1_flipBlock_18 ⟨Nat.le_of_ble_eq_true rfl, Nat.le_of_ble_eq_true rfl⟩) ?_
  refine lv_istore (lv' := [(5, .int r4), (4, .int r2), (0, .ref (G 0)), (1, .int a1), (2, .int a2), (3, .int a3)]) hx hb dX1_flipBlock_21 hl (by decide) rfl (fun ls hl => ?_)
  refine lv_iload_n hx hb dX1_flipBlock_23 rfl (lv_at hl 5 rfl) ?_
  obtain ⟨o5, eo5, h⟩ := obind h
  have hJ32_o5 : ∀ (ls : Array Slot) (H : Heap) (locs : List Loc), lv_has ls 7 [(0, .ref (G 0)), (1, .int a1), (2, .int a2), (3, .int a3), (4, .int r2), (5, .int r4)] → va_P D vwCl (GW G t μ) H → va_D (OA (GL G) s.heap.size) (GW G t μ) → va_S (OA (GL G) s.heap.size) s.heap H locs → W p l e (headSpec (ws_ yX1_flipBlock cX1_flipBlock 7 none) rm_X1_flipBlock).room s m ([.ref (G 0), .int a1, .int a2, .int a3] : List Value).toArray below meth c H locs 0 0 (MQ below (QM none D (GW G t (g_names' (g_flips' (g_tc' (g_paved' μ res.1) res.2.1) res.2.2.1) res.2.2.2)) (GL G) s.heap.size) ([.ref (G 0), .int a1, .int a2, .int a3] : List Value).toArray s 0 0 (OA (GL G) s.heap.size)) (F0 m 32 ls [.int o5]) := by
    intro ls H locs hl hP hD hS
    have hSz : s.heap.size ≤ H.size := hS.1
    refine lv_aload_n hx hb dX1_flipBlock_32 rfl (lv_at hl 0 rfl) ?_
    refine lv_iload hx hb dX1_flipBlock_33 (lv_at hl 4 rfl) ?_
    obtain ⟨r6, er6, h⟩ := obind h
    refine call_R (va_runV (As := [.int r2]) (rest := [.int o5]) ⟨hx, hb, hml, hown, hts⟩ (c_X1_tripleName l z0 D t G μ r2 _ er6) (kV hts qw392 qw393 qw394 qw7 qw395 ok_X1_tripleName ⟨Nat.le_of_ble_eq_true rfl, Nat.le_of_ble_eq_true rfl⟩) ⟨PR.blind, va_recv hK hP (ci := 2) (q0 := 0) rfl rfl, fun U hU hW => ⟨rfl, by rw [hU]; exact (hC.at hS hZ).warm hW, by rw [hU]; exact hP⟩⟩ rfl rfl hl.1 rfl (lv_room (Nat.le_of_ble_eq_true rfl)) dX1_flipBlock_35 ⟨Nat.le_of_ble_eq_true rfl, Nat.le_of_ble_eq_true rfl⟩) ?_
    obtain ⟨r7, er7, h⟩ := obind h
    refine call_R (va_runSN (As := [.int r6]) (rest := [.int o5]) ⟨hx, hb, hml, hown, hts⟩ (c_X4_turnOf l z0 D t r6 _ er7) ⟨kN hts (hC.2.1 _ qw402) qw1 qw404 ok_X4_turnOf ⟨Nat.le_of_ble_eq_true rfl, Nat.le_of_ble_eq_true rfl⟩, hts _ qw403, trivial⟩ ⟨PR.blind, fun U hU hW => ⟨rfl, by rw [hU]; exact (hC.at hS hZ).warm hW, by rw [hU]; exact va_P_nil⟩⟩ rfl rfl hl.1 rfl (lv_room (Nat.le_of_ble_eq_true rfl)) dX1_flipBlock_38 ⟨Nat.le_of_ble_eq_true rfl, Nat.le_of_ble_eq_true rfl⟩) ?_
    refine lv_isub hx hb dX1_flipBlock_41 ?_
    obtain ⟨x8, ex8, h⟩ := jlet_some h
    refine topI ex8 ?_
    refine lv_istore (lv' := [(6, .int x8), (0, .ref (G 0)), (1, .int a1), (2, .int a2), (3, .int a3), (4, .int r2), (5, .int r4)]) hx hb dX1_flipBlock_42 hl (by decide) rfl (fun ls hl => ?_)
    refine lv_aload_n hx hb dX1_flipBlock_44 rfl (lv_at hl 1 rfl) ?_
    refine lv_iload hx hb dX1_flipBlock_45 (lv_at hl 5 rfl) ?_
    refine lv_iload hx hb dX1_flipBlock_47 (lv_at hl 6 rfl) ?_
    refine va_mmax hx hb (hml.trans hl.1.symm) hown (hts _ qw761) (hts _ qw651) (hts _ qw17) (hts _ qw652) (Nat.le_of_ble_eq_true rfl) (Nat.le_of_ble_eq_true rfl) (Nat.le_of_ble_eq_true rfl) (Nat.le_of_ble_eq_true rfl) dX1_flipBlock_49 ?_
    obtain ⟨r9, er9, h⟩ := obind h
    refine call_M (va_runV (As := [.int (if r2 < r4 then r4 else r2)]) (rest := []) ⟨hx, hb, hml, hown, hts⟩ (c_X1_takeTriple l z0 D t G μ (if r2 < r4 then r4 else r2) _ H.size er9) (kV hts qw762 qw743 qw744 qw7 qw745 ok_X1_takeTriple ⟨Nat.le_of_ble_eq_true rfl, Nat.le_of_ble_eq_true rfl⟩) ⟨PM.blind, va_recv hK hP (ci := 2) (q0 := 0) rfl rfl, fun U hU hW => ⟨rfl, by rw [hU]; exact (hC.at hS hZ).warm hW, by rw [hU], by rw [hU]; exact hP, ⟨hD.1, fun _ _ h9 => Or.inl (in_map (L := (GL G)) rfl h9)⟩, fun q hq => hZ q (OA.ofD hD rfl hSz q hq)⟩⟩ rfl rfl hl.1 rfl (lv_room (Nat.le_of_ble_eq_true rfl)) dX1_flipBlock_52 ⟨Nat.le_of_ble_eq_true rfl, Nat.le_of_ble_eq_true rfl⟩) hS (OA.ofD hD rfl hSz) (fun H locs hP hD1 hS _ _ => ?_)
    have hP : va_P D vwCl (GW G t (g_names' (g_tc' (g_paved' μ r9.1) r9.2.1) r9.2.2)) H := hP
    have hD : va_D (OA (GL G) s.heap.size) (GW G t (g_names' (g_tc' (g_paved' μ r9.1) r9.2.1) r9.2.2)) := hD1.weaken (fun _ q _ h9 => OA.ofD hD rfl hSz q.1 h9)
    have hSz : s.heap.size ≤ H.size := hS.1
    refine lv_aload_n hx hb dX1_flipBlock_55 rfl (lv_at hl 1 rfl) ?_
    refine lv_iload hx hb dX1_flipBlock_56 (lv_at hl 5 rfl) ?_
    refine lv_iload hx hb dX1_flipBlock_58 (lv_at hl 6 rfl) ?_
    refine va_mmin hx hb (hml.trans hl.1.symm) hown (hts _ qw763) (hts _ qw681) (hts _ qw17) (hts _ qw682) (Nat.le_of_ble_eq_true rfl) (Nat.le_of_ble_eq_true rfl) (Nat.le_of_ble_eq_true rfl) (Nat.le_of_ble_eq_true rfl) dX1_flipBlock_60 ?_
    obtain ⟨r10, er10, h⟩ := obind h
    refine call_M (va_runV (As := [.int (if r4 < r2 then r4 else r2)]) (rest := []) ⟨hx, hb, hml, hown, hts⟩ (c_X1_takeTriple l z0 D t G (g_names' (g_tc' (g_paved' μ r9.1) r9.2.1) r9.2.2) (if r4 < r2 then r4 else r2) _ H.size er10) (kV hts qw762 qw743 qw744 qw7 qw745 ok_X1_takeTriple ⟨Nat.le_of_ble_eq_true rfl, Nat.le_of_ble_eq_true rfl⟩) ⟨PM.blind, va_recv hK hP (ci := 2) (q0 := 0) rfl rfl, fun U hU hW => ⟨rfl, by rw [hU]; exact (hC.at hS hZ).warm hW, by rw [hU], by rw [hU]; exact hP, ⟨hD.1, fun _ _ h9 => Or.inl (in_map (L := (GL G)) rfl h9)⟩, fun q hq => hZ q (OA.ofD hD rfl hSz q hq)⟩⟩ rfl rfl hl.1 rfl (lv_room (Nat.le_of_ble_eq_true rfl)) dX1_flipBlock_63 ⟨Nat.le_of_ble_eq_true rfl, Nat.le_of_ble_eq_true rfl⟩) hS (OA.ofD hD rfl hSz) (fun H locs hP hD1 hS _ _ => ?_)
    have hP : va_P D vwCl (GW G t (g_names' (g_tc' (g_paved' μ r10.1) r10.2.1) r10.2.2)) H := hP
    have hD : va_D (OA (GL G) s.heap.size) (GW G t (g_names' (g_tc' (g_paved' μ r10.1) r10.2.1) r10.2.2)) := hD1.weaken (fun _ q _ h9 => OA.ofD hD rfl hSz q.1 h9)
    have hSz : s.heap.size ≤ H.size := hS.1
    refine lv_aload_n hx hb dX1_flipBlock_66 rfl (lv_at hl 1 rfl) ?_
    refine lv_iload_n hx hb dX1_flipBlock_67 rfl (lv_at hl 2 rfl) ?_
    refine lv_iload_n hx hb dX1_flipBlock_68 rfl (lv_at hl 3 rfl) ?_
    refine lv_iload hx hb dX1_flipBlock_69 (lv_at hl 0 rfl) ?_
    obtain ⟨r11, er11, h⟩ := obind h
    refine call_M (va_runV (As := [.int a1, .int a2, .int x8]) (rest := []) ⟨hx, hb, hml, hown, hts⟩ (c_X1_putTriple l z0 D t G (g_names' (g_tc' (g_paved' μ r10.1) r10.2.1) r10.2.2) a1 a2 x8 _ H.size er11) (kV hts qw764 qw731 qw732 qw7 qw733 ok_X1_putTriple ⟨Nat.le_of_ble_eq_true rfl, Nat.le_of_ble_eq_true rfl⟩) ⟨PM.blind, va_recv hK hP (ci := 2) (q0 := 0) rfl rfl, fun U hU hW => ⟨rfl, by rw [hU]; exact (hC.at hS hZ).warm hW, by rw [hU], by rw [hU]; exact hP, ⟨hD.1, fun _ _ h9 => Or.inl (in_map (L := (GL G)) rfl h9)⟩, fun q hq => hZ q (OA.ofD hD rfl hSz q hq)⟩⟩ rfl rfl hl.1 rfl (lv_room (Nat.le_of_ble_eq_true rfl)) dX1_flipBlock_71 ⟨Nat.le_of_ble_eq_true rfl, Nat.le_of_ble_eq_true rfl⟩) hS (OA.ofD hD rfl hSz) (fun H locs hP hD1 hS _ _ => ?_)
    have hP : va_P D vwCl (GW G t (g_names' (g_tc' (g_paved' μ r11.1) r11.2.1) r11.2.2)) H := hP
    have hD : va_D (OA (GL G) s.heap.size) (GW G t (g_names' (g_tc' (g_paved' μ r11.1) r11.2.1) r11.2.2)) := hD1.weaken (fun _ q _ h9 => OA.ofD hD rfl hSz q.1 h9)
    have hSz : s.heap.size ≤ H.size := hS.1
    refine lv_aload_n hx hb dX1_flipBlock_74 rfl (lv_at hl 1 rfl) ?_
    refine lv_iload_n hx hb dX1_flipBlock_75 rfl (lv_at hl 4 rfl) ?_
    obtain ⟨o12, eo12, h⟩ := obind h
    have hJ86_o12 : ∀ (ls : Array Slot) (H : Heap) (locs : List Loc), lv_has ls 7 [(0, .ref (G 0)), (2, .int a2), (3, .int a3), (6, .int x8)] → va_P D vwCl (GW G t (g_names' (g_tc' (g_paved' μ r11.1) r11.2.1) r11.2.2)) H → va_D (OA (GL G) s.heap.size) (GW G t (g_names' (g_tc' (g_paved' μ r11.1) r11.2.1) r11.2.2)) → va_S (OA (GL G) s.heap.size) s.heap H locs → W p l e (headSpec (ws_ yX1_flipBlock cX1_flipBlock 7 none) rm_X1_flipBlock).room s m ([.ref (G 0), .int a1, .int a2, .int a3] : List Value).toArray below meth c H locs 0 0 (MQ below (QM none D (GW G t (g_names' (g_flips' (g_tc' (g_paved' μ res.1) res.2.1) res.2.2.1) res.2.2.2)) (GL G) s.heap.size) ([.ref (G 0), .int a1, .int a2, .int a3] : List Value).toArray s 0 0 (OA (GL G) s.heap.size)) (F0 m 86 ls [.int o12, .ref (G 0)]) := by
      intro ls H locs hl hP hD hS
      have hSz : s.heap.size ≤ H.size := hS.1
      refine lv_iload_n hx hb dX1_flipBlock_86 rfl (lv_at hl 2 rfl) ?_
      obtain ⟨o13, eo13, h⟩ := obind h
      have hJ97_o13 : ∀ (ls : Array Slot) (H : Heap) (locs : List Loc), lv_has ls 7 [(0, .ref (G 0)), (6, .int x8)] → va_P D vwCl (GW G t (g_names' (g_tc' (g_paved' μ r11.1) r11.2.1) r11.2.2)) H → va_D (OA (GL G) s.heap.size) (GW G t (g_names' (g_tc' (g_paved' μ r11.1) r11.2.1) r11.2.2)) → va_S (OA (GL G) s.heap.size) s.heap H locs → W p l e (headSpec (ws_ yX1_flipBlock cX1_flipBlock 7 none) rm_X1_flipBlock).room s m ([.ref (G 0), .int a1, .int a2, .int a3] : List Value).toArray below meth c H locs 0 0 (MQ below (QM none D (GW G t (g_names' (g_flips' (g_tc' (g_paved' μ res.1) res.2.1) res.2.2.1) res.2.2.2)) (GL G) s.heap.size) ([.ref (G 0), .int a1, .int a2, .int a3] : List Value).toArray s 0 0 (OA (GL G) s.heap.size)) (F0 m 97 ls [.int o13, .int o12, .ref (G 0)]) := by
        intro ls H locs hl hP hD hS
        have hSz : s.heap.size ≤ H.size := hS.1
        refine lv_iload hx hb dX1_flipBlock_97 (lv_at hl 1 rfl) ?_
        refine lv_iconst (v := (2)) hx hb dX1_flipBlock_99 (by decide) ?_
        refine lv_iadd hx hb dX1_flipBlock_100 ?_
        refine lv_iconst (v := (4)) hx hb dX1_flipBlock_101 (by decide) ?_
        refine lv_irem hx hb dX1_flipBlock_102 (by decide) ?_
        obtain ⟨r14, er14, h⟩ := obind h
        refine call_M (va_runV (As := [.int o12, .int o13, .int ((x8 + (2 : Int32)) - (x8 + (2 : Int32)) / (4 : Int32) * (4 : Int32))]) (rest := []) ⟨hx, hb, hml, hown, hts⟩ (c_X1_putTriple l z0 D t G (g_names' (g_tc' (g_paved' μ r11.1) r11.2.1) r11.2.2) o12 o13 ((x8 + (2 : Int32)) - (x8 + (2 : Int32)) / (4 : Int32) * (4 : Int32)) _ H.size er14) (kV hts qw764 qw731 qw732 qw7 qw733 ok_X1_putTriple ⟨Nat.le_of_ble_eq_true rfl, Nat.le_of_ble_eq_true rfl⟩) ⟨PM.blind, va_recv hK hP (ci := 2) (q0 := 0) rfl rfl, fun U hU hW => ⟨rfl, by rw [hU]; exact (hC.at hS hZ).warm hW, by rw [hU], by rw [hU]; exact hP, ⟨hD.1, fun _ _ h9 => Or.inl (in_map (L := (GL G)) rfl h9)⟩, fun q hq => hZ q (OA.ofD hD rfl hSz q hq)⟩⟩ rfl rfl hl.1 rfl (lv_room (Nat.le_of_ble_eq_true rfl)) dX1_flipBlock_103 ⟨Nat.le_of_ble_eq_true rfl, Nat.le_of_ble_eq_true rfl⟩) hS (OA.ofD hD rfl hSz) (fun H locs hP hD1 hS _ _ => ?_)
        have hP : va_P D vwCl (GW G t (g_names' (g_tc' (g_paved' μ r14.1) r14.2.1) r14.2.2)) H := hP
        have hD : va_D (OA (GL G) s.heap.size) (GW G t (g_names' (g_tc' (g_paved' μ r14.1) r14.2.1) r14.2.2)) := hD1.weaken (fun _ q _ h9 => OA.ofD hD rfl hSz q.1 h9)
        have hSz : s.heap.size ≤ H.size := hS.1
        refine lv_aload_n hx hb dX1_flipBlock_106 rfl (lv_at hl 0 rfl) ?_
        refine lv_dup hx hb dX1_flipBlock_107 rfl ?_
        refine va_get hx hb hts inX1 hown hK hP 0 rfl rfl 6 (by decide) (hts _ qw115) (fun _ h9 => h9) rfl dX1_flipBlock_108 ?_
        refine lv_iconst (v := (1)) hx hb dX1_flipBlock_111 (by decide) ?_
        refine lv_iadd hx hb dX1_flipBlock_112 ?_
        obtain ⟨x15, ex15, h⟩ := jlet_some h
        refine topI ex15 ?_
        refine va_put (D := D) (ci := 2) (v := .int x15) (ty := .int) hx hb hts inX1 tyX1 tyX1_ok nmX1 hown hK hP hD hS 0 rfl rfl 6 (by decide) (hts _ qw115) (fun _ h9 => h9) rfl (by decide +kernel) rfl rfl (Nat.le_of_ble_eq_true rfl) dX1_flipBlock_113 (fun H locs hP hD hS => ?_)
        have hP : va_P D vwCl (GW G t (g_names' (g_flips' (g_tc' (g_paved' μ r14.1) r14.2.1) x15) r14.2.2)) H := hP
        have hD : va_D (OA (GL G) s.heap.size) (GW G t (g_names' (g_flips' (g_tc' (g_paved' μ r14.1) r14.2.1) x15) r14.2.2)) := hD
        have hSz : s.heap.size ≤ H.size := hS.1
        obtain rfl := Option.some.inj h
        exact W.vret hx hb hr (fun t ht hW => ⟨rfl, by rw [ht]; exact hP, hD, hS.F ht⟩) hS.2.2 dX1_flipBlock_116
      have h := eo13
      clear eo13
      refine lv_if_eq (tgt := 96) hx hb dX1_flipBlock_87 (by decide) (fun hc => ?_) (fun hc => ?_)
      · have h := iteT hc h
        refine lv_iload_n hx hb dX1_flipBlock_96 rfl (lv_at hl 1 rfl) ?_
        obtain rfl := Option.some.inj h
        exact hJ97_o13 ls H locs (lv_sub hl [0, 3] rfl) hP hD hS
      · have h := iteF hc h
        refine lv_iload_n hx hb dX1_flipBlock_90 rfl (lv_at hl 1 rfl) ?_
        refine lv_iconst (v := (1)) hx hb dX1_flipBlock_91 (by decide) ?_
        refine lv_iadd hx hb dX1_flipBlock_92 ?_
        refine lv_goto (tgt := 97) hx hb dX1_flipBlock_93 (by decide) ?_
        obtain rfl := Option.some.inj h
        exact hJ97_o13 ls H locs (lv_sub hl [0, 3] rfl) hP hD hS
    have h := eo12
    clear eo12
    refine lv_if_eq (tgt := 83) hx hb dX1_flipBlock_76 (by decide) (fun hc => ?_) (fun hc => ?_)
    · have h := iteT hc h
      refine lv_iload_n hx hb dX1_flipBlock_83 rfl (lv_at hl 2 rfl) ?_
      refine lv_iconst (v := (1)) hx hb dX1_flipBlock_84 (by decide) ?_
      refine lv_iadd hx hb dX1_flipBlock_85 ?_
      obtain rfl := Option.some.inj h
      exact hJ86_o12 ls H locs (lv_sub hl [1, 3, 4, 0] rfl) hP hD hS
    · have h := iteF hc h
      refine lv_iload_n hx hb dX1_flipBlock_79 rfl (lv_at hl 2 rfl) ?_
      refine lv_goto (tgt := 86) hx hb dX1_flipBlock_80 (by decide) ?_
      obtain rfl := Option.some.inj h
      exact hJ86_o12 ls H locs (lv_sub hl [1, 3, 4, 0] rfl) hP hD hS
  have h := eo5
  clear eo5
  refine lv_if_eq (tgt := 31) hx hb dX1_flipBlock_24 (by decide) (fun hc => ?_) (fun hc => ?_)
  · have h := iteT hc h
    refine lv_iconst (v := (3)) hx hb dX1_flipBlock_31 (by decide) ?_
    obtain rfl := Option.some.inj h
    exact hJ32_o5 ls H locs (lv_sub hl [2, 3, 4, 5, 1, 0] rfl) hP hD hS
  · have h := iteF hc h
    refine lv_iconst (v := (5)) hx hb dX1_flipBlock_27 (by decide) ?_
    refine lv_goto (tgt := 32) hx hb dX1_flipBlock_28 (by decide) ?_
    obtain rfl := Option.some.inj h
    exact hJ32_o5 ls H locs (lv_sub hl [2, 3, 4, 5, 1, 0] rfl) hP hD hS

abbrev rm_X2_leastTurn : Room := { frames := 1, cells := 0, slots := 0, locals := 22 }
theorem ok_X2_leastTurn : okY yX2_leastTurn 2 := ⟨by decide +kernel, by decide +kernel, by decide +kernel⟩
set_option maxHeartbeats 4000000 in
set_option maxRecDepth 100000 in
theorem c_X2_leastTurn (l : Launch) (z0 : Nat) (D : va_G) (t : Nat → ClassId) (A : Nat → Nat) (u1 : Nat) (u2 : Nat) (B : Nat → Nat) (μ : VS) (a1 : Int32) (a2 : Int32) (res : Int32) (h : f_X2_leastTurn μ a1 a2 = some res) : Met l yX2_leastTurn (ws_ yX2_leastTurn cX2_leastTurn 4 (some .int)) rm_X2_leastTurn (PR z0 D t [.ref (A 0), .int a1, .int a2] (VW A u1 u2 B t μ)) (QR (some (.int res))) 0 0 FN := by
  refine Met.ofW (cc := cX2_leastTurn) (maxL := 4) (ret := (some .int)) (by decide) rfl ?_
  intro p e s m args below meth c s₁ Bo hml hv
  obtain ⟨rfl, hC, hP⟩ := hv
  have hx := Bo.exec
  have hb := Bo.bytes
  have hr := Bo.returns
  have hts : ∀ w ∈ LA, w.before _ s = true := fun w hw => atoms_spec (ws := ws_ yX2_leastTurn cX2_leastTurn 4 (some .int)) Bo.pre w (List.mem_cons_of_mem _ hw)
  have hown : s.vm.findClass RX2 = some m.cls := findClass_of_methodNamed Bo.named
  have hlocks := Bo.notSynchronized
  have hK := hC.1
  have hl := lv_entry ([.ref (A 0), .int a1, .int a2]) (n := 4) (Nat.le_of_ble_eq_true rfl)
  rw [lg_entry_eq]
  generalize (lg_sl ([.ref (A 0), .int a1, .int a2]) ++ List.replicate (4 - (lg_sl ([.ref (A 0), .int a1, .int a2])).length) Slot.unset).toArray = ls at hl ⊢
  have hl : lv_has ls 4 [(0, .ref (A 0)), (1, .int a1), (2, .int a2)] := hl
  unfold f_X2_leastTurn at h
  refine lv_iconst (v := (0)) hx hb dX2_leastTurn_0 (by decide) ?_
  refine lv_istore_n (lv' := [(3, .int (0 : Int32)), (0, .ref (A 0)), (1, .int a1), (2, .int a2)]) hx hb dX2_leastTurn_1 rfl hl (by decide) rfl (fun ls hl => ?_)
  obtain ⟨o13, eo13, h⟩ := obind h
  have hL2 : ∀ (n : Nat) (y3_2 : Int32) (o13 : (Unit) ⊕ (Int32)), f_X2_leastTurn_L2 a1 a2 μ n y3_2 = some o13 → (∀ o13l, o13 = .inl o13l → ∀ (ls : Array Slot), lv_has ls 4 [] → W p l e (headSpec (ws_ yX2_leastTurn cX2_leastTurn 4 (some .int)) rm_X2_leastTurn).room s m ([.ref (A 0), .int a1, .int a2] : List Value).toArray below meth c s.heap [] 0 0 (MQ below (QR (some (.int res))) ([.ref (A 0), .int a1, .int a2] : List Value).toArray s 0 0 FN) (F0 m 42 ls [])) → (∀ r9, o13 = .inr r9 → r9 = res) → ∀ (ls : Array Slot), lv_has ls 4 [(0, .ref (A 0)), (1, .int a1), (2, .int a2), (3, .int y3_2)] → W p l e (headSpec (ws_ yX2_leastTurn cX2_leastTurn 4 (some .int)) rm_X2_leastTurn).room s m ([.ref (A 0), .int a1, .int a2] : List Value).toArray below meth c s.heap [] 0 0 (MQ below (QR (some (.int res))) ([.ref (A 0), .int a1, .int a2] : List Value).toArray s 0 0 FN) (F0 m 2 ls []) := by
    intro n
    induction n with
    | zero => intro y3_2 o13 h; exact absurd h (fun z => by cases z)
    | succ n ih =>
      intro y3_2 o13 h hK2 hR2 ls hl
      replace h : f_X2_leastTurn_L2_b a1 a2 μ (f_X2_leastTurn_L2 a1 a2 μ n) y3_2 = some o13 := h
      unfold f_X2_leastTurn_L2_b at h
      refine lv_iload_n hx hb dX2_leastTurn_2 rfl (lv_at hl 3 rfl) ?_
      refine lv_iconst (v := (4)) hx hb dX2_leastTurn_3 (by decide) ?_
      refine lv_icmp_ge (tgt := 42) hx hb dX2_leastTurn_4 (by decide) (fun hc => ?_) (fun hc => ?_)
      · have h := iteT hc h
        obtain rfl := Option.some.inj h
        exact hK2 _ rfl ls (lv_sub hl [] rfl)
      · have h := iteF hc h
        refine lv_aload_n hx hb dX2_leastTurn_7 rfl (lv_at hl 0 rfl) ?_
        refine lv_iload_n hx hb dX2_leastTurn_8 rfl (lv_at hl 3 rfl) ?_
        refine lv_iload_n hx hb dX2_leastTurn_9 rfl (lv_at hl 2 rfl) ?_
        obtain ⟨r14, er14, h⟩ := obind h
        refine call_R (va_runV (As := [.int y3_2, .int a2]) (rest := []) ⟨hx, hb, hml, hown, hts⟩ (c_X2_isOpen l z0 D t A u1 u2 (v_takes μ) y3_2 a2 _ er14) (kV hts qw288 qw290 qs6 qw6 qw291 ok_X2_isOpen ⟨Nat.le_of_ble_eq_true rfl, Nat.le_of_ble_eq_true rfl⟩) ⟨PR.blind, va_recv hK (sub_V_P (μ := μ) hP) (ci := 3) (q0 := 0) rfl rfl, fun U hU hW => ⟨rfl, by rw [hU]; exact hC.warm hW, by rw [hU]; exact (sub_V_P (μ := μ) hP)⟩⟩ rfl rfl hl.1 rfl (lv_room (Nat.le_of_ble_eq_true rfl)) dX2_leastTurn_10 ⟨Nat.le_of_ble_eq_true rfl, Nat.le_of_ble_eq_true rfl⟩) ?_
        refine lv_if_eq (tgt := 36) hx hb dX2_leastTurn_13 (by decide) (fun hc => ?_) (fun hc => ?_)
        · have h := iteT hc h
          obtain ⟨x15, ex15, h⟩ := jlet_some h
          refine lv_iinc (v := x15) (lv' := [(3, .int x15), (0, .ref (A 0)), (1, .int a1), (2, .int a2)]) hx hb dX2_leastTurn_36 hl (k := 3) rfl (by rw [ex15]; rfl) (by decide) rfl (fun ls hl => ?_)
          refine lv_goto (tgt := 2) hx hb dX2_leastTurn_39 (by decide) ?_
          exact ih _ _ h hK2 hR2 ls (lv_sub hl [1, 2, 3, 0] rfl)
        · have h := iteF hc h
          refine lv_aload_n hx hb dX2_leastTurn_16 rfl (lv_at hl 0 rfl) ?_
          refine va_get hx hb hts inX2 hown hK hP 0 rfl rfl 0 (by decide) (hts _ qw85) (fun _ h9 => h9) rfl dX2_leastTurn_17 ?_
          refine lv_iload_n hx hb dX2_leastTurn_20 rfl (lv_at hl 1 rfl) ?_
          refine lv_iconst (v := (1)) hx hb dX2_leastTurn_21 (by decide) ?_
          refine lv_iadd hx hb dX2_leastTurn_22 ?_
          obtain ⟨k16, ek16, h⟩ := obind h
          refine k_aaldR hx hb hK hP 2 rfl ek16 dX2_leastTurn_23 ?_
          refine lv_aload_n hx hb dX2_leastTurn_24 rfl (lv_at hl 0 rfl) ?_
          refine lv_iload_n hx hb dX2_leastTurn_25 rfl (lv_at hl 3 rfl) ?_
          refine lv_iload_n hx hb dX2_leastTurn_26 rfl (lv_at hl 2 rfl) ?_
          obtain ⟨r17, er17, h⟩ := obind h
          refine call_R (va_runV (As := [.int y3_2, .int a2]) (rest := [.ref (B k16)]) ⟨hx, hb, hml, hown, hts⟩ (c_X2_windowAfter l z0 D t A u1 u2 (v_takes μ) y3_2 a2 _ er17) (kV hts qw292 qw294 qs7 qw6 qw295 ok_X2_windowAfter ⟨Nat.le_of_ble_eq_true rfl, Nat.le_of_ble_eq_true rfl⟩) ⟨PR.blind, va_recv hK (sub_V_P (μ := μ) hP) (ci := 3) (q0 := 0) rfl rfl, fun U hU hW => ⟨rfl, by rw [hU]; exact hC.warm hW, by rw [hU]; exact (sub_V_P (μ := μ) hP)⟩⟩ rfl rfl hl.1 rfl (lv_room (Nat.le_of_ble_eq_true rfl)) dX2_leastTurn_27 ⟨Nat.le_of_ble_eq_true rfl, Nat.le_of_ble_eq_true rfl⟩) ?_
          obtain ⟨v18, ev18, h⟩ := obind h
          refine k_iald hx hb hK hP (5 + k16) (row_V (jix_lt ek16)) ev18 dX2_leastTurn_30 ?_
          refine lv_if_eq (tgt := 36) hx hb dX2_leastTurn_31 (by decide) (fun hc => ?_) (fun hc => ?_)
          · have h := iteT hc h
            obtain ⟨x19, ex19, h⟩ := jlet_some h
            refine lv_iinc (v := x19) (lv' := [(3, .int x19), (0, .ref (A 0)), (1, .int a1), (2, .int a2)]) hx hb dX2_leastTurn_36 hl (k := 3) rfl (by rw [ex19]; rfl) (by decide) rfl (fun ls hl => ?_)
            refine lv_goto (tgt := 2) hx hb dX2_leastTurn_39 (by decide) ?_
            exact ih _ _ h hK2 hR2 ls (lv_sub hl [1, 2, 3, 0] rfl)
          · have h := iteF hc h
            refine lv_iload_n hx hb dX2_leastTurn_34 rfl (lv_at hl 3 rfl) ?_
            have e9 := hR2 _ (Option.some.inj h).symm
            subst e9
            exact W.iret hx hb hr (fun t ht hW => ⟨rfl, ht⟩) (fun q hq => absurd hq List.not_mem_nil) dX2_leastTurn_35
  refine hL2 _ _ _ eo13 (fun o13l eq9 ls hl => ?_) (fun r9 eq9 => ?_) ls (lv_sub hl [1, 2, 3, 0] rfl)
  · subst eq9
    replace h := sumL h
    refine lv_iconst (v := (-1)) hx hb dX2_leastTurn_42 (by decide) ?_
    obtain rfl := Option.some.inj h
    exact W.iret hx hb hr (fun t ht hW => ⟨rfl, ht⟩) (fun q hq => absurd hq List.not_mem_nil) dX2_leastTurn_43
  · subst eq9
    replace h := sumR h
    exact Option.some.inj h

abbrev rm_X2_paveFirstWay : Room := { frames := 3, cells := 0, slots := 0, locals := 86 }
theorem ok_X2_paveFirstWay : okY yX2_paveFirstWay 1 := ⟨by decide +kernel, by decide +kernel, by decide +kernel⟩
set_option maxHeartbeats 4000000 in
set_option maxRecDepth 100000 in
theorem c_X2_paveFirstWay (l : Launch) (z0 : Nat) (D : va_G) (t : Nat → ClassId) (A : Nat → Nat) (u1 : Nat) (u2 : Nat) (B : Nat → Nat) (G : Nat → Nat) (μ : VGS) (res : (Nat → Int32) × (Int64) × (Int32) × (Nat → Int32)) (sz : Nat) (h : f_X2_paveFirstWay μ = some res) : Met l yX2_paveFirstWay (ws_ yX2_paveFirstWay cX2_paveFirstWay 8 none) rm_X2_paveFirstWay (PM z0 D t [.ref (A 0), .ref (G 0)] (VGW A u1 u2 B G t μ) (VGL A u1 u2 B G) sz) (QM none D (VGW A u1 u2 B G t (vg_names' (vg_tc' (vg_paved' (vg_takes' μ res.1) res.2.1) res.2.2.1) res.2.2.2)) (VGL A u1 u2 B G) sz) 0 0 (OA (VGL A u1 u2 B G) sz) := by
  refine Met.ofW (cc := cX2_paveFirstWay) (maxL := 8) (ret := none) (by decide) rfl ?_
  intro p e s m args below meth c s₁ Bo hml hv
  obtain ⟨rfl, hC, hsz, hP, hD, hZ⟩ := hv
  have hx := Bo.exec
  have hb := Bo.bytes
  have hr := Bo.returns
  have hts : ∀ w ∈ LA, w.before _ s = true := fun w hw => atoms_spec (ws := ws_ yX2_paveFirstWay cX2_paveFirstWay 8 none) Bo.pre w (List.mem_cons_of_mem _ hw)
  have hown : s.vm.findClass RX2 = some m.cls := findClass_of_methodNamed Bo.named
  have hlocks := Bo.notSynchronized
  have hK := hC.1
  subst hsz
  have hl := lv_entry ([.ref (A 0), .ref (G 0)]) (n := 8) (Nat.le_of_ble_eq_true rfl)
  rw [lg_entry_eq]
  generalize (lg_sl ([.ref (A 0), .ref (G 0)]) ++ List.replicate (8 - (lg_sl ([.ref (A 0), .ref (G 0)])).length) Slot.unset).toArray = ls at hl ⊢
  have hl : lv_has ls 8 [(0, .ref (A 0)), (1, .ref (G 0))] := hl
  suffices K9 : ∀ (H : Heap) (locs : List Loc), va_P D vwCl (VGW A u1 u2 B G t μ) H → va_S (OA (VGL A u1 u2 B G) s.heap.size) s.heap H locs → W p l e (headSpec (ws_ yX2_paveFirstWay cX2_paveFirstWay 8 none) rm_X2_paveFirstWay).room s m ([.ref (A 0), .ref (G 0)] : List Value).toArray below meth c H locs 0 0 (MQ below (QM none D (VGW A u1 u2 B G t (vg_names' (vg_tc' (vg_paved' (vg_takes' μ res.1) res.2.1) res.2.2.1) res.2.2.2)) (VGL A u1 u2 B G) s.heap.size) ([.ref (A 0), .ref (G 0)] : List Value).toArray s 0 0 (OA (VGL A u1 u2 B G) s.heap.size)) (F0 m 0 ls []) from K9 s.heap [] hP va_S.rf
  intro H locs hP hS
  have hSz : s.heap.size ≤ H.size := hS.1
  unfold f_X2_paveFirstWay at h
  refine lv_aload_n hx hb dX2_paveFirstWay_0 rfl (lv_at hl 1 rfl) ?_
  obtain ⟨r1, er1, h⟩ := obind h
  refine call_R (va_runV (As := []) (rest := []) ⟨hx, hb, hml, hown, hts⟩ (c_X1_freeCells l z0 D t G ((vg_wide μ), (vg_high μ), (vg_pond μ), (vg_walls μ), (vg_paved μ), (vg_tc μ), (vg_flips μ), (vg_refused μ), (vg_names μ)) _ er1) (kV hts qw777 qw225 qw226 qw7 qw227 ok_X1_freeCells ⟨Nat.le_of_ble_eq_true rfl, Nat.le_of_ble_eq_true rfl⟩) ⟨PR.blind, va_recv hK (sub_VG_G (μ := μ) hP) (ci := 2) (q0 := 0) rfl rfl, fun U hU hW => ⟨rfl, by rw [hU]; exact (hC.at hS hZ).warm hW, by rw [hU]; exact (sub_VG_G (μ := μ) hP)⟩⟩ rfl rfl hl.1 rfl (lv_room (Nat.le_of_ble_eq_true rfl)) dX2_paveFirstWay_1 ⟨Nat.le_of_ble_eq_true rfl, Nat.le_of_ble_eq_true rfl⟩) ?_
  refine lv_lstore_n (lv' := [(2, .long r1), (0, .ref (A 0)), (1, .ref (G 0))]) hx hb dX2_paveFirstWay_4 rfl hl (by decide) rfl (fun ls hl => ?_)
  refine lv_lload_n hx hb dX2_paveFirstWay_5 rfl (lv_at hl 0 rfl) ?_
  obtain ⟨r2, er2, h⟩ := obind h
  refine call_R (va_runS (As := [.long r1]) (rest := []) ⟨hx, hb, hml, hown, hts⟩ (c_X2_endOf l z0 D t r1 _ er2) (kS hts qw251 qw252 qw6 qw253 ok_X2_endOf ⟨Nat.le_of_ble_eq_true rfl, Nat.le_of_ble_eq_true rfl⟩) ⟨PR.blind, fun U hU hW => ⟨rfl, by rw [hU]; exact (hC.at hS hZ).warm hW, by rw [hU]; exact va_P_nil⟩⟩ rfl rfl hl.1 rfl (lv_room (Nat.le_of_ble_eq_true rfl)) dX2_paveFirstWay_6 ⟨Nat.le_of_ble_eq_true rfl, Nat.le_of_ble_eq_true rfl⟩) ?_
  refine lv_istore (lv' := [(4, .int r2), (2, .long r1), (0, .ref (A 0)), (1, .ref (G 0))]) hx hb dX2_paveFirstWay_9 hl (by decide) rfl (fun ls hl => ?_)
  refine lv_iconst (v := (0)) hx hb dX2_paveFirstWay_11 (by decide) ?_
  refine lv_istore (lv' := [(5, .int (0 : Int32)), (4, .int r2), (2, .long r1), (0, .ref (A 0)), (1, .ref (G 0))]) hx hb dX2_paveFirstWay_12 hl (by decide) rfl (fun ls hl => ?_)
  refine lv_iconst (v := (0)) hx hb dX2_paveFirstWay_14 (by decide) ?_
  refine lv_istore (lv' := [(6, .int (0 : Int32)), (5, .int (0 : Int32)), (4, .int r2), (2, .long r1), (0, .ref (A 0)), (1, .ref (G 0))]) hx hb dX2_paveFirstWay_15 hl (by decide) rfl (fun ls hl => ?_)
  obtain ⟨o33, eo33, h⟩ := obind h
  have hL17 : ∀ (n : Nat) (y5_17 : Int32) (y6_17 : Int32) (takes_17 : Nat → Int32) (paved_17 : Int64) (tc_17 : Int32) (names_17 : Nat → Int32) (o33 : (Nat → Int32) × (Int64) × (Int32) × (Nat → Int32)), f_X2_paveFirstWay_L17 μ r1 r2 n y5_17 y6_17 takes_17 paved_17 tc_17 names_17 = some o33 → (∀ (ls : Array Slot) (H : Heap) (locs : List Loc), lv_has ls 8 [] → va_P D vwCl (VGW A u1 u2 B G t (vg_names' (vg_tc' (vg_paved' (vg_takes' μ o33.1) o33.2.1) o33.2.2.1) o33.2.2.2)) H → va_D (OA (VGL A u1 u2 B G) s.heap.size) (VGW A u1 u2 B G t (vg_names' (vg_tc' (vg_paved' (vg_takes' μ o33.1) o33.2.1) o33.2.2.1) o33.2.2.2)) → va_S (OA (VGL A u1 u2 B G) s.heap.size) s.heap H locs → W p l e (headSpec (ws_ yX2_paveFirstWay cX2_paveFirstWay 8 none) rm_X2_paveFirstWay).room s m ([.ref (A 0), .ref (G 0)] : List Value).toArray below meth c H locs 0 0 (MQ below (QM none D (VGW A u1 u2 B G t (vg_names' (vg_tc' (vg_paved' (vg_takes' μ res.1) res.2.1) res.2.2.1) res.2.2.2)) (VGL A u1 u2 B G) s.heap.size) ([.ref (A 0), .ref (G 0)] : List Value).toArray s 0 0 (OA (VGL A u1 u2 B G) s.heap.size)) (F0 m 110 ls [])) → ∀ (ls : Array Slot) (H : Heap) (locs : List Loc), lv_has ls 8 [(0, .ref (A 0)), (1, .ref (G 0)), (2, .long r1), (4, .int r2), (5, .int y5_17), (6, .int y6_17)] → va_P D vwCl (VGW A u1 u2 B G t (vg_names' (vg_tc' (vg_paved' (vg_takes' μ takes_17) paved_17) tc_17) names_17)) H → va_D (OA (VGL A u1 u2 B G) s.heap.size) (VGW A u1 u2 B G t (vg_names' (vg_tc' (vg_paved' (vg_takes' μ takes_17) paved_17) tc_17) names_17)) → va_S (OA (VGL A u1 u2 B G) s.heap.size) s.heap H locs → W p l e (headSpec (ws_ yX2_paveFirstWay cX2_paveFirstWay 8 none) rm_X2_paveFirstWay).room s m ([.ref (A 0), .ref (G 0)] : List Value).toArray below meth c H locs 0 0 (MQ below (QM none D (VGW A u1 u2 B G t (vg_names' (vg_tc' (vg_paved' (vg_takes' μ res.1) res.2.1) res.2.2.1) res.2.2.2)) (VGL A u1 u2 B G) s.heap.size) ([.ref (A 0), .ref (G 0)] : List Value).toArray s 0 0 (OA (VGL A u1 u2 B G) s.heap.size)) (F0 m 17 ls []) := by
    intro n
    induction n with
    | zero => intro y5_17 y6_17 takes_17 paved_17 tc_17 names_17 o33 h; exact absurd h (fun z => by cases z)
    | succ n ih =>
      intro y5_17 y6_17 takes_17 paved_17 tc_17 names_17 o33 h hK17 ls H locs hl hP hD hS
      replace h : f_X2_paveFirstWay_L17_b μ r1 r2 (f_X2_paveFirstWay_L17 μ r1 r2 n) y5_17 y6_17 takes_17 paved_17 tc_17 names_17 = some o33 := h
      unfold f_X2_paveFirstWay_L17_b at h
      have hSz : s.heap.size ≤ H.size := hS.1
      refine lv_iload hx hb dX2_paveFirstWay_17 (lv_at hl 5 rfl) ?_
      refine lv_iload hx hb dX2_paveFirstWay_19 (lv_at hl 3 rfl) ?_
      refine lv_icmp_ge (tgt := 110) hx hb dX2_paveFirstWay_21 (by decide) (fun hc => ?_) (fun hc => ?_)
      · have h := iteT hc h
        obtain rfl := Option.some.inj h
        exact hK17 ls H locs (lv_sub hl [] rfl) hP hD hS
      · have h := iteF hc h
        refine lv_aload_n hx hb dX2_paveFirstWay_24 rfl (lv_at hl 0 rfl) ?_
        refine lv_lload_n hx hb dX2_paveFirstWay_25 rfl (lv_at hl 2 rfl) ?_
        refine lv_iload hx hb dX2_paveFirstWay_26 (lv_at hl 5 rfl) ?_
        obtain ⟨r34, er34, h⟩ := obind h
        refine call_M (va_runV (As := [.long r1, .int y6_17]) (rest := []) ⟨hx, hb, hml, hown, hts⟩ (c_X2_findTakes l z0 D t A u1 u2 takes_17 r1 y6_17 _ H.size er34) (kV hts qw264 qw266 qs3 qw6 qw267 ok_X2_findTakes ⟨Nat.le_of_ble_eq_true rfl, Nat.le_of_ble_eq_true rfl⟩) ⟨PM.blind, va_recv hK (sub_VG_P (μ := vg_names' (vg_tc' (vg_paved' (vg_takes' μ takes_17) paved_17) tc_17) names_17) hP) (ci := 3) (q0 := 0) rfl rfl, fun U hU hW => ⟨rfl, by rw [hU]; exact (hC.at hS hZ).warm hW, by rw [hU], by rw [hU]; exact (sub_VG_P (μ := vg_names' (vg_tc' (vg_paved' (vg_takes' μ takes_17) paved_17) tc_17) names_17) hP), ⟨(subD_VG_P (μ := vg_names' (vg_tc' (vg_paved' (vg_takes' μ takes_17) paved_17) tc_17) names_17) hD).1, fun _ _ h9 => Or.inl (in_map (L := (PL A u1 u2)) rfl h9)⟩, fun q hq => hZ q (OA.ofD (subD_VG_P (μ := vg_names' (vg_tc' (vg_paved' (vg_takes' μ takes_17) paved_17) tc_17) names_17) hD) rfl hSz q hq)⟩⟩ rfl rfl hl.1 rfl (lv_room (Nat.le_of_ble_eq_true rfl)) dX2_paveFirstWay_28 ⟨Nat.le_of_ble_eq_true rfl, Nat.le_of_ble_eq_true rfl⟩) hS (OA.ofD (subD_VG_P (μ := vg_names' (vg_tc' (vg_paved' (vg_takes' μ takes_17) paved_17) tc_17) names_17) hD) rfl hSz) (fun H locs hP1 hD1 hS _ hk1 => ?_)
        obtain ⟨hP, hD⟩ := back_VG_P (μ := vg_names' (vg_tc' (vg_paved' (vg_takes' μ takes_17) paved_17) tc_17) names_17) hP hD hk1 hP1
        have hP : va_P D vwCl (VGW A u1 u2 B G t (vg_names' (vg_tc' (vg_paved' (vg_takes' μ r34) paved_17) tc_17) names_17)) H := hP
        have hD : va_D (OA (VGL A u1 u2 B G) s.heap.size) (VGW A u1 u2 B G t (vg_names' (vg_tc' (vg_paved' (vg_takes' μ r34) paved_17) tc_17) names_17)) := hD
        have hSz : s.heap.size ≤ H.size := hS.1
        refine lv_lload_n hx hb dX2_paveFirstWay_31 rfl (lv_at hl 2 rfl) ?_
        refine lv_iload hx hb dX2_paveFirstWay_32 (lv_at hl 5 rfl) ?_
        obtain ⟨r35, er35, h⟩ := obind h
        refine call_R (va_runSN (As := [.long r1, .int y6_17]) (rest := []) ⟨hx, hb, hml, hown, hts⟩ (c_X4_holds l z0 D t r1 y6_17 _ er35) ⟨kN hts (hC.2.1 _ qw277) qw1 qw279 ok_X4_holds ⟨Nat.le_of_ble_eq_true rfl, Nat.le_of_ble_eq_true rfl⟩, hts _ qw278, trivial⟩ ⟨PR.blind, fun U hU hW => ⟨rfl, by rw [hU]; exact (hC.at hS hZ).warm hW, by rw [hU]; exact va_P_nil⟩⟩ rfl rfl hl.1 rfl (lv_room (Nat.le_of_ble_eq_true rfl)) dX2_paveFirstWay_34 ⟨Nat.le_of_ble_eq_true rfl, Nat.le_of_ble_eq_true rfl⟩) ?_
        obtain ⟨o37, eo37, h⟩ := obind h
        have hJ59_o37 : ∀ (ls : Array Slot) (H : Heap) (locs : List Loc), lv_has ls 8 [(0, .ref (A 0)), (1, .ref (G 0)), (2, .long r1), (4, .int r2), (5, .int y5_17), (6, .int y6_17)] → va_P D vwCl (VGW A u1 u2 B G t (vg_names' (vg_tc' (vg_paved' (vg_takes' μ r34) paved_17) tc_17) names_17)) H → va_D (OA (VGL A u1 u2 B G) s.heap.size) (VGW A u1 u2 B G t (vg_names' (vg_tc' (vg_paved' (vg_takes' μ r34) paved_17) tc_17) names_17)) → va_S (OA (VGL A u1 u2 B G) s.heap.size) s.heap H locs → W p l e (headSpec (ws_ yX2_paveFirstWay cX2_paveFirstWay 8 none) rm_X2_paveFirstWay).room s m ([.ref (A 0), .ref (G 0)] : List Value).toArray below meth c H locs 0 0 (MQ below (QM none D (VGW A u1 u2 B G t (vg_names' (vg_tc' (vg_paved' (vg_takes' μ res.1) res.2.1) res.2.2.1) res.2.2.2)) (VGL A u1 u2 B G) s.heap.size) ([.ref (A 0), .ref (G 0)] : List Value).toArray s 0 0 (OA (VGL A u1 u2 B G) s.heap.size)) (F0 m 59 ls [.int o37]) := by
          intro ls H locs hl hP hD hS
          have hSz : s.heap.size ≤ H.size := hS.1
          refine lv_istore (lv' := [(7, .int o37), (0, .ref (A 0)), (1, .ref (G 0)), (2, .long r1), (4, .int r2), (5, .int y5_17), (6, .int y6_17)]) hx hb dX2_paveFirstWay_59 hl (by decide) rfl (fun ls hl => ?_)
          refine lv_iload hx hb dX2_paveFirstWay_61 (lv_at hl 0 rfl) ?_
          refine lv_iconst (v := (-1)) hx hb dX2_paveFirstWay_63 (by decide) ?_
          obtain ⟨o43, eo43, h⟩ := obind h
          have hJ104_o43 : ∀ (ls : Array Slot) (H : Heap) (locs : List Loc), lv_has ls 8 [(0, .ref (A 0)), (1, .ref (G 0)), (2, .long r1), (4, .int r2), (5, .int o43.1), (6, .int y6_17)] → va_P D vwCl (VGW A u1 u2 B G t (vg_names' (vg_tc' (vg_paved' (vg_takes' μ r34) o43.2.1) o43.2.2.1) o43.2.2.2)) H → va_D (OA (VGL A u1 u2 B G) s.heap.size) (VGW A u1 u2 B G t (vg_names' (vg_tc' (vg_paved' (vg_takes' μ r34) o43.2.1) o43.2.2.1) o43.2.2.2)) → va_S (OA (VGL A u1 u2 B G) s.heap.size) s.heap H locs → W p l e (headSpec (ws_ yX2_paveFirstWay cX2_paveFirstWay 8 none) rm_X2_paveFirstWay).room s m ([.ref (A 0), .ref (G 0)] : List Value).toArray below meth c H locs 0 0 (MQ below (QM none D (VGW A u1 u2 B G t (vg_names' (vg_tc' (vg_paved' (vg_takes' μ res.1) res.2.1) res.2.2.1) res.2.2.2)) (VGL A u1 u2 B G) s.heap.size) ([.ref (A 0), .ref (G 0)] : List Value).toArray s 0 0 (OA (VGL A u1 u2 B G) s.heap.size)) (F0 m 104 ls []) := by
            intro ls H locs hl hP hD hS
            have hSz : s.heap.size ≤ H.size := hS.1
            obtain ⟨x48, ex48, h⟩ := jlet_some h
            refine lv_iinc (v := x48) (lv' := [(6, .int x48), (0, .ref (A 0)), (1, .ref (G 0)), (2, .long r1), (4, .int r2), (5, .int o43.1)]) hx hb dX2_paveFirstWay_104 hl (k := 5) rfl (by rw [ex48]; rfl) (by decide) rfl (fun ls hl => ?_)
            refine lv_goto (tgt := 17) hx hb dX2_paveFirstWay_107 (by decide) ?_
            exact ih _ _ _ _ _ _ _ h hK17 ls H locs (lv_sub hl [1, 2, 3, 4, 5, 0] rfl) hP hD hS
          have h := eo43
          clear eo43
          refine lv_icmp_ne (tgt := 76) hx hb dX2_paveFirstWay_64 (by decide) (fun hc => ?_) (fun hc => ?_)
          · have h := iteF hc h
            refine lv_aload_n hx hb dX2_paveFirstWay_76 rfl (lv_at hl 2 rfl) ?_
            refine lv_iload hx hb dX2_paveFirstWay_77 (lv_at hl 6 rfl) ?_
            refine lv_iload hx hb dX2_paveFirstWay_79 (lv_at hl 0 rfl) ?_
            obtain ⟨r44, er44, h⟩ := obind h
            refine call_R (va_runS (As := [.int y6_17, .int o37]) (rest := [.ref (G 0)]) ⟨hx, hb, hml, hown, hts⟩ (c_X2_blockColumn l z0 D t y6_17 o37 _ er44) (kS hts qw268 qw269 qw6 qw270 ok_X2_blockColumn ⟨Nat.le_of_ble_eq_true rfl, Nat.le_of_ble_eq_true rfl⟩) ⟨PR.blind, fun U hU hW => ⟨rfl, by rw [hU]; exact (hC.at hS hZ).warm hW, by rw [hU]; exact va_P_nil⟩⟩ rfl rfl hl.1 rfl (lv_room (Nat.le_of_ble_eq_true rfl)) dX2_paveFirstWay_81 ⟨Nat.le_of_ble_eq_true rfl, Nat.le_of_ble_eq_true rfl⟩) ?_
            refine lv_iload hx hb dX2_paveFirstWay_84 (lv_at hl 6 rfl) ?_
            refine lv_bipush (v := (8)) hx hb dX2_paveFirstWay_86 (by decide) ?_
            refine lv_idiv hx hb dX2_paveFirstWay_88 (by decide) ?_
            refine lv_iload hx hb dX2_paveFirstWay_89 (lv_at hl 0 rfl) ?_
            obtain ⟨r45, er45, h⟩ := obind h
            refine call_M (va_runV (As := [.int r44, .int (y6_17 / (8 : Int32)), .int o37]) (rest := []) ⟨hx, hb, hml, hown, hts⟩ (c_X1_putTriple l z0 D t G ((vg_wide μ), (vg_high μ), (vg_pond μ), (vg_walls μ), paved_17, tc_17, (vg_flips μ), (vg_refused μ), names_17) r44 (y6_17 / (8 : Int32)) o37 _ H.size er45) (kV hts qw782 qw731 qw732 qw7 qw733 ok_X1_putTriple ⟨Nat.le_of_ble_eq_true rfl, Nat.le_of_ble_eq_true rfl⟩) ⟨PM.blind, va_recv hK (sub_VG_G (μ := vg_names' (vg_tc' (vg_paved' (vg_takes' μ r34) paved_17) tc_17) names_17) hP) (ci := 2) (q0 := 0) rfl rfl, fun U hU hW => ⟨rfl, by rw [hU]; exact (hC.at hS hZ).warm hW, by rw [hU], by rw [hU]; exact (sub_VG_G (μ := vg_names' (vg_tc' (vg_paved' (vg_takes' μ r34) paved_17) tc_17) names_17) hP), ⟨(subD_VG_G (μ := vg_names' (vg_tc' (vg_paved' (vg_takes' μ r34) paved_17) tc_17) names_17) hD).1, fun _ _ h9 => Or.inl (in_map (L := (GL G)) rfl h9)⟩, fun q hq => hZ q (OA.ofD (subD_VG_G (μ := vg_names' (vg_tc' (vg_paved' (vg_takes' μ r34) paved_17) tc_17) names_17) hD) rfl hSz q hq)⟩⟩ rfl rfl hl.1 rfl (lv_room (Nat.le_of_ble_eq_true rfl)) dX2_paveFirstWay_91 ⟨Nat.le_of_ble_eq_true rfl, Nat.le_of_ble_eq_true rfl⟩) hS (OA.ofD (subD_VG_G (μ := vg_names' (vg_tc' (vg_paved' (vg_takes' μ r34) paved_17) tc_17) names_17) hD) rfl hSz) (fun H locs hP1 hD1 hS _ hk1 => ?_)
            obtain ⟨hP, hD⟩ := back_VG_G (μ := vg_names' (vg_tc' (vg_paved' (vg_takes' μ r34) paved_17) tc_17) names_17) hP hD hk1 hP1
            have hP : va_P D vwCl (VGW A u1 u2 B G t (vg_names' (vg_tc' (vg_paved' (vg_takes' μ r34) r45.1) r45.2.1) r45.2.2)) H := hP
            have hD : va_D (OA (VGL A u1 u2 B G) s.heap.size) (VGW A u1 u2 B G t (vg_names' (vg_tc' (vg_paved' (vg_takes' μ r34) r45.1) r45.2.1) r45.2.2)) := hD
            have hSz : s.heap.size ≤ H.size := hS.1
            refine lv_aload_n hx hb dX2_paveFirstWay_94 rfl (lv_at hl 1 rfl) ?_
            refine lv_iload hx hb dX2_paveFirstWay_95 (lv_at hl 0 rfl) ?_
            refine lv_iload hx hb dX2_paveFirstWay_97 (lv_at hl 5 rfl) ?_
            obtain ⟨r46, er46, h⟩ := obind h
            refine call_R (va_runV (As := [.int o37, .int y5_17]) (rest := []) ⟨hx, hb, hml, hown, hts⟩ (c_X2_windowAfter l z0 D t A u1 u2 r34 o37 y5_17 _ er46) (kV hts qw292 qw294 qs7 qw6 qw295 ok_X2_windowAfter ⟨Nat.le_of_ble_eq_true rfl, Nat.le_of_ble_eq_true rfl⟩) ⟨PR.blind, va_recv hK (sub_VG_P (μ := vg_names' (vg_tc' (vg_paved' (vg_takes' μ r34) r45.1) r45.2.1) r45.2.2) hP) (ci := 3) (q0 := 0) rfl rfl, fun U hU hW => ⟨rfl, by rw [hU]; exact (hC.at hS hZ).warm hW, by rw [hU]; exact (sub_VG_P (μ := vg_names' (vg_tc' (vg_paved' (vg_takes' μ r34) r45.1) r45.2.1) r45.2.2) hP)⟩⟩ rfl rfl hl.1 rfl (lv_room (Nat.le_of_ble_eq_true rfl)) dX2_paveFirstWay_99 ⟨Nat.le_of_ble_eq_true rfl, Nat.le_of_ble_eq_true rfl⟩) ?_
            refine lv_istore (lv' := [(5, .int r46), (7, .int o37), (0, .ref (A 0)), (1, .ref (G 0)), (2, .long r1), (4, .int r2), (6, .int y6_17)]) hx hb dX2_paveFirstWay_102 hl (by decide) rfl (fun ls hl => ?_)
            obtain rfl := Option.some.inj h
            exact hJ104_o43 ls H locs (lv_sub hl [2, 3, 4, 5, 0, 6] rfl) hP hD hS
          · have h := iteT hc h
            refine lv_iload hx hb dX2_paveFirstWay_67 (lv_at hl 5 rfl) ?_
            refine lv_iconst (v := (1)) hx hb dX2_paveFirstWay_69 (by decide) ?_
            refine lv_ishr hx hb dX2_paveFirstWay_70 ?_
            obtain ⟨x47, ex47, h⟩ := jlet_some h
            refine topI ex47 ?_
            refine lv_istore (lv' := [(5, .int x47), (7, .int o37), (0, .ref (A 0)), (1, .ref (G 0)), (2, .long r1), (4, .int r2), (6, .int y6_17)]) hx hb dX2_paveFirstWay_71 hl (by decide) rfl (fun ls hl => ?_)
            refine lv_goto (tgt := 104) hx hb dX2_paveFirstWay_73 (by decide) ?_
            obtain rfl := Option.some.inj h
            exact hJ104_o43 ls H locs (lv_sub hl [2, 3, 4, 5, 0, 6] rfl) hP hD hS
        have h := eo37
        clear eo37
        refine lv_if_eq (tgt := 58) hx hb dX2_paveFirstWay_37 (by decide) (fun hc => ?_) (fun hc => ?_)
        · have h := iteT hc h
          refine lv_iconst (v := (-1)) hx hb dX2_paveFirstWay_58 (by decide) ?_
          obtain rfl := Option.some.inj h
          exact hJ59_o37 ls H locs (lv_sub hl [0, 1, 2, 3, 4, 5] rfl) hP hD hS
        · have h := iteF hc h
          refine lv_iload hx hb dX2_paveFirstWay_40 (lv_at hl 4 rfl) ?_
          refine lv_iconst (v := (1)) hx hb dX2_paveFirstWay_42 (by decide) ?_
          refine lv_iand hx hb dX2_paveFirstWay_43 ?_
          refine lv_if_ne (tgt := 58) hx hb dX2_paveFirstWay_44 (by decide) (fun hc => ?_) (fun hc => ?_)
          · have h := iteF hc h
            refine lv_iconst (v := (-1)) hx hb dX2_paveFirstWay_58 (by decide) ?_
            obtain rfl := Option.some.inj h
            exact hJ59_o37 ls H locs (lv_sub hl [0, 1, 2, 3, 4, 5] rfl) hP hD hS
          · have h := iteT hc h
            refine lv_aload_n hx hb dX2_paveFirstWay_47 rfl (lv_at hl 0 rfl) ?_
            refine lv_iload hx hb dX2_paveFirstWay_48 (lv_at hl 5 rfl) ?_
            refine lv_iload hx hb dX2_paveFirstWay_50 (lv_at hl 4 rfl) ?_
            obtain ⟨r38, er38, h⟩ := obind h
            refine call_R (va_runV (As := [.int y6_17, .int y5_17]) (rest := []) ⟨hx, hb, hml, hown, hts⟩ (c_X2_leastTurn l z0 D t A u1 u2 B ((vg_rest μ), r34, (vg_reached μ), (vg_rnext μ)) y6_17 y5_17 _ er38) (kV hts qw778 qw780 qs25 qw6 qw781 ok_X2_leastTurn ⟨Nat.le_of_ble_eq_true rfl, Nat.le_of_ble_eq_true rfl⟩) ⟨PR.blind, va_recv hK (sub_VG_V (μ := vg_names' (vg_tc' (vg_paved' (vg_takes' μ r34) paved_17) tc_17) names_17) hP) (ci := 3) (q0 := 0) rfl rfl, fun U hU hW => ⟨rfl, by rw [hU]; exact (hC.at hS hZ).warm hW, by rw [hU]; exact (sub_VG_V (μ := vg_names' (vg_tc' (vg_paved' (vg_takes' μ r34) paved_17) tc_17) names_17) hP)⟩⟩ rfl rfl hl.1 rfl (lv_room (Nat.le_of_ble_eq_true rfl)) dX2_paveFirstWay_52 ⟨Nat.le_of_ble_eq_true rfl, Nat.le_of_ble_eq_true rfl⟩) ?_
            refine lv_goto (tgt := 59) hx hb dX2_paveFirstWay_55 (by decide) ?_
            obtain rfl := Option.some.inj h
            exact hJ59_o37 ls H locs (lv_sub hl [0, 1, 2, 3, 4, 5] rfl) hP hD hS
  refine hL17 _ _ _ _ _ _ _ _ eo33 (fun ls H locs hl hP hD hS => ?_) ls H locs (lv_sub hl [4, 5, 3, 2, 1, 0] rfl) hP hD hS
  have hSz : s.heap.size ≤ H.size := hS.1
  obtain rfl := Option.some.inj h
  exact W.vret hx hb hr (fun t ht hW => ⟨rfl, by rw [ht]; exact hP, hD, hS.F ht⟩) hS.2.2 dX2_paveFirstWay_110

abbrev rm_X1_isHalvable : Room := { frames := 0, cells := 0, slots := 0, locals := 0 }
theorem ok_X1_isHalvable : okY yX1_isHalvable 0 := ⟨by decide +kernel, by decide +kernel, by decide +kernel⟩
set_option maxHeartbeats 4000000 in
set_option maxRecDepth 100000 in
theorem c_X1_isHalvable (l : Launch) (z0 : Nat) (D : va_G) (t : Nat → ClassId) (G : Nat → Nat) (μ : GS) (res : Int32) (h : f_X1_isHalvable μ = some res) : Met l yX1_isHalvable (ws_ yX1_isHalvable cX1_isHalvable 2 (some .boolean)) rm_X1_isHalvable (PR z0 D t [.ref (G 0)] (GW G t μ)) (QR (some (.int res))) 0 0 FN := by
  refine Met.ofW (cc := cX1_isHalvable) (maxL := 2) (ret := (some .boolean)) (by decide) rfl ?_
  intro p e s m args below meth c s₁ Bo hml hv
  obtain ⟨rfl, hC, hP⟩ := hv
  have hx := Bo.exec
  have hb := Bo.bytes
  have hr := Bo.returns
  have hts : ∀ w ∈ LA, w.before _ s = true := fun w hw => atoms_spec (ws := ws_ yX1_isHalvable cX1_isHalvable 2 (some .boolean)) Bo.pre w (List.mem_cons_of_mem _ hw)
  have hown : s.vm.findClass RX1 = some m.cls := findClass_of_methodNamed Bo.named
  have hlocks := Bo.notSynchronized
  have hK := hC.1
  have hl := lv_entry ([.ref (G 0)]) (n := 2) (Nat.le_of_ble_eq_true rfl)
  rw [lg_entry_eq]
  generalize (lg_sl ([.ref (G 0)]) ++ List.replicate (2 - (lg_sl ([.ref (G 0)])).length) Slot.unset).toArray = ls at hl ⊢
  have hl : lv_has ls 2 [(0, .ref (G 0))] := hl
  unfold f_X1_isHalvable at h
  refine lv_aload_n hx hb dX1_isHalvable_0 rfl (lv_at hl 0 rfl) ?_
  refine va_get hx hb hts inX1 hown hK hP 0 rfl rfl 0 (by decide) (hts _ qw103) (fun _ h9 => h9) rfl dX1_isHalvable_1 ?_
  refine lv_iconst (v := (2)) hx hb dX1_isHalvable_4 (by decide) ?_
  obtain ⟨o1, eo1, h⟩ := obind h
  have hJ30_o1 : ∀ ls : Array Slot, lv_has ls 2 [(0, .ref (G 0))] → W p l e (headSpec (ws_ yX1_isHalvable cX1_isHalvable 2 (some .boolean)) rm_X1_isHalvable).room s m ([.ref (G 0)] : List Value).toArray below meth c s.heap [] 0 0 (MQ below (QR (some (.int res))) ([.ref (G 0)] : List Value).toArray s 0 0 FN) (F0 m 30 ls [.int o1]) := by
    intro ls hl
    refine lv_istore_n (lv' := [(1, .int o1), (0, .ref (G 0))]) hx hb dX1_isHalvable_30 rfl hl (by decide) rfl (fun ls hl => ?_)
    refine lv_iload_n hx hb dX1_isHalvable_31 rfl (lv_at hl 0 rfl) ?_
    refine lv_if_eq (tgt := 66) hx hb dX1_isHalvable_32 (by decide) (fun hc => ?_) (fun hc => ?_)
    · have h := iteT hc h
      refine lv_iconst (v := (0)) hx hb dX1_isHalvable_66 (by decide) ?_
      obtain rfl := Option.some.inj h
      exact W.zret hx hb hr rfl (fun t ht hW => ⟨rfl, ht⟩) (fun q hq => absurd hq List.not_mem_nil) dX1_isHalvable_67
    · have h := iteF hc h
      refine lv_aload_n hx hb dX1_isHalvable_35 rfl (lv_at hl 1 rfl) ?_
      refine va_get hx hb hts inX1 hown hK hP 0 rfl rfl 0 (by decide) (hts _ qw103) (fun _ h9 => h9) rfl dX1_isHalvable_36 ?_
      refine lv_aload_n hx hb dX1_isHalvable_39 rfl (lv_at hl 1 rfl) ?_
      refine va_get hx hb hts inX1 hown hK hP 0 rfl rfl 1 (by decide) (hts _ qw105) (fun _ h9 => h9) rfl dX1_isHalvable_40 ?_
      refine lv_icmp_ne (tgt := 66) hx hb dX1_isHalvable_43 (by decide) (fun hc => ?_) (fun hc => ?_)
      · have h := iteF hc h
        refine lv_iconst (v := (0)) hx hb dX1_isHalvable_66 (by decide) ?_
        obtain rfl := Option.some.inj h
        exact W.zret hx hb hr rfl (fun t ht hW => ⟨rfl, ht⟩) (fun q hq => absurd hq List.not_mem_nil) dX1_isHalvable_67
      · have h := iteT hc h
        refine lv_aload_n hx hb dX1_isHalvable_46 rfl (lv_at hl 1 rfl) ?_
        refine va_get hx hb hts inX1 hown hK hP 0 rfl rfl 3 (by decide) (hts _ qw109) (fun _ h9 => h9) rfl dX1_isHalvable_47 ?_
        refine lv_lconst (v := (0)) hx hb dX1_isHalvable_50 (by decide) ?_
        refine W.lcmp hx hb dX1_isHalvable_51 ?_
        refine lv_if_ne (tgt := 66) hx hb dX1_isHalvable_52 (by decide) (fun hc => ?_) (fun hc => ?_)
        · have h := iteF hc h
          refine lv_iconst (v := (0)) hx hb dX1_isHalvable_66 (by decide) ?_
          obtain rfl := Option.some.inj h
          exact W.zret hx hb hr rfl (fun t ht hW => ⟨rfl, ht⟩) (fun q hq => absurd hq List.not_mem_nil) dX1_isHalvable_67
        · have h := iteT hc h
          refine lv_aload_n hx hb dX1_isHalvable_55 rfl (lv_at hl 1 rfl) ?_
          refine va_get hx hb hts inX1 hown hK hP 0 rfl rfl 5 (by decide) (hts _ qw113) (fun _ h9 => h9) rfl dX1_isHalvable_56 ?_
          refine lv_if_ne (tgt := 66) hx hb dX1_isHalvable_59 (by decide) (fun hc => ?_) (fun hc => ?_)
          · have h := iteF hc h
            refine lv_iconst (v := (0)) hx hb dX1_isHalvable_66 (by decide) ?_
            obtain rfl := Option.some.inj h
            exact W.zret hx hb hr rfl (fun t ht hW => ⟨rfl, ht⟩) (fun q hq => absurd hq List.not_mem_nil) dX1_isHalvable_67
          · have h := iteT hc h
            refine lv_iconst (v := (1)) hx hb dX1_isHalvable_62 (by decide) ?_
            refine lv_goto (tgt := 67) hx hb dX1_isHalvable_63 (by decide) ?_
            obtain rfl := Option.some.inj h
            exact W.zret hx hb hr rfl (fun t ht hW => ⟨rfl, ht⟩) (fun q hq => absurd hq List.not_mem_nil) dX1_isHalvable_67
  have h := eo1
  clear eo1
  refine lv_icmp_eq (tgt := 25) hx hb dX1_isHalvable_5 (by decide) (fun hc => ?_) (fun hc => ?_)
  · have h := iteT hc h
    refine lv_iconst (v := (1)) hx hb dX1_isHalvable_25 (by decide) ?_
    refine lv_goto (tgt := 30) hx hb dX1_isHalvable_26 (by decide) ?_
    obtain rfl := Option.some.inj h
    exact hJ30_o1 ls (lv_sub hl [0] rfl)
  · have h := iteF hc h
    refine lv_aload_n hx hb dX1_isHalvable_8 rfl (lv_at hl 0 rfl) ?_
    refine va_get hx hb hts inX1 hown hK hP 0 rfl rfl 0 (by decide) (hts _ qw103) (fun _ h9 => h9) rfl dX1_isHalvable_9 ?_
    refine lv_iconst (v := (4)) hx hb dX1_isHalvable_12 (by decide) ?_
    refine lv_icmp_eq (tgt := 25) hx hb dX1_isHalvable_13 (by decide) (fun hc => ?_) (fun hc => ?_)
    · have h := iteT hc h
      refine lv_iconst (v := (1)) hx hb dX1_isHalvable_25 (by decide) ?_
      refine lv_goto (tgt := 30) hx hb dX1_isHalvable_26 (by decide) ?_
      obtain rfl := Option.some.inj h
      exact hJ30_o1 ls (lv_sub hl [0] rfl)
    · have h := iteF hc h
      refine lv_aload_n hx hb dX1_isHalvable_16 rfl (lv_at hl 0 rfl) ?_
      refine va_get hx hb hts inX1 hown hK hP 0 rfl rfl 0 (by decide) (hts _ qw103) (fun _ h9 => h9) rfl dX1_isHalvable_17 ?_
      refine lv_bipush (v := (8)) hx hb dX1_isHalvable_20 (by decide) ?_
      refine lv_icmp_ne (tgt := 29) hx hb dX1_isHalvable_22 (by decide) (fun hc => ?_) (fun hc => ?_)
      · have h := iteF hc h
        refine lv_iconst (v := (0)) hx hb dX1_isHalvable_29 (by decide) ?_
        obtain rfl := Option.some.inj h
        exact hJ30_o1 ls (lv_sub hl [0] rfl)
      · have h := iteT hc h
        refine lv_iconst (v := (1)) hx hb dX1_isHalvable_25 (by decide) ?_
        refine lv_goto (tgt := 30) hx hb dX1_isHalvable_26 (by decide) ?_
        obtain rfl := Option.some.inj h
        exact hJ30_o1 ls (lv_sub hl [0] rfl)

abbrev rm_X1_quarterTurn : Room := { frames := 0, cells := 0, slots := 0, locals := 0 }
theorem ok_X1_quarterTurn : okY yX1_quarterTurn 2 := ⟨by decide +kernel, by decide +kernel, by decide +kernel⟩
set_option maxHeartbeats 4000000 in
set_option maxRecDepth 100000 in
theorem c_X1_quarterTurn (l : Launch) (z0 : Nat) (D : va_G) (t : Nat → ClassId) (a1 : Int32) (a2 : Int32) (res : Int32) (h : f_X1_quarterTurn a1 a2 = some res) : Met l yX1_quarterTurn (ws_ yX1_quarterTurn cX1_quarterTurn 2 (some .int)) rm_X1_quarterTurn (PR z0 D t [.int a1, .int a2] []) (QR (some (.int res))) 0 0 FN := by
  refine Met.ofW (cc := cX1_quarterTurn) (maxL := 2) (ret := (some .int)) (by decide) rfl ?_
  intro p e s m args below meth c s₁ Bo hml hv
  obtain ⟨rfl, hC, hP⟩ := hv
  have hx := Bo.exec
  have hb := Bo.bytes
  have hr := Bo.returns
  have hts : ∀ w ∈ LA, w.before _ s = true := fun w hw => atoms_spec (ws := ws_ yX1_quarterTurn cX1_quarterTurn 2 (some .int)) Bo.pre w (List.mem_cons_of_mem _ hw)
  have hown : s.vm.findClass RX1 = some m.cls := findClass_of_methodNamed Bo.named
  have hlocks := Bo.notSynchronized
  have hK := hC.1
  have hl := lv_entry ([.int a1, .int a2]) (n := 2) (Nat.le_of_ble_eq_true rfl)
  rw [lg_entry_eq]
  generalize (lg_sl ([.int a1, .int a2]) ++ List.replicate (2 - (lg_sl ([.int a1, .int a2])).length) Slot.unset).toArray = ls at hl ⊢
  have hl : lv_has ls 2 [(0, .int a1), (1, .int a2)] := hl
  unfold f_X1_quarterTurn at h
  refine lv_iload_n hx hb dX1_quarterTurn_0 rfl (lv_at hl 1 rfl) ?_
  refine lv_if_eq (tgt := 14) hx hb dX1_quarterTurn_1 (by decide) (fun hc => ?_) (fun hc => ?_)
  · have h := iteT hc h
    refine lv_iload_n hx hb dX1_quarterTurn_14 rfl (lv_at hl 0 rfl) ?_
    refine lv_if_eq (tgt := 22) hx hb dX1_quarterTurn_15 (by decide) (fun hc => ?_) (fun hc => ?_)
    · have h := iteT hc h
      refine lv_iconst (v := (0)) hx hb dX1_quarterTurn_22 (by decide) ?_
      obtain rfl := Option.some.inj h
      exact W.iret hx hb hr (fun t ht hW => ⟨rfl, ht⟩) (fun q hq => absurd hq List.not_mem_nil) dX1_quarterTurn_23
    · have h := iteF hc h
      refine lv_iconst (v := (1)) hx hb dX1_quarterTurn_18 (by decide) ?_
      refine lv_goto (tgt := 23) hx hb dX1_quarterTurn_19 (by decide) ?_
      obtain rfl := Option.some.inj h
      exact W.iret hx hb hr (fun t ht hW => ⟨rfl, ht⟩) (fun q hq => absurd hq List.not_mem_nil) dX1_quarterTurn_23
  · have h := iteF hc h
    refine lv_iload_n hx hb dX1_quarterTurn_4 rfl (lv_at hl 0 rfl) ?_
    refine lv_if_eq (tgt := 12) hx hb dX1_quarterTurn_5 (by decide) (fun hc => ?_) (fun hc => ?_)
    · have h := iteT hc h
      refine lv_iconst (v := (3)) hx hb dX1_quarterTurn_12 (by decide) ?_
      obtain rfl := Option.some.inj h
      exact W.iret hx hb hr (fun t ht hW => ⟨rfl, ht⟩) (fun q hq => absurd hq List.not_mem_nil) dX1_quarterTurn_13
    · have h := iteF hc h
      refine lv_iconst (v := (2)) hx hb dX1_quarterTurn_8 (by decide) ?_
      refine lv_goto (tgt := 13) hx hb dX1_quarterTurn_9 (by decide) ?_
      obtain rfl := Option.some.inj h
      exact W.iret hx hb hr (fun t ht hW => ⟨rfl, ht⟩) (fun q hq => absurd hq List.not_mem_nil) dX1_quarterTurn_13

abbrev rm_X0_isFull : Room := { frames := 0, cells := 0, slots := 0, locals := 0 }
theorem ok_X0_isFull : okY yX0_isFull 0 := ⟨by decide +kernel, by decide +kernel, by decide +kernel⟩
set_option maxHeartbeats 4000000 in
set_option maxRecDepth 100000 in
theorem c_X0_isFull (l : Launch) (z0 : Nat) (D : va_G) (t : Nat → ClassId) (E : Nat → Nat) (μ : BS) (res : Int32) (h : f_X0_isFull μ = some res) : Met l yX0_isFull (ws_ yX0_isFull cX0_isFull 1 (some .boolean)) rm_X0_isFull (PR z0 D t [.ref (E 0)] (BW E t μ)) (QR (some (.int res))) 0 0 FN := by
  refine Met.ofW (cc := cX0_isFull) (maxL := 1) (ret := (some .boolean)) (by decide) rfl ?_
  intro p e s m args below meth c s₁ Bo hml hv
  obtain ⟨rfl, hC, hP⟩ := hv
  have hx := Bo.exec
  have hb := Bo.bytes
  have hr := Bo.returns
  have hts : ∀ w ∈ LA, w.before _ s = true := fun w hw => atoms_spec (ws := ws_ yX0_isFull cX0_isFull 1 (some .boolean)) Bo.pre w (List.mem_cons_of_mem _ hw)
  have hown : s.vm.findClass RX0 = some m.cls := findClass_of_methodNamed Bo.named
  have hlocks := Bo.notSynchronized
  have hK := hC.1
  have hl := lv_entry ([.ref (E 0)]) (n := 1) (Nat.le_of_ble_eq_true rfl)
  rw [lg_entry_eq]
  generalize (lg_sl ([.ref (E 0)]) ++ List.replicate (1 - (lg_sl ([.ref (E 0)])).length) Slot.unset).toArray = ls at hl ⊢
  have hl : lv_has ls 1 [(0, .ref (E 0))] := hl
  unfold f_X0_isFull at h
  refine lv_aload_n hx hb dX0_isFull_0 rfl (lv_at hl 0 rfl) ?_
  refine va_get hx hb hts inX0 hown hK hP 0 rfl rfl 0 (by decide) (hts _ qw68) (fun _ h9 => h9) rfl dX0_isFull_1 ?_
  refine lv_aload_n hx hb dX0_isFull_4 rfl (lv_at hl 0 rfl) ?_
  refine va_get hx hb hts inX0 hown hK hP 0 rfl rfl 1 (by decide) (hts _ qw70) (fun _ h9 => h9) rfl dX0_isFull_5 ?_
  refine va_alen hx hb hK hP 1 0 rfl rfl (v := 71) rfl dX0_isFull_8 ?_
  refine lv_icmp_lt (tgt := 16) hx hb dX0_isFull_9 (by decide) (fun hc => ?_) (fun hc => ?_)
  · have h := iteT hc h
    refine lv_iconst (v := (0)) hx hb dX0_isFull_16 (by decide) ?_
    obtain rfl := Option.some.inj h
    exact W.zret hx hb hr rfl (fun t ht hW => ⟨rfl, ht⟩) (fun q hq => absurd hq List.not_mem_nil) dX0_isFull_17
  · have h := iteF hc h
    refine lv_iconst (v := (1)) hx hb dX0_isFull_12 (by decide) ?_
    refine lv_goto (tgt := 17) hx hb dX0_isFull_13 (by decide) ?_
    obtain rfl := Option.some.inj h
    exact W.zret hx hb hr rfl (fun t ht hW => ⟨rfl, ht⟩) (fun q hq => absurd hq List.not_mem_nil) dX0_isFull_17

abbrev rm_X0_add : Room := { frames := 0, cells := 0, slots := 0, locals := 0 }
theorem ok_X0_add : okY yX0_add 1 := ⟨by decide +kernel, by decide +kernel, by decide +kernel⟩
set_option maxHeartbeats 4000000 in
set_option maxRecDepth 100000 in
theorem c_X0_add (l : Launch) (z0 : Nat) (D : va_G) (t : Nat → ClassId) (E : Nat → Nat) (μ : BS) (a1 : Int32) (res : (Int32) × (Nat → Int32)) (sz : Nat) (h : f_X0_add μ a1 = some res) : Met l yX0_add (ws_ yX0_add cX0_add 2 none) rm_X0_add (PM z0 D t [.ref (E 0), .int a1] (BW E t μ) (BL E) sz) (QM none D (BW E t (b_codes' (b_length' μ res.1) res.2)) (BL E) sz) 0 0 (OA (BL E) sz) := by
  refine Met.ofW (cc := cX0_add) (maxL := 2) (ret := none) (by decide) rfl ?_
  intro p e s m args below meth c s₁ Bo hml hv
  obtain ⟨rfl, hC, hsz, hP, hD, hZ⟩ := hv
  have hx := Bo.exec
  have hb := Bo.bytes
  have hr := Bo.returns
  have hts : ∀ w ∈ LA, w.before _ s = true := fun w hw => atoms_spec (ws := ws_ yX0_add cX0_add 2 none) Bo.pre w (List.mem_cons_of_mem _ hw)
  have hown : s.vm.findClass RX0 = some m.cls := findClass_of_methodNamed Bo.named
  have hlocks := Bo.notSynchronized
  have hK := hC.1
  subst hsz
  have hl := lv_entry ([.ref (E 0), .int a1]) (n := 2) (Nat.le_of_ble_eq_true rfl)
  rw [lg_entry_eq]
  generalize (lg_sl ([.ref (E 0), .int a1]) ++ List.replicate (2 - (lg_sl ([.ref (E 0), .int a1])).length) Slot.unset).toArray = ls at hl ⊢
  have hl : lv_has ls 2 [(0, .ref (E 0)), (1, .int a1)] := hl
  suffices K9 : ∀ (H : Heap) (locs : List Loc), va_P D vwCl (BW E t μ) H → va_S (OA (BL E) s.heap.size) s.heap H locs → W p l e (headSpec (ws_ yX0_add cX0_add 2 none) rm_X0_add).room s m ([.ref (E 0), .int a1] : List Value).toArray below meth c H locs 0 0 (MQ below (QM none D (BW E t (b_codes' (b_length' μ res.1) res.2)) (BL E) s.heap.size) ([.ref (E 0), .int a1] : List Value).toArray s 0 0 (OA (BL E) s.heap.size)) (F0 m 0 ls []) from K9 s.heap [] hP va_S.rf
  intro H locs hP hS
  have hSz : s.heap.size ≤ H.size := hS.1
  unfold f_X0_add at h
  refine lv_aload_n hx hb dX0_add_0 rfl (lv_at hl 0 rfl) ?_
  refine va_get hx hb hts inX0 hown hK hP 0 rfl rfl 0 (by decide) (hts _ qw68) (fun _ h9 => h9) rfl dX0_add_1 ?_
  refine lv_aload_n hx hb dX0_add_4 rfl (lv_at hl 0 rfl) ?_
  refine va_get hx hb hts inX0 hown hK hP 0 rfl rfl 1 (by decide) (hts _ qw70) (fun _ h9 => h9) rfl dX0_add_5 ?_
  refine va_alen hx hb hK hP 1 0 rfl rfl (v := 71) rfl dX0_add_8 ?_
  refine lv_icmp_ge (tgt := 32) hx hb dX0_add_9 (by decide) (fun hc => ?_) (fun hc => ?_)
  · have h := iteT hc h
    obtain rfl := Option.some.inj h
    exact W.vret hx hb hr (fun t ht hW => ⟨rfl, by rw [ht]; exact hP, hD, hS.F ht⟩) hS.2.2 dX0_add_32
  · have h := iteF hc h
    refine lv_aload_n hx hb dX0_add_12 rfl (lv_at hl 0 rfl) ?_
    refine va_get hx hb hts inX0 hown hK hP 0 rfl rfl 1 (by decide) (hts _ qw70) (fun _ h9 => h9) rfl dX0_add_13 ?_
    refine lv_aload_n hx hb dX0_add_16 rfl (lv_at hl 0 rfl) ?_
    refine va_get hx hb hts inX0 hown hK hP 0 rfl rfl 0 (by decide) (hts _ qw68) (fun _ h9 => h9) rfl dX0_add_17 ?_
    refine lv_iload_n hx hb dX0_add_20 rfl (lv_at hl 1 rfl) ?_
    obtain ⟨f1, ef1, h⟩ := obind h
    refine k_iast (ws' := (BW E t (b_codes' μ f1))) hx hb hK hP hD hS 1 rfl ef1 rfl dX0_add_21 (fun H locs hP hD hS => ?_)
    have hSz : s.heap.size ≤ H.size := hS.1
    refine lv_aload_n hx hb dX0_add_22 rfl (lv_at hl 0 rfl) ?_
    refine lv_dup hx hb dX0_add_23 rfl ?_
    refine va_get hx hb hts inX0 hown hK hP 0 rfl rfl 0 (by decide) (hts _ qw68) (fun _ h9 => h9) rfl dX0_add_24 ?_
    refine lv_iconst (v := (1)) hx hb dX0_add_27 (by decide) ?_
    refine lv_iadd hx hb dX0_add_28 ?_
    obtain ⟨x2, ex2, h⟩ := jlet_some h
    refine topI ex2 ?_
    refine va_put (D := D) (ci := 1) (v := .int x2) (ty := .int) hx hb hts inX0 tyX0 tyX0_ok nmX0 hown hK hP hD hS 0 rfl rfl 0 (by decide) (hts _ qw68) (fun _ h9 => h9) rfl (by decide +kernel) rfl rfl (Nat.le_of_ble_eq_true rfl) dX0_add_29 (fun H locs hP hD hS => ?_)
    have hP : va_P D vwCl (BW E t (b_codes' (b_length' μ x2) f1)) H := hP
    have hD : va_D (OA (BL E) s.heap.size) (BW E t (b_codes' (b_length' μ x2) f1)) := hD
    have hSz : s.heap.size ≤ H.size := hS.1
    obtain rfl := Option.some.inj h
    exact W.vret hx hb hr (fun t ht hW => ⟨rfl, by rw [ht]; exact hP, hD, hS.F ht⟩) hS.2.2 dX0_add_32

abbrev rm_X3_isWhole : Room := { frames := 1, cells := 0, slots := 0, locals := 20 }
theorem ok_X3_isWhole : okY yX3_isWhole 0 := ⟨by decide +kernel, by decide +kernel, by decide +kernel⟩
set_option maxHeartbeats 4000000 in
set_option maxRecDepth 100000 in
theorem c_X3_isWhole (l : Launch) (z0 : Nat) (D : va_G) (t : Nat → ClassId) (r0 : Nat) (μ : RDS) (res : Int32) (h : f_X3_isWhole μ = some res) : Met l yX3_isWhole (ws_ yX3_isWhole cX3_isWhole 1 (some .boolean)) rm_X3_isWhole (PR z0 D t [.ref r0] (RDW r0 t μ)) (QR (some (.int res))) 0 0 FN := by
  refine Met.ofW (cc := cX3_isWhole) (maxL := 1) (ret := (some .boolean)) (by decide) rfl ?_
  intro p e s m args below meth c s₁ Bo hml hv
  obtain ⟨rfl, hC, hP⟩ := hv
  have hx := Bo.exec
  have hb := Bo.bytes
  have hr := Bo.returns
  have hts : ∀ w ∈ LA, w.before _ s = true := fun w hw => atoms_spec (ws := ws_ yX3_isWhole cX3_isWhole 1 (some .boolean)) Bo.pre w (List.mem_cons_of_mem _ hw)
  have hown : s.vm.findClass RX3 = some m.cls := findClass_of_methodNamed Bo.named
  have hlocks := Bo.notSynchronized
  have hK := hC.1
  have hl := lv_entry ([.ref r0]) (n := 1) (Nat.le_of_ble_eq_true rfl)
  rw [lg_entry_eq]
  generalize (lg_sl ([.ref r0]) ++ List.replicate (1 - (lg_sl ([.ref r0])).length) Slot.unset).toArray = ls at hl ⊢
  have hl : lv_has ls 1 [(0, .ref (r0))] := hl
  unfold f_X3_isWhole at h
  refine lv_aload_n hx hb dX3_isWhole_0 rfl (lv_at hl 0 rfl) ?_
  refine va_get hx hb hts inX3 hown hK hP 0 rfl rfl 1 (by decide) (hts _ qw171) (fun _ h9 => h9) rfl dX3_isWhole_1 ?_
  refine lv_iconst (v := (1)) hx hb dX3_isWhole_4 (by decide) ?_
  refine lv_iadd hx hb dX3_isWhole_5 ?_
  refine lv_iconst (v := (2)) hx hb dX3_isWhole_6 (by decide) ?_
  refine lv_icmp_lt (tgt := 29) hx hb dX3_isWhole_7 (by decide) (fun hc => ?_) (fun hc => ?_)
  · have h := iteT hc h
    refine lv_iconst (v := (0)) hx hb dX3_isWhole_29 (by decide) ?_
    obtain rfl := Option.some.inj h
    exact W.zret hx hb hr rfl (fun t ht hW => ⟨rfl, ht⟩) (fun q hq => absurd hq List.not_mem_nil) dX3_isWhole_30
  · have h := iteF hc h
    refine lv_aload_n hx hb dX3_isWhole_10 rfl (lv_at hl 0 rfl) ?_
    obtain ⟨r1, er1, h⟩ := obind h
    refine call_R (va_runV (As := []) (rest := []) ⟨hx, hb, hml, hown, hts⟩ (c_X3_isRowWhole l z0 D t r0 μ _ er1) (kV hts qw201 qw203 qs0 qw24 qw204 ok_X3_isRowWhole ⟨Nat.le_of_ble_eq_true rfl, Nat.le_of_ble_eq_true rfl⟩) ⟨PR.blind, va_recv hK hP (ci := 4) (q0 := 0) rfl rfl, fun U hU hW => ⟨rfl, by rw [hU]; exact hC.warm hW, by rw [hU]; exact hP⟩⟩ rfl rfl hl.1 rfl (lv_room (Nat.le_of_ble_eq_true rfl)) dX3_isWhole_11 ⟨Nat.le_of_ble_eq_true rfl, Nat.le_of_ble_eq_true rfl⟩) ?_
    refine lv_if_eq (tgt := 29) hx hb dX3_isWhole_14 (by decide) (fun hc => ?_) (fun hc => ?_)
    · have h := iteT hc h
      refine lv_iconst (v := (0)) hx hb dX3_isWhole_29 (by decide) ?_
      obtain rfl := Option.some.inj h
      exact W.zret hx hb hr rfl (fun t ht hW => ⟨rfl, ht⟩) (fun q hq => absurd hq List.not_mem_nil) dX3_isWhole_30
    · have h := iteF hc h
      refine lv_aload_n hx hb dX3_isWhole_17 rfl (lv_at hl 0 rfl) ?_
      refine va_get hx hb hts inX3 hown hK hP 0 rfl rfl 2 (by decide) (hts _ qw173) (fun _ h9 => h9) rfl dX3_isWhole_18 ?_
      refine lv_iconst (v := (-1)) hx hb dX3_isWhole_21 (by decide) ?_
      refine lv_icmp_eq (tgt := 29) hx hb dX3_isWhole_22 (by decide) (fun hc => ?_) (fun hc => ?_)
      · have h := iteT hc h
        refine lv_iconst (v := (0)) hx hb dX3_isWhole_29 (by decide) ?_
        obtain rfl := Option.some.inj h
        exact W.zret hx hb hr rfl (fun t ht hW => ⟨rfl, ht⟩) (fun q hq => absurd hq List.not_mem_nil) dX3_isWhole_30
      · have h := iteF hc h
        refine lv_iconst (v := (1)) hx hb dX3_isWhole_25 (by decide) ?_
        refine lv_goto (tgt := 30) hx hb dX3_isWhole_26 (by decide) ?_
        obtain rfl := Option.some.inj h
        exact W.zret hx hb hr rfl (fun t ht hW => ⟨rfl, ht⟩) (fun q hq => absurd hq List.not_mem_nil) dX3_isWhole_30

abbrev rm_Jxe99ae_isNaN_b9ae7 : Room := { frames := 0, cells := 0, slots := 0, locals := 0 }
theorem ok_Jxe99ae_isNaN_b9ae7 : okY yJxe99ae_isNaN_b9ae7 1 := ⟨by decide +kernel, by decide +kernel, by decide +kernel⟩
set_option maxHeartbeats 4000000 in
set_option maxRecDepth 100000 in
theorem c_Jxe99ae_isNaN_b9ae7 (l : Launch) (z0 : Nat) (D : va_G) (t : Nat → ClassId) (a1 : UInt64) (res : Int32) (h : f_Jxe99ae_isNaN_b9ae7 a1 = some res) : Met l yJxe99ae_isNaN_b9ae7 (ws_ yJxe99ae_isNaN_b9ae7 cJxe99ae_isNaN_b9ae7 2 (some .boolean)) rm_Jxe99ae_isNaN_b9ae7 (PR z0 D t [.double a1] []) (QR (some (.int res))) 0 0 FN := by
  refine Met.ofW (cc := cJxe99ae_isNaN_b9ae7) (maxL := 2) (ret := (some .boolean)) (by decide) rfl ?_
  intro p e s m args below meth c s₁ Bo hml hv
  obtain ⟨rfl, hC, hP⟩ := hv
  have hx := Bo.exec
  have hb := Bo.bytes
  have hr := Bo.returns
  have hts : ∀ w ∈ LA, w.before _ s = true := fun w hw => atoms_spec (ws := ws_ yJxe99ae_isNaN_b9ae7 cJxe99ae_isNaN_b9ae7 2 (some .boolean)) Bo.pre w (List.mem_cons_of_mem _ hw)
  have hown : s.vm.findClass RJxe99ae = some m.cls := findClass_of_methodNamed Bo.named
  have hlocks := Bo.notSynchronized
  have hK := hC.1
  have hl := lv_entry ([.double a1]) (n := 2) (Nat.le_of_ble_eq_true rfl)
  rw [lg_entry_eq]
  generalize (lg_sl ([.double a1]) ++ List.replicate (2 - (lg_sl ([.double a1])).length) Slot.unset).toArray = ls at hl ⊢
  have hl : lv_has ls 2 [(0, .double a1)] := hl
  unfold f_Jxe99ae_isNaN_b9ae7 at h
  refine lv_dload_n hx hb dJxe99ae_isNaN_b9ae7_0 rfl (lv_at hl 0 rfl) ?_
  refine lv_dload_n hx hb dJxe99ae_isNaN_b9ae7_1 rfl (lv_at hl 0 rfl) ?_
  refine lv_dcmp hx hb dJxe99ae_isNaN_b9ae7_2 ?_
  refine lv_if_eq (tgt := 10) hx hb dJxe99ae_isNaN_b9ae7_3 (by decide) (fun hc => ?_) (fun hc => ?_)
  · have h := iteT hc h
    refine lv_iconst (v := (0)) hx hb dJxe99ae_isNaN_b9ae7_10 (by decide) ?_
    obtain rfl := Option.some.inj h
    exact W.zret hx hb hr rfl (fun t ht hW => ⟨rfl, ht⟩) (fun q hq => absurd hq List.not_mem_nil) dJxe99ae_isNaN_b9ae7_11
  · have h := iteF hc h
    refine lv_iconst (v := (1)) hx hb dJxe99ae_isNaN_b9ae7_6 (by decide) ?_
    refine lv_goto (tgt := 11) hx hb dJxe99ae_isNaN_b9ae7_7 (by decide) ?_
    obtain rfl := Option.some.inj h
    exact W.zret hx hb hr rfl (fun t ht hW => ⟨rfl, ht⟩) (fun q hq => absurd hq List.not_mem_nil) dJxe99ae_isNaN_b9ae7_11

abbrev rm_Jxe99ae_doubleToLongBits_ccdee : Room := { frames := 1, cells := 0, slots := 0, locals := 40 }
theorem ok_Jxe99ae_doubleToLongBits_ccdee : okY yJxe99ae_doubleToLongBits_ccdee 1 := ⟨by decide +kernel, by decide +kernel, by decide +kernel⟩
set_option maxHeartbeats 4000000 in
set_option maxRecDepth 100000 in
theorem c_Jxe99ae_doubleToLongBits_ccdee (l : Launch) (z0 : Nat) (D : va_G) (t : Nat → ClassId) (a1 : UInt64) (res : Int64) (h : f_Jxe99ae_doubleToLongBits_ccdee a1 = some res) : Met l yJxe99ae_doubleToLongBits_ccdee (ws_ yJxe99ae_doubleToLongBits_ccdee cJxe99ae_doubleToLongBits_ccdee 2 (some .long)) rm_Jxe99ae_doubleToLongBits_ccdee (PR z0 D t [.double a1] []) (QR (some (.long res))) 0 0 FN := by
  refine Met.ofW (cc := cJxe99ae_doubleToLongBits_ccdee) (maxL := 2) (ret := (some .long)) (by decide) rfl ?_
  intro p e s m args below meth c s₁ Bo hml hv
  obtain ⟨rfl, hC, hP⟩ := hv
  have hx := Bo.exec
  have hb := Bo.bytes
  have hr := Bo.returns
  have hts : ∀ w ∈ LA, w.before _ s = true := fun w hw => atoms_spec (ws := ws_ yJxe99ae_doubleToLongBits_ccdee cJxe99ae_doubleToLongBits_ccdee 2 (some .long)) Bo.pre w (List.mem_cons_of_mem _ hw)
  have hown : s.vm.findClass RJxe99ae = some m.cls := findClass_of_methodNamed Bo.named
  have hlocks := Bo.notSynchronized
  have hK := hC.1
  have hl := lv_entry ([.double a1]) (n := 2) (Nat.le_of_ble_eq_true rfl)
  rw [lg_entry_eq]
  generalize (lg_sl ([.double a1]) ++ List.replicate (2 - (lg_sl ([.double a1])).length) Slot.unset).toArray = ls at hl ⊢
  have hl : lv_has ls 2 [(0, .double a1)] := hl
  unfold f_Jxe99ae_doubleToLongBits_ccdee at h
  refine lv_dload_n hx hb dJxe99ae_doubleToLongBits_ccdee_0 rfl (lv_at hl 0 rfl) ?_
  obtain ⟨r1, er1, h⟩ := obind h
  refine call_R (va_runS (As := [.double a1]) (rest := []) ⟨hx, hb, hml, hown, hts⟩ (c_Jxe99ae_isNaN_b9ae7 l z0 D t a1 _ er1) (kS hts qw1191 qw1192 qw25 qw1193 ok_Jxe99ae_isNaN_b9ae7 ⟨Nat.le_of_ble_eq_true rfl, Nat.le_of_ble_eq_true rfl⟩) ⟨PR.blind, fun U hU hW => ⟨rfl, by rw [hU]; exact hC.warm hW, by rw [hU]; exact va_P_nil⟩⟩ rfl rfl hl.1 rfl (lv_room (Nat.le_of_ble_eq_true rfl)) dJxe99ae_doubleToLongBits_ccdee_1 ⟨Nat.le_of_ble_eq_true rfl, Nat.le_of_ble_eq_true rfl⟩) ?_
  refine lv_if_ne (tgt := 12) hx hb dJxe99ae_doubleToLongBits_ccdee_4 (by decide) (fun hc => ?_) (fun hc => ?_)
  · have h := iteF hc h
    refine lv_ldc2 (v := (9221120237041090560)) hx hb hown (hts _ qw1197) dJxe99ae_doubleToLongBits_ccdee_12 ?_
    obtain rfl := Option.some.inj h
    exact W.lret hx hb hr (fun t ht hW => ⟨rfl, ht⟩) (fun q hq => absurd hq List.not_mem_nil) dJxe99ae_doubleToLongBits_ccdee_15
  · have h := iteT hc h
    refine lv_dload_n hx hb dJxe99ae_doubleToLongBits_ccdee_7 rfl (lv_at hl 0 rfl) ?_
    refine vn_d2l hx hb (hml.trans hl.1.symm) hown (hts _ qw1194) (hts _ qw1196) (hts _ qw1195) (hts _ qw25) (Nat.le_of_ble_eq_true rfl) (Nat.le_of_ble_eq_true rfl) dJxe99ae_doubleToLongBits_ccdee_8 ?_
    obtain rfl := Option.some.inj h
    exact W.lret hx hb hr (fun t ht hW => ⟨rfl, ht⟩) (fun q hq => absurd hq List.not_mem_nil) dJxe99ae_doubleToLongBits_ccdee_11

abbrev rm_X1_paveSquare_0 : Room := { frames := 0, cells := 0, slots := 0, locals := 0 }
theorem ok_X1_paveSquare_0 : okY yX1_paveSquare 4 := ⟨by decide +kernel, by decide +kernel, by decide +kernel⟩
theorem c_X1_paveSquare_0 (l : Launch) (z0 : Nat) (D : va_G) (t : Nat → ClassId) (G : Nat → Nat) (μ : GS) (a1 : Int32) (a2 : Int32) (a3 : Int32) (a4 : Int32) (res : (Int64) × (Int32) × (Nat → Int32)) (sz : Nat) (h : f_X1_paveSquare_0 μ a1 a2 a3 a4 = some res) : Met l yX1_paveSquare (ws_ yX1_paveSquare cX1_paveSquare 15 none) rm_X1_paveSquare_0 (PM z0 D t [.ref (G 0), .int a1, .int a2, .int a3, .int a4] (GW G t μ) (GL G) sz) (QM none D (GW G t (g_names' (g_tc' (g_paved' μ res.1) res.2.1) res.2.2)) (GL G) sz) 0 0 (OA (GL G) sz) := by
  unfold f_X1_paveSquare_0 at h
  cases h
