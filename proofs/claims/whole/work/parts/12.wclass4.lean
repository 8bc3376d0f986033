abbrev rm_X2_paveFirstWay : Room := { frames := 3, cells := 0, slots := 0, locals := 67 }
theorem ok_X2_paveFirstWay : okY yX2_paveFirstWay 1 := ⟨by decide +kernel, by decide +kernel, by decide +kernel⟩
set_option maxHeartbeats 4000000 in
set_option maxRecDepth 100000 in
theorem c_X2_paveFirstWay (l : Launch) (z0 : Nat) (D : va_G) (t : Nat → ClassId) (A : Nat → Nat) (B : Nat → Nat) (G : Nat → Nat) (μ : VGS) (res : (Nat → Int32) × (Int64) × (Int32) × (Nat → Int32)) (sz : Nat) (h : f_X2_paveFirstWay μ = some res) : Met l yX2_paveFirstWay (ws_ yX2_paveFirstWay cX2_paveFirstWay 8 none) rm_X2_paveFirstWay (PM z0 D t [.ref (A 0), .ref (G 0)] (VGW A B G t μ) (VGL A B G) sz) (QM none D (VGW A B G t (vg_names' (vg_tc' (vg_paved' (vg_takes' μ res.1) res.2.1) res.2.2.1) res.2.2.2)) (VGL A B G) sz) 0 0 (OA (VGL A B G) sz) := by
  refine Met.ofW (cc := cX2_paveFirstWay) (maxL := 8) (ret := none) (by decide) rfl ?_
  intro p e s m args below meth c s₁ Bo hml hv
  obtain ⟨rfl, hC, hsz, hP, hD, hZ⟩ := hv
  have hx := Bo.exec
  have hb := Bo.bytes
  have hr := Bo.returns
  have hts : ∀ w ∈ LA, w.before _ s = true := fun w hw => atoms_spec (ws := ws_ yX2_paveFirstWay cX2_paveFirstWay 8 none) Bo.pre w (List.mem_cons_of_mem _ hw)
  have hown : s.vm.findClass RX2 = some m.cls := findClass_of_methodNamed Bo.named
  have hlocks := Bo.notSynchronized
  have hK := hC.1
  subst hsz
  have hl := lv_entry ([.ref (A 0), .ref (G 0)]) (n := 8) (Nat.le_of_ble_eq_true rfl)
  rw [lg_entry_eq]
  generalize (lg_sl ([.ref (A 0), .ref (G 0)]) ++ List.replicate (8 - (lg_sl ([.ref (A 0), .ref (G 0)])).length) Slot.unset).toArray = ls at hl ⊢
  have hl : lv_has ls 8 [(0, .ref (A 0)), (1, .ref (G 0))] := hl
  suffices K9 : ∀ (H : Heap) (locs : List Loc), va_P D vwCl (VGW A B G t μ) H → va_S (OA (VGL A B G) s.heap.size) s.heap H locs → W p l e (headSpec (ws_ yX2_paveFirstWay cX2_paveFirstWay 8 none) rm_X2_paveFirstWay).room s m ([.ref (A 0), .ref (G 0)] : List Value).toArray below meth c H locs 0 0 (MQ below (QM none D (VGW A B G t (vg_names' (vg_tc' (vg_paved' (vg_takes' μ res.1) res.2.1) res.2.2.1) res.2.2.2)) (VGL A B G) s.heap.size) ([.ref (A 0), .ref (G 0)] : List Value).toArray s 0 0 (OA (VGL A B G) s.heap.size)) (F0 m 0 ls []) from K9 s.heap [] hP va_S.rf
  intro H locs hP hS
  have hSz : s.heap.size ≤ H.size := hS.1
  unfold f_X2_paveFirstWay at h
  refine lv_aload_n hx hb dX2_paveFirstWay_0 rfl (lv_at hl 1 rfl) ?_
  obtain ⟨r1, er1, h⟩ := obind h
  refine call_R (va_runV (As := []) (rest := []) ⟨hx, hb, hml, hown, hts⟩ (c_X1_freeCells l z0 D t G ((vg_wide μ), (vg_high μ), (vg_pond μ), (vg_walls μ), (vg_paved μ), (vg_tc μ), (vg_flips μ), (vg_refused μ), (vg_names μ)) _ er1) (kV hts qw777 qw225 qw226 qw7 qw227 ok_X1_freeCells ⟨Nat.le_of_ble_eq_true rfl, Nat.le_of_ble_eq_true rfl⟩) ⟨PR.blind, va_recv hK (sub_VG_G (μ := μ) hP) (ci := 2) (q0 := 0) rfl rfl, fun U hU hW => ⟨rfl, by rw [hU]; exact (hC.at hS hZ).warm hW, by rw [hU]; exact (sub_VG_G (μ := μ) hP)⟩⟩ rfl rfl hl.1 rfl (lv_room (Nat.le_of_ble_eq_true rfl)) dX2_paveFirstWay_1 ⟨Nat.le_of_ble_eq_true rfl, Nat.le_of_ble_eq_true rfl⟩) ?_
  refine lv_lstore_n (lv' := [(2, .long r1), (0, .ref (A 0)), (1, .ref (G 0))]) hx hb dX2_paveFirstWay_4 rfl hl (by decide) rfl (fun ls hl => ?_)
  refine lv_lload_n hx hb dX2_paveFirstWay_5 rfl (lv_at hl 0 rfl) ?_
  obtain ⟨r2, er2, h⟩ := obind h
  refine call_R (va_runS (As := [.long r1]) (rest := []) ⟨hx, hb, hml, hown, hts⟩ (c_X2_endOf l z0 D t r1 _ er2) (kS hts qw251 qw252 qw6 qw253 ok_X2_endOf ⟨Nat.le_of_ble_eq_true rfl, Nat.le_of_ble_eq_true rfl⟩) ⟨PR.blind, fun U hU hW => ⟨rfl, by rw [hU]; exact (hC.at hS hZ).warm hW, by rw [hU]; exact va_P_nil⟩⟩ rfl rfl hl.1 rfl (lv_room (Nat.le_of_ble_eq_true rfl)) dX2_paveFirstWay_6 ⟨Nat.le_of_ble_eq_true rfl, Nat.le_of_ble_eq_true rfl⟩) ?_
  refine lv_istore (lv' := [(4, .int r2), (2, .long r1), (0, .ref (A 0)), (1, .ref (G 0))]) hx hb dX2_paveFirstWay_9 hl (by decide) rfl (fun ls hl => ?_)
  refine lv_iconst (v := (0)) hx hb dX2_paveFirstWay_11 (by decide) ?_
  refine lv_istore (lv' := [(5, .int (0 : Int32)), (4, .int r2), (2, .long r1), (0, .ref (A 0)), (1, .ref (G 0))]) hx hb dX2_paveFirstWay_12 hl (by decide) rfl (fun ls hl => ?_)
  refine lv_iconst (v := (0)) hx hb dX2_paveFirstWay_14 (by decide) ?_
  refine lv_istore (lv' := [(6, .int (0 : Int32)), (5, .int (0 : Int32)), (4, .int r2), (2, .long r1), (0, .ref (A 0)), (1, .ref (G 0))]) hx hb dX2_paveFirstWay_15 hl (by decide) rfl (fun ls hl => ?_)
  obtain ⟨o33, eo33, h⟩ := obind h
  have hL17 : ∀ (n : Nat) (y5_17 : Int32) (y6_17 : Int32) (takes_17 : Nat → Int32) (paved_17 : Int64) (tc_17 : Int32) (names_17 : Nat → Int32) (o33 : (Nat → Int32) × (Int64) × (Int32) × (Nat → Int32)), f_X2_paveFirstWay_L17 μ r1 r2 n y5_17 y6_17 takes_17 paved_17 tc_17 names_17 = some o33 → (∀ (ls : Array Slot) (H : Heap) (locs : List Loc), lv_has ls 8 [] → va_P D vwCl (VGW A B G t (vg_names' (vg_tc' (vg_paved' (vg_takes' μ o33.1) o33.2.1) o33.2.2.1) o33.2.2.2)) H → va_D (OA (VGL A B G) s.heap.size) (VGW A B G t (vg_names' (vg_tc' (vg_paved' (vg_takes' μ o33.1) o33.2.1) o33.2.2.1) o33.2.2.2)) → va_S (OA (VGL A B G) s.heap.size) s.heap H locs → W p l e (headSpec (ws_ yX2_paveFirstWay cX2_paveFirstWay 8 none) rm_X2_paveFirstWay).room s m ([.ref (A 0), .ref (G 0)] : List Value).toArray below meth c H locs 0 0 (MQ below (QM none D (VGW A B G t (vg_names' (vg_tc' (vg_paved' (vg_takes' μ res.1) res.2.1) res.2.2.1) res.2.2.2)) (VGL A B G) s.heap.size) ([.ref (A 0), .ref (G 0)] : List Value).toArray s 0 0 (OA (VGL A B G) s.heap.size)) (F0 m 110 ls [])) → ∀ (ls : Array Slot) (H : Heap) (locs : List Loc), lv_has ls 8 [(0, .ref (A 0)), (1, .ref (G 0)), (2, .long r1), (4, .int r2), (5, .int y5_17), (6, .int y6_17)] → va_P D vwCl (VGW A B G t (vg_names' (vg_tc' (vg_paved' (vg_takes' μ takes_17) paved_17) tc_17) names_17)) H → va_D (OA (VGL A B G) s.heap.size) (VGW A B G t (vg_names' (vg_tc' (vg_paved' (vg_takes' μ takes_17) paved_17) tc_17) names_17)) → va_S (OA (VGL A B G) s.heap.size) s.heap H locs → W p l e (headSpec (ws_ yX2_paveFirstWay cX2_paveFirstWay 8 none) rm_X2_paveFirstWay).room s m ([.ref (A 0), .ref (G 0)] : List Value).toArray below meth c H locs 0 0 (MQ below (QM none D (VGW A B G t (vg_names' (vg_tc' (vg_paved' (vg_takes' μ res.1) res.2.1) res.2.2.1) res.2.2.2)) (VGL A B G) s.heap.size) ([.ref (A 0), .ref (G 0)] : List Value).toArray s 0 0 (OA (VGL A B G) s.heap.size)) (F0 m 17 ls []) := by
    intro n
    induction n with
    | zero => intro y5_17 y6_17 takes_17 paved_17 tc_17 names_17 o33 h; exact absurd h (fun z => by cases z)
    | succ n ih =>
      intro y5_17 y6_17 takes_17 paved_17 tc_17 names_17 o33 h hK17 ls H locs hl hP hD hS
      replace h : f_X2_paveFirstWay_L17_b μ r1 r2 (f_X2_paveFirstWay_L17 μ r1 r2 n) y5_17 y6_17 takes_17 paved_17 tc_17 names_17 = some o33 := h
      unfold f_X2_paveFirstWay_L17_b at h
      have hSz : s.heap.size ≤ H.size := hS.1
      refine lv_iload hx hb dX2_paveFirstWay_17 (lv_at hl 5 rfl) ?_
      refine lv_iload hx hb dX2_paveFirstWay_19 (lv_at hl 3 rfl) ?_
      refine lv_icmp_ge (tgt := 110) hx hb dX2_paveFirstWay_21 (by decide) (fun hc => ?_) (fun hc => ?_)
      · have h := iteT hc h
        obtain rfl := Option.some.inj h
        exact hK17 ls H locs (lv_sub hl [] rfl) hP hD hS
      · have h := iteF hc h
        refine lv_aload_n hx hb dX2_paveFirstWay_24 rfl (lv_at hl 0 rfl) ?_
        refine lv_lload_n hx hb dX2_paveFirstWay_25 rfl (lv_at hl 2 rfl) ?_
        refine lv_iload hx hb dX2_paveFirstWay_26 (lv_at hl 5 rfl) ?_
        obtain ⟨r34, er34, h⟩ := obind h
        refine call_M (va_runV (As := [.long r1, .int y6_17]) (rest := []) ⟨hx, hb, hml, hown, hts⟩ (c_X2_findTakes l z0 D t A takes_17 r1 y6_17 _ H.size er34) (kV hts qw264 qw266 qs3 qw6 qw267 ok_X2_findTakes ⟨Nat.le_of_ble_eq_true rfl, Nat.le_of_ble_eq_true rfl⟩) ⟨PM.blind, va_recv hK (sub_VG_P (μ := vg_names' (vg_tc' (vg_paved' (vg_takes' μ takes_17) paved_17) tc_17) names_17) hP) (ci := 3) (q0 := 0) rfl rfl, fun U hU hW => ⟨rfl, by rw [hU]; exact (hC.at hS hZ).warm hW, by rw [hU], by rw [hU]; exact (sub_VG_P (μ := vg_names' (vg_tc' (vg_paved' (vg_takes' μ takes_17) paved_17) tc_17) names_17) hP), ⟨(subD_VG_P (μ := vg_names' (vg_tc' (vg_paved' (vg_takes' μ takes_17) paved_17) tc_17) names_17) hD).1, fun _ _ h9 => Or.inl (in_map (L := (PL A)) rfl h9)⟩, fun q hq => hZ q (OA.mono in_VG_P hSz q hq)⟩⟩ rfl rfl hl.1 rfl (lv_room (Nat.le_of_ble_eq_true rfl)) dX2_paveFirstWay_28 ⟨Nat.le_of_ble_eq_true rfl, Nat.le_of_ble_eq_true rfl⟩) hS (OA.mono in_VG_P hSz) (fun H locs hP1 hD1 hS _ hk1 => ?_)
        obtain ⟨hP, hD⟩ := back_VG_P (μ := vg_names' (vg_tc' (vg_paved' (vg_takes' μ takes_17) paved_17) tc_17) names_17) hP hD hk1 hP1
        have hP : va_P D vwCl (VGW A B G t (vg_names' (vg_tc' (vg_paved' (vg_takes' μ r34) paved_17) tc_17) names_17)) H := hP
        have hD : va_D (OA (VGL A B G) s.heap.size) (VGW A B G t (vg_names' (vg_tc' (vg_paved' (vg_takes' μ r34) paved_17) tc_17) names_17)) := hD
        have hSz : s.heap.size ≤ H.size := hS.1
        refine lv_lload_n hx hb dX2_paveFirstWay_31 rfl (lv_at hl 2 rfl) ?_
        refine lv_iload hx hb dX2_paveFirstWay_32 (lv_at hl 5 rfl) ?_
        obtain ⟨r35, er35, h⟩ := obind h
        refine call_R (va_runSN (As := [.long r1, .int y6_17]) (rest := []) ⟨hx, hb, hml, hown, hts⟩ (c_X4_holds l z0 D t r1 y6_17 _ er35) ⟨kN hts (hC.2.1 _ qw277) qw1 qw279 ok_X4_holds ⟨Nat.le_of_ble_eq_true rfl, Nat.le_of_ble_eq_true rfl⟩, hts _ qw278, trivial⟩ ⟨PR.blind, fun U hU hW => ⟨rfl, by rw [hU]; exact (hC.at hS hZ).warm hW, by rw [hU]; exact va_P_nil⟩⟩ rfl rfl hl.1 rfl (lv_room (Nat.le_of_ble_eq_true rfl)) dX2_paveFirstWay_34 ⟨Nat.le_of_ble_eq_true rfl, Nat.le_of_ble_eq_true rfl⟩) ?_
        obtain ⟨o37, eo37, h⟩ := obind h
        have hJ59_o37 : ∀ (ls : Array Slot) (H : Heap) (locs : List Loc), lv_has ls 8 [(0, .ref (A 0)), (1, .ref (G 0)), (2, .long r1), (4, .int r2), (5, .int y5_17), (6, .int y6_17)] → va_P D vwCl (VGW A B G t (vg_names' (vg_tc' (vg_paved' (vg_takes' μ r34) paved_17) tc_17) names_17)) H → va_D (OA (VGL A B G) s.heap.size) (VGW A B G t (vg_names' (vg_tc' (vg_paved' (vg_takes' μ r34) paved_17) tc_17) names_17)) → va_S (OA (VGL A B G) s.heap.size) s.heap H locs → W p l e (headSpec (ws_ yX2_paveFirstWay cX2_paveFirstWay 8 none) rm_X2_paveFirstWay).room s m ([.ref (A 0), .ref (G 0)] : List Value).toArray below meth c H locs 0 0 (MQ below (QM none D (VGW A B G t (vg_names' (vg_tc' (vg_paved' (vg_takes' μ res.1) res.2.1) res.2.2.1) res.2.2.2)) (VGL A B G) s.heap.size) ([.ref (A 0), .ref (G 0)] : List Value).toArray s 0 0 (OA (VGL A B G) s.heap.size)) (F0 m 59 ls [.int o37]) := by
          intro ls H locs hl hP hD hS
          have hSz : s.heap.size ≤ H.size := hS.1
          refine lv_istore (lv' := [(7, .int o37), (0, .ref (A 0)), (1, .ref (G 0)), (2, .long r1), (4, .int r2), (5, .int y5_17), (6, .int y6_17)]) hx hb dX2_paveFirstWay_59 hl (by decide) rfl (fun ls hl => ?_)
          refine lv_iload hx hb dX2_paveFirstWay_61 (lv_at hl 0 rfl) ?_
          refine lv_iconst (v := (-1)) hx hb dX2_paveFirstWay_63 (by decide) ?_
          obtain ⟨o43, eo43, h⟩ := obind h
          have hJ104_o43 : ∀ (ls : Array Slot) (H : Heap) (locs : List Loc), lv_has ls 8 [(0, .ref (A 0)), (1, .ref (G 0)), (2, .long r1), (4, .int r2), (5, .int o43.1), (6, .int y6_17)] → va_P D vwCl (VGW A B G t (vg_names' (vg_tc' (vg_paved' (vg_takes' μ r34) o43.2.1) o43.2.2.1) o43.2.2.2)) H → va_D (OA (VGL A B G) s.heap.size) (VGW A B G t (vg_names' (vg_tc' (vg_paved' (vg_takes' μ r34) o43.2.1) o43.2.2.1) o43.2.2.2)) → va_S (OA (VGL A B G) s.heap.size) s.heap H locs → W p l e (headSpec (ws_ yX2_paveFirstWay cX2_paveFirstWay 8 none) rm_X2_paveFirstWay).room s m ([.ref (A 0), .ref (G 0)] : List Value).toArray below meth c H locs 0 0 (MQ below (QM none D (VGW A B G t (vg_names' (vg_tc' (vg_paved' (vg_takes' μ res.1) res.2.1) res.2.2.1) res.2.2.2)) (VGL A B G) s.heap.size) ([.ref (A 0), .ref (G 0)] : List Value).toArray s 0 0 (OA (VGL A B G) s.heap.size)) (F0 m 104 ls []) := by
            intro ls H locs hl hP hD hS
            have hSz : s.heap.size ≤ H.size := hS.1
            obtain ⟨x48, ex48, h⟩ := jlet_some h
            refine lv_iinc (v := x48) (lv' := [(6, .int x48), (0, .ref (A 0)), (1, .ref (G 0)), (2, .long r1), (4, .int r2), (5, .int o43.1)]) hx hb dX2_paveFirstWay_104 hl (k := 5) rfl (by rw [ex48]; rfl) (by decide) rfl (fun ls hl => ?_)
            refine lv_goto (tgt := 17) hx hb dX2_paveFirstWay_107 (by decide) ?_
            exact ih _ _ _ _ _ _ _ h hK17 ls H locs (lv_sub hl [1, 2, 3, 4, 5, 0] rfl) hP hD hS
          have h := eo43
          clear eo43
          refine lv_icmp_ne (tgt := 76) hx hb dX2_paveFirstWay_64 (by decide) (fun hc => ?_) (fun hc => ?_)
          · have h := iteF hc h
            refine lv_aload_n hx hb dX2_paveFirstWay_76 rfl (lv_at hl 2 rfl) ?_
            refine lv_iload hx hb dX2_paveFirstWay_77 (lv_at hl 6 rfl) ?_
            refine lv_iload hx hb dX2_paveFirstWay_79 (lv_at hl 0 rfl) ?_
            obtain ⟨r44, er44, h⟩ := obind h
            refine call_R (va_runS (As := [.int y6_17, .int o37]) (rest := [.ref (G 0)]) ⟨hx, hb, hml, hown, hts⟩ (c_X2_blockColumn l z0 D t y6_17 o37 _ er44) (kS hts qw268 qw269 qw6 qw270 ok_X2_blockColumn ⟨Nat.le_of_ble_eq_true rfl, Nat.le_of_ble_eq_true rfl⟩) ⟨PR.blind, fun U hU hW => ⟨rfl, by rw [hU]; exact (hC.at hS hZ).warm hW, by rw [hU]; exact va_P_nil⟩⟩ rfl rfl hl.1 rfl (lv_room (Nat.le_of_ble_eq_true rfl)) dX2_paveFirstWay_81 ⟨Nat.le_of_ble_eq_true rfl, Nat.le_of_ble_eq_true rfl⟩) ?_
            refine lv_iload hx hb dX2_paveFirstWay_84 (lv_at hl 6 rfl) ?_
            refine lv_bipush (v := (8)) hx hb dX2_paveFirstWay_86 (by decide) ?_
            refine lv_idiv hx hb dX2_paveFirstWay_88 (by decide) ?_
            refine lv_iload hx hb dX2_paveFirstWay_89 (lv_at hl 0 rfl) ?_
            obtain ⟨r45, er45, h⟩ := obind h
            refine call_M (va_runV (As := [.int r44, .int (y6_17 / (8 : Int32)), .int o37]) (rest := []) ⟨hx, hb, hml, hown, hts⟩ (c_X1_putTriple l z0 D t G ((vg_wide μ), (vg_high μ), (vg_pond μ), (vg_walls μ), paved_17, tc_17, (vg_flips μ), (vg_refused μ), names_17) r44 (y6_17 / (8 : Int32)) o37 _ H.size er45) (kV hts qw782 qw731 qw732 qw7 qw733 ok_X1_putTriple ⟨Nat.le_of_ble_eq_true rfl, Nat.le_of_ble_eq_true rfl⟩) ⟨PM.blind, va_recv hK (sub_VG_G (μ := vg_names' (vg_tc' (vg_paved' (vg_takes' μ r34) paved_17) tc_17) names_17) hP) (ci := 2) (q0 := 0) rfl rfl, fun U hU hW => ⟨rfl, by rw [hU]; exact (hC.at hS hZ).warm hW, by rw [hU], by rw [hU]; exact (sub_VG_G (μ := vg_names' (vg_tc' (vg_paved' (vg_takes' μ r34) paved_17) tc_17) names_17) hP), ⟨(subD_VG_G (μ := vg_names' (vg_tc' (vg_paved' (vg_takes' μ r34) paved_17) tc_17) names_17) hD).1, fun _ _ h9 => Or.inl (in_map (L := (GL G)) rfl h9)⟩, fun q hq => hZ q (OA.mono in_VG_G hSz q hq)⟩⟩ rfl rfl hl.1 rfl (lv_room (Nat.le_of_ble_eq_true rfl)) dX2_paveFirstWay_91 ⟨Nat.le_of_ble_eq_true rfl, Nat.le_of_ble_eq_true rfl⟩) hS (OA.mono in_VG_G hSz) (fun H locs hP1 hD1 hS _ hk1 => ?_)
            obtain ⟨hP, hD⟩ := back_VG_G (μ := vg_names' (vg_tc' (vg_paved' (vg_takes' μ r34) paved_17) tc_17) names_17) hP hD hk1 hP1
            have hP : va_P D vwCl (VGW A B G t (vg_names' (vg_tc' (vg_paved' (vg_takes' μ r34) r45.1) r45.2.1) r45.2.2)) H := hP
            have hD : va_D (OA (VGL A B G) s.heap.size) (VGW A B G t (vg_names' (vg_tc' (vg_paved' (vg_takes' μ r34) r45.1) r45.2.1) r45.2.2)) := hD
            have hSz : s.heap.size ≤ H.size := hS.1
            refine lv_aload_n hx hb dX2_paveFirstWay_94 rfl (lv_at hl 1 rfl) ?_
            refine lv_iload hx hb dX2_paveFirstWay_95 (lv_at hl 0 rfl) ?_
            refine lv_iload hx hb dX2_paveFirstWay_97 (lv_at hl 5 rfl) ?_
            obtain ⟨r46, er46, h⟩ := obind h
            refine call_R (va_runV (As := [.int o37, .int y5_17]) (rest := []) ⟨hx, hb, hml, hown, hts⟩ (c_X2_windowAfter l z0 D t A r34 o37 y5_17 _ er46) (kV hts qw292 qw294 qs7 qw6 qw295 ok_X2_windowAfter ⟨Nat.le_of_ble_eq_true rfl, Nat.le_of_ble_eq_true rfl⟩) ⟨PR.blind, va_recv hK (sub_VG_P (μ := vg_names' (vg_tc' (vg_paved' (vg_takes' μ r34) r45.1) r45.2.1) r45.2.2) hP) (ci := 3) (q0 := 0) rfl rfl, fun U hU hW => ⟨rfl, by rw [hU]; exact (hC.at hS hZ).warm hW, by rw [hU]; exact (sub_VG_P (μ := vg_names' (vg_tc' (vg_paved' (vg_takes' μ r34) r45.1) r45.2.1) r45.2.2) hP)⟩⟩ rfl rfl hl.1 rfl (lv_room (Nat.le_of_ble_eq_true rfl)) dX2_paveFirstWay_99 ⟨Nat.le_of_ble_eq_true rfl, Nat.le_of_ble_eq_true rfl⟩) ?_
            refine lv_istore (lv' := [(5, .int r46), (7, .int o37), (0, .ref (A 0)), (1, .ref (G 0)), (2, .long r1), (4, .int r2), (6, .int y6_17)]) hx hb dX2_paveFirstWay_102 hl (by decide) rfl (fun ls hl => ?_)
            obtain rfl := Option.some.inj h
            exact hJ104_o43 ls H locs (lv_sub hl [2, 3, 4, 5, 0, 6] rfl) hP hD hS
          · have h := iteT hc h
            refine lv_iload hx hb dX2_paveFirstWay_67 (lv_at hl 5 rfl) ?_
            refine lv_iconst (v := (1)) hx hb dX2_paveFirstWay_69 (by decide) ?_
            refine lv_ishr hx hb dX2_paveFirstWay_70 ?_
            obtain ⟨x47, ex47, h⟩ := jlet_some h
            refine topI ex47 ?_
            refine lv_istore (lv' := [(5, .int x47), (7, .int o37), (0, .ref (A 0)), (1, .ref (G 0)), (2, .long r1), (4, .int r2), (6, .int y6_17)]) hx hb dX2_paveFirstWay_71 hl (by decide) rfl (fun ls hl => ?_)
            refine lv_goto (tgt := 104) hx hb dX2_paveFirstWay_73 (by decide) ?_
            obtain rfl := Option.some.inj h
            exact hJ104_o43 ls H locs (lv_sub hl [2, 3, 4, 5, 0, 6] rfl) hP hD hS
        have h := eo37
        clear eo37
        refine lv_if_eq (tgt := 58) hx hb dX2_paveFirstWay_37 (by decide) (fun hc => ?_) (fun hc => ?_)
        · have h := iteT hc h
          refine lv_iconst (v := (-1)) hx hb dX2_paveFirstWay_58 (by decide) ?_
          obtain rfl := Option.some.inj h
          exact hJ59_o37 ls H locs (lv_sub hl [0, 1, 2, 3, 4, 5] rfl) hP hD hS
        · have h := iteF hc h
          refine lv_iload hx hb dX2_paveFirstWay_40 (lv_at hl 4 rfl) ?_
          refine lv_iconst (v := (1)) hx hb dX2_paveFirstWay_42 (by decide) ?_
          refine lv_iand hx hb dX2_paveFirstWay_43 ?_
          refine lv_if_ne (tgt := 58) hx hb dX2_paveFirstWay_44 (by decide) (fun hc => ?_) (fun hc => ?_)
          · have h := iteF hc h
            refine lv_iconst (v := (-1)) hx hb dX2_paveFirstWay_58 (by decide) ?_
            obtain rfl := Option.some.inj h
            exact hJ59_o37 ls H locs (lv_sub hl [0, 1, 2, 3, 4, 5] rfl) hP hD hS
          · have h := iteT hc h
            refine lv_aload_n hx hb dX2_paveFirstWay_47 rfl (lv_at hl 0 rfl) ?_
            refine lv_iload hx hb dX2_paveFirstWay_48 (lv_at hl 5 rfl) ?_
            refine lv_iload hx hb dX2_paveFirstWay_50 (lv_at hl 4 rfl) ?_
            obtain ⟨r38, er38, h⟩ := obind h
            refine call_R (va_runV (As := [.int y6_17, .int y5_17]) (rest := []) ⟨hx, hb, hml, hown, hts⟩ (c_X2_leastTurn l z0 D t A B ((vg_rest μ), r34, (vg_reached μ), (vg_rnext μ)) y6_17 y5_17 _ er38) (kV hts qw778 qw780 qs25 qw6 qw781 ok_X2_leastTurn ⟨Nat.le_of_ble_eq_true rfl, Nat.le_of_ble_eq_true rfl⟩) ⟨PR.blind, va_recv hK (sub_VG_V (μ := vg_names' (vg_tc' (vg_paved' (vg_takes' μ r34) paved_17) tc_17) names_17) hP) (ci := 3) (q0 := 0) rfl rfl, fun U hU hW => ⟨rfl, by rw [hU]; exact (hC.at hS hZ).warm hW, by rw [hU]; exact (sub_VG_V (μ := vg_names' (vg_tc' (vg_paved' (vg_takes' μ r34) paved_17) tc_17) names_17) hP)⟩⟩ rfl rfl hl.1 rfl (lv_room (Nat.le_of_ble_eq_true rfl)) dX2_paveFirstWay_52 ⟨Nat.le_of_ble_eq_true rfl, Nat.le_of_ble_eq_true rfl⟩) ?_
            refine lv_goto (tgt := 59) hx hb dX2_paveFirstWay_55 (by decide) ?_
            obtain rfl := Option.some.inj h
            exact hJ59_o37 ls H locs (lv_sub hl [0, 1, 2, 3, 4, 5] rfl) hP hD hS
  refine hL17 _ _ _ _ _ _ _ _ eo33 (fun ls H locs hl hP hD hS => ?_) ls H locs (lv_sub hl [4, 5, 3, 2, 1, 0] rfl) hP hD hS
  have hSz : s.heap.size ≤ H.size := hS.1
  obtain rfl := Option.some.inj h
  exact W.vret hx hb hr (fun t ht hW => ⟨rfl, by rw [ht]; exact hP, hD, hS.F ht⟩) hS.2.2 dX2_paveFirstWay_110

abbrev rm_X1_isHalvable : Room := { frames := 0, cells := 0, slots := 0, locals := 0 }
theorem ok_X1_isHalvable : okY yX1_isHalvable 0 := ⟨by decide +kernel, by decide +kernel, by decide +kernel⟩
set_option maxHeartbeats 4000000 in
set_option maxRecDepth 100000 in
theorem c_X1_isHalvable (l : Launch) (z0 : Nat) (D : va_G) (t : Nat → ClassId) (G : Nat → Nat) (μ : GS) (res : Int32) (h : f_X1_isHalvable μ = some res) : Met l yX1_isHalvable (ws_ yX1_isHalvable cX1_isHalvable 2 (some .boolean)) rm_X1_isHalvable (PR z0 D t [.ref (G 0)] (GW G t μ)) (QR (some (.int res))) 0 0 FN := by
  refine Met.ofW (cc := cX1_isHalvable) (maxL := 2) (ret := (some .boolean)) (by decide) rfl ?_
  intro p e s m args below meth c s₁ Bo hml hv
  obtain ⟨rfl, hC, hP⟩ := hv
  have hx := Bo.exec
  have hb := Bo.bytes
  have hr := Bo.returns
  have hts : ∀ w ∈ LA, w.before _ s = true := fun w hw => atoms_spec (ws := ws_ yX1_isHalvable cX1_isHalvable 2 (some .boolean)) Bo.pre w (List.mem_cons_of_mem _ hw)
  have hown : s.vm.findClass RX1 = some m.cls := findClass_of_methodNamed Bo.named
  have hlocks := Bo.notSynchronized
  have hK := hC.1
  have hl := lv_entry ([.ref (G 0)]) (n := 2) (Nat.le_of_ble_eq_true rfl)
  rw [lg_entry_eq]
  generalize (lg_sl ([.ref (G 0)]) ++ List.replicate (2 - (lg_sl ([.ref (G 0)])).length) Slot.unset).toArray = ls at hl ⊢
  have hl : lv_has ls 2 [(0, .ref (G 0))] := hl
  unfold f_X1_isHalvable at h
  refine lv_aload_n hx hb dX1_isHalvable_0 rfl (lv_at hl 0 rfl) ?_
  refine va_get hx hb hts inX1 hown hK hP 0 rfl rfl 0 (by decide) (hts _ qw103) (fun _ h9 => h9) rfl dX1_isHalvable_1 ?_
  refine lv_iconst (v := (2)) hx hb dX1_isHalvable_4 (by decide) ?_
  obtain ⟨o1, eo1, h⟩ := obind h
  have hJ30_o1 : ∀ ls : Array Slot, lv_has ls 2 [(0, .ref (G 0))] → W p l e (headSpec (ws_ yX1_isHalvable cX1_isHalvable 2 (some .boolean)) rm_X1_isHalvable).room s m ([.ref (G 0)] : List Value).toArray below meth c s.heap [] 0 0 (MQ below (QR (some (.int res))) ([.ref (G 0)] : List Value).toArray s 0 0 FN) (F0 m 30 ls [.int o1]) := by
    intro ls hl
    refine lv_istore_n (lv' := [(1, .int o1), (0, .ref (G 0))]) hx hb dX1_isHalvable_30 rfl hl (by decide) rfl (fun ls hl => ?_)
    refine lv_iload_n hx hb dX1_isHalvable_31 rfl (lv_at hl 0 rfl) ?_
    refine lv_if_eq (tgt := 66) hx hb dX1_isHalvable_32 (by decide) (fun hc => ?_) (fun hc => ?_)
    · have h := iteT hc h
      refine lv_iconst (v := (0)) hx hb dX1_isHalvable_66 (by decide) ?_
      obtain rfl := Option.some.inj h
      exact W.zret hx hb hr rfl (fun t ht hW => ⟨rfl, ht⟩) (fun q hq => absurd hq List.not_mem_nil) dX1_isHalvable_67
    · have h := iteF hc h
      refine lv_aload_n hx hb dX1_isHalvable_35 rfl (lv_at hl 1 rfl) ?_
      refine va_get hx hb hts inX1 hown hK hP 0 rfl rfl 0 (by decide) (hts _ qw103) (fun _ h9 => h9) rfl dX1_isHalvable_36 ?_
      refine lv_aload_n hx hb dX1_isHalvable_39 rfl (lv_at hl 1 rfl) ?_
      refine va_get hx hb hts inX1 hown hK hP 0 rfl rfl 1 (by decide) (hts _ qw105) (fun _ h9 => h9) rfl dX1_isHalvable_40 ?_
      refine lv_icmp_ne (tgt := 66) hx hb dX1_isHalvable_43 (by decide) (fun hc => ?_) (fun hc => ?_)
      · have h := iteF hc h
        refine lv_iconst (v := (0)) hx hb dX1_isHalvable_66 (by decide) ?_
        obtain rfl := Option.some.inj h
        exact W.zret hx hb hr rfl (fun t ht hW => ⟨rfl, ht⟩) (fun q hq => absurd hq List.not_mem_nil) dX1_isHalvable_67
      · have h := iteT hc h
        refine lv_aload_n hx hb dX1_isHalvable_46 rfl (lv_at hl 1 rfl) ?_
        refine va_get hx hb hts inX1 hown hK hP 0 rfl rfl 3 (by decide) (hts _ qw109) (fun _ h9 => h9) rfl dX1_isHalvable_47 ?_
        refine lv_lconst (v := (0)) hx hb dX1_isHalvable_50 (by decide) ?_
        refine W.lcmp hx hb dX1_isHalvable_51 ?_
        refine lv_if_ne (tgt := 66) hx hb dX1_isHalvable_52 (by decide) (fun hc => ?_) (fun hc => ?_)
        · have h := iteF hc h
          refine lv_iconst (v := (0)) hx hb dX1_isHalvable_66 (by decide) ?_
          obtain rfl := Option.some.inj h
          exact W.zret hx hb hr rfl (fun t ht hW => ⟨rfl, ht⟩) (fun q hq => absurd hq List.not_mem_nil) dX1_isHalvable_67
        · have h := iteT hc h
          refine lv_aload_n hx hb dX1_isHalvable_55 rfl (lv_at hl 1 rfl) ?_
          refine va_get hx hb hts inX1 hown hK hP 0 rfl rfl 5 (by decide) (hts _ qw113) (fun _ h9 => h9) rfl dX1_isHalvable_56 ?_
          refine lv_if_ne (tgt := 66) hx hb dX1_isHalvable_59 (by decide) (fun hc => ?_) (fun hc => ?_)
          · have h := iteF hc h
            refine lv_iconst (v := (0)) hx hb dX1_isHalvable_66 (by decide) ?_
            obtain rfl := Option.some.inj h
            exact W.zret hx hb hr rfl (fun t ht hW => ⟨rfl, ht⟩) (fun q hq => absurd hq List.not_mem_nil) dX1_isHalvable_67
          · have h := iteT hc h
            refine lv_iconst (v := (1)) hx hb dX1_isHalvable_62 (by decide) ?_
            refine lv_goto (tgt := 67) hx hb dX1_isHalvable_63 (by decide) ?_
            obtain rfl := Option.some.inj h
            exact W.zret hx hb hr rfl (fun t ht hW => ⟨rfl, ht⟩) (fun q hq => absurd hq List.not_mem_nil) dX1_isHalvable_67
  have h := eo1
  clear eo1
  refine lv_icmp_eq (tgt := 25) hx hb dX1_isHalvable_5 (by decide) (fun hc => ?_) (fun hc => ?_)
  · have h := iteT hc h
    refine lv_iconst (v := (1)) hx hb dX1_isHalvable_25 (by decide) ?_
    refine lv_goto (tgt := 30) hx hb dX1_isHalvable_26 (by decide) ?_
    obtain rfl := Option.some.inj h
    exact hJ30_o1 ls (lv_sub hl [0] rfl)
  · have h := iteF hc h
    refine lv_aload_n hx hb dX1_isHalvable_8 rfl (lv_at hl 0 rfl) ?_
    refine va_get hx hb hts inX1 hown hK hP 0 rfl rfl 0 (by decide) (hts _ qw103) (fun _ h9 => h9) rfl dX1_isHalvable_9 ?_
    refine lv_iconst (v := (4)) hx hb dX1_isHalvable_12 (by decide) ?_
    refine lv_icmp_eq (tgt := 25) hx hb dX1_isHalvable_13 (by decide) (fun hc => ?_) (fun hc => ?_)
    · have h := iteT hc h
      refine lv_iconst (v := (1)) hx hb dX1_isHalvable_25 (by decide) ?_
      refine lv_goto (tgt := 30) hx hb dX1_isHalvable_26 (by decide) ?_
      obtain rfl := Option.some.inj h
      exact hJ30_o1 ls (lv_sub hl [0] rfl)
    · have h := iteF hc h
      refine lv_aload_n hx hb dX1_isHalvable_16 rfl (lv_at hl 0 rfl) ?_
      refine va_get hx hb hts inX1 hown hK hP 0 rfl rfl 0 (by decide) (hts _ qw103) (fun _ h9 => h9) rfl dX1_isHalvable_17 ?_
      refine lv_bipush (v := (8)) hx hb dX1_isHalvable_20 (by decide) ?_
      refine lv_icmp_ne (tgt := 29) hx hb dX1_isHalvable_22 (by decide) (fun hc => ?_) (fun hc => ?_)
      · have h := iteF hc h
        refine lv_iconst (v := (0)) hx hb dX1_isHalvable_29 (by decide) ?_
        obtain rfl := Option.some.inj h
        exact hJ30_o1 ls (lv_sub hl [0] rfl)
      · have h := iteT hc h
        refine lv_iconst (v := (1)) hx hb dX1_isHalvable_25 (by decide) ?_
        refine lv_goto (tgt := 30) hx hb dX1_isHalvable_26 (by decide) ?_
        obtain rfl := Option.some.inj h
        exact hJ30_o1 ls (lv_sub hl [0] rfl)

abbrev rm_X1_quarterTurn : Room := { frames := 0, cells := 0, slots := 0, locals := 0 }
theorem ok_X1_quarterTurn : okY yX1_quarterTurn 2 := ⟨by decide +kernel, by decide +kernel, by decide +kernel⟩
set_option maxHeartbeats 4000000 in
set_option maxRecDepth 100000 in
theorem c_X1_quarterTurn (l : Launch) (z0 : Nat) (D : va_G) (t : Nat → ClassId) (a1 : Int32) (a2 : Int32) (res : Int32) (h : f_X1_quarterTurn a1 a2 = some res) : Met l yX1_quarterTurn (ws_ yX1_quarterTurn cX1_quarterTurn 2 (some .int)) rm_X1_quarterTurn (PR z0 D t [.int a1, .int a2] []) (QR (some (.int res))) 0 0 FN := by
  refine Met.ofW (cc := cX1_quarterTurn) (maxL := 2) (ret := (some .int)) (by decide) rfl ?_
  intro p e s m args below meth c s₁ Bo hml hv
  obtain ⟨rfl, hC, hP⟩ := hv
  have hx := Bo.exec
  have hb := Bo.bytes
  have hr := Bo.returns
  have hts : ∀ w ∈ LA, w.before _ s = true := fun w hw => atoms_spec (ws := ws_ yX1_quarterTurn cX1_quarterTurn 2 (some .int)) Bo.pre w (List.mem_cons_of_mem _ hw)
  have hown : s.vm.findClass RX1 = some m.cls := findClass_of_methodNamed Bo.named
  have hlocks := Bo.notSynchronized
  have hK := hC.1
  have hl := lv_entry ([.int a1, .int a2]) (n := 2) (Nat.le_of_ble_eq_true rfl)
  rw [lg_entry_eq]
  generalize (lg_sl ([.int a1, .int a2]) ++ List.replicate (2 - (lg_sl ([.int a1, .int a2])).length) Slot.unset).toArray = ls at hl ⊢
  have hl : lv_has ls 2 [(0, .int a1), (1, .int a2)] := hl
  unfold f_X1_quarterTurn at h
  refine lv_iload_n hx hb dX1_quarterTurn_0 rfl (lv_at hl 1 rfl) ?_
  refine lv_if_eq (tgt := 14) hx hb dX1_quarterTurn_1 (by decide) (fun hc => ?_) (fun hc => ?_)
  · have h := iteT hc h
    refine lv_iload_n hx hb dX1_quarterTurn_14 rfl (lv_at hl 0 rfl) ?_
    refine lv_if_eq (tgt := 22) hx hb dX1_quarterTurn_15 (by decide) (fun hc => ?_) (fun hc => ?_)
    · have h := iteT hc h
      refine lv_iconst (v := (0)) hx hb dX1_quarterTurn_22 (by decide) ?_
      obtain rfl := Option.some.inj h
      exact W.iret hx hb hr (fun t ht hW => ⟨rfl, ht⟩) (fun q hq => absurd hq List.not_mem_nil) dX1_quarterTurn_23
    · have h := iteF hc h
      refine lv_iconst (v := (1)) hx hb dX1_quarterTurn_18 (by decide) ?_
      refine lv_goto (tgt := 23) hx hb dX1_quarterTurn_19 (by decide) ?_
      obtain rfl := Option.some.inj h
      exact W.iret hx hb hr (fun t ht hW => ⟨rfl, ht⟩) (fun q hq => absurd hq List.not_mem_nil) dX1_quarterTurn_23
  · have h := iteF hc h
    refine lv_iload_n hx hb dX1_quarterTurn_4 rfl (lv_at hl 0 rfl) ?_
    refine lv_if_eq (tgt := 12) hx hb dX1_quarterTurn_5 (by decide) (fun hc => ?_) (fun hc => ?_)
    · have h := iteT hc h
      refine lv_iconst (v := (3)) hx hb dX1_quarterTurn_12 (by decide) ?_
      obtain rfl := Option.some.inj h
      exact W.iret hx hb hr (fun t ht hW => ⟨rfl, ht⟩) (fun q hq => absurd hq List.not_mem_nil) dX1_quarterTurn_13
    · have h := iteF hc h
      refine lv_iconst (v := (2)) hx hb dX1_quarterTurn_8 (by decide) ?_
      refine lv_goto (tgt := 13) hx hb dX1_quarterTurn_9 (by decide) ?_
      obtain rfl := Option.some.inj h
      exact W.iret hx hb hr (fun t ht hW => ⟨rfl, ht⟩) (fun q hq => absurd hq List.not_mem_nil) dX1_quarterTurn_13

abbrev rm_X0_isFull : Room := { frames := 0, cells := 0, slots := 0, locals := 0 }
theorem ok_X0_isFull : okY yX0_isFull 0 := ⟨by decide +kernel, by decide +kernel, by decide +kernel⟩
set_option maxHeartbeats 4000000 in
set_option maxRecDepth 100000 in
theorem c_X0_isFull (l : Launch) (z0 : Nat) (D : va_G) (t : Nat → ClassId) (E : Nat → Nat) (μ : BS) (res : Int32) (h : f_X0_isFull μ = some res) : Met l yX0_isFull (ws_ yX0_isFull cX0_isFull 1 (some .boolean)) rm_X0_isFull (PR z0 D t [.ref (E 0)] (BW E t μ)) (QR (some (.int res))) 0 0 FN := by
  refine Met.ofW (cc := cX0_isFull) (maxL := 1) (ret := (some .boolean)) (by decide) rfl ?_
  intro p e s m args below meth c s₁ Bo hml hv
  obtain ⟨rfl, hC, hP⟩ := hv
  have hx := Bo.exec
  have hb := Bo.bytes
  have hr := Bo.returns
  have hts : ∀ w ∈ LA, w.before _ s = true := fun w hw => atoms_spec (ws := ws_ yX0_isFull cX0_isFull 1 (some .boolean)) Bo.pre w (List.mem_cons_of_mem _ hw)
  have hown : s.vm.findClass RX0 = some m.cls := findClass_of_methodNamed Bo.named
  have hlocks := Bo.notSynchronized
  have hK := hC.1
  have hl := lv_entry ([.ref (E 0)]) (n := 1) (Nat.le_of_ble_eq_true rfl)
  rw [lg_entry_eq]
  generalize (lg_sl ([.ref (E 0)]) ++ List.replicate (1 - (lg_sl ([.ref (E 0)])).length) Slot.unset).toArray = ls at hl ⊢
  have hl : lv_has ls 1 [(0, .ref (E 0))] := hl
  unfold f_X0_isFull at h
  refine lv_aload_n hx hb dX0_isFull_0 rfl (lv_at hl 0 rfl) ?_
  refine va_get hx hb hts inX0 hown hK hP 0 rfl rfl 0 (by decide) (hts _ qw68) (fun _ h9 => h9) rfl dX0_isFull_1 ?_
  refine lv_aload_n hx hb dX0_isFull_4 rfl (lv_at hl 0 rfl) ?_
  refine va_get hx hb hts inX0 hown hK hP 0 rfl rfl 1 (by decide) (hts _ qw70) (fun _ h9 => h9) rfl dX0_isFull_5 ?_
  refine va_alen hx hb hK hP 1 0 rfl rfl (v := 71) rfl dX0_isFull_8 ?_
  refine lv_icmp_lt (tgt := 16) hx hb dX0_isFull_9 (by decide) (fun hc => ?_) (fun hc => ?_)
  · have h := iteT hc h
    refine lv_iconst (v := (0)) hx hb dX0_isFull_16 (by decide) ?_
    obtain rfl := Option.some.inj h
    exact W.zret hx hb hr rfl (fun t ht hW => ⟨rfl, ht⟩) (fun q hq => absurd hq List.not_mem_nil) dX0_isFull_17
  · have h := iteF hc h
    refine lv_iconst (v := (1)) hx hb dX0_isFull_12 (by decide) ?_
    refine lv_goto (tgt := 17) hx hb dX0_isFull_13 (by decide) ?_
    obtain rfl := Option.some.inj h
    exact W.zret hx hb hr rfl (fun t ht hW => ⟨rfl, ht⟩) (fun q hq => absurd hq List.not_mem_nil) dX0_isFull_17

abbrev rm_X0_add : Room := { frames := 0, cells := 0, slots := 0, locals := 0 }
theorem ok_X0_add : okY yX0_add 1 := ⟨by decide +kernel, by decide +kernel, by decide +kernel⟩
set_option maxHeartbeats 4000000 in
set_option maxRecDepth 100000 in
theorem c_X0_add (l : Launch) (z0 : Nat) (D : va_G) (t : Nat → ClassId) (E : Nat → Nat) (μ : BS) (a1 : Int32) (res : (Int32) × (Nat → Int32)) (sz : Nat) (h : f_X0_add μ a1 = some res) : Met l yX0_add (ws_ yX0_add cX0_add 2 none) rm_X0_add (PM z0 D t [.ref (E 0), .int a1] (BW E t μ) (BL E) sz) (QM none D (BW E t (b_codes' (b_length' μ res.1) res.2)) (BL E) sz) 0 0 (OA (BL E) sz) := by
  refine Met.ofW (cc := cX0_add) (maxL := 2) (ret := none) (by decide) rfl ?_
  intro p e s m args below meth c s₁ Bo hml hv
  obtain ⟨rfl, hC, hsz, hP, hD, hZ⟩ := hv
  have hx := Bo.exec
  have hb := Bo.bytes
  have hr := Bo.returns
  have hts : ∀ w ∈ LA, w.before _ s = true := fun w hw => atoms_spec (ws := ws_ yX0_add cX0_add 2 none) Bo.pre w (List.mem_cons_of_mem _ hw)
  have hown : s.vm.findClass RX0 = some m.cls := findClass_of_methodNamed Bo.named
  have hlocks := Bo.notSynchronized
  have hK := hC.1
  subst hsz
  have hl := lv_entry ([.ref (E 0), .int a1]) (n := 2) (Nat.le_of_ble_eq_true rfl)
  rw [lg_entry_eq]
  generalize (lg_sl ([.ref (E 0), .int a1]) ++ List.replicate (2 - (lg_sl ([.ref (E 0), .int a1])).length) Slot.unset).toArray = ls at hl ⊢
  have hl : lv_has ls 2 [(0, .ref (E 0)), (1, .int a1)] := hl
  suffices K9 : ∀ (H : Heap) (locs : List Loc), va_P D vwCl (BW E t μ) H → va_S (OA (BL E) s.heap.size) s.heap H locs → W p l e (headSpec (ws_ yX0_add cX0_add 2 none) rm_X0_add).room s m ([.ref (E 0), .int a1] : List Value).toArray below meth c H locs 0 0 (MQ below (QM none D (BW E t (b_codes' (b_length' μ res.1) res.2)) (BL E) s.heap.size) ([.ref (E 0), .int a1] : List Value).toArray s 0 0 (OA (BL E) s.heap.size)) (F0 m 0 ls []) from K9 s.heap [] hP va_S.rf
  intro H locs hP hS
  have hSz : s.heap.size ≤ H.size := hS.1
  unfold f_X0_add at h
  refine lv_aload_n hx hb dX0_add_0 rfl (lv_at hl 0 rfl) ?_
  refine va_get hx hb hts inX0 hown hK hP 0 rfl rfl 0 (by decide) (hts _ qw68) (fun _ h9 => h9) rfl dX0_add_1 ?_
  refine lv_aload_n hx hb dX0_add_4 rfl (lv_at hl 0 rfl) ?_
  refine va_get hx hb hts inX0 hown hK hP 0 rfl rfl 1 (by decide) (hts _ qw70) (fun _ h9 => h9) rfl dX0_add_5 ?_
  refine va_alen hx hb hK hP 1 0 rfl rfl (v := 71) rfl dX0_add_8 ?_
  refine lv_icmp_ge (tgt := 32) hx hb dX0_add_9 (by decide) (fun hc => ?_) (fun hc => ?_)
  · have h := iteT hc h
    obtain rfl := Option.some.inj h
    exact W.vret hx hb hr (fun t ht hW => ⟨rfl, by rw [ht]; exact hP, hD, hS.F ht⟩) hS.2.2 dX0_add_32
  · have h := iteF hc h
    refine lv_aload_n hx hb dX0_add_12 rfl (lv_at hl 0 rfl) ?_
    refine va_get hx hb hts inX0 hown hK hP 0 rfl rfl 1 (by decide) (hts _ qw70) (fun _ h9 => h9) rfl dX0_add_13 ?_
    refine lv_aload_n hx hb dX0_add_16 rfl (lv_at hl 0 rfl) ?_
    refine va_get hx hb hts inX0 hown hK hP 0 rfl rfl 0 (by decide) (hts _ qw68) (fun _ h9 => h9) rfl dX0_add_17 ?_
    refine lv_iload_n hx hb dX0_add_20 rfl (lv_at hl 1 rfl) ?_
    obtain ⟨f1, ef1, h⟩ := obind h
    refine k_iast (ws' := (BW E t (b_codes' μ f1))) hx hb hK hP hD hS 1 rfl ef1 rfl dX0_add_21 (fun H locs hP hD hS => ?_)
    have hSz : s.heap.size ≤ H.size := hS.1
    refine lv_aload_n hx hb dX0_add_22 rfl (lv_at hl 0 rfl) ?_
    refine lv_dup hx hb dX0_add_23 rfl ?_
    refine va_get hx hb hts inX0 hown hK hP 0 rfl rfl 0 (by decide) (hts _ qw68) (fun _ h9 => h9) rfl dX0_add_24 ?_
    refine lv_iconst (v := (1)) hx hb dX0_add_27 (by decide) ?_
    refine lv_iadd hx hb dX0_add_28 ?_
    obtain ⟨x2, ex2, h⟩ := jlet_some h
    refine topI ex2 ?_
    refine va_put (D := D) (ci := 1) (v := .int x2) (ty := .int) hx hb hts inX0 tyX0 tyX0_ok nmX0 hown hK hP hD hS 0 rfl rfl 0 (by decide) (hts _ qw68) (fun _ h9 => h9) rfl (by decide +kernel) rfl rfl (Nat.le_of_ble_eq_true rfl) dX0_add_29 (fun H locs hP hD hS => ?_)
    have hP : va_P D vwCl (BW E t (b_codes' (b_length' μ x2) f1)) H := hP
    have hD : va_D (OA (BL E) s.heap.size) (BW E t (b_codes' (b_length' μ x2) f1)) := hD
    have hSz : s.heap.size ≤ H.size := hS.1
    obtain rfl := Option.some.inj h
    exact W.vret hx hb hr (fun t ht hW => ⟨rfl, by rw [ht]; exact hP, hD, hS.F ht⟩) hS.2.2 dX0_add_32

abbrev rm_X3_isWhole : Room := { frames := 1, cells := 0, slots := 0, locals := 20 }
theorem ok_X3_isWhole : okY yX3_isWhole 0 := ⟨by decide +kernel, by decide +kernel, by decide +kernel⟩
set_option maxHeartbeats 4000000 in
set_option maxRecDepth 100000 in
theorem c_X3_isWhole (l : Launch) (z0 : Nat) (D : va_G) (t : Nat → ClassId) (r0 : Nat) (μ : RDS) (res : Int32) (h : f_X3_isWhole μ = some res) : Met l yX3_isWhole (ws_ yX3_isWhole cX3_isWhole 1 (some .boolean)) rm_X3_isWhole (PR z0 D t [.ref r0] (RDW r0 t μ)) (QR (some (.int res))) 0 0 FN := by
  refine Met.ofW (cc := cX3_isWhole) (maxL := 1) (ret := (some .boolean)) (by decide) rfl ?_
  intro p e s m args below meth c s₁ Bo hml hv
  obtain ⟨rfl, hC, hP⟩ := hv
  have hx := Bo.exec
  have hb := Bo.bytes
  have hr := Bo.returns
  have hts : ∀ w ∈ LA, w.before _ s = true := fun w hw => atoms_spec (ws := ws_ yX3_isWhole cX3_isWhole 1 (some .boolean)) Bo.pre w (List.mem_cons_of_mem _ hw)
  have hown : s.vm.findClass RX3 = some m.cls := findClass_of_methodNamed Bo.named
  have hlocks := Bo.notSynchronized
  have hK := hC.1
  have hl := lv_entry ([.ref r0]) (n := 1) (Nat.le_of_ble_eq_true rfl)
  rw [lg_entry_eq]
  generalize (lg_sl ([.ref r0]) ++ List.replicate (1 - (lg_sl ([.ref r0])).length) Slot.unset).toArray = ls at hl ⊢
  have hl : lv_has ls 1 [(0, .ref (r0))] := hl
  unfold f_X3_isWhole at h
  refine lv_aload_n hx hb dX3_isWhole_0 rfl (lv_at hl 0 rfl) ?_
  refine va_get hx hb hts inX3 hown hK hP 0 rfl rfl 1 (by decide) (hts _ qw171) (fun _ h9 => h9) rfl dX3_isWhole_1 ?_
  refine lv_iconst (v := (1)) hx hb dX3_isWhole_4 (by decide) ?_
  refine lv_iadd hx hb dX3_isWhole_5 ?_
  refine lv_iconst (v := (2)) hx hb dX3_isWhole_6 (by decide) ?_
  refine lv_icmp_lt (tgt := 29) hx hb dX3_isWhole_7 (by decide) (fun hc => ?_) (fun hc => ?_)
  · have h := iteT hc h
    refine lv_iconst (v := (0)) hx hb dX3_isWhole_29 (by decide) ?_
    obtain rfl := Option.some.inj h
    exact W.zret hx hb hr rfl (fun t ht hW => ⟨rfl, ht⟩) (fun q hq => absurd hq List.not_mem_nil) dX3_isWhole_30
  · have h := iteF hc h
    refine lv_aload_n hx hb dX3_isWhole_10 rfl (lv_at hl 0 rfl) ?_
    obtain ⟨r1, er1, h⟩ := obind h
    refine call_R (va_runV (As := []) (rest := []) ⟨hx, hb, hml, hown, hts⟩ (c_X3_isRowWhole l z0 D t r0 μ _ er1) (kV hts qw201 qw203 qs0 qw24 qw204 ok_X3_isRowWhole ⟨Nat.le_of_ble_eq_true rfl, Nat.le_of_ble_eq_true rfl⟩) ⟨PR.blind, va_recv hK hP (ci := 4) (q0 := 0) rfl rfl, fun U hU hW => ⟨rfl, by rw [hU]; exact hC.warm hW, by rw [hU]; exact hP⟩⟩ rfl rfl hl.1 rfl (lv_room (Nat.le_of_ble_eq_true rfl)) dX3_isWhole_11 ⟨Nat.le_of_ble_eq_true rfl, Nat.le_of_ble_eq_true rfl⟩) ?_
    refine lv_if_eq (tgt := 29) hx hb dX3_isWhole_14 (by decide) (fun hc => ?_) (fun hc => ?_)
    · have h := iteT hc h
      refine lv_iconst (v := (0)) hx hb dX3_isWhole_29 (by decide) ?_
      obtain rfl := Option.some.inj h
      exact W.zret hx hb hr rfl (fun t ht hW => ⟨rfl, ht⟩) (fun q hq => absurd hq List.not_mem_nil) dX3_isWhole_30
    · have h := iteF hc h
      refine lv_aload_n hx hb dX3_isWhole_17 rfl (lv_at hl 0 rfl) ?_
      refine va_get hx hb hts inX3 hown hK hP 0 rfl rfl 2 (by decide) (hts _ qw173) (fun _ h9 => h9) rfl dX3_isWhole_18 ?_
      refine lv_iconst (v := (-1)) hx hb dX3_isWhole_21 (by decide) ?_
      refine lv_icmp_eq (tgt := 29) hx hb dX3_isWhole_22 (by decide) (fun hc => ?_) (fun hc => ?_)
      · have h := iteT hc h
        refine lv_iconst (v := (0)) hx hb dX3_isWhole_29 (by decide) ?_
        obtain rfl := Option.some.inj h
        exact W.zret hx hb hr rfl (fun t ht hW => ⟨rfl, ht⟩) (fun q hq => absurd hq List.not_mem_nil) dX3_isWhole_30
      · have h := iteF hc h
        refine lv_iconst (v := (1)) hx hb dX3_isWhole_25 (by decide) ?_
        refine lv_goto (tgt := 30) hx hb dX3_isWhole_26 (by decide) ?_
        obtain rfl := Option.some.inj h
        exact W.zret hx hb hr rfl (fun t ht hW => ⟨rfl, ht⟩) (fun q hq => absurd hq List.not_mem_nil) dX3_isWhole_30
