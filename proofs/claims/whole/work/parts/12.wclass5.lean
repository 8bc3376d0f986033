abbrev rm_X1_paveSquare_1 : Room := { frames := 2, cells := 0, slots := 0, locals := 63 }
theorem ok_X1_paveSquare_1 : okY yX1_paveSquare 4 := ⟨by decide +kernel, by decide +kernel, by decide +kernel⟩
set_option maxHeartbeats 4000000 in
set_option maxRecDepth 100000 in
theorem c_X1_paveSquare_1 (l : Launch) (z0 : Nat) (D : va_G) (t : Nat → ClassId) (G : Nat → Nat) (μ : GS) (a1 : Int32) (a2 : Int32) (a3 : Int32) (a4 : Int32) (res : (Int64) × (Int32) × (Nat → Int32)) (sz : Nat) (h : f_X1_paveSquare_1 μ a1 a2 a3 a4 = some res) : Met l yX1_paveSquare (ws_ yX1_paveSquare cX1_paveSquare 15 none) rm_X1_paveSquare_1 (PM z0 D t [.ref (G 0), .int a1, .int a2, .int a3, .int a4] (GW G t μ) (GL G) sz) (QM none D (GW G t (g_names' (g_tc' (g_paved' μ res.1) res.2.1) res.2.2)) (GL G) sz) 0 0 (OA (GL G) sz) := by
  refine Met.ofW (cc := cX1_paveSquare) (maxL := 15) (ret := none) (by decide) rfl ?_
  intro p e s m args below meth c s₁ Bo hml hv
  obtain ⟨rfl, hC, hsz, hP, hD, hZ⟩ := hv
  have hx := Bo.exec
  have hb := Bo.bytes
  have hr := Bo.returns
  have hts : ∀ w ∈ LA, w.before _ s = true := fun w hw => atoms_spec (ws := ws_ yX1_paveSquare cX1_paveSquare 15 none) Bo.pre w (List.mem_cons_of_mem _ hw)
  have hown : s.vm.findClass RX1 = some m.cls := findClass_of_methodNamed Bo.named
  have hlocks := Bo.notSynchronized
  have hK := hC.1
  subst hsz
  have hl := lv_entry ([.ref (G 0), .int a1, .int a2, .int a3, .int a4]) (n := 15) (Nat.le_of_ble_eq_true rfl)
  rw [lg_entry_eq]
  generalize (lg_sl ([.ref (G 0), .int a1, .int a2, .int a3, .int a4]) ++ List.replicate (15 - (lg_sl ([.ref (G 0), .int a1, .int a2, .int a3, .int a4])).length) Slot.unset).toArray = ls at hl ⊢
  have hl : lv_has ls 15 [(0, .ref (G 0)), (1, .int a1), (2, .int a2), (3, .int a3), (4, .int a4)] := hl
  suffices K9 : ∀ (H : Heap) (locs : List Loc), va_P D vwCl (GW G t μ) H → va_S (OA (GL G) s.heap.size) s.heap H locs → W p l e (headSpec (ws_ yX1_paveSquare cX1_paveSquare 15 none) rm_X1_paveSquare_1).room s m ([.ref (G 0), .int a1, .int a2, .int a3, .int a4] : List Value).toArray below meth c H locs 0 0 (MQ below (QM none D (GW G t (g_names' (g_tc' (g_paved' μ res.1) res.2.1) res.2.2)) (GL G) s.heap.size) ([.ref (G 0), .int a1, .int a2, .int a3, .int a4] : List Value).toArray s 0 0 (OA (GL G) s.heap.size)) (F0 m 0 ls []) from K9 s.heap [] hP va_S.rf
  intro H locs hP hS
  have hSz : s.heap.size ≤ H.size := hS.1
  unfold f_X1_paveSquare_1 at h
  refine lv_iload_n hx hb dX1_paveSquare_0 rfl (lv_at hl 3 rfl) ?_
  refine lv_iconst (v := (2)) hx hb dX1_paveSquare_1 (by decide) ?_
  refine lv_idiv hx hb dX1_paveSquare_2 (by decide) ?_
  obtain ⟨x1, ex1, h⟩ := jlet_some h
  refine topI ex1 ?_
  refine lv_istore (lv' := [(5, .int x1), (0, .ref (G 0)), (1, .int a1), (2, .int a2), (3, .int a3), (4, .int a4)]) hx hb dX1_paveSquare_3 hl (by decide) rfl (fun ls hl => ?_)
  refine lv_iload hx hb dX1_paveSquare_5 (lv_at hl 0 rfl) ?_
  refine lv_iconst (v := (1)) hx hb dX1_paveSquare_7 (by decide) ?_
  refine lv_icmp_ge (tgt := 12) hx hb dX1_paveSquare_8 (by decide) (fun hc => ?_) (fun hc => ?_)
  · have h := iteT hc h
    refine lv_iload hx hb dX1_paveSquare_12 (lv_at hl 5 rfl) ?_
    refine lv_bipush (v := (8)) hx hb dX1_paveSquare_14 (by decide) ?_
    refine lv_irem hx hb dX1_paveSquare_16 (by decide) ?_
    refine lv_iload_n hx hb dX1_paveSquare_17 rfl (lv_at hl 2 rfl) ?_
    refine lv_iload hx hb dX1_paveSquare_18 (lv_at hl 0 rfl) ?_
    refine lv_iadd hx hb dX1_paveSquare_20 ?_
    obtain ⟨o2, eo2, h⟩ := obind h
    have hJ29_o2 : ∀ (ls : Array Slot) (H : Heap) (locs : List Loc), lv_has ls 15 [(0, .ref (G 0)), (1, .int a1), (2, .int a2), (4, .int a4), (5, .int x1)] → va_P D vwCl (GW G t μ) H → va_D (OA (GL G) s.heap.size) (GW G t μ) → va_S (OA (GL G) s.heap.size) s.heap H locs → W p l e (headSpec (ws_ yX1_paveSquare cX1_paveSquare 15 none) rm_X1_paveSquare_1).room s m ([.ref (G 0), .int a1, .int a2, .int a3, .int a4] : List Value).toArray below meth c H locs 0 0 (MQ below (QM none D (GW G t (g_names' (g_tc' (g_paved' μ res.1) res.2.1) res.2.2)) (GL G) s.heap.size) ([.ref (G 0), .int a1, .int a2, .int a3, .int a4] : List Value).toArray s 0 0 (OA (GL G) s.heap.size)) (F0 m 29 ls [.int o2]) := by
      intro ls H locs hl hP hD hS
      have hSz : s.heap.size ≤ H.size := hS.1
      refine lv_istore (lv' := [(6, .int o2), (0, .ref (G 0)), (1, .int a1), (2, .int a2), (4, .int a4), (5, .int x1)]) hx hb dX1_paveSquare_29 hl (by decide) rfl (fun ls hl => ?_)
      refine lv_iload hx hb dX1_paveSquare_31 (lv_at hl 4 rfl) ?_
      refine lv_bipush (v := (8)) hx hb dX1_paveSquare_33 (by decide) ?_
      refine lv_idiv hx hb dX1_paveSquare_35 (by decide) ?_
      refine lv_iload_n hx hb dX1_paveSquare_36 rfl (lv_at hl 3 rfl) ?_
      refine lv_iload hx hb dX1_paveSquare_37 (lv_at hl 5 rfl) ?_
      refine lv_iadd hx hb dX1_paveSquare_39 ?_
      obtain ⟨o3, eo3, h⟩ := obind h
      have hJ48_o3 : ∀ (ls : Array Slot) (H : Heap) (locs : List Loc), lv_has ls 15 [(0, .ref (G 0)), (1, .int a1), (2, .int a2), (4, .int a4), (5, .int x1), (6, .int o2)] → va_P D vwCl (GW G t μ) H → va_D (OA (GL G) s.heap.size) (GW G t μ) → va_S (OA (GL G) s.heap.size) s.heap H locs → W p l e (headSpec (ws_ yX1_paveSquare cX1_paveSquare 15 none) rm_X1_paveSquare_1).room s m ([.ref (G 0), .int a1, .int a2, .int a3, .int a4] : List Value).toArray below meth c H locs 0 0 (MQ below (QM none D (GW G t (g_names' (g_tc' (g_paved' μ res.1) res.2.1) res.2.2)) (GL G) s.heap.size) ([.ref (G 0), .int a1, .int a2, .int a3, .int a4] : List Value).toArray s 0 0 (OA (GL G) s.heap.size)) (F0 m 48 ls [.int o3]) := by
        intro ls H locs hl hP hD hS
        have hSz : s.heap.size ≤ H.size := hS.1
        refine lv_istore (lv' := [(7, .int o3), (0, .ref (G 0)), (1, .int a1), (2, .int a2), (4, .int a4), (5, .int x1), (6, .int o2)]) hx hb dX1_paveSquare_48 hl (by decide) rfl (fun ls hl => ?_)
        refine lv_iload_n hx hb dX1_paveSquare_50 rfl (lv_at hl 2 rfl) ?_
        refine lv_iload hx hb dX1_paveSquare_51 (lv_at hl 5 rfl) ?_
        refine lv_iadd hx hb dX1_paveSquare_53 ?_
        refine lv_iconst (v := (1)) hx hb dX1_paveSquare_54 (by decide) ?_
        refine lv_isub hx hb dX1_paveSquare_55 ?_
        obtain ⟨x4, ex4, h⟩ := jlet_some h
        refine topI ex4 ?_
        refine lv_istore (lv' := [(8, .int x4), (7, .int o3), (0, .ref (G 0)), (1, .int a1), (2, .int a2), (4, .int a4), (5, .int x1), (6, .int o2)]) hx hb dX1_paveSquare_56 hl (by decide) rfl (fun ls hl => ?_)
        refine lv_iload_n hx hb dX1_paveSquare_58 rfl (lv_at hl 4 rfl) ?_
        refine lv_iload hx hb dX1_paveSquare_59 (lv_at hl 6 rfl) ?_
        refine lv_iadd hx hb dX1_paveSquare_61 ?_
        refine lv_iconst (v := (1)) hx hb dX1_paveSquare_62 (by decide) ?_
        refine lv_isub hx hb dX1_paveSquare_63 ?_
        obtain ⟨x5, ex5, h⟩ := jlet_some h
        refine topI ex5 ?_
        refine lv_istore (lv' := [(9, .int x5), (8, .int x4), (7, .int o3), (0, .ref (G 0)), (1, .int a1), (2, .int a2), (4, .int a4), (5, .int x1), (6, .int o2)]) hx hb dX1_paveSquare_64 hl (by decide) rfl (fun ls hl => ?_)
        refine lv_aload_n hx hb dX1_paveSquare_66 rfl (lv_at hl 3 rfl) ?_
        refine lv_iload hx hb dX1_paveSquare_67 (lv_at hl 1 rfl) ?_
        refine lv_iload hx hb dX1_paveSquare_69 (lv_at hl 0 rfl) ?_
        refine lv_iload hx hb dX1_paveSquare_71 (lv_at hl 8 rfl) ?_
        refine lv_iload hx hb dX1_paveSquare_73 (lv_at hl 2 rfl) ?_
        obtain ⟨r6, er6, h⟩ := obind h
        refine call_R (va_runS (As := [.int o2, .int o3]) (rest := [.int x5, .int x4, .ref (G 0)]) ⟨hx, hb, hml, hown, hts⟩ (c_X1_quarterTurn l z0 D t o2 o3 _ er6) (kS hts qw799 qw800 qw7 qw801 ok_X1_quarterTurn ⟨Nat.le_of_ble_eq_true rfl, Nat.le_of_ble_eq_true rfl⟩) ⟨PR.blind, fun U hU hW => ⟨rfl, by rw [hU]; exact (hC.at hS hZ).warm hW, by rw [hU]; exact va_P_nil⟩⟩ rfl rfl hl.1 rfl (lv_room (Nat.le_of_ble_eq_true rfl)) dX1_paveSquare_75 ⟨Nat.le_of_ble_eq_true rfl, Nat.le_of_ble_eq_true rfl⟩) ?_
        obtain ⟨r7, er7, h⟩ := obind h
        refine call_M (va_runV (As := [.int x4, .int x5, .int r6]) (rest := []) ⟨hx, hb, hml, hown, hts⟩ (c_X1_putTriple l z0 D t G μ x4 x5 r6 _ H.size er7) (kV hts qw764 qw731 qw732 qw7 qw733 ok_X1_putTriple ⟨Nat.le_of_ble_eq_true rfl, Nat.le_of_ble_eq_true rfl⟩) ⟨PM.blind, va_recv hK hP (ci := 2) (q0 := 0) rfl rfl, fun U hU hW => ⟨rfl, by rw [hU]; exact (hC.at hS hZ).warm hW, by rw [hU], by rw [hU]; exact hP, ⟨hD.1, fun _ _ h9 => Or.inl (in_map (L := (GL G)) rfl h9)⟩, fun q hq => hZ q (OA.ofD hD rfl hSz q hq)⟩⟩ rfl rfl hl.1 rfl (lv_room (Nat.le_of_ble_eq_true rfl)) dX1_paveSquare_78 ⟨Nat.le_of_ble_eq_true rfl, Nat.le_of_ble_eq_true rfl⟩) hS (OA.ofD hD rfl hSz) (fun H locs hP hD1 hS _ _ => ?_)
        have hP : va_P D vwCl (GW G t (g_names' (g_tc' (g_paved' μ r7.1) r7.2.1) r7.2.2)) H := hP
        have hD : va_D (OA (GL G) s.heap.size) (GW G t (g_names' (g_tc' (g_paved' μ r7.1) r7.2.1) r7.2.2)) := hD1.weaken (fun _ q _ h9 => OA.ofD hD rfl hSz q.1 h9)
        have hSz : s.heap.size ≤ H.size := hS.1
        refine lv_iconst (v := (0)) hx hb dX1_paveSquare_81 (by decide) ?_
        refine lv_istore (lv' := [(10, .int (0 : Int32)), (9, .int x5), (8, .int x4), (7, .int o3), (0, .ref (G 0)), (1, .int a1), (2, .int a2), (4, .int a4), (5, .int x1), (6, .int o2)]) hx hb dX1_paveSquare_82 hl (by decide) rfl (fun ls hl => ?_)
        obtain ⟨o30, eo30, h⟩ := obind h
        have hL84 : ∀ (n : Nat) (y10_84 : Int32) (paved_84 : Int64) (tc_84 : Int32) (names_84 : Nat → Int32) (o30 : (Int64) × (Int32) × (Nat → Int32)), f_X1_paveSquare_1_L84 a1 a2 a4 μ x1 o2 o3 x4 x5 n y10_84 paved_84 tc_84 names_84 = some o30 → (∀ (ls : Array Slot) (H : Heap) (locs : List Loc), lv_has ls 15 [] → va_P D vwCl (GW G t (g_names' (g_tc' (g_paved' μ o30.1) o30.2.1) o30.2.2)) H → va_D (OA (GL G) s.heap.size) (GW G t (g_names' (g_tc' (g_paved' μ o30.1) o30.2.1) o30.2.2)) → va_S (OA (GL G) s.heap.size) s.heap H locs → W p l e (headSpec (ws_ yX1_paveSquare cX1_paveSquare 15 none) rm_X1_paveSquare_1).room s m ([.ref (G 0), .int a1, .int a2, .int a3, .int a4] : List Value).toArray below meth c H locs 0 0 (MQ below (QM none D (GW G t (g_names' (g_tc' (g_paved' μ res.1) res.2.1) res.2.2)) (GL G) s.heap.size) ([.ref (G 0), .int a1, .int a2, .int a3, .int a4] : List Value).toArray s 0 0 (OA (GL G) s.heap.size)) (F0 m 194 ls [])) → ∀ (ls : Array Slot) (H : Heap) (locs : List Loc), lv_has ls 15 [(0, .ref (G 0)), (1, .int a1), (2, .int a2), (4, .int a4), (5, .int x1), (6, .int o2), (7, .int o3), (8, .int x4), (9, .int x5), (10, .int y10_84)] → va_P D vwCl (GW G t (g_names' (g_tc' (g_paved' μ paved_84) tc_84) names_84)) H → va_D (OA (GL G) s.heap.size) (GW G t (g_names' (g_tc' (g_paved' μ paved_84) tc_84) names_84)) → va_S (OA (GL G) s.heap.size) s.heap H locs → W p l e (headSpec (ws_ yX1_paveSquare cX1_paveSquare 15 none) rm_X1_paveSquare_1).room s m ([.ref (G 0), .int a1, .int a2, .int a3, .int a4] : List Value).toArray below meth c H locs 0 0 (MQ below (QM none D (GW G t (g_names' (g_tc' (g_paved' μ res.1) res.2.1) res.2.2)) (GL G) s.heap.size) ([.ref (G 0), .int a1, .int a2, .int a3, .int a4] : List Value).toArray s 0 0 (OA (GL G) s.heap.size)) (F0 m 84 ls []) := by
          intro n
          induction n with
          | zero => intro y10_84 paved_84 tc_84 names_84 o30 h; exact absurd h (fun z => by cases z)
          | succ n ih =>
            intro y10_84 paved_84 tc_84 names_84 o30 h hK84 ls H locs hl hP hD hS
            replace h : f_X1_paveSquare_1_L84_b a1 a2 a4 μ x1 o2 o3 x4 x5 (f_X1_paveSquare_1_L84 a1 a2 a4 μ x1 o2 o3 x4 x5 n) y10_84 paved_84 tc_84 names_84 = some o30 := h
            unfold f_X1_paveSquare_1_L84_b at h
            have hSz : s.heap.size ≤ H.size := hS.1
            refine lv_iload hx hb dX1_paveSquare_84 (lv_at hl 9 rfl) ?_
            refine lv_iconst (v := (4)) hx hb dX1_paveSquare_86 (by decide) ?_
            refine lv_icmp_ge (tgt := 194) hx hb dX1_paveSquare_87 (by decide) (fun hc => ?_) (fun hc => ?_)
            · have h := iteT hc h
              obtain rfl := Option.some.inj h
              exact hK84 ls H locs (lv_sub hl [] rfl) hP hD hS
            · have h := iteF hc h
              refine lv_iload hx hb dX1_paveSquare_90 (lv_at hl 9 rfl) ?_
              refine lv_iconst (v := (2)) hx hb dX1_paveSquare_92 (by decide) ?_
              refine lv_irem hx hb dX1_paveSquare_93 (by decide) ?_
              obtain ⟨x31, ex31, h⟩ := jlet_some h
              refine topI ex31 ?_
              refine lv_istore (lv' := [(11, .int x31), (0, .ref (G 0)), (1, .int a1), (2, .int a2), (4, .int a4), (5, .int x1), (6, .int o2), (7, .int o3), (8, .int x4), (9, .int x5), (10, .int y10_84)]) hx hb dX1_paveSquare_94 hl (by decide) rfl (fun ls hl => ?_)
              refine lv_iload hx hb dX1_paveSquare_96 (lv_at hl 10 rfl) ?_
              refine lv_iconst (v := (2)) hx hb dX1_paveSquare_98 (by decide) ?_
              refine lv_idiv hx hb dX1_paveSquare_99 (by decide) ?_
              obtain ⟨x32, ex32, h⟩ := jlet_some h
              refine topI ex32 ?_
              refine lv_istore (lv' := [(12, .int x32), (11, .int x31), (0, .ref (G 0)), (1, .int a1), (2, .int a2), (4, .int a4), (5, .int x1), (6, .int o2), (7, .int o3), (8, .int x4), (9, .int x5), (10, .int y10_84)]) hx hb dX1_paveSquare_100 hl (by decide) rfl (fun ls hl => ?_)
              refine lv_iload hx hb dX1_paveSquare_102 (lv_at hl 7 rfl) ?_
              refine lv_iload hx hb dX1_paveSquare_104 (lv_at hl 1 rfl) ?_
              refine lv_iconst (v := (1)) hx hb dX1_paveSquare_106 (by decide) ?_
              obtain ⟨o33, eo33, h⟩ := obind h
              have hJ115_o33 : ∀ (ls : Array Slot) (H : Heap) (locs : List Loc), lv_has ls 15 [(0, .ref (G 0)), (1, .int a1), (2, .int a2), (4, .int a4), (5, .int x1), (6, .int o2), (7, .int o3), (8, .int x4), (9, .int x5), (10, .int y10_84), (11, .int x31), (12, .int x32)] → va_P D vwCl (GW G t (g_names' (g_tc' (g_paved' μ paved_84) tc_84) names_84)) H → va_D (OA (GL G) s.heap.size) (GW G t (g_names' (g_tc' (g_paved' μ paved_84) tc_84) names_84)) → va_S (OA (GL G) s.heap.size) s.heap H locs → W p l e (headSpec (ws_ yX1_paveSquare cX1_paveSquare 15 none) rm_X1_paveSquare_1).room s m ([.ref (G 0), .int a1, .int a2, .int a3, .int a4] : List Value).toArray below meth c H locs 0 0 (MQ below (QM none D (GW G t (g_names' (g_tc' (g_paved' μ res.1) res.2.1) res.2.2)) (GL G) s.heap.size) ([.ref (G 0), .int a1, .int a2, .int a3, .int a4] : List Value).toArray s 0 0 (OA (GL G) s.heap.size)) (F0 m 115 ls [.int o33, .int o2]) := by
                intro ls H locs hl hP hD hS
                have hSz : s.heap.size ≤ H.size := hS.1
                obtain ⟨o35, eo35, h⟩ := obind h
                have hJ139_o35 : ∀ (ls : Array Slot) (H : Heap) (locs : List Loc), lv_has ls 15 [(0, .ref (G 0)), (1, .int a1), (2, .int a2), (4, .int a4), (5, .int x1), (6, .int o2), (7, .int o3), (8, .int x4), (9, .int x5), (10, .int y10_84), (11, .int x31), (12, .int x32)] → va_P D vwCl (GW G t (g_names' (g_tc' (g_paved' μ paved_84) tc_84) names_84)) H → va_D (OA (GL G) s.heap.size) (GW G t (g_names' (g_tc' (g_paved' μ paved_84) tc_84) names_84)) → va_S (OA (GL G) s.heap.size) s.heap H locs → W p l e (headSpec (ws_ yX1_paveSquare cX1_paveSquare 15 none) rm_X1_paveSquare_1).room s m ([.ref (G 0), .int a1, .int a2, .int a3, .int a4] : List Value).toArray below meth c H locs 0 0 (MQ below (QM none D (GW G t (g_names' (g_tc' (g_paved' μ res.1) res.2.1) res.2.2)) (GL G) s.heap.size) ([.ref (G 0), .int a1, .int a2, .int a3, .int a4] : List Value).toArray s 0 0 (OA (GL G) s.heap.size)) (F0 m 139 ls [.int o35]) := by
                  intro ls H locs hl hP hD hS
                  have hSz : s.heap.size ≤ H.size := hS.1
                  refine lv_istore (lv' := [(13, .int o35), (0, .ref (G 0)), (1, .int a1), (2, .int a2), (4, .int a4), (5, .int x1), (6, .int o2), (7, .int o3), (8, .int x4), (9, .int x5), (10, .int y10_84), (11, .int x31), (12, .int x32)]) hx hb dX1_paveSquare_139 hl (by decide) rfl (fun ls hl => ?_)
                  refine lv_iload hx hb dX1_paveSquare_141 (lv_at hl 0 rfl) ?_
                  obtain ⟨o38, eo38, h⟩ := obind h
                  have hJ164_o38 : ∀ (ls : Array Slot) (H : Heap) (locs : List Loc), lv_has ls 15 [(0, .ref (G 0)), (1, .int a1), (2, .int a2), (4, .int a4), (5, .int x1), (6, .int o2), (7, .int o3), (8, .int x4), (9, .int x5), (10, .int y10_84), (11, .int x31), (12, .int x32)] → va_P D vwCl (GW G t (g_names' (g_tc' (g_paved' μ paved_84) tc_84) names_84)) H → va_D (OA (GL G) s.heap.size) (GW G t (g_names' (g_tc' (g_paved' μ paved_84) tc_84) names_84)) → va_S (OA (GL G) s.heap.size) s.heap H locs → W p l e (headSpec (ws_ yX1_paveSquare cX1_paveSquare 15 none) rm_X1_paveSquare_1).room s m ([.ref (G 0), .int a1, .int a2, .int a3, .int a4] : List Value).toArray below meth c H locs 0 0 (MQ below (QM none D (GW G t (g_names' (g_tc' (g_paved' μ res.1) res.2.1) res.2.2)) (GL G) s.heap.size) ([.ref (G 0), .int a1, .int a2, .int a3, .int a4] : List Value).toArray s 0 0 (OA (GL G) s.heap.size)) (F0 m 164 ls [.int o38]) := by
                    intro ls H locs hl hP hD hS
                    have hSz : s.heap.size ≤ H.size := hS.1
                    refine lv_istore (lv' := [(14, .int o38), (0, .ref (G 0)), (1, .int a1), (2, .int a2), (4, .int a4), (5, .int x1), (6, .int o2), (7, .int o3), (8, .int x4), (9, .int x5), (10, .int y10_84), (11, .int x31), (12, .int x32)]) hx hb dX1_paveSquare_164 hl (by decide) rfl (fun ls hl => ?_)
                    refine lv_aload_n hx hb dX1_paveSquare_166 rfl (lv_at hl 1 rfl) ?_
                    refine lv_iload_n hx hb dX1_paveSquare_167 rfl (lv_at hl 2 rfl) ?_
                    refine lv_iload hx hb dX1_paveSquare_168 (lv_at hl 5 rfl) ?_
                    refine lv_iload hx hb dX1_paveSquare_170 (lv_at hl 11 rfl) ?_
                    refine lv_imul hx hb dX1_paveSquare_172 ?_
                    refine lv_iadd hx hb dX1_paveSquare_173 ?_
                    refine lv_iload_n hx hb dX1_paveSquare_174 rfl (lv_at hl 3 rfl) ?_
                    refine lv_iload hx hb dX1_paveSquare_175 (lv_at hl 5 rfl) ?_
                    refine lv_iload hx hb dX1_paveSquare_177 (lv_at hl 12 rfl) ?_
                    refine lv_imul hx hb dX1_paveSquare_179 ?_
                    refine lv_iadd hx hb dX1_paveSquare_180 ?_
                    refine lv_iload hx hb dX1_paveSquare_181 (lv_at hl 5 rfl) ?_
                    refine lv_iload hx hb dX1_paveSquare_183 (lv_at hl 0 rfl) ?_
                    obtain ⟨r40, er40, h⟩ := obind h
                    refine call_M (va_runV (As := [.int (a1 + (x1 * x31)), .int (a2 + (x1 * x32)), .int x1, .int o38]) (rest := []) ⟨hx, hb, hml, hown, hts⟩ (c_X1_paveSquare_0 l z0 D t G (g_names' (g_tc' (g_paved' μ paved_84) tc_84) names_84) (a1 + (x1 * x31)) (a2 + (x1 * x32)) x1 o38 _ H.size er40) (kV hts qw802 qw796 qw797 qw7 qw798 ok_X1_paveSquare_0 ⟨Nat.le_of_ble_eq_true rfl, Nat.le_of_ble_eq_true rfl⟩) ⟨PM.blind, va_recv hK hP (ci := 2) (q0 := 0) rfl rfl, fun U hU hW => ⟨rfl, by rw [hU]; exact (hC.at hS hZ).warm hW, by rw [hU], by rw [hU]; exact hP, ⟨hD.1, fun _ _ h9 => Or.inl (in_map (L := (GL G)) rfl h9)⟩, fun q hq => hZ q (OA.ofD hD rfl hSz q hq)⟩⟩ rfl rfl hl.1 rfl (lv_room (Nat.le_of_ble_eq_true rfl)) dX1_paveSquare_185 ⟨Nat.le_of_ble_eq_true rfl, Nat.le_of_ble_eq_true rfl⟩) hS (OA.ofD hD rfl hSz) (fun H locs hP hD1 hS _ _ => ?_)
                    have hP : va_P D vwCl (GW G t (g_names' (g_tc' (g_paved' μ r40.1) r40.2.1) r40.2.2)) H := hP
                    have hD : va_D (OA (GL G) s.heap.size) (GW G t (g_names' (g_tc' (g_paved' μ r40.1) r40.2.1) r40.2.2)) := hD1.weaken (fun _ q _ h9 => OA.ofD hD rfl hSz q.1 h9)
                    have hSz : s.heap.size ≤ H.size := hS.1
                    obtain ⟨x41, ex41, h⟩ := jlet_some h
                    refine lv_iinc (v := x41) (lv' := [(10, .int x41), (14, .int o38), (0, .ref (G 0)), (1, .int a1), (2, .int a2), (4, .int a4), (5, .int x1), (6, .int o2), (7, .int o3), (8, .int x4), (9, .int x5), (11, .int x31), (12, .int x32)]) hx hb dX1_paveSquare_188 hl (k := 10) rfl (by rw [ex41]; rfl) (by decide) rfl (fun ls hl => ?_)
                    refine lv_goto (tgt := 84) hx hb dX1_paveSquare_191 (by decide) ?_
                    exact ih _ _ _ _ _ h hK84 ls H locs (lv_sub hl [2, 3, 4, 5, 6, 7, 8, 9, 10, 0] rfl) hP hD hS
                  have h := eo38
                  clear eo38
                  refine lv_if_eq (tgt := 151) hx hb dX1_paveSquare_143 (by decide) (fun hc => ?_) (fun hc => ?_)
                  · have h := iteT hc h
                    refine lv_iload hx hb dX1_paveSquare_151 (lv_at hl 8 rfl) ?_
                    refine lv_iload hx hb dX1_paveSquare_153 (lv_at hl 11 rfl) ?_
                    refine lv_iadd hx hb dX1_paveSquare_155 ?_
                    refine lv_iload hx hb dX1_paveSquare_156 (lv_at hl 9 rfl) ?_
                    refine lv_iload hx hb dX1_paveSquare_158 (lv_at hl 12 rfl) ?_
                    refine lv_iadd hx hb dX1_paveSquare_160 ?_
                    obtain ⟨r39, er39, h⟩ := obind h
                    refine call_R (va_runSN (As := [.int (x4 + x31), .int (x5 + x32)]) (rest := []) ⟨hx, hb, hml, hown, hts⟩ (c_X4_placeOf l z0 D t (x4 + x31) (x5 + x32) _ er39) ⟨kN hts (hC.2.1 _ qw231) qw1 qw215 ok_X4_placeOf ⟨Nat.le_of_ble_eq_true rfl, Nat.le_of_ble_eq_true rfl⟩, hts _ qw214, trivial⟩ ⟨PR.blind, fun U hU hW => ⟨rfl, by rw [hU]; exact (hC.at hS hZ).warm hW, by rw [hU]; exact va_P_nil⟩⟩ rfl rfl hl.1 rfl (lv_room (Nat.le_of_ble_eq_true rfl)) dX1_paveSquare_161 ⟨Nat.le_of_ble_eq_true rfl, Nat.le_of_ble_eq_true rfl⟩) ?_
                    obtain rfl := Option.some.inj h
                    exact hJ164_o38 ls H locs (lv_sub hl [1, 2, 3, 4, 5, 6, 7, 8, 9, 10, 11, 12] rfl) hP hD hS
                  · have h := iteF hc h
                    refine lv_iload hx hb dX1_paveSquare_146 (lv_at hl 4 rfl) ?_
                    refine lv_goto (tgt := 164) hx hb dX1_paveSquare_148 (by decide) ?_
                    obtain rfl := Option.some.inj h
                    exact hJ164_o38 ls H locs (lv_sub hl [1, 2, 3, 4, 5, 6, 7, 8, 9, 10, 11, 12] rfl) hP hD hS
                have h := eo35
                clear eo35
                refine lv_icmp_ne (tgt := 138) hx hb dX1_paveSquare_115 (by decide) (fun hc => ?_) (fun hc => ?_)
                · have h := iteF hc h
                  refine lv_iconst (v := (0)) hx hb dX1_paveSquare_138 (by decide) ?_
                  obtain rfl := Option.some.inj h
                  exact hJ139_o35 ls H locs (lv_sub hl [0, 1, 2, 3, 4, 5, 6, 7, 8, 9, 10, 11] rfl) hP hD hS
                · have h := iteT hc h
                  refine lv_iload hx hb dX1_paveSquare_118 (lv_at hl 6 rfl) ?_
                  refine lv_iload hx hb dX1_paveSquare_120 (lv_at hl 11 rfl) ?_
                  refine lv_iconst (v := (1)) hx hb dX1_paveSquare_122 (by decide) ?_
                  obtain ⟨o36, eo36, h⟩ := obind h
                  have hJ131_o36 : ∀ (ls : Array Slot) (H : Heap) (locs : List Loc), lv_has ls 15 [(0, .ref (G 0)), (1, .int a1), (2, .int a2), (4, .int a4), (5, .int x1), (6, .int o2), (7, .int o3), (8, .int x4), (9, .int x5), (10, .int y10_84), (11, .int x31), (12, .int x32)] → va_P D vwCl (GW G t (g_names' (g_tc' (g_paved' μ paved_84) tc_84) names_84)) H → va_D (OA (GL G) s.heap.size) (GW G t (g_names' (g_tc' (g_paved' μ paved_84) tc_84) names_84)) → va_S (OA (GL G) s.heap.size) s.heap H locs → W p l e (headSpec (ws_ yX1_paveSquare cX1_paveSquare 15 none) rm_X1_paveSquare_1).room s m ([.ref (G 0), .int a1, .int a2, .int a3, .int a4] : List Value).toArray below meth c H locs 0 0 (MQ below (QM none D (GW G t (g_names' (g_tc' (g_paved' μ res.1) res.2.1) res.2.2)) (GL G) s.heap.size) ([.ref (G 0), .int a1, .int a2, .int a3, .int a4] : List Value).toArray s 0 0 (OA (GL G) s.heap.size)) (F0 m 131 ls [.int o36, .int o3]) := by
                    intro ls H locs hl hP hD hS
                    have hSz : s.heap.size ≤ H.size := hS.1
                    refine lv_icmp_ne (tgt := 138) hx hb dX1_paveSquare_131 (by decide) (fun hc => ?_) (fun hc => ?_)
                    · have h := iteF hc h
                      refine lv_iconst (v := (0)) hx hb dX1_paveSquare_138 (by decide) ?_
                      obtain rfl := Option.some.inj h
                      exact hJ139_o35 ls H locs (lv_sub hl [0, 1, 2, 3, 4, 5, 6, 7, 8, 9, 10, 11] rfl) hP hD hS
                    · have h := iteT hc h
                      refine lv_iconst (v := (1)) hx hb dX1_paveSquare_134 (by decide) ?_
                      refine lv_goto (tgt := 139) hx hb dX1_paveSquare_135 (by decide) ?_
                      obtain rfl := Option.some.inj h
                      exact hJ139_o35 ls H locs (lv_sub hl [0, 1, 2, 3, 4, 5, 6, 7, 8, 9, 10, 11] rfl) hP hD hS
                  have h := eo36
                  clear eo36
                  refine lv_icmp_ne (tgt := 130) hx hb dX1_paveSquare_123 (by decide) (fun hc => ?_) (fun hc => ?_)
                  · have h := iteF hc h
                    refine lv_iconst (v := (0)) hx hb dX1_paveSquare_130 (by decide) ?_
                    obtain rfl := Option.some.inj h
                    exact hJ131_o36 ls H locs (lv_sub hl [0, 1, 2, 3, 4, 5, 6, 7, 8, 9, 10, 11] rfl) hP hD hS
                  · have h := iteT hc h
                    refine lv_iconst (v := (1)) hx hb dX1_paveSquare_126 (by decide) ?_
                    refine lv_goto (tgt := 131) hx hb dX1_paveSquare_127 (by decide) ?_
                    obtain rfl := Option.some.inj h
                    exact hJ131_o36 ls H locs (lv_sub hl [0, 1, 2, 3, 4, 5, 6, 7, 8, 9, 10, 11] rfl) hP hD hS
              have h := eo33
              clear eo33
              refine lv_icmp_ne (tgt := 114) hx hb dX1_paveSquare_107 (by decide) (fun hc => ?_) (fun hc => ?_)
              · have h := iteF hc h
                refine lv_iconst (v := (0)) hx hb dX1_paveSquare_114 (by decide) ?_
                obtain rfl := Option.some.inj h
                exact hJ115_o33 ls H locs (lv_sub hl [2, 3, 4, 5, 6, 7, 8, 9, 10, 11, 1, 0] rfl) hP hD hS
              · have h := iteT hc h
                refine lv_iconst (v := (1)) hx hb dX1_paveSquare_110 (by decide) ?_
                refine lv_goto (tgt := 115) hx hb dX1_paveSquare_111 (by decide) ?_
                obtain rfl := Option.some.inj h
                exact hJ115_o33 ls H locs (lv_sub hl [2, 3, 4, 5, 6, 7, 8, 9, 10, 11, 1, 0] rfl) hP hD hS
        refine hL84 _ _ _ _ _ _ eo30 (fun ls H locs hl hP hD hS => ?_) ls H locs (lv_sub hl [4, 5, 6, 7, 8, 9, 3, 2, 1, 0] rfl) hP hD hS
        have hSz : s.heap.size ≤ H.size := hS.1
        obtain rfl := Option.some.inj h
        exact W.vret hx hb hr (fun t ht hW => ⟨rfl, by rw [ht]; exact hP, hD, hS.F ht⟩) hS.2.2 dX1_paveSquare_194
      have h := eo3
      clear eo3
      refine lv_icmp_lt (tgt := 47) hx hb dX1_paveSquare_40 (by decide) (fun hc => ?_) (fun hc => ?_)
      · have h := iteT hc h
        refine lv_iconst (v := (0)) hx hb dX1_paveSquare_47 (by decide) ?_
        obtain rfl := Option.some.inj h
        exact hJ48_o3 ls H locs (lv_sub hl [1, 2, 3, 4, 5, 0] rfl) hP hD hS
      · have h := iteF hc h
        refine lv_iconst (v := (1)) hx hb dX1_paveSquare_43 (by decide) ?_
        refine lv_goto (tgt := 48) hx hb dX1_paveSquare_44 (by decide) ?_
        obtain rfl := Option.some.inj h
        exact hJ48_o3 ls H locs (lv_sub hl [1, 2, 3, 4, 5, 0] rfl) hP hD hS
    have h := eo2
    clear eo2
    refine lv_icmp_lt (tgt := 28) hx hb dX1_paveSquare_21 (by decide) (fun hc => ?_) (fun hc => ?_)
    · have h := iteT hc h
      refine lv_iconst (v := (0)) hx hb dX1_paveSquare_28 (by decide) ?_
      obtain rfl := Option.some.inj h
      exact hJ29_o2 ls H locs (lv_sub hl [1, 2, 3, 5, 0] rfl) hP hD hS
    · have h := iteF hc h
      refine lv_iconst (v := (1)) hx hb dX1_paveSquare_24 (by decide) ?_
      refine lv_goto (tgt := 29) hx hb dX1_paveSquare_25 (by decide) ?_
      obtain rfl := Option.some.inj h
      exact hJ29_o2 ls H locs (lv_sub hl [1, 2, 3, 5, 0] rfl) hP hD hS
  · have h := iteF hc h
    obtain rfl := Option.some.inj h
    exact W.vret hx hb hr (fun t ht hW => ⟨rfl, by rw [ht]; exact hP, hD, hS.F ht⟩) hS.2.2 dX1_paveSquare_11

abbrev rm_X1_paveSquare_2 : Room := { frames := 3, cells := 0, slots := 0, locals := 97 }
theorem ok_X1_paveSquare_2 : okY yX1_paveSquare 4 := ⟨by decide +kernel, by decide +kernel, by decide +kernel⟩
set_option maxHeartbeats 4000000 in
set_option maxRecDepth 100000 in
theorem c_X1_paveSquare_2 (l : Launch) (z0 : Nat) (D : va_G) (t : Nat → ClassId) (G : Nat → Nat) (μ : GS) (a1 : Int32) (a2 : Int32) (a3 : Int32) (a4 : Int32) (res : (Int64) × (Int32) × (Nat → Int32)) (sz : Nat) (h : f_X1_paveSquare_2 μ a1 a2 a3 a4 = some res) : Met l yX1_paveSquare (ws_ yX1_paveSquare cX1_paveSquare 15 none) rm_X1_paveSquare_2 (PM z0 D t [.ref (G 0), .int a1, .int a2, .int a3, .int a4] (GW G t μ) (GL G) sz) (QM none D (GW G t (g_names' (g_tc' (g_paved' μ res.1) res.2.1) res.2.2)) (GL G) sz) 0 0 (OA (GL G) sz) := by
  refine Met.ofW (cc := cX1_paveSquare) (maxL := 15) (ret := none) (by decide) rfl ?_
  intro p e s m args below meth c s₁ Bo hml hv
  obtain ⟨rfl, hC, hsz, hP, hD, hZ⟩ := hv
  have hx := Bo.exec
  have hb := Bo.bytes
  have hr := Bo.returns
  have hts : ∀ w ∈ LA, w.before _ s = true := fun w hw => atoms_spec (ws := ws_ yX1_paveSquare cX1_paveSquare 15 none) Bo.pre w (List.mem_cons_of_mem _ hw)
  have hown : s.vm.findClass RX1 = some m.cls := findClass_of_methodNamed Bo.named
  have hlocks := Bo.notSynchronized
  have hK := hC.1
  subst hsz
  have hl := lv_entry ([.ref (G 0), .int a1, .int a2, .int a3, .int a4]) (n := 15) (Nat.le_of_ble_eq_true rfl)
  rw [lg_entry_eq]
  generalize (lg_sl ([.ref (G 0), .int a1, .int a2, .int a3, .int a4]) ++ List.replicate (15 - (lg_sl ([.ref (G 0), .int a1, .int a2, .int a3, .int a4])).length) Slot.unset).toArray = ls at hl ⊢
  have hl : lv_has ls 15 [(0, .ref (G 0)), (1, .int a1), (2, .int a2), (3, .int a3), (4, .int a4)] := hl
  suffices K9 : ∀ (H : Heap) (locs : List Loc), va_P D vwCl (GW G t μ) H → va_S (OA (GL G) s.heap.size) s.heap H locs → W p l e (headSpec (ws_ yX1_paveSquare cX1_paveSquare 15 none) rm_X1_paveSquare_2).room s m ([.ref (G 0), .int a1, .int a2, .int a3, .int a4] : List Value).toArray below meth c H locs 0 0 (MQ below (QM none D (GW G t (g_names' (g_tc' (g_paved' μ res.1) res.2.1) res.2.2)) (GL G) s.heap.size) ([.ref (G 0), .int a1, .int a2, .int a3, .int a4] : List Value).toArray s 0 0 (OA (GL G) s.heap.size)) (F0 m 0 ls []) from K9 s.heap [] hP va_S.rf
  intro H locs hP hS
  have hSz : s.heap.size ≤ H.size := hS.1
  unfold f_X1_paveSquare_2 at h
  refine lv_iload_n hx hb dX1_paveSquare_0 rfl (lv_at hl 3 rfl) ?_
  refine lv_iconst (v := (2)) hx hb dX1_paveSquare_1 (by decide) ?_
  refine lv_idiv hx hb dX1_paveSquare_2 (by decide) ?_
  obtain ⟨x1, ex1, h⟩ := jlet_some h
  refine topI ex1 ?_
  refine lv_istore (lv' := [(5, .int x1), (0, .ref (G 0)), (1, .int a1), (2, .int a2), (3, .int a3), (4, .int a4)]) hx hb dX1_paveSquare_3 hl (by decide) rfl (fun ls hl => ?_)
  refine lv_iload hx hb dX1_paveSquare_5 (lv_at hl 0 rfl) ?_
  refine lv_iconst (v := (1)) hx hb dX1_paveSquare_7 (by decide) ?_
  refine lv_icmp_ge (tgt := 12) hx hb dX1_paveSquare_8 (by decide) (fun hc => ?_) (fun hc => ?_)
  · have h := iteT hc h
    refine lv_iload hx hb dX1_paveSquare_12 (lv_at hl 5 rfl) ?_
    refine lv_bipush (v := (8)) hx hb dX1_paveSquare_14 (by decide) ?_
    refine lv_irem hx hb dX1_paveSquare_16 (by decide) ?_
    refine lv_iload_n hx hb dX1_paveSquare_17 rfl (lv_at hl 2 rfl) ?_
    refine lv_iload hx hb dX1_paveSquare_18 (lv_at hl 0 rfl) ?_
    refine lv_iadd hx hb dX1_paveSquare_20 ?_
    obtain ⟨o2, eo2, h⟩ := obind h
    have hJ29_o2 : ∀ (ls : Array Slot) (H : Heap) (locs : List Loc), lv_has ls 15 [(0, .ref (G 0)), (1, .int a1), (2, .int a2), (4, .int a4), (5, .int x1)] → va_P D vwCl (GW G t μ) H → va_D (OA (GL G) s.heap.size) (GW G t μ) → va_S (OA (GL G) s.heap.size) s.heap H locs → W p l e (headSpec (ws_ yX1_paveSquare cX1_paveSquare 15 none) rm_X1_paveSquare_2).room s m ([.ref (G 0), .int a1, .int a2, .int a3, .int a4] : List Value).toArray below meth c H locs 0 0 (MQ below (QM none D (GW G t (g_names' (g_tc' (g_paved' μ res.1) res.2.1) res.2.2)) (GL G) s.heap.size) ([.ref (G 0), .int a1, .int a2, .int a3, .int a4] : List Value).toArray s 0 0 (OA (GL G) s.heap.size)) (F0 m 29 ls [.int o2]) := by
      intro ls H locs hl hP hD hS
      have hSz : s.heap.size ≤ H.size := hS.1
      refine lv_istore (lv' := [(6, .int o2), (0, .ref (G 0)), (1, .int a1), (2, .int a2), (4, .int a4), (5, .int x1)]) hx hb dX1_paveSquare_29 hl (by decide) rfl (fun ls hl => ?_)
      refine lv_iload hx hb dX1_paveSquare_31 (lv_at hl 4 rfl) ?_
      refine lv_bipush (v := (8)) hx hb dX1_paveSquare_33 (by decide) ?_
      refine lv_idiv hx hb dX1_paveSquare_35 (by decide) ?_
      refine lv_iload_n hx hb dX1_paveSquare_36 rfl (lv_at hl 3 rfl) ?_
      refine lv_iload hx hb dX1_paveSquare_37 (lv_at hl 5 rfl) ?_
      refine lv_iadd hx hb dX1_paveSquare_39 ?_
      obtain ⟨o3, eo3, h⟩ := obind h
      have hJ48_o3 : ∀ (ls : Array Slot) (H : Heap) (locs : List Loc), lv_has ls 15 [(0, .ref (G 0)), (1, .int a1), (2, .int a2), (4, .int a4), (5, .int x1), (6, .int o2)] → va_P D vwCl (GW G t μ) H → va_D (OA (GL G) s.heap.size) (GW G t μ) → va_S (OA (GL G) s.heap.size) s.heap H locs → W p l e (headSpec (ws_ yX1_paveSquare cX1_paveSquare 15 none) rm_X1_paveSquare_2).room s m ([.ref (G 0), .int a1, .int a2, .int a3, .int a4] : List Value).toArray below meth c H locs 0 0 (MQ below (QM none D (GW G t (g_names' (g_tc' (g_paved' μ res.1) res.2.1) res.2.2)) (GL G) s.heap.size) ([.ref (G 0), .int a1, .int a2, .int a3, .int a4] : List Value).toArray s 0 0 (OA (GL G) s.heap.size)) (F0 m 48 ls [.int o3]) := by
        intro ls H locs hl hP hD hS
        have hSz : s.heap.size ≤ H.size := hS.1
        refine lv_istore (lv' := [(7, .int o3), (0, .ref (G 0)), (1, .int a1), (2, .int a2), (4, .int a4), (5, .int x1), (6, .int o2)]) hx hb dX1_paveSquare_48 hl (by decide) rfl (fun ls hl => ?_)
        refine lv_iload_n hx hb dX1_paveSquare_50 rfl (lv_at hl 2 rfl) ?_
        refine lv_iload hx hb dX1_paveSquare_51 (lv_at hl 5 rfl) ?_
        refine lv_iadd hx hb dX1_paveSquare_53 ?_
        refine lv_iconst (v := (1)) hx hb dX1_paveSquare_54 (by decide) ?_
        refine lv_isub hx hb dX1_paveSquare_55 ?_
        obtain ⟨x4, ex4, h⟩ := jlet_some h
        refine topI ex4 ?_
        refine lv_istore (lv' := [(8, .int x4), (7, .int o3), (0, .ref (G 0)), (1, .int a1), (2, .int a2), (4, .int a4), (5, .int x1), (6, .int o2)]) hx hb dX1_paveSquare_56 hl (by decide) rfl (fun ls hl => ?_)
        refine lv_iload_n hx hb dX1_paveSquare_58 rfl (lv_at hl 4 rfl) ?_
        refine lv_iload hx hb dX1_paveSquare_59 (lv_at hl 6 rfl) ?_
        refine lv_iadd hx hb dX1_paveSquare_61 ?_
        refine lv_iconst (v := (1)) hx hb dX1_paveSquare_62 (by decide) ?_
        refine lv_isub hx hb dX1_paveSquare_63 ?_
        obtain ⟨x5, ex5, h⟩ := jlet_some h
        refine topI ex5 ?_
        refine lv_istore (lv' := [(9, .int x5), (8, .int x4), (7, .int o3), (0, .ref (G 0)), (1, .int a1), (2, .int a2), (4, .int a4), (5, .int x1), (6, .int o2)]) hx hb dX1_paveSquare_64 hl (by decide) rfl (fun ls hl => ?_)
        refine lv_aload_n hx hb dX1_paveSquare_66 rfl (lv_at hl 3 rfl) ?_
        refine lv_iload hx hb dX1_paveSquare_67 (lv_at hl 1 rfl) ?_
        refine lv_iload hx hb dX1_paveSquare_69 (lv_at hl 0 rfl) ?_
        refine lv_iload hx hb dX1_paveSquare_71 (lv_at hl 8 rfl) ?_
        refine lv_iload hx hb dX1_paveSquare_73 (lv_at hl 2 rfl) ?_
        obtain ⟨r6, er6, h⟩ := obind h
        refine call_R (va_runS (As := [.int o2, .int o3]) (rest := [.int x5, .int x4, .ref (G 0)]) ⟨hx, hb, hml, hown, hts⟩ (c_X1_quarterTurn l z0 D t o2 o3 _ er6) (kS hts qw799 qw800 qw7 qw801 ok_X1_quarterTurn ⟨Nat.le_of_ble_eq_true rfl, Nat.le_of_ble_eq_true rfl⟩) ⟨PR.blind, fun U hU hW => ⟨rfl, by rw [hU]; exact (hC.at hS hZ).warm hW, by rw [hU]; exact va_P_nil⟩⟩ rfl rfl hl.1 rfl (lv_room (Nat.le_of_ble_eq_true rfl)) dX1_paveSquare_75 ⟨Nat.le_of_ble_eq_true rfl, Nat.le_of_ble_eq_true rfl⟩) ?_
        obtain ⟨r7, er7, h⟩ := obind h
        refine call_M (va_runV (As := [.int x4, .int x5, .int r6]) (rest := []) ⟨hx, hb, hml, hown, hts⟩ (c_X1_putTriple l z0 D t G μ x4 x5 r6 _ H.size er7) (kV hts qw764 qw731 qw732 qw7 qw733 ok_X1_putTriple ⟨Nat.le_of_ble_eq_true rfl, Nat.le_of_ble_eq_true rfl⟩) ⟨PM.blind, va_recv hK hP (ci := 2) (q0 := 0) rfl rfl, fun U hU hW => ⟨rfl, by rw [hU]; exact (hC.at hS hZ).warm hW, by rw [hU], by rw [hU]; exact hP, ⟨hD.1, fun _ _ h9 => Or.inl (in_map (L := (GL G)) rfl h9)⟩, fun q hq => hZ q (OA.ofD hD rfl hSz q hq)⟩⟩ rfl rfl hl.1 rfl (lv_room (Nat.le_of_ble_eq_true rfl)) dX1_paveSquare_78 ⟨Nat.le_of_ble_eq_true rfl, Nat.le_of_ble_eq_true rfl⟩) hS (OA.ofD hD rfl hSz) (fun H locs hP hD1 hS _ _ => ?_)
        have hP : va_P D vwCl (GW G t (g_names' (g_tc' (g_paved' μ r7.1) r7.2.1) r7.2.2)) H := hP
        have hD : va_D (OA (GL G) s.heap.size) (GW G t (g_names' (g_tc' (g_paved' μ r7.1) r7.2.1) r7.2.2)) := hD1.weaken (fun _ q _ h9 => OA.ofD hD rfl hSz q.1 h9)
        have hSz : s.heap.size ≤ H.size := hS.1
        refine lv_iconst (v := (0)) hx hb dX1_paveSquare_81 (by decide) ?_
        refine lv_istore (lv' := [(10, .int (0 : Int32)), (9, .int x5), (8, .int x4), (7, .int o3), (0, .ref (G 0)), (1, .int a1), (2, .int a2), (4, .int a4), (5, .int x1), (6, .int o2)]) hx hb dX1_paveSquare_82 hl (by decide) rfl (fun ls hl => ?_)
        obtain ⟨o30, eo30, h⟩ := obind h
        have hL84 : ∀ (n : Nat) (y10_84 : Int32) (paved_84 : Int64) (tc_84 : Int32) (names_84 : Nat → Int32) (o30 : (Int64) × (Int32) × (Nat → Int32)), f_X1_paveSquare_2_L84 a1 a2 a4 μ x1 o2 o3 x4 x5 n y10_84 paved_84 tc_84 names_84 = some o30 → (∀ (ls : Array Slot) (H : Heap) (locs : List Loc), lv_has ls 15 [] → va_P D vwCl (GW G t (g_names' (g_tc' (g_paved' μ o30.1) o30.2.1) o30.2.2)) H → va_D (OA (GL G) s.heap.size) (GW G t (g_names' (g_tc' (g_paved' μ o30.1) o30.2.1) o30.2.2)) → va_S (OA (GL G) s.heap.size) s.heap H locs → W p l e (headSpec (ws_ yX1_paveSquare cX1_paveSquare 15 none) rm_X1_paveSquare_2).room s m ([.ref (G 0), .int a1, .int a2, .int a3, .int a4] : List Value).toArray below meth c H locs 0 0 (MQ below (QM none D (GW G t (g_names' (g_tc' (g_paved' μ res.1) res.2.1) res.2.2)) (GL G) s.heap.size) ([.ref (G 0), .int a1, .int a2, .int a3, .int a4] : List Value).toArray s 0 0 (OA (GL G) s.heap.size)) (F0 m 194 ls [])) → ∀ (ls : Array Slot) (H : Heap) (locs : List Loc), lv_has ls 15 [(0, .ref (G 0)), (1, .int a1), (2, .int a2), (4, .int a4), (5, .int x1), (6, .int o2), (7, .int o3), (8, .int x4), (9, .int x5), (10, .int y10_84)] → va_P D vwCl (GW G t (g_names' (g_tc' (g_paved' μ paved_84) tc_84) names_84)) H → va_D (OA (GL G) s.heap.size) (GW G t (g_names' (g_tc' (g_paved' μ paved_84) tc_84) names_84)) → va_S (OA (GL G) s.heap.size) s.heap H locs → W p l e (headSpec (ws_ yX1_paveSquare cX1_paveSquare 15 none) rm_X1_paveSquare_2).room s m ([.ref (G 0), .int a1, .int a2, .int a3, .int a4] : List Value).toArray below meth c H locs 0 0 (MQ below (QM none D (GW G t (g_names' (g_tc' (g_paved' μ res.1) res.2.1) res.2.2)) (GL G) s.heap.size) ([.ref (G 0), .int a1, .int a2, .int a3, .int a4] : List Value).toArray s 0 0 (OA (GL G) s.heap.size)) (F0 m 84 ls []) := by
          intro n
          induction n with
          | zero => intro y10_84 paved_84 tc_84 names_84 o30 h; exact absurd h (fun z => by cases z)
          | succ n ih =>
            intro y10_84 paved_84 tc_84 names_84 o30 h hK84 ls H locs hl hP hD hS
            replace h : f_X1_paveSquare_2_L84_b a1 a2 a4 μ x1 o2 o3 x4 x5 (f_X1_paveSquare_2_L84 a1 a2 a4 μ x1 o2 o3 x4 x5 n) y10_84 paved_84 tc_84 names_84 = some o30 := h
            unfold f_X1_paveSquare_2_L84_b at h
            have hSz : s.heap.size ≤ H.size := hS.1
            refine lv_iload hx hb dX1_paveSquare_84 (lv_at hl 9 rfl) ?_
            refine lv_iconst (v := (4)) hx hb dX1_paveSquare_86 (by decide) ?_
            refine lv_icmp_ge (tgt := 194) hx hb dX1_paveSquare_87 (by decide) (fun hc => ?_) (fun hc => ?_)
            · have h := iteT hc h
              obtain rfl := Option.some.inj h
              exact hK84 ls H locs (lv_sub hl [] rfl) hP hD hS
            · have h := iteF hc h
              refine lv_iload hx hb dX1_paveSquare_90 (lv_at hl 9 rfl) ?_
              refine lv_iconst (v := (2)) hx hb dX1_paveSquare_92 (by decide) ?_
              refine lv_irem hx hb dX1_paveSquare_93 (by decide) ?_
              obtain ⟨x31, ex31, h⟩ := jlet_some h
              refine topI ex31 ?_
              refine lv_istore (lv' := [(11, .int x31), (0, .ref (G 0)), (1, .int a1), (2, .int a2), (4, .int a4), (5, .int x1), (6, .int o2), (7, .int o3), (8, .int x4), (9, .int x5), (10, .int y10_84)]) hx hb dX1_paveSquare_94 hl (by decide) rfl (fun ls hl => ?_)
              refine lv_iload hx hb dX1_paveSquare_96 (lv_at hl 10 rfl) ?_
              refine lv_iconst (v := (2)) hx hb dX1_paveSquare_98 (by decide) ?_
              refine lv_idiv hx hb dX1_paveSquare_99 (by decide) ?_
              obtain ⟨x32, ex32, h⟩ := jlet_some h
              refine topI ex32 ?_
              refine lv_istore (lv' := [(12, .int x32), (11, .int x31), (0, .ref (G 0)), (1, .int a1), (2, .int a2), (4, .int a4), (5, .int x1), (6, .int o2), (7, .int o3), (8, .int x4), (9, .int x5), (10, .int y10_84)]) hx hb dX1_paveSquare_100 hl (by decide) rfl (fun ls hl => ?_)
              refine lv_iload hx hb dX1_paveSquare_102 (lv_at hl 7 rfl) ?_
              refine lv_iload hx hb dX1_paveSquare_104 (lv_at hl 1 rfl) ?_
              refine lv_iconst (v := (1)) hx hb dX1_paveSquare_106 (by decide) ?_
              obtain ⟨o33, eo33, h⟩ := obind h
              have hJ115_o33 : ∀ (ls : Array Slot) (H : Heap) (locs : List Loc), lv_has ls 15 [(0, .ref (G 0)), (1, .int a1), (2, .int a2), (4, .int a4), (5, .int x1), (6, .int o2), (7, .int o3), (8, .int x4), (9, .int x5), (10, .int y10_84), (11, .int x31), (12, .int x32)] → va_P D vwCl (GW G t (g_names' (g_tc' (g_paved' μ paved_84) tc_84) names_84)) H → va_D (OA (GL G) s.heap.size) (GW G t (g_names' (g_tc' (g_paved' μ paved_84) tc_84) names_84)) → va_S (OA (GL G) s.heap.size) s.heap H locs → W p l e (headSpec (ws_ yX1_paveSquare cX1_paveSquare 15 none) rm_X1_paveSquare_2).room s m ([.ref (G 0), .int a1, .int a2, .int a3, .int a4] : List Value).toArray below meth c H locs 0 0 (MQ below (QM none D (GW G t (g_names' (g_tc' (g_paved' μ res.1) res.2.1) res.2.2)) (GL G) s.heap.size) ([.ref (G 0), .int a1, .int a2, .int a3, .int a4] : List Value).toArray s 0 0 (OA (GL G) s.heap.size)) (F0 m 115 ls [.int o33, .int o2]) := by
                intro ls H locs hl hP hD hS
                have hSz : s.heap.size ≤ H.size := hS.1
                obtain ⟨o35, eo35, h⟩ := obind h
                have hJ139_o35 : ∀ (ls : Array Slot) (H : Heap) (locs : List Loc), lv_has ls 15 [(0, .ref (G 0)), (1, .int a1), (2, .int a2), (4, .int a4), (5, .int x1), (6, .int o2), (7, .int o3), (8, .int x4), (9, .int x5), (10, .int y10_84), (11, .int x31), (12, .int x32)] → va_P D vwCl (GW G t (g_names' (g_tc' (g_paved' μ paved_84) tc_84) names_84)) H → va_D (OA (GL G) s.heap.size) (GW G t (g_names' (g_tc' (g_paved' μ paved_84) tc_84) names_84)) → va_S (OA (GL G) s.heap.size) s.heap H locs → W p l e (headSpec (ws_ yX1_paveSquare cX1_paveSquare 15 none) rm_X1_paveSquare_2).room s m ([.ref (G 0), .int a1, .int a2, .int a3, .int a4] : List Value).toArray below meth c H locs 0 0 (MQ below (QM none D (GW G t (g_names' (g_tc' (g_paved' μ res.1) res.2.1) res.2.2)) (GL G) s.heap.size) ([.ref (G 0), .int a1, .int a2, .int a3, .int a4] : List Value).toArray s 0 0 (OA (GL G) s.heap.size)) (F0 m 139 ls [.int o35]) := by
                  intro ls H locs hl hP hD hS
                  have hSz : s.heap.size ≤ H.size := hS.1
                  refine lv_istore (lv' := [(13, .int o35), (0, .ref (G 0)), (1, .int a1), (2, .int a2), (4, .int a4), (5, .int x1), (6, .int o2), (7, .int o3), (8, .int x4), (9, .int x5), (10, .int y10_84), (11, .int x31), (12, .int x32)]) hx hb dX1_paveSquare_139 hl (by decide) rfl (fun ls hl => ?_)
                  refine lv_iload hx hb dX1_paveSquare_141 (lv_at hl 0 rfl) ?_
                  obtain ⟨o38, eo38, h⟩ := obind h
                  have hJ164_o38 : ∀ (ls : Array Slot) (H : Heap) (locs : List Loc), lv_has ls 15 [(0, .ref (G 0)), (1, .int a1), (2, .int a2), (4, .int a4), (5, .int x1), (6, .int o2), (7, .int o3), (8, .int x4), (9, .int x5), (10, .int y10_84), (11, .int x31), (12, .int x32)] → va_P D vwCl (GW G t (g_names' (g_tc' (g_paved' μ paved_84) tc_84) names_84)) H → va_D (OA (GL G) s.heap.size) (GW G t (g_names' (g_tc' (g_paved' μ paved_84) tc_84) names_84)) → va_S (OA (GL G) s.heap.size) s.heap H locs → W p l e (headSpec (ws_ yX1_paveSquare cX1_paveSquare 15 none) rm_X1_paveSquare_2).room s m ([.ref (G 0), .int a1, .int a2, .int a3, .int a4] : List Value).toArray below meth c H locs 0 0 (MQ below (QM none D (GW G t (g_names' (g_tc' (g_paved' μ res.1) res.2.1) res.2.2)) (GL G) s.heap.size) ([.ref (G 0), .int a1, .int a2, .int a3, .int a4] : List Value).toArray s 0 0 (OA (GL G) s.heap.size)) (F0 m 164 ls [.int o38]) := by
                    intro ls H locs hl hP hD hS
                    have hSz : s.heap.size ≤ H.size := hS.1
                    refine lv_istore (lv' := [(14, .int o38), (0, .ref (G 0)), (1, .int a1), (2, .int a2), (4, .int a4), (5, .int x1), (6, .int o2), (7, .int o3), (8, .int x4), (9, .int x5), (10, .int y10_84), (11, .int x31), (12, .int x32)]) hx hb dX1_paveSquare_164 hl (by decide) rfl (fun ls hl => ?_)
                    refine lv_aload_n hx hb dX1_paveSquare_166 rfl (lv_at hl 1 rfl) ?_
                    refine lv_iload_n hx hb dX1_paveSquare_167 rfl (lv_at hl 2 rfl) ?_
                    refine lv_iload hx hb dX1_paveSquare_168 (lv_at hl 5 rfl) ?_
                    refine lv_iload hx hb dX1_paveSquare_170 (lv_at hl 11 rfl) ?_
                    refine lv_imul hx hb dX1_paveSquare_172 ?_
                    refine lv_iadd hx hb dX1_paveSquare_173 ?_
                    refine lv_iload_n hx hb dX1_paveSquare_174 rfl (lv_at hl 3 rfl) ?_
                    refine lv_iload hx hb dX1_paveSquare_175 (lv_at hl 5 rfl) ?_
                    refine lv_iload hx hb dX1_paveSquare_177 (lv_at hl 12 rfl) ?_
                    refine lv_imul hx hb dX1_paveSquare_179 ?_
                    refine lv_iadd hx hb dX1_paveSquare_180 ?_
                    refine lv_iload hx hb dX1_paveSquare_181 (lv_at hl 5 rfl) ?_
                    refine lv_iload hx hb dX1_paveSquare_183 (lv_at hl 0 rfl) ?_
                    obtain ⟨r40, er40, h⟩ := obind h
                    refine call_M (va_runV (As := [.int (a1 + (x1 * x31)), .int (a2 + (x1 * x32)), .int x1, .int o38]) (rest := []) ⟨hx, hb, hml, hown, hts⟩ (c_X1_paveSquare_1 l z0 D t G (g_names' (g_tc' (g_paved' μ paved_84) tc_84) names_84) (a1 + (x1 * x31)) (a2 + (x1 * x32)) x1 o38 _ H.size er40) (kV hts qw802 qw796 qw797 qw7 qw798 ok_X1_paveSquare_1 ⟨Nat.le_of_ble_eq_true rfl, Nat.le_of_ble_eq_true rfl⟩) ⟨PM.blind, va_recv hK hP (ci := 2) (q0 := 0) rfl rfl, fun U hU hW => ⟨rfl, by rw [hU]; exact (hC.at hS hZ).warm hW, by rw [hU], by rw [hU]; exact hP, ⟨hD.1, fun _ _ h9 => Or.inl (in_map (L := (GL G)) rfl h9)⟩, fun q hq => hZ q (OA.ofD hD rfl hSz q hq)⟩⟩ rfl rfl hl.1 rfl (lv_room (Nat.le_of_ble_eq_true rfl)) dX1_paveSquare_185 ⟨Nat.le_of_ble_eq_true rfl, Nat.le_of_ble_eq_true rfl⟩) hS (OA.ofD hD rfl hSz) (fun H locs hP hD1 hS _ _ => ?_)
                    have hP : va_P D vwCl (GW G t (g_names' (g_tc' (g_paved' μ r40.1) r40.2.1) r40.2.2)) H := hP
                    have hD : va_D (OA (GL G) s.heap.size) (GW G t (g_names' (g_tc' (g_paved' μ r40.1) r40.2.1) r40.2.2)) := hD1.weaken (fun _ q _ h9 => OA.ofD hD rfl hSz q.1 h9)
                    have hSz : s.heap.size ≤ H.size := hS.1
                    obtain ⟨x41, ex41, h⟩ := jlet_some h
                    refine lv_iinc (v := x41) (lv' := [(10, .int x41), (14, .int o38), (0, .ref (G 0)), (1, .int a1), (2, .int a2), (4, .int a4), (5, .int x1), (6, .int o2), (7, .int o3), (8, .int x4), (9, .int x5), (11, .int x31), (12, .int x32)]) hx hb dX1_paveSquare_188 hl (k := 10) rfl (by rw [ex41]; rfl) (by decide) rfl (fun ls hl => ?_)
                    refine lv_goto (tgt := 84) hx hb dX1_paveSquare_191 (by decide) ?_
                    exact ih _ _ _ _ _ h hK84 ls H locs (lv_sub hl [2, 3, 4, 5, 6, 7, 8, 9, 10, 0] rfl) hP hD hS
                  have h := eo38
                  clear eo38
                  refine lv_if_eq (tgt := 151) hx hb dX1_paveSquare_143 (by decide) (fun hc => ?_) (fun hc => ?_)
                  · have h := iteT hc h
                    refine lv_iload hx hb dX1_paveSquare_151 (lv_at hl 8 rfl) ?_
                    refine lv_iload hx hb dX1_paveSquare_153 (lv_at hl 11 rfl) ?_
                    refine lv_iadd hx hb dX1_paveSquare_155 ?_
                    refine lv_iload hx hb dX1_paveSquare_156 (lv_at hl 9 rfl) ?_
                    refine lv_iload hx hb dX1_paveSquare_158 (lv_at hl 12 rfl) ?_
                    refine lv_iadd hx hb dX1_paveSquare_160 ?_
                    obtain ⟨r39, er39, h⟩ := obind h
                    refine call_R (va_runSN (As := [.int (x4 + x31), .int (x5 + x32)]) (rest := []) ⟨hx, hb, hml, hown, hts⟩ (c_X4_placeOf l z0 D t (x4 + x31) (x5 + x32) _ er39) ⟨kN hts (hC.2.1 _ qw231) qw1 qw215 ok_X4_placeOf ⟨Nat.le_of_ble_eq_true rfl, Nat.le_of_ble_eq_true rfl⟩, hts _ qw214, trivial⟩ ⟨PR.blind, fun U hU hW => ⟨rfl, by rw [hU]; exact (hC.at hS hZ).warm hW, by rw [hU]; exact va_P_nil⟩⟩ rfl rfl hl.1 rfl (lv_room (Nat.le_of_ble_eq_true rfl)) dX1_paveSquare_161 ⟨Nat.le_of_ble_eq_true rfl, Nat.le_of_ble_eq_true rfl⟩) ?_
                    obtain rfl := Option.some.inj h
                    exact hJ164_o38 ls H locs (lv_sub hl [1, 2, 3, 4, 5, 6, 7, 8, 9, 10, 11, 12] rfl) hP hD hS
                  · have h := iteF hc h
                    refine lv_iload hx hb dX1_paveSquare_146 (lv_at hl 4 rfl) ?_
                    refine lv_goto (tgt := 164) hx hb dX1_paveSquare_148 (by decide) ?_
                    obtain rfl := Option.some.inj h
                    exact hJ164_o38 ls H locs (lv_sub hl [1, 2, 3, 4, 5, 6, 7, 8, 9, 10, 11, 12] rfl) hP hD hS
                have h := eo35
                clear eo35
                refine lv_icmp_ne (tgt := 138) hx hb dX1_paveSquare_115 (by decide) (fun hc => ?_) (fun hc => ?_)
                · have h := iteF hc h
                  refine lv_iconst (v := (0)) hx hb dX1_paveSquare_138 (by decide) ?_
                  obtain rfl := Option.some.inj h
                  exact hJ139_o35 ls H locs (lv_sub hl [0, 1, 2, 3, 4, 5, 6, 7, 8, 9, 10, 11] rfl) hP hD hS
                · have h := iteT hc h
                  refine lv_iload hx hb dX1_paveSquare_118 (lv_at hl 6 rfl) ?_
                  refine lv_iload hx hb dX1_paveSquare_120 (lv_at hl 11 rfl) ?_
                  refine lv_iconst (v := (1)) hx hb dX1_paveSquare_122 (by decide) ?_
                  obtain ⟨o36, eo36, h⟩ := obind h
                  have hJ131_o36 : ∀ (ls : Array Slot) (H : Heap) (locs : List Loc), lv_has ls 15 [(0, .ref (G 0)), (1, .int a1), (2, .int a2), (4, .int a4), (5, .int x1), (6, .int o2), (7, .int o3), (8, .int x4), (9, .int x5), (10, .int y10_84), (11, .int x31), (12, .int x32)] → va_P D vwCl (GW G t (g_names' (g_tc' (g_paved' μ paved_84) tc_84) names_84)) H → va_D (OA (GL G) s.heap.size) (GW G t (g_names' (g_tc' (g_paved' μ paved_84) tc_84) names_84)) → va_S (OA (GL G) s.heap.size) s.heap H locs → W p l e (headSpec (ws_ yX1_paveSquare cX1_paveSquare 15 none) rm_X1_paveSquare_2).room s m ([.ref (G 0), .int a1, .int a2, .int a3, .int a4] : List Value).toArray below meth c H locs 0 0 (MQ below (QM none D (GW G t (g_names' (g_tc' (g_paved' μ res.1) res.2.1) res.2.2)) (GL G) s.heap.size) ([.ref (G 0), .int a1, .int a2, .int a3, .int a4] : List Value).toArray s 0 0 (OA (GL G) s.heap.size)) (F0 m 131 ls [.int o36, .int o3]) := by
                    intro ls H locs hl hP hD hS
                    have hSz : s.heap.size ≤ H.size := hS.1
                    refine lv_icmp_ne (tgt := 138) hx hb dX1_paveSquare_131 (by decide) (fun hc => ?_) (fun hc => ?_)
                    · have h := iteF hc h
                      refine lv_iconst (v := (0)) hx hb dX1_paveSquare_138 (by decide) ?_
                      obtain rfl := Option.some.inj h
                      exact hJ139_o35 ls H locs (lv_sub hl [0, 1, 2, 3, 4, 5, 6, 7, 8, 9, 10, 11] rfl) hP hD hS
                    · have h := iteT hc h
                      refine lv_iconst (v := (1)) hx hb dX1_paveSquare_134 (by decide) ?_
                      refine lv_goto (tgt := 139) hx hb dX1_paveSquare_135 (by decide) ?_
                      obtain rfl := Option.some.inj h
                      exact hJ139_o35 ls H locs (lv_sub hl [0, 1, 2, 3, 4, 5, 6, 7, 8, 9, 10, 11] rfl) hP hD hS
                  have h := eo36
                  clear eo36
                  refine lv_icmp_ne (tgt := 130) hx hb dX1_paveSquare_123 (by decide) (fun hc => ?_) (fun hc => ?_)
                  · have h := iteF hc h
                    refine lv_iconst (v := (0)) hx hb dX1_paveSquare_130 (by decide) ?_
                    obtain rfl := Option.some.inj h
                    exact hJ131_o36 ls H locs (lv_sub hl [0, 1, 2, 3, 4, 5, 6, 7, 8, 9, 10, 11] rfl) hP hD hS
                  · have h := iteT hc h
                    refine lv_iconst (v := (1)) hx hb dX1_paveSquare_126 (by decide) ?_
                    refine lv_goto (tgt := 131) hx hb dX1_paveSquare_127 (by decide) ?_
                    obtain rfl := Option.some.inj h
                    exact hJ131_o36 ls H locs (lv_sub hl [0, 1, 2, 3, 4, 5, 6, 7, 8, 9, 10, 11] rfl) hP hD hS
              have h := eo33
              clear eo33
              refine lv_icmp_ne (tgt := 114) hx hb dX1_paveSquare_107 (by decide) (fun hc => ?_) (fun hc => ?_)
              · have h := iteF hc h
                refine lv_iconst (v := (0)) hx hb dX1_paveSquare_114 (by decide) ?_
                obtain rfl := Option.some.inj h
                exact hJ115_o33 ls H locs (lv_sub hl [2, 3, 4, 5, 6, 7, 8, 9, 10, 11, 1, 0] rfl) hP hD hS
              · have h := iteT hc h
                refine lv_iconst (v := (1)) hx hb dX1_paveSquare_110 (by decide) ?_
                refine lv_goto (tgt := 115) hx hb dX1_paveSquare_111 (by decide) ?_
                obtain rfl := Option.some.inj h
                exact hJ115_o33 ls H locs (lv_sub hl [2, 3, 4, 5, 6, 7, 8, 9, 10, 11, 1, 0] rfl) hP hD hS
        refine hL84 _ _ _ _ _ _ eo30 (fun ls H locs hl hP hD hS => ?_) ls H locs (lv_sub hl [4, 5, 6, 7, 8, 9, 3, 2, 1, 0] rfl) hP hD hS
        have hSz : s.heap.size ≤ H.size := hS.1
        obtain rfl := Option.some.inj h
        exact W.vret hx hb hr (fun t ht hW => ⟨rfl, by rw [ht]; exact hP, hD, hS.F ht⟩) hS.2.2 dX1_paveSquare_194
      have h := eo3
      clear eo3
      refine lv_icmp_lt (tgt := 47) hx hb dX1_paveSquare_40 (by decide) (fun hc => ?_) (fun hc => ?_)
      · have h := iteT hc h
        refine lv_iconst (v := (0)) hx hb dX1_paveSquare_47 (by decide) ?_
        obtain rfl := Option.some.inj h
        exact hJ48_o3 ls H locs (lv_sub hl [1, 2, 3, 4, 5, 0] rfl) hP hD hS
      · have h := iteF hc h
        refine lv_iconst (v := (1)) hx hb dX1_paveSquare_43 (by decide) ?_
        refine lv_goto (tgt := 48) hx hb dX1_paveSquare_44 (by decide) ?_
        obtain rfl := Option.some.inj h
        exact hJ48_o3 ls H locs (lv_sub hl [1, 2, 3, 4, 5, 0] rfl) hP hD hS
    have h := eo2
    clear eo2
    refine lv_icmp_lt (tgt := 28) hx hb dX1_paveSquare_21 (by decide) (fun hc => ?_) (fun hc => ?_)
    · have h := iteT hc h
      refine lv_iconst (v := (0)) hx hb dX1_paveSquare_28 (by decide) ?_
      obtain rfl := Option.some.inj h
      exact hJ29_o2 ls H locs (lv_sub hl [1, 2, 3, 5, 0] rfl) hP hD hS
    · have h := iteF hc h
      refine lv_iconst (v := (1)) hx hb dX1_paveSquare_24 (by decide) ?_
      refine lv_goto (tgt := 29) hx hb dX1_paveSquare_25 (by decide) ?_
      obtain rfl := Option.some.inj h
      exact hJ29_o2 ls H locs (lv_sub hl [1, 2, 3, 5, 0] rfl) hP hD hS
  · have h := iteF hc h
    obtain rfl := Option.some.inj h
    exact W.vret hx hb hr (fun t ht hW => ⟨rfl, by rw [ht]; exact hP, hD, hS.F ht⟩) hS.2.2 dX1_paveSquare_11

abbrev rm_X1_paveSquare_3 : Room := { frames := 4, cells := 0, slots := 0, locals := 131 }
theorem ok_X1_paveSquare_3 : okY yX1_paveSquare 4 := ⟨by decide +kernel, by decide +kernel, by decide +kernel⟩
set_option maxHeartbeats 4000000 in
set_option maxRecDepth 100000 in
theorem c_X1_paveSquare_3 (l : Launch) (z0 : Nat) (D : va_G) (t : Nat → ClassId) (G : Nat → Nat) (μ : GS) (a1 : Int32) (a2 : Int32) (a3 : Int32) (a4 : Int32) (res : (Int64) × (Int32) × (Nat → Int32)) (sz : Nat) (h : f_X1_paveSquare_3 μ a1 a2 a3 a4 = some res) : Met l yX1_paveSquare (ws_ yX1_paveSquare cX1_paveSquare 15 none) rm_X1_paveSquare_3 (PM z0 D t [.ref (G 0), .int a1, .int a2, .int a3, .int a4] (GW G t μ) (GL G) sz) (QM none D (GW G t (g_names' (g_tc' (g_paved' μ res.1) res.2.1) res.2.2)) (GL G) sz) 0 0 (OA (GL G) sz) := by
  refine Met.ofW (cc := cX1_paveSquare) (maxL := 15) (ret := none) (by decide) rfl ?_
  intro p e s m args below meth c s₁ Bo hml hv
  obtain ⟨rfl, hC, hsz, hP, hD, hZ⟩ := hv
  have hx := Bo.exec
  have hb := Bo.bytes
  have hr := Bo.returns
  have hts : ∀ w ∈ LA, w.before _ s = true := fun w hw => atoms_spec (ws := ws_ yX1_paveSquare cX1_paveSquare 15 none) Bo.pre w (List.mem_cons_of_mem _ hw)
  have hown : s.vm.findClass RX1 = some m.cls := findClass_of_methodNamed Bo.named
  have hlocks := Bo.notSynchronized
  have hK := hC.1
  subst hsz
  have hl := lv_entry ([.ref (G 0), .int a1, .int a2, .int a3, .int a4]) (n := 15) (Nat.le_of_ble_eq_true rfl)
  rw [lg_entry_eq]
  generalize (lg_sl ([.ref (G 0), .int a1, .int a2, .int a3, .int a4]) ++ List.replicate (15 - (lg_sl ([.ref (G 0), .int a1, .int a2, .int a3, .int a4])).length) Slot.unset).toArray = ls at hl ⊢
  have hl : lv_has ls 15 [(0, .ref (G 0)), (1, .int a1), (2, .int a2), (3, .int a3), (4, .int a4)] := hl
  suffices K9 : ∀ (H : Heap) (locs : List Loc), va_P D vwCl (GW G t μ) H → va_S (OA (GL G) s.heap.size) s.heap H locs → W p l e (headSpec (ws_ yX1_paveSquare cX1_paveSquare 15 none) rm_X1_paveSquare_3).room s m ([.ref (G 0), .int a1, .int a2, .int a3, .int a4] : List Value).toArray below meth c H locs 0 0 (MQ below (QM none D (GW G t (g_names' (g_tc' (g_paved' μ res.1) res.2.1) res.2.2)) (GL G) s.heap.size) ([.ref (G 0), .int a1, .int a2, .int a3, .int a4] : List Value).toArray s 0 0 (OA (GL G) s.heap.size)) (F0 m 0 ls []) from K9 s.heap [] hP va_S.rf
  intro H locs hP hS
  have hSz : s.heap.size ≤ H.size := hS.1
  unfold f_X1_paveSquare_3 at h
  refine lv_iload_n hx hb dX1_paveSquare_0 rfl (lv_at hl 3 rfl) ?_
  refine lv_iconst (v := (2)) hx hb dX1_paveSquare_1 (by decide) ?_
  refine lv_idiv hx hb dX1_paveSquare_2 (by decide) ?_
  obtain ⟨x1, ex1, h⟩ := jlet_some h
  refine topI ex1 ?_
  refine lv_istore (lv' := [(5, .int x1), (0, .ref (G 0)), (1, .int a1), (2, .int a2), (3, .int a3), (4, .int a4)]) hx hb dX1_paveSquare_3 hl (by decide) rfl (fun ls hl => ?_)
  refine lv_iload hx hb dX1_paveSquare_5 (lv_at hl 0 rfl) ?_
  refine lv_iconst (v := (1)) hx hb dX1_paveSquare_7 (by decide) ?_
  refine lv_icmp_ge (tgt := 12) hx hb dX1_paveSquare_8 (by decide) (fun hc => ?_) (fun hc => ?_)
  · have h := iteT hc h
    refine lv_iload hx hb dX1_paveSquare_12 (lv_at hl 5 rfl) ?_
    refine lv_bipush (v := (8)) hx hb dX1_paveSquare_14 (by decide) ?_
    refine lv_irem hx hb dX1_paveSquare_16 (by decide) ?_
    refine lv_iload_n hx hb dX1_paveSquare_17 rfl (lv_at hl 2 rfl) ?_
    refine lv_iload hx hb dX1_paveSquare_18 (lv_at hl 0 rfl) ?_
    refine lv_iadd hx hb dX1_paveSquare_20 ?_
    obtain ⟨o2, eo2, h⟩ := obind h
    have hJ29_o2 : ∀ (ls : Array Slot) (H : Heap) (locs : List Loc), lv_has ls 15 [(0, .ref (G 0)), (1, .int a1), (2, .int a2), (4, .int a4), (5, .int x1)] → va_P D vwCl (GW G t μ) H → va_D (OA (GL G) s.heap.size) (GW G t μ) → va_S (OA (GL G) s.heap.size) s.heap H locs → W p l e (headSpec (ws_ yX1_paveSquare cX1_paveSquare 15 none) rm_X1_paveSquare_3).room s m ([.ref (G 0), .int a1, .int a2, .int a3, .int a4] : List Value).toArray below meth c H locs 0 0 (MQ below (QM none D (GW G t (g_names' (g_tc' (g_paved' μ res.1) res.2.1) res.2.2)) (GL G) s.heap.size) ([.ref (G 0), .int a1, .int a2, .int a3, .int a4] : List Value).toArray s 0 0 (OA (GL G) s.heap.size)) (F0 m 29 ls [.int o2]) := by
      intro ls H locs hl hP hD hS
      have hSz : s.heap.size ≤ H.size := hS.1
      refine lv_istore (lv' := [(6, .int o2), (0, .ref (G 0)), (1, .int a1), (2, .int a2), (4, .int a4), (5, .int x1)]) hx hb dX1_paveSquare_29 hl (by decide) rfl (fun ls hl => ?_)
      refine lv_iload hx hb dX1_paveSquare_31 (lv_at hl 4 rfl) ?_
      refine lv_bipush (v := (8)) hx hb dX1_paveSquare_33 (by decide) ?_
      refine lv_idiv hx hb dX1_paveSquare_35 (by decide) ?_
      refine lv_iload_n hx hb dX1_paveSquare_36 rfl (lv_at hl 3 rfl) ?_
      refine lv_iload hx hb dX1_paveSquare_37 (lv_at hl 5 rfl) ?_
      refine lv_iadd hx hb dX1_paveSquare_39 ?_
      obtain ⟨o3, eo3, h⟩ := obind h
      have hJ48_o3 : ∀ (ls : Array Slot) (H : Heap) (locs : List Loc), lv_has ls 15 [(0, .ref (G 0)), (1, .int a1), (2, .int a2), (4, .int a4), (5, .int x1), (6, .int o2)] → va_P D vwCl (GW G t μ) H → va_D (OA (GL G) s.heap.size) (GW G t μ) → va_S (OA (GL G) s.heap.size) s.heap H locs → W p l e (headSpec (ws_ yX1_paveSquare cX1_paveSquare 15 none) rm_X1_paveSquare_3).room s m ([.ref (G 0), .int a1, .int a2, .int a3, .int a4] : List Value).toArray below meth c H locs 0 0 (MQ below (QM none D (GW G t (g_names' (g_tc' (g_paved' μ res.1) res.2.1) res.2.2)) (GL G) s.heap.size) ([.ref (G 0), .int a1, .int a2, .int a3, .int a4] : List Value).toArray s 0 0 (OA (GL G) s.heap.size)) (F0 m 48 ls [.int o3]) := by
        intro ls H locs hl hP hD hS
        have hSz : s.heap.size ≤ H.size := hS.1
        refine lv_istore (lv' := [(7, .int o3), (0, .ref (G 0)), (1, .int a1), (2, .int a2), (4, .int a4), (5, .int x1), (6, .int o2)]) hx hb dX1_paveSquare_48 hl (by decide) rfl (fun ls hl => ?_)
        refine lv_iload_n hx hb dX1_paveSquare_50 rfl (lv_at hl 2 rfl) ?_
        refine lv_iload hx hb dX1_paveSquare_51 (lv_at hl 5 rfl) ?_
        refine lv_iadd hx hb dX1_paveSquare_53 ?_
        refine lv_iconst (v := (1)) hx hb dX1_paveSquare_54 (by decide) ?_
        refine lv_isub hx hb dX1_paveSquare_55 ?_
        obtain ⟨x4, ex4, h⟩ := jlet_some h
        refine topI ex4 ?_
        refine lv_istore (lv' := [(8, .int x4), (7, .int o3), (0, .ref (G 0)), (1, .int a1), (2, .int a2), (4, .int a4), (5, .int x1), (6, .int o2)]) hx hb dX1_paveSquare_56 hl (by decide) rfl (fun ls hl => ?_)
        refine lv_iload_n hx hb dX1_paveSquare_58 rfl (lv_at hl 4 rfl) ?_
        refine lv_iload hx hb dX1_paveSquare_59 (lv_at hl 6 rfl) ?_
        refine lv_iadd hx hb dX1_paveSquare_61 ?_
        refine lv_iconst (v := (1)) hx hb dX1_paveSquare_62 (by decide) ?_
        refine lv_isub hx hb dX1_paveSquare_63 ?_
        obtain ⟨x5, ex5, h⟩ := jlet_some h
        refine topI ex5 ?_
        refine lv_istore (lv' := [(9, .int x5), (8, .int x4), (7, .int o3), (0, .ref (G 0)), (1, .int a1), (2, .int a2), (4, .int a4), (5, .int x1), (6, .int o2)]) hx hb dX1_paveSquare_64 hl (by decide) rfl (fun ls hl => ?_)
        refine lv_aload_n hx hb dX1_paveSquare_66 rfl (lv_at hl 3 rfl) ?_
        refine lv_iload hx hb dX1_paveSquare_67 (lv_at hl 1 rfl) ?_
        refine lv_iload hx hb dX1_paveSquare_69 (lv_at hl 0 rfl) ?_
        refine lv_iload hx hb dX1_paveSquare_71 (lv_at hl 8 rfl) ?_
        refine lv_iload hx hb dX1_paveSquare_73 (lv_at hl 2 rfl) ?_
        obtain ⟨r6, er6, h⟩ := obind h
        refine call_R (va_runS (As := [.int o2, .int o3]) (rest := [.int x5, .int x4, .ref (G 0)]) ⟨hx, hb, hml, hown, hts⟩ (c_X1_quarterTurn l z0 D t o2 o3 _ er6) (kS hts qw799 qw800 qw7 qw801 ok_X1_quarterTurn ⟨Nat.le_of_ble_eq_true rfl, Nat.le_of_ble_eq_true rfl⟩) ⟨PR.blind, fun U hU hW => ⟨rfl, by rw [hU]; exact (hC.at hS hZ).warm hW, by rw [hU]; exact va_P_nil⟩⟩ rfl rfl hl.1 rfl (lv_room (Nat.le_of_ble_eq_true rfl)) dX1_paveSquare_75 ⟨Nat.le_of_ble_eq_true rfl, Nat.le_of_ble_eq_true rfl⟩) ?_
        obtain ⟨r7, er7, h⟩ := obind h
        refine call_M (va_runV (As := [.int x4, .int x5, .int r6]) (rest := []) ⟨hx, hb, hml, hown, hts⟩ (c_X1_putTriple l z0 D t G μ x4 x5 r6 _ H.size er7) (kV hts qw764 qw731 qw732 qw7 qw733 ok_X1_putTriple ⟨Nat.le_of_ble_eq_true rfl, Nat.le_of_ble_eq_true rfl⟩) ⟨PM.blind, va_recv hK hP (ci := 2) (q0 := 0) rfl rfl, fun U hU hW => ⟨rfl, by rw [hU]; exact (hC.at hS hZ).warm hW, by rw [hU], by rw [hU]; exact hP, ⟨hD.1, fun _ _ h9 => Or.inl (in_map (L := (GL G)) rfl h9)⟩, fun q hq => hZ q (OA.ofD hD rfl hSz q hq)⟩⟩ rfl rfl hl.1 rfl (lv_room (Nat.le_of_ble_eq_true rfl)) dX1_paveSquare_78 ⟨Nat.le_of_ble_eq_true rfl, Nat.le_of_ble_eq_true rfl⟩) hS (OA.ofD hD rfl hSz) (fun H locs hP hD1 hS _ _ => ?_)
        have hP : va_P D vwCl (GW G t (g_names' (g_tc' (g_paved' μ r7.1) r7.2.1) r7.2.2)) H := hP
        have hD : va_D (OA (GL G) s.heap.size) (GW G t (g_names' (g_tc' (g_paved' μ r7.1) r7.2.1) r7.2.2)) := hD1.weaken (fun _ q _ h9 => OA.ofD hD rfl hSz q.1 h9)
        have hSz : s.heap.size ≤ H.size := hS.1
        refine lv_iconst (v := (0)) hx hb dX1_paveSquare_81 (by decide) ?_
        refine lv_istore (lv' := [(10, .int (0 : Int32)), (9, .int x5), (8, .int x4), (7, .int o3), (0, .ref (G 0)), (1, .int a1), (2, .int a2), (4, .int a4), (5, .int x1), (6, .int o2)]) hx hb dX1_paveSquare_82 hl (by decide) rfl (fun ls hl => ?_)
        obtain ⟨o30, eo30, h⟩ := obind h
        have hL84 : ∀ (n : Nat) (y10_84 : Int32) (paved_84 : Int64) (tc_84 : Int32) (names_84 : Nat → Int32) (o30 : (Int64) × (Int32) × (Nat → Int32)), f_X1_paveSquare_3_L84 a1 a2 a4 μ x1 o2 o3 x4 x5 n y10_84 paved_84 tc_84 names_84 = some o30 → (∀ (ls : Array Slot) (H : Heap) (locs : List Loc), lv_has ls 15 [] → va_P D vwCl (GW G t (g_names' (g_tc' (g_paved' μ o30.1) o30.2.1) o30.2.2)) H → va_D (OA (GL G) s.heap.size) (GW G t (g_names' (g_tc' (g_paved' μ o30.1) o30.2.1) o30.2.2)) → va_S (OA (GL G) s.heap.size) s.heap H locs → W p l e (headSpec (ws_ yX1_paveSquare cX1_paveSquare 15 none) rm_X1_paveSquare_3).room s m ([.ref (G 0), .int a1, .int a2, .int a3, .int a4] : List Value).toArray below meth c H locs 0 0 (MQ below (QM none D (GW G t (g_names' (g_tc' (g_paved' μ res.1) res.2.1) res.2.2)) (GL G) s.heap.size) ([.ref (G 0), .int a1, .int a2, .int a3, .int a4] : List Value).toArray s 0 0 (OA (GL G) s.heap.size)) (F0 m 194 ls [])) → ∀ (ls : Array Slot) (H : Heap) (locs : List Loc), lv_has ls 15 [(0, .ref (G 0)), (1, .int a1), (2, .int a2), (4, .int a4), (5, .int x1), (6, .int o2), (7, .int o3), (8, .int x4), (9, .int x5), (10, .int y10_84)] → va_P D vwCl (GW G t (g_names' (g_tc' (g_paved' μ paved_84) tc_84) names_84)) H → va_D (OA (GL G) s.heap.size) (GW G t (g_names' (g_tc' (g_paved' μ paved_84) tc_84) names_84)) → va_S (OA (GL G) s.heap.size) s.heap H locs → W p l e (headSpec (ws_ yX1_paveSquare cX1_paveSquare 15 none) rm_X1_paveSquare_3).room s m ([.ref (G 0), .int a1, .int a2, .int a3, .int a4] : List Value).toArray below meth c H locs 0 0 (MQ below (QM none D (GW G t (g_names' (g_tc' (g_paved' μ res.1) res.2.1) res.2.2)) (GL G) s.heap.size) ([.ref (G 0), .int a1, .int a2, .int a3, .int a4] : List Value).toArray s 0 0 (OA (GL G) s.heap.size)) (F0 m 84 ls []) := by
          intro n
          induction n with
          | zero => intro y10_84 paved_84 tc_84 names_84 o30 h; exact absurd h (fun z => by cases z)
          | succ n ih =>
            intro y10_84 paved_84 tc_84 names_84 o30 h hK84 ls H locs hl hP hD hS
            replace h : f_X1_paveSquare_3_L84_b a1 a2 a4 μ x1 o2 o3 x4 x5 (f_X1_paveSquare_3_L84 a1 a2 a4 μ x1 o2 o3 x4 x5 n) y10_84 paved_84 tc_84 names_84 = some o30 := h
            unfold f_X1_paveSquare_3_L84_b at h
            have hSz : s.heap.size ≤ H.size := hS.1
            refine lv_iload hx hb dX1_paveSquare_84 (lv_at hl 9 rfl) ?_
            refine lv_iconst (v := (4)) hx hb dX1_paveSquare_86 (by decide) ?_
            refine lv_icmp_ge (tgt := 194) hx hb dX1_paveSquare_87 (by decide) (fun hc => ?_) (fun hc => ?_)
            · have h := iteT hc h
              obtain rfl := Option.some.inj h
              exact hK84 ls H locs (lv_sub hl [] rfl) hP hD hS
            · have h := iteF hc h
              refine lv_iload hx hb dX1_paveSquare_90 (lv_at hl 9 rfl) ?_
              refine lv_iconst (v := (2)) hx hb dX1_paveSquare_92 (by decide) ?_
              refine lv_irem hx hb dX1_paveSquare_93 (by decide) ?_
              obtain ⟨x31, ex31, h⟩ := jlet_some h
              refine topI ex31 ?_
              refine lv_istore (lv' := [(11, .int x31), (0, .ref (G 0)), (1, .int a1), (2, .int a2), (4, .int a4), (5, .int x1), (6, .int o2), (7, .int o3), (8, .int x4), (9, .int x5), (10, .int y10_84)]) hx hb dX1_paveSquare_94 hl (by decide) rfl (fun ls hl => ?_)
              refine lv_iload hx hb dX1_paveSquare_96 (lv_at hl 10 rfl) ?_
              refine lv_iconst (v := (2)) hx hb dX1_paveSquare_98 (by decide) ?_
              refine lv_idiv hx hb dX1_paveSquare_99 (by decide) ?_
              obtain ⟨x32, ex32, h⟩ := jlet_some h
              refine topI ex32 ?_
              refine lv_istore (lv' := [(12, .int x32), (11, .int x31), (0, .ref (G 0)), (1, .int a1), (2, .int a2), (4, .int a4), (5, .int x1), (6, .int o2), (7, .int o3), (8, .int x4), (9, .int x5), (10, .int y10_84)]) hx hb dX1_paveSquare_100 hl (by decide) rfl (fun ls hl => ?_)
              refine lv_iload hx hb dX1_paveSquare_102 (lv_at hl 7 rfl) ?_
              refine lv_iload hx hb dX1_paveSquare_104 (lv_at hl 1 rfl) ?_
              refine lv_iconst (v := (1)) hx hb dX1_paveSquare_106 (by decide) ?_
              obtain ⟨o33, eo33, h⟩ := obind h
              have hJ115_o33 : ∀ (ls : Array Slot) (H : Heap) (locs : List Loc), lv_has ls 15 [(0, .ref (G 0)), (1, .int a1), (2, .int a2), (4, .int a4), (5, .int x1), (6, .int o2), (7, .int o3), (8, .int x4), (9, .int x5), (10, .int y10_84), (11, .int x31), (12, .int x32)] → va_P D vwCl (GW G t (g_names' (g_tc' (g_paved' μ paved_84) tc_84) names_84)) H → va_D (OA (GL G) s.heap.size) (GW G t (g_names' (g_tc' (g_paved' μ paved_84) tc_84) names_84)) → va_S (OA (GL G) s.heap.size) s.heap H locs → W p l e (headSpec (ws_ yX1_paveSquare cX1_paveSquare 15 none) rm_X1_paveSquare_3).room s m ([.ref (G 0), .int a1, .int a2, .int a3, .int a4] : List Value).toArray below meth c H locs 0 0 (MQ below (QM none D (GW G t (g_names' (g_tc' (g_paved' μ res.1) res.2.1) res.2.2)) (GL G) s.heap.size) ([.ref (G 0), .int a1, .int a2, .int a3, .int a4] : List Value).toArray s 0 0 (OA (GL G) s.heap.size)) (F0 m 115 ls [.int o33, .int o2]) := by
                intro ls H locs hl hP hD hS
                have hSz : s.heap.size ≤ H.size := hS.1
                obtain ⟨o35, eo35, h⟩ := obind h
                have hJ139_o35 : ∀ (ls : Array Slot) (H : Heap) (locs : List Loc), lv_has ls 15 [(0, .ref (G 0)), (1, .int a1), (2, .int a2), (4, .int a4), (5, .int x1), (6, .int o2), (7, .int o3), (8, .int x4), (9, .int x5), (10, .int y10_84), (11, .int x31), (12, .int x32)] → va_P D vwCl (GW G t (g_names' (g_tc' (g_paved' μ paved_84) tc_84) names_84)) H → va_D (OA (GL G) s.heap.size) (GW G t (g_names' (g_tc' (g_paved' μ paved_84) tc_84) names_84)) → va_S (OA (GL G) s.heap.size) s.heap H locs → W p l e (headSpec (ws_ yX1_paveSquare cX1_paveSquare 15 none) rm_X1_paveSquare_3).room s m ([.ref (G 0), .int a1, .int a2, .int a3, .int a4] : List Value).toArray below meth c H locs 0 0 (MQ below (QM none D (GW G t (g_names' (g_tc' (g_paved' μ res.1) res.2.1) res.2.2)) (GL G) s.heap.size) ([.ref (G 0), .int a1, .int a2, .int a3, .int a4] : List Value).toArray s 0 0 (OA (GL G) s.heap.size)) (F0 m 139 ls [.int o35]) := by
                  intro ls H locs hl hP hD hS
                  have hSz : s.heap.size ≤ H.size := hS.1
                  refine lv_istore (lv' := [(13, .int o35), (0, .ref (G 0)), (1, .int a1), (2, .int a2), (4, .int a4), (5, .int x1), (6, .int o2), (7, .int o3), (8, .int x4), (9, .int x5), (10, .int y10_84), (11, .int x31), (12, .int x32)]) hx hb dX1_paveSquare_139 hl (by decide) rfl (fun ls hl => ?_)
                  refine lv_iload hx hb dX1_paveSquare_141 (lv_at hl 0 rfl) ?_
                  obtain ⟨o38, eo38, h⟩ := obind h
                  have hJ164_o38 : ∀ (ls : Array Slot) (H : Heap) (locs : List Loc), lv_has ls 15 [(0, .ref (G 0)), (1, .int a1), (2, .int a2), (4, .int a4), (5, .int x1), (6, .int o2), (7, .int o3), (8, .int x4), (9, .int x5), (10, .int y10_84), (11, .int x31), (12, .int x32)] → va_P D vwCl (GW G t (g_names' (g_tc' (g_paved' μ paved_84) tc_84) names_84)) H → va_D (OA (GL G) s.heap.size) (GW G t (g_names' (g_tc' (g_paved' μ paved_84) tc_84) names_84)) → va_S (OA (GL G) s.heap.size) s.heap H locs → W p l e (headSpec (ws_ yX1_paveSquare cX1_paveSquare 15 none) rm_X1_paveSquare_3).room s m ([.ref (G 0), .int a1, .int a2, .int a3, .int a4] : List Value).toArray below meth c H locs 0 0 (MQ below (QM none D (GW G t (g_names' (g_tc' (g_paved' μ res.1) res.2.1) res.2.2)) (GL G) s.heap.size) ([.ref (G 0), .int a1, .int a2, .int a3, .int a4] : List Value).toArray s 0 0 (OA (GL G) s.heap.size)) (F0 m 164 ls [.int o38]) := by
                    intro ls H locs hl hP hD hS
                    have hSz : s.heap.size ≤ H.size := hS.1
                    refine lv_istore (lv' := [(14, .int o38), (0, .ref (G 0)), (1, .int a1), (2, .int a2), (4, .int a4), (5, .int x1), (6, .int o2), (7, .int o3), (8, .int x4), (9, .int x5), (10, .int y10_84), (11, .int x31), (12, .int x32)]) hx hb dX1_paveSquare_164 hl (by decide) rfl (fun ls hl => ?_)
                    refine lv_aload_n hx hb dX1_paveSquare_166 rfl (lv_at hl 1 rfl) ?_
                    refine lv_iload_n hx hb dX1_paveSquare_167 rfl (lv_at hl 2 rfl) ?_
                    refine lv_iload hx hb dX1_paveSquare_168 (lv_at hl 5 rfl) ?_
                    refine lv_iload hx hb dX1_paveSquare_170 (lv_at hl 11 rfl) ?_
                    refine lv_imul hx hb dX1_paveSquare_172 ?_
                    refine lv_iadd hx hb dX1_paveSquare_173 ?_
                    refine lv_iload_n hx hb dX1_paveSquare_174 rfl (lv_at hl 3 rfl) ?_
                    refine lv_iload hx hb dX1_paveSquare_175 (lv_at hl 5 rfl) ?_
                    refine lv_iload hx hb dX1_paveSquare_177 (lv_at hl 12 rfl) ?_
                    refine lv_imul hx hb dX1_paveSquare_179 ?_
                    refine lv_iadd hx hb dX1_paveSquare_180 ?_
                    refine lv_iload hx hb dX1_paveSquare_181 (lv_at hl 5 rfl) ?_
                    refine lv_iload hx hb dX1_paveSquare_183 (lv_at hl 0 rfl) ?_
                    obtain ⟨r40, er40, h⟩ := obind h
                    refine call_M (va_runV (As := [.int (a1 + (x1 * x31)), .int (a2 + (x1 * x32)), .int x1, .int o38]) (rest := []) ⟨hx, hb, hml, hown, hts⟩ (c_X1_paveSquare_2 l z0 D t G (g_names' (g_tc' (g_paved' μ paved_84) tc_84) names_84) (a1 + (x1 * x31)) (a2 + (x1 * x32)) x1 o38 _ H.size er40) (kV hts qw802 qw796 qw797 qw7 qw798 ok_X1_paveSquare_2 ⟨Nat.le_of_ble_eq_true rfl, Nat.le_of_ble_eq_true rfl⟩) ⟨PM.blind, va_recv hK hP (ci := 2) (q0 := 0) rfl rfl, fun U hU hW => ⟨rfl, by rw [hU]; exact (hC.at hS hZ).warm hW, by rw [hU], by rw [hU]; exact hP, ⟨hD.1, fun _ _ h9 => Or.inl (in_map (L := (GL G)) rfl h9)⟩, fun q hq => hZ q (OA.ofD hD rfl hSz q hq)⟩⟩ rfl rfl hl.1 rfl (lv_room (Nat.le_of_ble_eq_true rfl)) dX1_paveSquare_185 ⟨Nat.le_of_ble_eq_true rfl, Nat.le_of_ble_eq_true rfl⟩) hS (OA.ofD hD rfl hSz) (fun H locs hP hD1 hS _ _ => ?_)
                    have hP : va_P D vwCl (GW G t (g_names' (g_tc' (g_paved' μ r40.1) r40.2.1) r40.2.2)) H := hP
                    have hD : va_D (OA (GL G) s.heap.size) (GW G t (g_names' (g_tc' (g_paved' μ r40.1) r40.2.1) r40.2.2)) := hD1.weaken (fun _ q _ h9 => OA.ofD hD rfl hSz q.1 h9)
                    have hSz : s.heap.size ≤ H.size := hS.1
                    obtain ⟨x41, ex41, h⟩ := jlet_some h
                    refine lv_iinc (v := x41) (lv' := [(10, .int x41), (14, .int o38), (0, .ref (G 0)), (1, .int a1), (2, .int a2), (4, .int a4), (5, .int x1), (6, .int o2), (7, .int o3), (8, .int x4), (9, .int x5), (11, .int x31), (12, .int x32)]) hx hb dX1_paveSquare_188 hl (k := 10) rfl (by rw [ex41]; rfl) (by decide) rfl (fun ls hl => ?_)
                    refine lv_goto (tgt := 84) hx hb dX1_paveSquare_191 (by decide) ?_
                    exact ih _ _ _ _ _ h hK84 ls H locs (lv_sub hl [2, 3, 4, 5, 6, 7, 8, 9, 10, 0] rfl) hP hD hS
                  have h := eo38
                  clear eo38
                  refine lv_if_eq (tgt := 151) hx hb dX1_paveSquare_143 (by decide) (fun hc => ?_) (fun hc => ?_)
                  · have h := iteT hc h
                    refine lv_iload hx hb dX1_paveSquare_151 (lv_at hl 8 rfl) ?_
                    refine lv_iload hx hb dX1_paveSquare_153 (lv_at hl 11 rfl) ?_
                    refine lv_iadd hx hb dX1_paveSquare_155 ?_
                    refine lv_iload hx hb dX1_paveSquare_156 (lv_at hl 9 rfl) ?_
                    refine lv_iload hx hb dX1_paveSquare_158 (lv_at hl 12 rfl) ?_
                    refine lv_iadd hx hb dX1_paveSquare_160 ?_
                    obtain ⟨r39, er39, h⟩ := obind h
                    refine call_R (va_runSN (As := [.int (x4 + x31), .int (x5 + x32)]) (rest := []) ⟨hx, hb, hml, hown, hts⟩ (c_X4_placeOf l z0 D t (x4 + x31) (x5 + x32) _ er39) ⟨kN hts (hC.2.1 _ qw231) qw1 qw215 ok_X4_placeOf ⟨Nat.le_of_ble_eq_true rfl, Nat.le_of_ble_eq_true rfl⟩, hts _ qw214, trivial⟩ ⟨PR.blind, fun U hU hW => ⟨rfl, by rw [hU]; exact (hC.at hS hZ).warm hW, by rw [hU]; exact va_P_nil⟩⟩ rfl rfl hl.1 rfl (lv_room (Nat.le_of_ble_eq_true rfl)) dX1_paveSquare_161 ⟨Nat.le_of_ble_eq_true rfl, Nat.le_of_ble_eq_true rfl⟩) ?_
                    obtain rfl := Option.some.inj h
                    exact hJ164_o38 ls H locs (lv_sub hl [1, 2, 3, 4, 5, 6, 7, 8, 9, 10, 11, 12] rfl) hP hD hS
                  · have h := iteF hc h
                    refine lv_iload hx hb dX1_paveSquare_146 (lv_at hl 4 rfl) ?_
                    refine lv_goto (tgt := 164) hx hb dX1_paveSquare_148 (by decide) ?_
                    obtain rfl := Option.some.inj h
                    exact hJ164_o38 ls H locs (lv_sub hl [1, 2, 3, 4, 5, 6, 7, 8, 9, 10, 11, 12] rfl) hP hD hS
                have h := eo35
                clear eo35
                refine lv_icmp_ne (tgt := 138) hx hb dX1_paveSquare_115 (by decide) (fun hc => ?_) (fun hc => ?_)
                · have h := iteF hc h
                  refine lv_iconst (v := (0)) hx hb dX1_paveSquare_138 (by decide) ?_
                  obtain rfl := Option.some.inj h
                  exact hJ139_o35 ls H locs (lv_sub hl [0, 1, 2, 3, 4, 5, 6, 7, 8, 9, 10, 11] rfl) hP hD hS
                · have h := iteT hc h
                  refine lv_iload hx hb dX1_paveSquare_118 (lv_at hl 6 rfl) ?_
                  refine lv_iload hx hb dX1_paveSquare_120 (lv_at hl 11 rfl) ?_
                  refine lv_iconst (v := (1)) hx hb dX1_paveSquare_122 (by decide) ?_
                  obtain ⟨o36, eo36, h⟩ := obind h
                  have hJ131_o36 : ∀ (ls : Array Slot) (H : Heap) (locs : List Loc), lv_has ls 15 [(0, .ref (G 0)), (1, .int a1), (2, .int a2), (4, .int a4), (5, .int x1), (6, .int o2), (7, .int o3), (8, .int x4), (9, .int x5), (10, .int y10_84), (11, .int x31), (12, .int x32)] → va_P D vwCl (GW G t (g_names' (g_tc' (g_paved' μ paved_84) tc_84) names_84)) H → va_D (OA (GL G) s.heap.size) (GW G t (g_names' (g_tc' (g_paved' μ paved_84) tc_84) names_84)) → va_S (OA (GL G) s.heap.size) s.heap H locs → W p l e (headSpec (ws_ yX1_paveSquare cX1_paveSquare 15 none) rm_X1_paveSquare_3).room s m ([.ref (G 0), .int a1, .int a2, .int a3, .int a4] : List Value).toArray below meth c H locs 0 0 (MQ below (QM none D (GW G t (g_names' (g_tc' (g_paved' μ res.1) res.2.1) res.2.2)) (GL G) s.heap.size) ([.ref (G 0), .int a1, .int a2, .int a3, .int a4] : List Value).toArray s 0 0 (OA (GL G) s.heap.size)) (F0 m 131 ls [.int o36, .int o3]) := by
                    intro ls H locs hl hP hD hS
                    have hSz : s.heap.size ≤ H.size := hS.1
                    refine lv_icmp_ne (tgt := 138) hx hb dX1_paveSquare_131 (by decide) (fun hc => ?_) (fun hc => ?_)
                    · have h := iteF hc h
                      refine lv_iconst (v := (0)) hx hb dX1_paveSquare_138 (by decide) ?_
                      obtain rfl := Option.some.inj h
                      exact hJ139_o35 ls H locs (lv_sub hl [0, 1, 2, 3, 4, 5, 6, 7, 8, 9, 10, 11] rfl) hP hD hS
                    · have h := iteT hc h
                      refine lv_iconst (v := (1)) hx hb dX1_paveSquare_134 (by decide) ?_
                      refine lv_goto (tgt := 139) hx hb dX1_paveSquare_135 (by decide) ?_
                      obtain rfl := Option.some.inj h
                      exact hJ139_o35 ls H locs (lv_sub hl [0, 1, 2, 3, 4, 5, 6, 7, 8, 9, 10, 11] rfl) hP hD hS
                  have h := eo36
                  clear eo36
                  refine lv_icmp_ne (tgt := 130) hx hb dX1_paveSquare_123 (by decide) (fun hc => ?_) (fun hc => ?_)
                  · have h := iteF hc h
                    refine lv_iconst (v := (0)) hx hb dX1_paveSquare_130 (by decide) ?_
                    obtain rfl := Option.some.inj h
                    exact hJ131_o36 ls H locs (lv_sub hl [0, 1, 2, 3, 4, 5, 6, 7, 8, 9, 10, 11] rfl) hP hD hS
                  · have h := iteT hc h
                    refine lv_iconst (v := (1)) hx hb dX1_paveSquare_126 (by decide) ?_
                    refine lv_goto (tgt := 131) hx hb dX1_paveSquare_127 (by decide) ?_
                    obtain rfl := Option.some.inj h
                    exact hJ131_o36 ls H locs (lv_sub hl [0, 1, 2, 3, 4, 5, 6, 7, 8, 9, 10, 11] rfl) hP hD hS
              have h := eo33
              clear eo33
              refine lv_icmp_ne (tgt := 114) hx hb dX1_paveSquare_107 (by decide) (fun hc => ?_) (fun hc => ?_)
              · have h := iteF hc h
                refine lv_iconst (v := (0)) hx hb dX1_paveSquare_114 (by decide) ?_
                obtain rfl := Option.some.inj h
                exact hJ115_o33 ls H locs (lv_sub hl [2, 3, 4, 5, 6, 7, 8, 9, 10, 11, 1, 0] rfl) hP hD hS
              · have h := iteT hc h
                refine lv_iconst (v := (1)) hx hb dX1_paveSquare_110 (by decide) ?_
                refine lv_goto (tgt := 115) hx hb dX1_paveSquare_111 (by decide) ?_
                obtain rfl := Option.some.inj h
                exact hJ115_o33 ls H locs (lv_sub hl [2, 3, 4, 5, 6, 7, 8, 9, 10, 11, 1, 0] rfl) hP hD hS
        refine hL84 _ _ _ _ _ _ eo30 (fun ls H locs hl hP hD hS => ?_) ls H locs (lv_sub hl [4, 5, 6, 7, 8, 9, 3, 2, 1, 0] rfl) hP hD hS
        have hSz : s.heap.size ≤ H.size := hS.1
        obtain rfl := Option.some.inj h
        exact W.vret hx hb hr (fun t ht hW => ⟨rfl, by rw [ht]; exact hP, hD, hS.F ht⟩) hS.2.2 dX1_paveSquare_194
      have h := eo3
      clear eo3
      refine lv_icmp_lt (tgt := 47) hx hb dX1_paveSquare_40 (by decide) (fun hc => ?_) (fun hc => ?_)
      · have h := iteT hc h
        refine lv_iconst (v := (0)) hx hb dX1_paveSquare_47 (by decide) ?_
        obtain rfl := Option.some.inj h
        exact hJ48_o3 ls H locs (lv_sub hl [1, 2, 3, 4, 5, 0] rfl) hP hD hS
      · have h := iteF hc h
        refine lv_iconst (v := (1)) hx hb dX1_paveSquare_43 (by decide) ?_
        refine lv_goto (tgt := 48) hx hb dX1_paveSquare_44 (by decide) ?_
        obtain rfl := Option.some.inj h
        exact hJ48_o3 ls H locs (lv_sub hl [1, 2, 3, 4, 5, 0] rfl) hP hD hS
    have h := eo2
    clear eo2
    refine lv_icmp_lt (tgt := 28) hx hb dX1_paveSquare_21 (by decide) (fun hc => ?_) (fun hc => ?_)
    · have h := iteT hc h
      refine lv_iconst (v := (0)) hx hb dX1_paveSquare_28 (by decide) ?_
      obtain rfl := Option.some.inj h
      exact hJ29_o2 ls H locs (lv_sub hl [1, 2, 3, 5, 0] rfl) hP hD hS
    · have h := iteF hc h
      refine lv_iconst (v := (1)) hx hb dX1_paveSquare_24 (by decide) ?_
      refine lv_goto (tgt := 29) hx hb dX1_paveSquare_25 (by decide) ?_
      obtain rfl := Option.some.inj h
      exact hJ29_o2 ls H locs (lv_sub hl [1, 2, 3, 5, 0] rfl) hP hD hS
  · have h := iteF hc h
    obtain rfl := Option.some.inj h
    exact W.vret hx hb hr (fun t ht hW => ⟨rfl, by rw [ht]; exact hP, hD, hS.F ht⟩) hS.2.2 dX1_paveSquare_11

abbrev rm_X1_paveSquare_4 : Room := { frames := 5, cells := 0, slots := 0, locals := 165 }
theorem ok_X1_paveSquare_4 : okY yX1_paveSquare 4 := ⟨by decide +kernel, by decide +kernel, by decide +kernel⟩
set_option maxHeartbeats 4000000 in
set_option maxRecDepth 100000 in
theorem c_X1_paveSquare_4 (l : Launch) (z0 : Nat) (D : va_G) (t : Nat → ClassId) (G : Nat → Nat) (μ : GS) (a1 : Int32) (a2 : Int32) (a3 : Int32) (a4 : Int32) (res : (Int64) × (Int32) × (Nat → Int32)) (sz : Nat) (h : f_X1_paveSquare_4 μ a1 a2 a3 a4 = some res) : Met l yX1_paveSquare (ws_ yX1_paveSquare cX1_paveSquare 15 none) rm_X1_paveSquare_4 (PM z0 D t [.ref (G 0), .int a1, .int a2, .int a3, .int a4] (GW G t μ) (GL G) sz) (QM none D (GW G t (g_names' (g_tc' (g_paved' μ res.1) res.2.1) res.2.2)) (GL G) sz) 0 0 (OA (GL G) sz) := by
  refine Met.ofW (cc := cX1_paveSquare) (maxL := 15) (ret := none) (by decide) rfl ?_
  intro p e s m args below meth c s₁ Bo hml hv
  obtain ⟨rfl, hC, hsz, hP, hD, hZ⟩ := hv
  have hx := Bo.exec
  have hb := Bo.bytes
  have hr := Bo.returns
  have hts : ∀ w ∈ LA, w.before _ s = true := fun w hw => atoms_spec (ws := ws_ yX1_paveSquare cX1_paveSquare 15 none) Bo.pre w (List.mem_cons_of_mem _ hw)
  have hown : s.vm.findClass RX1 = some m.cls := findClass_of_methodNamed Bo.named
  have hlocks := Bo.notSynchronized
  have hK := hC.1
  subst hsz
  have hl := lv_entry ([.ref (G 0), .int a1, .int a2, .int a3, .int a4]) (n := 15) (Nat.le_of_ble_eq_true rfl)
  rw [lg_entry_eq]
  generalize (lg_sl ([.ref (G 0), .int a1, .int a2, .int a3, .int a4]) ++ List.replicate (15 - (lg_sl ([.ref (G 0), .int a1, .int a2, .int a3, .int a4])).length) Slot.unset).toArray = ls at hl ⊢
  have hl : lv_has ls 15 [(0, .ref (G 0)), (1, .int a1), (2, .int a2), (3, .int a3), (4, .int a4)] := hl
  suffices K9 : ∀ (H : Heap) (locs : List Loc), va_P D vwCl (GW G t μ) H → va_S (OA (GL G) s.heap.size) s.heap H locs → W p l e (headSpec (ws_ yX1_paveSquare cX1_paveSquare 15 none) rm_X1_paveSquare_4).room s m ([.ref (G 0), .int a1, .int a2, .int a3, .int a4] : List Value).toArray below meth c H locs 0 0 (MQ below (QM none D (GW G t (g_names' (g_tc' (g_paved' μ res.1) res.2.1) res.2.2)) (GL G) s.heap.size) ([.ref (G 0), .int a1, .int a2, .int a3, .int a4] : List Value).toArray s 0 0 (OA (GL G) s.heap.size)) (F0 m 0 ls []) from K9 s.heap [] hP va_S.rf
  intro H locs hP hS
  have hSz : s.heap.size ≤ H.size := hS.1
  unfold f_X1_paveSquare_4 at h
  refine lv_iload_n hx hb dX1_paveSquare_0 rfl (lv_at hl 3 rfl) ?_
  refine lv_iconst (v := (2)) hx hb dX1_paveSquare_1 (by decide) ?_
  refine lv_idiv hx hb dX1_paveSquare_2 (by decide) ?_
  obtain ⟨x1, ex1, h⟩ := jlet_some h
  refine topI ex1 ?_
  refine lv_istore (lv' := [(5, .int x1), (0, .ref (G 0)), (1, .int a1), (2, .int a2), (3, .int a3), (4, .int a4)]) hx hb dX1_paveSquare_3 hl (by decide) rfl (fun ls hl => ?_)
  refine lv_iload hx hb dX1_paveSquare_5 (lv_at hl 0 rfl) ?_
  refine lv_iconst (v := (1)) hx hb dX1_paveSquare_7 (by decide) ?_
  refine lv_icmp_ge (tgt := 12) hx hb dX1_paveSquare_8 (by decide) (fun hc => ?_) (fun hc => ?_)
  · have h := iteT hc h
    refine lv_iload hx hb dX1_paveSquare_12 (lv_at hl 5 rfl) ?_
    refine lv_bipush (v := (8)) hx hb dX1_paveSquare_14 (by decide) ?_
    refine lv_irem hx hb dX1_paveSquare_16 (by decide) ?_
    refine lv_iload_n hx hb dX1_paveSquare_17 rfl (lv_at hl 2 rfl) ?_
    refine lv_iload hx hb dX1_paveSquare_18 (lv_at hl 0 rfl) ?_
    refine lv_iadd hx hb dX1_paveSquare_20 ?_
    obtain ⟨o2, eo2, h⟩ := obind h
    have hJ29_o2 : ∀ (ls : Array Slot) (H : Heap) (locs : List Loc), lv_has ls 15 [(0, .ref (G 0)), (1, .int a1), (2, .int a2), (4, .int a4), (5, .int x1)] → va_P D vwCl (GW G t μ) H → va_D (OA (GL G) s.heap.size) (GW G t μ) → va_S (OA (GL G) s.heap.size) s.heap H locs → W p l e (headSpec (ws_ yX1_paveSquare cX1_paveSquare 15 none) rm_X1_paveSquare_4).room s m ([.ref (G 0), .int a1, .int a2, .int a3, .int a4] : List Value).toArray below meth c H locs 0 0 (MQ below (QM none D (GW G t (g_names' (g_tc' (g_paved' μ res.1) res.2.1) res.2.2)) (GL G) s.heap.size) ([.ref (G 0), .int a1, .int a2, .int a3, .int a4] : List Value).toArray s 0 0 (OA (GL G) s.heap.size)) (F0 m 29 ls [.int o2]) := by
      intro ls H locs hl hP hD hS
      have hSz : s.heap.size ≤ H.size := hS.1
      refine lv_istore (lv' := [(6, .int o2), (0, .ref (G 0)), (1, .int a1), (2, .int a2), (4, .int a4), (5, .int x1)]) hx hb dX1_paveSquare_29 hl (by decide) rfl (fun ls hl => ?_)
      refine lv_iload hx hb dX1_paveSquare_31 (lv_at hl 4 rfl) ?_
      refine lv_bipush (v := (8)) hx hb dX1_paveSquare_33 (by decide) ?_
      refine lv_idiv hx hb dX1_paveSquare_35 (by decide) ?_
      refine lv_iload_n hx hb dX1_paveSquare_36 rfl (lv_at hl 3 rfl) ?_
      refine lv_iload hx hb dX1_paveSquare_37 (lv_at hl 5 rfl) ?_
      refine lv_iadd hx hb dX1_paveSquare_39 ?_
      obtain ⟨o3, eo3, h⟩ := obind h
      have hJ48_o3 : ∀ (ls : Array Slot) (H : Heap) (locs : List Loc), lv_has ls 15 [(0, .ref (G 0)), (1, .int a1), (2, .int a2), (4, .int a4), (5, .int x1), (6, .int o2)] → va_P D vwCl (GW G t μ) H → va_D (OA (GL G) s.heap.size) (GW G t μ) → va_S (OA (GL G) s.heap.size) s.heap H locs → W p l e (headSpec (ws_ yX1_paveSquare cX1_paveSquare 15 none) rm_X1_paveSquare_4).room s m ([.ref (G 0), .int a1, .int a2, .int a3, .int a4] : List Value).toArray below meth c H locs 0 0 (MQ below (QM none D (GW G t (g_names' (g_tc' (g_paved' μ res.1) res.2.1) res.2.2)) (GL G) s.heap.size) ([.ref (G 0), .int a1, .int a2, .int a3, .int a4] : List Value).toArray s 0 0 (OA (GL G) s.heap.size)) (F0 m 48 ls [.int o3]) := by
        intro ls H locs hl hP hD hS
        have hSz : s.heap.size ≤ H.size := hS.1
        refine lv_istore (lv' := [(7, .int o3), (0, .ref (G 0)), (1, .int a1), (2, .int a2), (4, .int a4), (5, .int x1), (6, .int o2)]) hx hb dX1_paveSquare_48 hl (by decide) rfl (fun ls hl => ?_)
        refine lv_iload_n hx hb dX1_paveSquare_50 rfl (lv_at hl 2 rfl) ?_
        refine lv_iload hx hb dX1_paveSquare_51 (lv_at hl 5 rfl) ?_
        refine lv_iadd hx hb dX1_paveSquare_53 ?_
        refine lv_iconst (v := (1)) hx hb dX1_paveSquare_54 (by decide) ?_
        refine lv_isub hx hb dX1_paveSquare_55 ?_
        obtain ⟨x4, ex4, h⟩ := jlet_some h
        refine topI ex4 ?_
        refine lv_istore (lv' := [(8, .int x4), (7, .int o3), (0, .ref (G 0)), (1, .int a1), (2, .int a2), (4, .int a4), (5, .int x1), (6, .int o2)]) hx hb dX1_paveSquare_56 hl (by decide) rfl (fun ls hl => ?_)
        refine lv_iload_n hx hb dX1_paveSquare_58 rfl (lv_at hl 4 rfl) ?_
        refine lv_iload hx hb dX1_paveSquare_59 (lv_at hl 6 rfl) ?_
        refine lv_iadd hx hb dX1_paveSquare_61 ?_
        refine lv_iconst (v := (1)) hx hb dX1_paveSquare_62 (by decide) ?_
        refine lv_isub hx hb dX1_paveSquare_63 ?_
        obtain ⟨x5, ex5, h⟩ := jlet_some h
        refine topI ex5 ?_
        refine lv_istore (lv' := [(9, .int x5), (8, .int x4), (7, .int o3), (0, .ref (G 0)), (1, .int a1), (2, .int a2), (4, .int a4), (5, .int x1), (6, .int o2)]) hx hb dX1_paveSquare_64 hl (by decide) rfl (fun ls hl => ?_)
        refine lv_aload_n hx hb dX1_paveSquare_66 rfl (lv_at hl 3 rfl) ?_
        refine lv_iload hx hb dX1_paveSquare_67 (lv_at hl 1 rfl) ?_
        refine lv_iload hx hb dX1_paveSquare_69 (lv_at hl 0 rfl) ?_
        refine lv_iload hx hb dX1_paveSquare_71 (lv_at hl 8 rfl) ?_
        refine lv_iload hx hb dX1_paveSquare_73 (lv_at hl 2 rfl) ?_
        obtain ⟨r6, er6, h⟩ := obind h
        refine call_R (va_runS (As := [.int o2, .int o3]) (rest := [.int x5, .int x4, .ref (G 0)]) ⟨hx, hb, hml, hown, hts⟩ (c_X1_quarterTurn l z0 D t o2 o3 _ er6) (kS hts qw799 qw800 qw7 qw801 ok_X1_quarterTurn ⟨Nat.le_of_ble_eq_true rfl, Nat.le_of_ble_eq_true rfl⟩) ⟨PR.blind, fun U hU hW => ⟨rfl, by rw [hU]; exact (hC.at hS hZ).warm hW, by rw [hU]; exact va_P_nil⟩⟩ rfl rfl hl.1 rfl (lv_room (Nat.le_of_ble_eq_true rfl)) dX1_paveSquare_75 ⟨Nat.le_of_ble_eq_true rfl, Nat.le_of_ble_eq_true rfl⟩) ?_
        obtain ⟨r7, er7, h⟩ := obind h
        refine call_M (va_runV (As := [.int x4, .int x5, .int r6]) (rest := []) ⟨hx, hb, hml, hown, hts⟩ (c_X1_putTriple l z0 D t G μ x4 x5 r6 _ H.size er7) (kV hts qw764 qw731 qw732 qw7 qw733 ok_X1_putTriple ⟨Nat.le_of_ble_eq_true rfl, Nat.le_of_ble_eq_true rfl⟩) ⟨PM.blind, va_recv hK hP (ci := 2) (q0 := 0) rfl rfl, fun U hU hW => ⟨rfl, by rw [hU]; exact (hC.at hS hZ).warm hW, by rw [hU], by rw [hU]; exact hP, ⟨hD.1, fun _ _ h9 => Or.inl (in_map (L := (GL G)) rfl h9)⟩, fun q hq => hZ q (OA.ofD hD rfl hSz q hq)⟩⟩ rfl rfl hl.1 rfl (lv_room (Nat.le_of_ble_eq_true rfl)) dX1_paveSquare_78 ⟨Nat.le_of_ble_eq_true rfl, Nat.le_of_ble_eq_true rfl⟩) hS (OA.ofD hD rfl hSz) (fun H locs hP hD1 hS _ _ => ?_)
        have hP : va_P D vwCl (GW G t (g_names' (g_tc' (g_paved' μ r7.1) r7.2.1) r7.2.2)) H := hP
        have hD : va_D (OA (GL G) s.heap.size) (GW G t (g_names' (g_tc' (g_paved' μ r7.1) r7.2.1) r7.2.2)) := hD1.weaken (fun _ q _ h9 => OA.ofD hD rfl hSz q.1 h9)
        have hSz : s.heap.size ≤ H.size := hS.1
        refine lv_iconst (v := (0)) hx hb dX1_paveSquare_81 (by decide) ?_
        refine lv_istore (lv' := [(10, .int (0 : Int32)), (9, .int x5), (8, .int x4), (7, .int o3), (0, .ref (G 0)), (1, .int a1), (2, .int a2), (4, .int a4), (5, .int x1), (6, .int o2)]) hx hb dX1_paveSquare_82 hl (by decide) rfl (fun ls hl => ?_)
        obtain ⟨o30, eo30, h⟩ := obind h
        have hL84 : ∀ (n : Nat) (y10_84 : Int32) (paved_84 : Int64) (tc_84 : Int32) (names_84 : Nat → Int32) (o30 : (Int64) × (Int32) × (Nat → Int32)), f_X1_paveSquare_4_L84 a1 a2 a4 μ x1 o2 o3 x4 x5 n y10_84 paved_84 tc_84 names_84 = some o30 → (∀ (ls : Array Slot) (H : Heap) (locs : List Loc), lv_has ls 15 [] → va_P D vwCl (GW G t (g_names' (g_tc' (g_paved' μ o30.1) o30.2.1) o30.2.2)) H → va_D (OA (GL G) s.heap.size) (GW G t (g_names' (g_tc' (g_paved' μ o30.1) o30.2.1) o30.2.2)) → va_S (OA (GL G) s.heap.size) s.heap H locs → W p l e (headSpec (ws_ yX1_paveSquare cX1_paveSquare 15 none) rm_X1_paveSquare_4).room s m ([.ref (G 0), .int a1, .int a2, .int a3, .int a4] : List Value).toArray below meth c H locs 0 0 (MQ below (QM none D (GW G t (g_names' (g_tc' (g_paved' μ res.1) res.2.1) res.2.2)) (GL G) s.heap.size) ([.ref (G 0), .int a1, .int a2, .int a3, .int a4] : List Value).toArray s 0 0 (OA (GL G) s.heap.size)) (F0 m 194 ls [])) → ∀ (ls : Array Slot) (H : Heap) (locs : List Loc), lv_has ls 15 [(0, .ref (G 0)), (1, .int a1), (2, .int a2), (4, .int a4), (5, .int x1), (6, .int o2), (7, .int o3), (8, .int x4), (9, .int x5), (10, .int y10_84)] → va_P D vwCl (GW G t (g_names' (g_tc' (g_paved' μ paved_84) tc_84) names_84)) H → va_D (OA (GL G) s.heap.size) (GW G t (g_names' (g_tc' (g_paved' μ paved_84) tc_84) names_84)) → va_S (OA (GL G) s.heap.size) s.heap H locs → W p l e (headSpec (ws_ yX1_paveSquare cX1_paveSquare 15 none) rm_X1_paveSquare_4).room s m ([.ref (G 0), .int a1, .int a2, .int a3, .int a4] : List Value).toArray below meth c H locs 0 0 (MQ below (QM none D (GW G t (g_names' (g_tc' (g_paved' μ res.1) res.2.1) res.2.2)) (GL G) s.heap.size) ([.ref (G 0), .int a1, .int a2, .int a3, .int a4] : List Value).toArray s 0 0 (OA (GL G) s.heap.size)) (F0 m 84 ls []) := by
          intro n
          induction n with
          | zero => intro y10_84 paved_84 tc_84 names_84 o30 h; exact absurd h (fun z => by cases z)
          | succ n ih =>
            intro y10_84 paved_84 tc_84 names_84 o30 h hK84 ls H locs hl hP hD hS
            replace h : f_X1_paveSquare_4_L84_b a1 a2 a4 μ x1 o2 o3 x4 x5 (f_X1_paveSquare_4_L84 a1 a2 a4 μ x1 o2 o3 x4 x5 n) y10_84 paved_84 tc_84 names_84 = some o30 := h
            unfold f_X1_paveSquare_4_L84_b at h
            have hSz : s.heap.size ≤ H.size := hS.1
            refine lv_iload hx hb dX1_paveSquare_84 (lv_at hl 9 rfl) ?_
            refine lv_iconst (v := (4)) hx hb dX1_paveSquare_86 (by decide) ?_
            refine lv_icmp_ge (tgt := 194) hx hb dX1_paveSquare_87 (by decide) (fun hc => ?_) (fun hc => ?_)
            · have h := iteT hc h
              obtain rfl := Option.some.inj h
              exact hK84 ls H locs (lv_sub hl [] rfl) hP hD hS
            · have h := iteF hc h
              refine lv_iload hx hb dX1_paveSquare_90 (lv_at hl 9 rfl) ?_
              refine lv_iconst (v := (2)) hx hb dX1_paveSquare_92 (by decide) ?_
              refine lv_irem hx hb dX1_paveSquare_93 (by decide) ?_
              obtain ⟨x31, ex31, h⟩ := jlet_some h
              refine topI ex31 ?_
              refine lv_istore (lv' := [(11, .int x31), (0, .ref (G 0)), (1, .int a1), (2, .int a2), (4, .int a4), (5, .int x1), (6, .int o2), (7, .int o3), (8, .int x4), (9, .int x5), (10, .int y10_84)]) hx hb dX1_paveSquare_94 hl (by decide) rfl (fun ls hl => ?_)
              refine lv_iload hx hb dX1_paveSquare_96 (lv_at hl 10 rfl) ?_
              refine lv_iconst (v := (2)) hx hb dX1_paveSquare_98 (by decide) ?_
              refine lv_idiv hx hb dX1_paveSquare_99 (by decide) ?_
              obtain ⟨x32, ex32, h⟩ := jlet_some h
              refine topI ex32 ?_
              refine lv_istore (lv' := [(12, .int x32), (11, .int x31), (0, .ref (G 0)), (1, .int a1), (2, .int a2), (4, .int a4), (5, .int x1), (6, .int o2), (7, .int o3), (8, .int x4), (9, .int x5), (10, .int y10_84)]) hx hb dX1_paveSquare_100 hl (by decide) rfl (fun ls hl => ?_)
              refine lv_iload hx hb dX1_paveSquare_102 (lv_at hl 7 rfl) ?_
              refine lv_iload hx hb dX1_paveSquare_104 (lv_at hl 1 rfl) ?_
              refine lv_iconst (v := (1)) hx hb dX1_paveSquare_106 (by decide) ?_
              obtain ⟨o33, eo33, h⟩ := obind h
              have hJ115_o33 : ∀ (ls : Array Slot) (H : Heap) (locs : List Loc), lv_has ls 15 [(0, .ref (G 0)), (1, .int a1), (2, .int a2), (4, .int a4), (5, .int x1), (6, .int o2), (7, .int o3), (8, .int x4), (9, .int x5), (10, .int y10_84), (11, .int x31), (12, .int x32)] → va_P D vwCl (GW G t (g_names' (g_tc' (g_paved' μ paved_84) tc_84) names_84)) H → va_D (OA (GL G) s.heap.size) (GW G t (g_names' (g_tc' (g_paved' μ paved_84) tc_84) names_84)) → va_S (OA (GL G) s.heap.size) s.heap H locs → W p l e (headSpec (ws_ yX1_paveSquare cX1_paveSquare 15 none) rm_X1_paveSquare_4).room s m ([.ref (G 0), .int a1, .int a2, .int a3, .int a4] : List Value).toArray below meth c H locs 0 0 (MQ below (QM none D (GW G t (g_names' (g_tc' (g_paved' μ res.1) res.2.1) res.2.2)) (GL G) s.heap.size) ([.ref (G 0), .int a1, .int a2, .int a3, .int a4] : List Value).toArray s 0 0 (OA (GL G) s.heap.size)) (F0 m 115 ls [.int o33, .int o2]) := by
                intro ls H locs hl hP hD hS
                have hSz : s.heap.size ≤ H.size := hS.1
                obtain ⟨o35, eo35, h⟩ := obind h
                have hJ139_o35 : ∀ (ls : Array Slot) (H : Heap) (locs : List Loc), lv_has ls 15 [(0, .ref (G 0)), (1, .int a1), (2, .int a2), (4, .int a4), (5, .int x1), (6, .int o2), (7, .int o3), (8, .int x4), (9, .int x5), (10, .int y10_84), (11, .int x31), (12, .int x32)] → va_P D vwCl (GW G t (g_names' (g_tc' (g_paved' μ paved_84) tc_84) names_84)) H → va_D (OA (GL G) s.heap.size) (GW G t (g_names' (g_tc' (g_paved' μ paved_84) tc_84) names_84)) → va_S (OA (GL G) s.heap.size) s.heap H locs → W p l e (headSpec (ws_ yX1_paveSquare cX1_paveSquare 15 none) rm_X1_paveSquare_4).room s m ([.ref (G 0), .int a1, .int a2, .int a3, .int a4] : List Value).toArray below meth c H locs 0 0 (MQ below (QM none D (GW G t (g_names' (g_tc' (g_paved' μ res.1) res.2.1) res.2.2)) (GL G) s.heap.size) ([.ref (G 0), .int a1, .int a2, .int a3, .int a4] : List Value).toArray s 0 0 (OA (GL G) s.heap.size)) (F0 m 139 ls [.int o35]) := by
                  intro ls H locs hl hP hD hS
                  have hSz : s.heap.size ≤ H.size := hS.1
                  refine lv_istore (lv' := [(13, .int o35), (0, .ref (G 0)), (1, .int a1), (2, .int a2), (4, .int a4), (5, .int x1), (6, .int o2), (7, .int o3), (8, .int x4), (9, .int x5), (10, .int y10_84), (11, .int x31), (12, .int x32)]) hx hb dX1_paveSquare_139 hl (by decide) rfl (fun ls hl => ?_)
                  refine lv_iload hx hb dX1_paveSquare_141 (lv_at hl 0 rfl) ?_
                  obtain ⟨o38, eo38, h⟩ := obind h
                  have hJ164_o38 : ∀ (ls : Array Slot) (H : Heap) (locs : List Loc), lv_has ls 15 [(0, .ref (G 0)), (1, .int a1), (2, .int a2), (4, .int a4), (5, .int x1), (6, .int o2), (7, .int o3), (8, .int x4), (9, .int x5), (10, .int y10_84), (11, .int x31), (12, .int x32)] → va_P D vwCl (GW G t (g_names' (g_tc' (g_paved' μ paved_84) tc_84) names_84)) H → va_D (OA (GL G) s.heap.size) (GW G t (g_names' (g_tc' (g_paved' μ paved_84) tc_84) names_84)) → va_S (OA (GL G) s.heap.size) s.heap H locs → W p l e (headSpec (ws_ yX1_paveSquare cX1_paveSquare 15 none) rm_X1_paveSquare_4).room s m ([.ref (G 0), .int a1, .int a2, .int a3, .int a4] : List Value).toArray below meth c H locs 0 0 (MQ below (QM none D (GW G t (g_names' (g_tc' (g_paved' μ res.1) res.2.1) res.2.2)) (GL G) s.heap.size) ([.ref (G 0), .int a1, .int a2, .int a3, .int a4] : List Value).toArray s 0 0 (OA (GL G) s.heap.size)) (F0 m 164 ls [.int o38]) := by
                    intro ls H locs hl hP hD hS
                    have hSz : s.heap.size ≤ H.size := hS.1
                    refine lv_istore (lv' := [(14, .int o38), (0, .ref (G 0)), (1, .int a1), (2, .int a2), (4, .int a4), (5, .int x1), (6, .int o2), (7, .int o3), (8, .int x4), (9, .int x5), (10, .int y10_84), (11, .int x31), (12, .int x32)]) hx hb dX1_paveSquare_164 hl (by decide) rfl (fun ls hl => ?_)
                    refine lv_aload_n hx hb dX1_paveSquare_166 rfl (lv_at hl 1 rfl) ?_
                    refine lv_iload_n hx hb dX1_paveSquare_167 rfl (lv_at hl 2 rfl) ?_
                    refine lv_iload hx hb dX1_paveSquare_168 (lv_at hl 5 rfl) ?_
                    refine lv_iload hx hb dX1_paveSquare_170 (lv_at hl 11 rfl) ?_
                    refine lv_imul hx hb dX1_paveSquare_172 ?_
                    refine lv_iadd hx hb dX1_paveSquare_173 ?_
                    refine lv_iload_n hx hb dX1_paveSquare_174 rfl (lv_at hl 3 rfl) ?_
                    refine lv_iload hx hb dX1_paveSquare_175 (lv_at hl 5 rfl) ?_
                    refine lv_iload hx hb dX1_paveSquare_177 (lv_at hl 12 rfl) ?_
                    refine lv_imul hx hb dX1_paveSquare_179 ?_
                    refine lv_iadd hx hb dX1_paveSquare_180 ?_
                    refine lv_iload hx hb dX1_paveSquare_181 (lv_at hl 5 rfl) ?_
                    refine lv_iload hx hb dX1_paveSquare_183 (lv_at hl 0 rfl) ?_
                    obtain ⟨r40, er40, h⟩ := obind h
                    refine call_M (va_runV (As := [.int (a1 + (x1 * x31)), .int (a2 + (x1 * x32)), .int x1, .int o38]) (rest := []) ⟨hx, hb, hml, hown, hts⟩ (c_X1_paveSquare_3 l z0 D t G (g_names' (g_tc' (g_paved' μ paved_84) tc_84) names_84) (a1 + (x1 * x31)) (a2 + (x1 * x32)) x1 o38 _ H.size er40) (kV hts qw802 qw796 qw797 qw7 qw798 ok_X1_paveSquare_3 ⟨Nat.le_of_ble_eq_true rfl, Nat.le_of_ble_eq_true rfl⟩) ⟨PM.blind, va_recv hK hP (ci := 2) (q0 := 0) rfl rfl, fun U hU hW => ⟨rfl, by rw [hU]; exact (hC.at hS hZ).warm hW, by rw [hU], by rw [hU]; exact hP, ⟨hD.1, fun _ _ h9 => Or.inl (in_map (L := (GL G)) rfl h9)⟩, fun q hq => hZ q (OA.ofD hD rfl hSz q hq)⟩⟩ rfl rfl hl.1 rfl (lv_room (Nat.le_of_ble_eq_true rfl)) dX1_paveSquare_185 ⟨Nat.le_of_ble_eq_true rfl, Nat.le_of_ble_eq_true rfl⟩) hS (OA.ofD hD rfl hSz) (fun H locs hP hD1 hS _ _ => ?_)
                    have hP : va_P D vwCl (GW G t (g_names' (g_tc' (g_paved' μ r40.1) r40.2.1) r40.2.2)) H := hP
                    have hD : va_D (OA (GL G) s.heap.size) (GW G t (g_names' (g_tc' (g_paved' μ r40.1) r40.2.1) r40.2.2)) := hD1.weaken (fun _ q _ h9 => OA.ofD hD rfl hSz q.1 h9)
                    have hSz : s.heap.size ≤ H.size := hS.1
                    obtain ⟨x41, ex41, h⟩ := jlet_some h
                    refine lv_iinc (v := x41) (lv' := [(10, .int x41), (14, .int o38), (0, .ref (G 0)), (1, .int a1), (2, .int a2), (4, .int a4), (5, .int x1), (6, .int o2), (7, .int o3), (8, .int x4), (9, .int x5), (11, .int x31), (12, .int x32)]) hx hb dX1_paveSquare_188 hl (k := 10) rfl (by rw [ex41]; rfl) (by decide) rfl (fun ls hl => ?_)
                    refine lv_goto (tgt := 84) hx hb dX1_paveSquare_191 (by decide) ?_
                    exact ih _ _ _ _ _ h hK84 ls H locs (lv_sub hl [2, 3, 4, 5, 6, 7, 8, 9, 10, 0] rfl) hP hD hS
                  have h := eo38
                  clear eo38
                  refine lv_if_eq (tgt := 151) hx hb dX1_paveSquare_143 (by decide) (fun hc => ?_) (fun hc => ?_)
                  · have h := iteT hc h
                    refine lv_iload hx hb dX1_paveSquare_151 (lv_at hl 8 rfl) ?_
                    refine lv_iload hx hb dX1_paveSquare_153 (lv_at hl 11 rfl) ?_
                    refine lv_iadd hx hb dX1_paveSquare_155 ?_
                    refine lv_iload hx hb dX1_paveSquare_156 (lv_at hl 9 rfl) ?_
                    refine lv_iload hx hb dX1_paveSquare_158 (lv_at hl 12 rfl) ?_
                    refine lv_iadd hx hb dX1_paveSquare_160 ?_
                    obtain ⟨r39, er39, h⟩ := obind h
                    refine call_R (va_runSN (As := [.int (x4 + x31), .int (x5 + x32)]) (rest := []) ⟨hx, hb, hml, hown, hts⟩ (c_X4_placeOf l z0 D t (x4 + x31) (x5 + x32) _ er39) ⟨kN hts (hC.2.1 _ qw231) qw1 qw215 ok_X4_placeOf ⟨Nat.le_of_ble_eq_true rfl, Nat.le_of_ble_eq_true rfl⟩, hts _ qw214, trivial⟩ ⟨PR.blind, fun U hU hW => ⟨rfl, by rw [hU]; exact (hC.at hS hZ).warm hW, by rw [hU]; exact va_P_nil⟩⟩ rfl rfl hl.1 rfl (lv_room (Nat.le_of_ble_eq_true rfl)) dX1_paveSquare_161 ⟨Nat.le_of_ble_eq_true rfl, Nat.le_of_ble_eq_true rfl⟩) ?_
                    obtain rfl := Option.some.inj h
                    exact hJ164_o38 ls H locs (lv_sub hl [1, 2, 3, 4, 5, 6, 7, 8, 9, 10, 11, 12] rfl) hP hD hS
                  · have h := iteF hc h
                    refine lv_iload hx hb dX1_paveSquare_146 (lv_at hl 4 rfl) ?_
                    refine lv_goto (tgt := 164) hx hb dX1_paveSquare_148 (by decide) ?_
                    obtain rfl := Option.some.inj h
                    exact hJ164_o38 ls H locs (lv_sub hl [1, 2, 3, 4, 5, 6, 7, 8, 9, 10, 11, 12] rfl) hP hD hS
                have h := eo35
                clear eo35
                refine lv_icmp_ne (tgt := 138) hx hb dX1_paveSquare_115 (by decide) (fun hc => ?_) (fun hc => ?_)
                · have h := iteF hc h
                  refine lv_iconst (v := (0)) hx hb dX1_paveSquare_138 (by decide) ?_
                  obtain rfl := Option.some.inj h
                  exact hJ139_o35 ls H locs (lv_sub hl [0, 1, 2, 3, 4, 5, 6, 7, 8, 9, 10, 11] rfl) hP hD hS
                · have h := iteT hc h
                  refine lv_iload hx hb dX1_paveSquare_118 (lv_at hl 6 rfl) ?_
                  refine lv_iload hx hb dX1_paveSquare_120 (lv_at hl 11 rfl) ?_
                  refine lv_iconst (v := (1)) hx hb dX1_paveSquare_122 (by decide) ?_
                  obtain ⟨o36, eo36, h⟩ := obind h
                  have hJ131_o36 : ∀ (ls : Array Slot) (H : Heap) (locs : List Loc), lv_has ls 15 [(0, .ref (G 0)), (1, .int a1), (2, .int a2), (4, .int a4), (5, .int x1), (6, .int o2), (7, .int o3), (8, .int x4), (9, .int x5), (10, .int y10_84), (11, .int x31), (12, .int x32)] → va_P D vwCl (GW G t (g_names' (g_tc' (g_paved' μ paved_84) tc_84) names_84)) H → va_D (OA (GL G) s.heap.size) (GW G t (g_names' (g_tc' (g_paved' μ paved_84) tc_84) names_84)) → va_S (OA (GL G) s.heap.size) s.heap H locs → W p l e (headSpec (ws_ yX1_paveSquare cX1_paveSquare 15 none) rm_X1_paveSquare_4).room s m ([.ref (G 0), .int a1, .int a2, .int a3, .int a4] : List Value).toArray below meth c H locs 0 0 (MQ below (QM none D (GW G t (g_names' (g_tc' (g_paved' μ res.1) res.2.1) res.2.2)) (GL G) s.heap.size) ([.ref (G 0), .int a1, .int a2, .int a3, .int a4] : List Value).toArray s 0 0 (OA (GL G) s.heap.size)) (F0 m 131 ls [.int o36, .int o3]) := by
                    intro ls H locs hl hP hD hS
                    have hSz : s.heap.size ≤ H.size := hS.1
                    refine lv_icmp_ne (tgt := 138) hx hb dX1_paveSquare_131 (by decide) (fun hc => ?_) (fun hc => ?_)
                    · have h := iteF hc h
                      refine lv_iconst (v := (0)) hx hb dX1_paveSquare_138 (by decide) ?_
                      obtain rfl := Option.some.inj h
                      exact hJ139_o35 ls H locs (lv_sub hl [0, 1, 2, 3, 4, 5, 6, 7, 8, 9, 10, 11] rfl) hP hD hS
                    · have h := iteT hc h
                      refine lv_iconst (v := (1)) hx hb dX1_paveSquare_134 (by decide) ?_
                      refine lv_goto (tgt := 139) hx hb dX1_paveSquare_135 (by decide) ?_
                      obtain rfl := Option.some.inj h
                      exact hJ139_o35 ls H locs (lv_sub hl [0, 1, 2, 3, 4, 5, 6, 7, 8, 9, 10, 11] rfl) hP hD hS
                  have h := eo36
                  clear eo36
                  refine lv_icmp_ne (tgt := 130) hx hb dX1_paveSquare_123 (by decide) (fun hc => ?_) (fun hc => ?_)
                  · have h := iteF hc h
                    refine lv_iconst (v := (0)) hx hb dX1_paveSquare_130 (by decide) ?_
                    obtain rfl := Option.some.inj h
                    exact hJ131_o36 ls H locs (lv_sub hl [0, 1, 2, 3, 4, 5, 6, 7, 8, 9, 10, 11] rfl) hP hD hS
                  · have h := iteT hc h
                    refine lv_iconst (v := (1)) hx hb dX1_paveSquare_126 (by decide) ?_
                    refine lv_goto (tgt := 131) hx hb dX1_paveSquare_127 (by decide) ?_
                    obtain rfl := Option.some.inj h
                    exact hJ131_o36 ls H locs (lv_sub hl [0, 1, 2, 3, 4, 5, 6, 7, 8, 9, 10, 11] rfl) hP hD hS
              have h := eo33
              clear eo33
              refine lv_icmp_ne (tgt := 114) hx hb dX1_paveSquare_107 (by decide) (fun hc => ?_) (fun hc => ?_)
              · have h := iteF hc h
                refine lv_iconst (v := (0)) hx hb dX1_paveSquare_114 (by decide) ?_
                obtain rfl := Option.some.inj h
                exact hJ115_o33 ls H locs (lv_sub hl [2, 3, 4, 5, 6, 7, 8, 9, 10, 11, 1, 0] rfl) hP hD hS
              · have h := iteT hc h
                refine lv_iconst (v := (1)) hx hb dX1_paveSquare_110 (by decide) ?_
                refine lv_goto (tgt := 115) hx hb dX1_paveSquare_111 (by decide) ?_
                obtain rfl := Option.some.inj h
                exact hJ115_o33 ls H locs (lv_sub hl [2, 3, 4, 5, 6, 7, 8, 9, 10, 11, 1, 0] rfl) hP hD hS
        refine hL84 _ _ _ _ _ _ eo30 (fun ls H locs hl hP hD hS => ?_) ls H locs (lv_sub hl [4, 5, 6, 7, 8, 9, 3, 2, 1, 0] rfl) hP hD hS
        have hSz : s.heap.size ≤ H.size := hS.1
        obtain rfl := Option.some.inj h
        exact W.vret hx hb hr (fun t ht hW => ⟨rfl, by rw [ht]; exact hP, hD, hS.F ht⟩) hS.2.2 dX1_paveSquare_194
      have h := eo3
      clear eo3
      refine lv_icmp_lt (tgt := 47) hx hb dX1_paveSquare_40 (by decide) (fun hc => ?_) (fun hc => ?_)
      · have h := iteT hc h
        refine lv_iconst (v := (0)) hx hb dX1_paveSquare_47 (by decide) ?_
        obtain rfl := Option.some.inj h
        exact hJ48_o3 ls H locs (lv_sub hl [1, 2, 3, 4, 5, 0] rfl) hP hD hS
      · have h := iteF hc h
        refine lv_iconst (v := (1)) hx hb dX1_paveSquare_43 (by decide) ?_
        refine lv_goto (tgt := 48) hx hb dX1_paveSquare_44 (by decide) ?_
        obtain rfl := Option.some.inj h
        exact hJ48_o3 ls H locs (lv_sub hl [1, 2, 3, 4, 5, 0] rfl) hP hD hS
    have h := eo2
    clear eo2
    refine lv_icmp_lt (tgt := 28) hx hb dX1_paveSquare_21 (by decide) (fun hc => ?_) (fun hc => ?_)
    · have h := iteT hc h
      refine lv_iconst (v := (0)) hx hb dX1_paveSquare_28 (by decide) ?_
      obtain rfl := Option.some.inj h
      exact hJ29_o2 ls H locs (lv_sub hl [1, 2, 3, 5, 0] rfl) hP hD hS
    · have h := iteF hc h
      refine lv_iconst (v := (1)) hx hb dX1_paveSquare_24 (by decide) ?_
      refine lv_goto (tgt := 29) hx hb dX1_paveSquare_25 (by decide) ?_
      obtain rfl := Option.some.inj h
      exact hJ29_o2 ls H locs (lv_sub hl [1, 2, 3, 5, 0] rfl) hP hD hS
  · have h := iteF hc h
    obtain rfl := Option.some.inj h
    exact W.vret hx hb hr (fun t ht hW => ⟨rfl, by rw [ht]; exact hP, hD, hS.F ht⟩) hS.2.2 dX1_paveSquare_11
