/-! the law, from its first question on -/
set_option maxHeartbeats 4000000 in
set_option maxRecDepth 100000 in
theorem w_L_law {p : Program} {l : Launch} {e : Env} {s : State} {m : MethodId} {below : List Frame} {meth : Method} {c : Code} {b L : Nat} {xs : Nat → Int32} {D : va_G} {t : Nat → ClassId} {x0 : Nat} (C0 : lw_At p s m meth c b L xs) (hC : CTX s.heap.size D t s s.heap) (hN : NC s) (hl9 : l.stackTraces = false) (hL : L ≤ 260) (μ : ZT) (h : f_L_law L xs μ = some 1) {w : va_W} {H : Heap} {locs : List Loc} {ls : Array Slot} (hl : lv_has ls 17 [(1, .ref x0), (0, .ref b)]) (hw : XG t x0 μ w) (hP : va_P D vwCl w H) (hD : va_D (OA [] s.heap.size) w) (hS : va_S (OA [] s.heap.size) s.heap H locs) : W p l e room_1 s m #[Value.ref b] below meth c H locs 81 35520 (lw_Z below #[Value.ref b] s) (F0 m 8 ls []) := by
  have C0s := C0
  obtain ⟨hx, hb, hr, hml, hown, hts0, hX, hbl, hlocks, hgv⟩ := C0s
  have hts : ∀ w ∈ LA, w.before _ s = true := fun w hw => hts0 w (LA_tbl w hw)
  have hK := hC.1
  have hSz : s.heap.size ≤ H.size := hS.1
  have hZ0 : ∀ q, OA [] s.heap.size q → s.heap.size ≤ q := fun q h => h.elim (fun z => nomatch z) id
  have hbA0 : ¬ OA [] s.heap.size b := fun z => absurd hbl (Nat.not_lt.mpr (hZ0 b z))
  obtain ⟨L0, hL0⟩ : ∃ L0 : List Nat, L0 = [] := ⟨_, rfl⟩
  obtain ⟨z0, hz0⟩ : ∃ z0, z0 = s.heap.size := ⟨_, rfl⟩
  have hC : CTX z0 D t s s.heap := by rw [hz0]; exact hC
  have hZ : ∀ q, OA L0 s.heap.size q → z0 ≤ q := by rw [hL0, hz0]; exact hZ0
  have hbA : ¬ OA L0 s.heap.size b := by rw [hL0]; exact hbA0
  rw [← hL0] at hD hS
  unfold f_L_law at h
  refine lv_aload_n hx hb dL_law_8 rfl (lv_at hl 0 rfl) ?_
  obtain ⟨r1, er1, h⟩ := obind h
  have hsr := OA.ofD (L' := w.map Prod.fst) hD rfl hSz
  refine call_Q (vx_runSW (As := [.ref x0]) (rest := []) ⟨hx, hb, hml, hown, hts⟩ (hm_undo l hl9 z0 D t x0 μ r1 er1 w hw H.size) (kH hts qw741 qw742 qw0 qw743 okL_undo ⟨Nat.le_of_ble_eq_true rfl, Nat.le_of_ble_eq_true rfl⟩) ⟨PMH.blind, fun U hU hW => ⟨rfl, ⟨by rw [hU]; exact (hC.at hS hZ).warm hW, hN.moved hW.alike⟩, by rw [hU], by rw [hU]; exact hP, ⟨hD.1, fun _ _ h9 => Or.inl (in_map (L := w.map Prod.fst) rfl h9)⟩, fun q hq => hZ q (hsr q hq)⟩⟩ rfl rfl hl.1 rfl (lv_room (Nat.le_of_ble_eq_true rfl)) dL_law_9 ⟨by show 81 + 5 ≤ 600130; omega, by show 35520 + 70 ≤ 7301080; omega⟩) hS hsr (fun w H locs hw hP hD1 hS _ _ => ?_)
  refine W.widen (k := 86) (n := 35590) (by omega) (by omega) ?_
  have hD : va_D (OA L0 s.heap.size) w := hD1.weaken (fun _ q _ h9 => hsr q.1 h9)
  have hSz : s.heap.size ≤ H.size := hS.1
  refine lv_ldc (v := (-2000001)) hx hb hown (hts _ qw544) dL_law_12 ?_
  obtain ⟨o7, eo7, h⟩ := obind h
  have hJ67_o7 : ∀ (ls : Array Slot) (H : Heap) (locs : List Loc) (w : va_W), lv_has ls 17 [(0, .ref b), (1, .ref x0)] → XG t x0 o7.2 w → va_P D vwCl w H → va_D (OA L0 s.heap.size) w → va_S (OA L0 s.heap.size) s.heap H locs → W p l e room_1 s m #[Value.ref b] below meth c H locs 102 35805 (lw_Z below #[Value.ref b] s) (F0 m 67 ls [.int o7.1]) := by
    intro ls H locs w hl hw hP hD hS
    have hSz : s.heap.size ≤ H.size := hS.1
    refine lv_istore_n (lv' := [(2, .int o7.1), (0, .ref b), (1, .ref x0)]) hx hb dL_law_67 rfl hl (by decide) rfl (fun ls hl => ?_)
    refine lv_iconst (v := (0)) hx hb dL_law_68 (by decide) ?_
    refine lv_istore_n (lv' := [(3, .int (0 : Int32)), (2, .int o7.1), (0, .ref b), (1, .ref x0)]) hx hb dL_law_69 rfl hl (by decide) rfl (fun ls hl => ?_)
    obtain ⟨o353, eo353, h⟩ := obind h
    have hL70 : ∀ (n : Nat) (hn9 : n ≤ 32) (y2_70 : Int32) (y3_70 : Int32) (st_70 : ZT) (o353 : Int32 × (ZT)), f_L_law_L70 L xs n y2_70 y3_70 st_70 = some o353 → (∀ (ls : Array Slot) (H : Heap) (locs : List Loc) (w : va_W), lv_has ls 17 [(1, .ref x0), (2, .int o353.1)] → XG t x0 o353.2 w → va_P D vwCl w H → va_D (OA L0 s.heap.size) w → va_S (OA L0 s.heap.size) s.heap H locs → W p l e room_1 s m #[Value.ref b] below meth c H locs 518 40861 (lw_Z below #[Value.ref b] s) (F0 m 583 ls [])) → ∀ (ls : Array Slot) (H : Heap) (locs : List Loc) (w : va_W), lv_has ls 17 [(0, .ref b), (1, .ref x0), (2, .int y2_70), (3, .int y3_70)] → XG t x0 st_70 w → va_P D vwCl w H → va_D (OA L0 s.heap.size) w → va_S (OA L0 s.heap.size) s.heap H locs → W p l e room_1 s m #[Value.ref b] below meth c H locs (518 - 13 * n) (40861 - 158 * n) (lw_Z below #[Value.ref b] s) (F0 m 70 ls []) := by
      intro n
      induction n with
      | zero => intro hn9 y2_70 y3_70 st_70 o353 h; exact absurd h (fun z => by cases z)
      | succ n ih =>
        intro hn9 y2_70 y3_70 st_70 o353 h hK70 ls H locs w hl hw hP hD hS
        replace h : f_L_law_L70_b L xs (f_L_law_L70 L xs n) y2_70 y3_70 st_70 = some o353 := h
        unfold f_L_law_L70_b at h
        have hSz : s.heap.size ≤ H.size := hS.1
        obtain ⟨cz, hcz⟩ : ∃ cz, cz = 518 - 13 * (n + 1) := ⟨_, rfl⟩
        obtain ⟨sq, hsq⟩ : ∃ sq, sq = 40861 - 158 * (n + 1) := ⟨_, rfl⟩
        rw [← hcz, ← hsq]
        refine lv_iload_n hx hb dL_law_70 rfl (lv_at hl 3 rfl) ?_
        refine lv_bipush (v := (20)) hx hb dL_law_71 (by decide) ?_
        refine lv_icmp_ge (tgt := 583) hx hb dL_law_73 (by decide) (fun hc => ?_) (fun hc => ?_)
        · have h := iteT hc h
          obtain rfl := Option.some.inj h
          refine W.widen (k := 518) (n := 40861) (by omega) (by omega) ?_
          exact hK70 ls H locs w (lv_sub hl [1, 2] rfl) hw hP hD hS
        · have h := iteF hc h
          refine lv_iload_n hx hb dL_law_76 rfl (lv_at hl 2 rfl) ?_
          refine lv_if_eq (tgt := 583) hx hb dL_law_77 (by decide) (fun hc => ?_) (fun hc => ?_)
          · have h := iteT hc h
            obtain rfl := Option.some.inj h
            refine W.widen (k := 518) (n := 40861) (by omega) (by omega) ?_
            exact hK70 ls H locs w (lv_sub hl [1, 2] rfl) hw hP hD hS
          · have h := iteF hc h
            refine lv_aload_n hx hb dL_law_80 rfl (lv_at hl 0 rfl) ?_
            refine lv_iload_n hx hb dL_law_81 rfl (lv_at hl 3 rfl) ?_
            obtain ⟨r354, er354, h⟩ := obind h
            refine call_R (va_runS (As := [.ref b, .int y3_70]) (rest := []) ⟨hx, hb, hml, hown, hts⟩ (c_L_cell l hL y3_70 r354 er354) (kS hts qw373 qw374 qw0 qw375 okL_cell ⟨Nat.le_of_ble_eq_true rfl, Nat.le_of_ble_eq_true rfl⟩) ⟨PSC.blind, fun U hU hW => ⟨rfl, va_X.moved hW.alike (by rw [hU]; exact hX.kept (hS.2.1 b hbl hbA)), by rw [hU]; exact Nat.lt_of_lt_of_le hbl hSz⟩⟩ rfl rfl hl.1 rfl (lv_room (Nat.le_of_ble_eq_true rfl)) dL_law_82 ⟨by show cz + 0 ≤ 600130; omega, by show sq + 0 ≤ 7301080; omega⟩) ?_
            refine lv_istore (lv' := [(4, .int r354), (0, .ref b), (1, .ref x0), (2, .int y2_70), (3, .int y3_70)]) hx hb dL_law_85 hl (by decide) rfl (fun ls hl => ?_)
            refine lv_iload hx hb dL_law_87 (lv_at hl 0 rfl) ?_
            refine lv_bipush (v := (16)) hx hb dL_law_89 (by decide) ?_
            refine lv_idiv hx hb dL_law_91 (by decide) ?_
            obtain ⟨x355, ex355, h⟩ := jlet_some h
            refine topI ex355 ?_
            refine lv_istore (lv' := [(5, .int x355), (4, .int r354), (0, .ref b), (1, .ref x0), (2, .int y2_70), (3, .int y3_70)]) hx hb dL_law_92 hl (by decide) rfl (fun ls hl => ?_)
            refine lv_iload hx hb dL_law_94 (lv_at hl 1 rfl) ?_
            refine lv_bipush (v := (16)) hx hb dL_law_96 (by decide) ?_
            refine lv_irem hx hb dL_law_98 (by decide) ?_
            obtain ⟨x356, ex356, h⟩ := jlet_some h
            refine topI ex356 ?_
            refine lv_istore (lv' := [(6, .int x356), (5, .int x355), (4, .int r354), (0, .ref b), (1, .ref x0), (2, .int y2_70), (3, .int y3_70)]) hx hb dL_law_99 hl (by decide) rfl (fun ls hl => ?_)
            refine lv_aload_n hx hb dL_law_101 rfl (lv_at hl 4 rfl) ?_
            refine lv_bipush (v := (11)) hx hb dL_law_102 (by decide) ?_
            obtain ⟨r357, er357, h⟩ := obind h
            have hsr := OA.ofD (L' := w.map Prod.fst) hD rfl hSz
            refine call_Q (vx_runSW (As := [.ref x0, .int (11 : Int32)]) (rest := []) ⟨hx, hb, hml, hown, hts⟩ (hq_count l hl9 z0 D t x0 st_70 (11 : Int32) r357 er357 w hw H.size) (kH hts qw800 qw801 qw0 qw802 okL_count ⟨Nat.le_of_ble_eq_true rfl, Nat.le_of_ble_eq_true rfl⟩) ⟨PMH.blind, fun U hU hW => ⟨rfl, ⟨by rw [hU]; exact (hC.at hS hZ).warm hW, hN.moved hW.alike⟩, by rw [hU], by rw [hU]; exact hP, ⟨hD.1, fun _ _ h9 => Or.inl (in_map (L := w.map Prod.fst) rfl h9)⟩, fun q hq => hZ q (hsr q hq)⟩⟩ rfl rfl hl.1 rfl (lv_room (Nat.le_of_ble_eq_true rfl)) dL_law_104 ⟨by show cz + 0 ≤ 600130; omega, by show sq + 0 ≤ 7301080; omega⟩) hS hsr (fun w H locs hw hP hD1 hS _ _ => ?_)
            have hD : va_D (OA L0 s.heap.size) w := hD1.weaken (fun _ q _ h9 => hsr q.1 h9)
            have hSz : s.heap.size ≤ H.size := hS.1
            refine lv_istore (lv' := [(7, .int r357), (6, .int x356), (5, .int x355), (4, .int r354), (0, .ref b), (1, .ref x0), (2, .int y2_70), (3, .int y3_70)]) hx hb dL_law_107 hl (by decide) rfl (fun ls hl => ?_)
            refine lv_aload_n hx hb dL_law_109 rfl (lv_at hl 5 rfl) ?_
            refine lv_bipush (v := (10)) hx hb dL_law_110 (by decide) ?_
            obtain ⟨r358, er358, h⟩ := obind h
            have hsr := OA.ofD (L' := w.map Prod.fst) hD rfl hSz
            refine call_Q (vx_runSW (As := [.ref x0, .int (10 : Int32)]) (rest := []) ⟨hx, hb, hml, hown, hts⟩ (hq_count l hl9 z0 D t x0 st_70 (10 : Int32) r358 er358 w hw H.size) (kH hts qw800 qw801 qw0 qw802 okL_count ⟨Nat.le_of_ble_eq_true rfl, Nat.le_of_ble_eq_true rfl⟩) ⟨PMH.blind, fun U hU hW => ⟨rfl, ⟨by rw [hU]; exact (hC.at hS hZ).warm hW, hN.moved hW.alike⟩, by rw [hU], by rw [hU]; exact hP, ⟨hD.1, fun _ _ h9 => Or.inl (in_map (L := w.map Prod.fst) rfl h9)⟩, fun q hq => hZ q (hsr q hq)⟩⟩ rfl rfl hl.1 rfl (lv_room (Nat.le_of_ble_eq_true rfl)) dL_law_112 ⟨by show cz + 0 ≤ 600130; omega, by show sq + 0 ≤ 7301080; omega⟩) hS hsr (fun w H locs hw hP hD1 hS _ _ => ?_)
            have hD : va_D (OA L0 s.heap.size) w := hD1.weaken (fun _ q _ h9 => hsr q.1 h9)
            have hSz : s.heap.size ≤ H.size := hS.1
            refine lv_istore (lv' := [(8, .int r358), (7, .int r357), (6, .int x356), (5, .int x355), (4, .int r354), (0, .ref b), (1, .ref x0), (2, .int y2_70), (3, .int y3_70)]) hx hb dL_law_115 hl (by decide) rfl (fun ls hl => ?_)
            refine lv_aload_n hx hb dL_law_117 rfl (lv_at hl 6 rfl) ?_
            refine lv_bipush (v := (9)) hx hb dL_law_118 (by decide) ?_
            obtain ⟨r359, er359, h⟩ := obind h
            have hsr := OA.ofD (L' := w.map Prod.fst) hD rfl hSz
            refine call_Q (vx_runSW (As := [.ref x0, .int (9 : Int32)]) (rest := []) ⟨hx, hb, hml, hown, hts⟩ (hq_count l hl9 z0 D t x0 st_70 (9 : Int32) r359 er359 w hw H.size) (kH hts qw800 qw801 qw0 qw802 okL_count ⟨Nat.le_of_ble_eq_true rfl, Nat.le_of_ble_eq_true rfl⟩) ⟨PMH.blind, fun U hU hW => ⟨rfl, ⟨by rw [hU]; exact (hC.at hS hZ).warm hW, hN.moved hW.alike⟩, by rw [hU], by rw [hU]; exact hP, ⟨hD.1, fun _ _ h9 => Or.inl (in_map (L := w.map Prod.fst) rfl h9)⟩, fun q hq => hZ q (hsr q hq)⟩⟩ rfl rfl hl.1 rfl (lv_room (Nat.le_of_ble_eq_true rfl)) dL_law_120 ⟨by show cz + 0 ≤ 600130; omega, by show sq + 0 ≤ 7301080; omega⟩) hS hsr (fun w H locs hw hP hD1 hS _ _ => ?_)
            have hD : va_D (OA L0 s.heap.size) w := hD1.weaken (fun _ q _ h9 => hsr q.1 h9)
            have hSz : s.heap.size ≤ H.size := hS.1
            refine lv_istore (lv' := [(9, .int r359), (8, .int r358), (7, .int r357), (6, .int x356), (5, .int x355), (4, .int r354), (0, .ref b), (1, .ref x0), (2, .int y2_70), (3, .int y3_70)]) hx hb dL_law_123 hl (by decide) rfl (fun ls hl => ?_)
            refine lv_aload_n hx hb dL_law_125 rfl (lv_at hl 7 rfl) ?_
            refine lv_bipush (v := (6)) hx hb dL_law_126 (by decide) ?_
            obtain ⟨r360, er360, h⟩ := obind h
            have hsr := OA.ofD (L' := w.map Prod.fst) hD rfl hSz
            refine call_Q (vx_runSW (As := [.ref x0, .int (6 : Int32)]) (rest := []) ⟨hx, hb, hml, hown, hts⟩ (hq_count l hl9 z0 D t x0 st_70 (6 : Int32) r360 er360 w hw H.size) (kH hts qw800 qw801 qw0 qw802 okL_count ⟨Nat.le_of_ble_eq_true rfl, Nat.le_of_ble_eq_true rfl⟩) ⟨PMH.blind, fun U hU hW => ⟨rfl, ⟨by rw [hU]; exact (hC.at hS hZ).warm hW, hN.moved hW.alike⟩, by rw [hU], by rw [hU]; exact hP, ⟨hD.1, fun _ _ h9 => Or.inl (in_map (L := w.map Prod.fst) rfl h9)⟩, fun q hq => hZ q (hsr q hq)⟩⟩ rfl rfl hl.1 rfl (lv_room (Nat.le_of_ble_eq_true rfl)) dL_law_128 ⟨by show cz + 0 ≤ 600130; omega, by show sq + 0 ≤ 7301080; omega⟩) hS hsr (fun w H locs hw hP hD1 hS _ _ => ?_)
            have hD : va_D (OA L0 s.heap.size) w := hD1.weaken (fun _ q _ h9 => hsr q.1 h9)
            have hSz : s.heap.size ≤ H.size := hS.1
            refine lv_istore (lv' := [(10, .int r360), (9, .int r359), (8, .int r358), (7, .int r357), (6, .int x356), (5, .int x355), (4, .int r354), (0, .ref b), (1, .ref x0), (2, .int y2_70), (3, .int y3_70)]) hx hb dL_law_131 hl (by decide) rfl (fun ls hl => ?_)
            refine lv_aload_n hx hb dL_law_133 rfl (lv_at hl 8 rfl) ?_
            obtain ⟨r361, er361, h⟩ := obind h
            have hsr := OA.ofD (L' := w.map Prod.fst) hD rfl hSz
            obtain ⟨fs9, h09⟩ := XG_h0 hw
            refine call_Q (va_runV (As := []) (rest := []) ⟨hx, hb, hml, hown, hts⟩ (hd_ways l hl9 z0 D t x0 st_70 r361 er361 w hw H.size) (kV hts qw232 qw233 qw234 qw1 qw235 ok_X4_ways ⟨Nat.le_of_ble_eq_true rfl, Nat.le_of_ble_eq_true rfl⟩) ⟨PM.blind, va_recv hK hP (ci := 5) (q0 := 0) rfl h09, fun U hU hW => ⟨rfl, by rw [hU]; exact (hC.at hS hZ).warm hW, by rw [hU], by rw [hU]; exact hP, ⟨hD.1, fun _ _ h9 => Or.inl (in_map (L := w.map Prod.fst) rfl h9)⟩, fun q hq => hZ q (hsr q hq)⟩⟩ rfl rfl hl.1 rfl (lv_room (Nat.le_of_ble_eq_true rfl)) dL_law_134 ⟨by show cz + 0 ≤ 600130; omega, by show sq + 0 ≤ 7301080; omega⟩) hS hsr (fun w H locs hw hP hD1 hS _ _ => ?_)
            have hD : va_D (OA L0 s.heap.size) w := hD1.weaken (fun _ q _ h9 => hsr q.1 h9)
            have hSz : s.heap.size ≤ H.size := hS.1
            refine lv_istore (lv' := [(11, .int r361), (10, .int r360), (9, .int r359), (8, .int r358), (7, .int r357), (6, .int x356), (5, .int x355), (4, .int r354), (0, .ref b), (1, .ref x0), (2, .int y2_70), (3, .int y3_70)]) hx hb dL_law_137 hl (by decide) rfl (fun ls hl => ?_)
            refine lv_iload hx hb dL_law_139 (lv_at hl 6 rfl) ?_
            refine lv_aload_n hx hb dL_law_141 rfl (lv_at hl 9 rfl) ?_
            refine lv_iconst (v := (0)) hx hb dL_law_142 (by decide) ?_
            obtain ⟨r362, er362, h⟩ := obind h
            have hsr := OA.ofD (L' := w.map Prod.fst) hD rfl hSz
            refine call_Q (vx_runSW (As := [.ref x0, .int (0 : Int32)]) (rest := [.int x355]) ⟨hx, hb, hml, hown, hts⟩ (hq_count l hl9 z0 D t x0 st_70 (0 : Int32) r362 er362 w hw H.size) (kH hts qw800 qw801 qw0 qw802 okL_count ⟨Nat.le_of_ble_eq_true rfl, Nat.le_of_ble_eq_true rfl⟩) ⟨PMH.blind, fun U hU hW => ⟨rfl, ⟨by rw [hU]; exact (hC.at hS hZ).warm hW, hN.moved hW.alike⟩, by rw [hU], by rw [hU]; exact hP, ⟨hD.1, fun _ _ h9 => Or.inl (in_map (L := w.map Prod.fst) rfl h9)⟩, fun q hq => hZ q (hsr q hq)⟩⟩ rfl rfl hl.1 rfl (lv_room (Nat.le_of_ble_eq_true rfl)) dL_law_143 ⟨by show cz + 0 ≤ 600130; omega, by show sq + 0 ≤ 7301080; omega⟩) hS hsr (fun w H locs hw hP hD1 hS _ _ => ?_)
            have hD : va_D (OA L0 s.heap.size) w := hD1.weaken (fun _ q _ h9 => hsr q.1 h9)
            have hSz : s.heap.size ≤ H.size := hS.1
            have h363 : ¬ r362 = 0 := fun z => absurd (iteT z h) (fun z => by cases z)
            have h := iteF h363 h
            refine lv_irem hx hb dL_law_146 h363 ?_
            obtain ⟨x364, ex364, h⟩ := jlet_some h
            refine topI ex364 ?_
            refine lv_istore (lv' := [(12, .int x364), (11, .int r361), (10, .int r360), (9, .int r359), (8, .int r358), (7, .int r357), (6, .int x356), (5, .int x355), (4, .int r354), (0, .ref b), (1, .ref x0), (2, .int y2_70), (3, .int y3_70)]) hx hb dL_law_147 hl (by decide) rfl (fun ls hl => ?_)
            refine lv_iload hx hb dL_law_149 (lv_at hl 7 rfl) ?_
            refine lv_bipush (v := (8)) hx hb dL_law_151 (by decide) ?_
            refine lv_idiv hx hb dL_law_153 (by decide) ?_
            refine lv_aload_n hx hb dL_law_154 rfl (lv_at hl 10 rfl) ?_
            refine lv_iconst (v := (1)) hx hb dL_law_155 (by decide) ?_
            obtain ⟨r365, er365, h⟩ := obind h
            have hsr := OA.ofD (L' := w.map Prod.fst) hD rfl hSz
            refine call_Q (vx_runSW (As := [.ref x0, .int (1 : Int32)]) (rest := [.int (x355 / (8 : Int32))]) ⟨hx, hb, hml, hown, hts⟩ (hq_count l hl9 z0 D t x0 st_70 (1 : Int32) r365 er365 w hw H.size) (kH hts qw800 qw801 qw0 qw802 okL_count ⟨Nat.le_of_ble_eq_true rfl, Nat.le_of_ble_eq_true rfl⟩) ⟨PMH.blind, fun U hU hW => ⟨rfl, ⟨by rw [hU]; exact (hC.at hS hZ).warm hW, hN.moved hW.alike⟩, by rw [hU], by rw [hU]; exact hP, ⟨hD.1, fun _ _ h9 => Or.inl (in_map (L := w.map Prod.fst) rfl h9)⟩, fun q hq => hZ q (hsr q hq)⟩⟩ rfl rfl hl.1 rfl (lv_room (Nat.le_of_ble_eq_true rfl)) dL_law_156 ⟨by show cz + 0 ≤ 600130; omega, by show sq + 0 ≤ 7301080; omega⟩) hS hsr (fun w H locs hw hP hD1 hS _ _ => ?_)
            have hD : va_D (OA L0 s.heap.size) w := hD1.weaken (fun _ q _ h9 => hsr q.1 h9)
            have hSz : s.heap.size ≤ H.size := hS.1
            have h366 : ¬ r365 = 0 := fun z => absurd (iteT z h) (fun z => by cases z)
            have h := iteF h366 h
            refine lv_irem hx hb dL_law_159 h366 ?_
            obtain ⟨x367, ex367, h⟩ := jlet_some h
            refine topI ex367 ?_
            refine lv_istore (lv' := [(13, .int x367), (12, .int x364), (11, .int r361), (10, .int r360), (9, .int r359), (8, .int r358), (7, .int r357), (6, .int x356), (5, .int x355), (4, .int r354), (0, .ref b), (1, .ref x0), (2, .int y2_70), (3, .int y3_70)]) hx hb dL_law_160 hl (by decide) rfl (fun ls hl => ?_)
            refine lv_iload hx hb dL_law_162 (lv_at hl 7 rfl) ?_
            refine lv_iconst (v := (3)) hx hb dL_law_164 (by decide) ?_
            obtain ⟨o369, eo369, h⟩ := obind h
            have hJ194_o369 : ∀ (ls : Array Slot) (H : Heap) (locs : List Loc) (w : va_W), lv_has ls 17 [(0, .ref b), (1, .ref x0), (3, .int y3_70), (4, .int r354), (5, .int x355), (6, .int x356), (7, .int r357), (8, .int r358), (9, .int r359), (10, .int r360), (11, .int r361), (12, .int x364), (13, .int x367)] → XG t x0 st_70 w → va_P D vwCl w H → va_D (OA L0 s.heap.size) w → va_S (OA L0 s.heap.size) s.heap H locs → W p l e room_1 s m #[Value.ref b] below meth c H locs cz sq (lw_Z below #[Value.ref b] s) (F0 m 194 ls [.int o369]) := by
              intro ls H locs w hl hw hP hD hS
              have hSz : s.heap.size ≤ H.size := hS.1
              refine lv_istore (lv' := [(14, .int o369), (0, .ref b), (1, .ref x0), (3, .int y3_70), (4, .int r354), (5, .int x355), (6, .int x356), (7, .int r357), (8, .int r358), (9, .int r359), (10, .int r360), (11, .int r361), (12, .int x364), (13, .int x367)]) hx hb dL_law_194 hl (by decide) rfl (fun ls hl => ?_)
              refine lv_aload_n hx hb dL_law_196 rfl (lv_at hl 2 rfl) ?_
              refine lv_iload hx hb dL_law_197 (lv_at hl 4 rfl) ?_
              obtain ⟨r371, er371, h⟩ := obind h
              have hsr := OA.ofD (L' := w.map Prod.fst) hD rfl hSz
              refine call_Q (va_runS (As := [.ref x0, .int r354]) (rest := []) ⟨hx, hb, hml, hown, hts⟩ (c_L_acts l hl9 z0 D t x0 st_70 r354 r371 er371 w hw H.size) (kS hts qw852 qw853 qw0 qw854 ok_L_acts ⟨Nat.le_of_ble_eq_true rfl, Nat.le_of_ble_eq_true rfl⟩) ⟨PMH.blind, fun U hU hW => ⟨rfl, ⟨by rw [hU]; exact (hC.at hS hZ).warm hW, hN.moved hW.alike⟩, by rw [hU], by rw [hU]; exact hP, ⟨hD.1, fun _ _ h9 => Or.inl (in_map (L := w.map Prod.fst) rfl h9)⟩, fun q hq => hZ q (hsr q hq)⟩⟩ rfl rfl hl.1 rfl (lv_room (Nat.le_of_ble_eq_true rfl)) dL_law_199 ⟨by show cz + 5 ≤ 600130; omega, by show sq + 70 ≤ 7301080; omega⟩) hS hsr (fun w H locs hw hP hD1 hS _ _ => ?_)
              refine W.widen (k := (cz + 5)) (n := (sq + 70)) (by omega) (by omega) ?_
              have hD : va_D (OA L0 s.heap.size) w := hD1.weaken (fun _ q _ h9 => hsr q.1 h9)
              have hSz : s.heap.size ≤ H.size := hS.1
              refine lv_istore (lv' := [(15, .int r371.1), (14, .int o369), (0, .ref b), (1, .ref x0), (3, .int y3_70), (4, .int r354), (5, .int x355), (6, .int x356), (7, .int r357), (8, .int r358), (9, .int r359), (10, .int r360), (11, .int r361), (12, .int x364), (13, .int x367)]) hx hb dL_law_202 hl (by decide) rfl (fun ls hl => ?_)
              refine lv_iload hx hb dL_law_204 (lv_at hl 0 rfl) ?_
              refine lv_ldc (v := (-2000000)) hx hb hown (hts _ qw920) dL_law_206 ?_
              obtain ⟨o372, eo372, h⟩ := obind h
              have hJ216_o372 : ∀ (ls : Array Slot) (H : Heap) (locs : List Loc) (w : va_W), lv_has ls 17 [(0, .ref b), (1, .ref x0), (3, .int y3_70), (5, .int x355), (6, .int x356), (7, .int r357), (8, .int r358), (9, .int r359), (10, .int r360), (11, .int r361), (12, .int x364), (13, .int x367), (14, .int o369), (15, .int r371.1)] → XG t x0 r371.2 w → va_P D vwCl w H → va_D (OA L0 s.heap.size) w → va_S (OA L0 s.heap.size) s.heap H locs → W p l e room_1 s m #[Value.ref b] below meth c H locs (cz + 5) (sq + 70) (lw_Z below #[Value.ref b] s) (F0 m 216 ls [.int o372]) := by
                intro ls H locs w hl hw hP hD hS
                have hSz : s.heap.size ≤ H.size := hS.1
                refine lv_istore (lv' := [(16, .int o372), (0, .ref b), (1, .ref x0), (3, .int y3_70), (5, .int x355), (6, .int x356), (7, .int r357), (8, .int r358), (9, .int r359), (10, .int r360), (11, .int r361), (12, .int x364), (13, .int x367), (14, .int o369), (15, .int r371.1)]) hx hb dL_law_216 hl (by decide) rfl (fun ls hl => ?_)
                refine lv_aload_n hx hb dL_law_218 rfl (lv_at hl 2 rfl) ?_
                refine lv_bipush (v := (11)) hx hb dL_law_219 (by decide) ?_
                obtain ⟨r373, er373, h⟩ := obind h
                have hsr := OA.ofD (L' := w.map Prod.fst) hD rfl hSz
                refine call_Q (vx_runSW (As := [.ref x0, .int (11 : Int32)]) (rest := []) ⟨hx, hb, hml, hown, hts⟩ (hq_count l hl9 z0 D t x0 r371.2 (11 : Int32) r373 er373 w hw H.size) (kH hts qw800 qw801 qw0 qw802 okL_count ⟨Nat.le_of_ble_eq_true rfl, Nat.le_of_ble_eq_true rfl⟩) ⟨PMH.blind, fun U hU hW => ⟨rfl, ⟨by rw [hU]; exact (hC.at hS hZ).warm hW, hN.moved hW.alike⟩, by rw [hU], by rw [hU]; exact hP, ⟨hD.1, fun _ _ h9 => Or.inl (in_map (L := w.map Prod.fst) rfl h9)⟩, fun q hq => hZ q (hsr q hq)⟩⟩ rfl rfl hl.1 rfl (lv_room (Nat.le_of_ble_eq_true rfl)) dL_law_221 ⟨by show (cz + 5) + 0 ≤ 600130; omega, by show (sq + 70) + 0 ≤ 7301080; omega⟩) hS hsr (fun w H locs hw hP hD1 hS _ _ => ?_)
                have hD : va_D (OA L0 s.heap.size) w := hD1.weaken (fun _ q _ h9 => hsr q.1 h9)
                have hSz : s.heap.size ≤ H.size := hS.1
                refine lv_iload hx hb dL_law_224 (lv_at hl 0 rfl) ?_
                obtain ⟨o374, eo374, h⟩ := obind h
                have hJ260_o374 : ∀ (ls : Array Slot) (H : Heap) (locs : List Loc) (w : va_W), lv_has ls 17 [(0, .ref b), (1, .ref x0), (3, .int y3_70), (5, .int x355), (6, .int x356), (8, .int r358), (9, .int r359), (10, .int r360), (11, .int r361), (12, .int x364), (13, .int x367), (14, .int o369), (15, .int r371.1), (16, .int o372)] → XG t x0 r371.2 w → va_P D vwCl w H → va_D (OA L0 s.heap.size) w → va_S (OA L0 s.heap.size) s.heap H locs → W p l e room_1 s m #[Value.ref b] below meth c H locs (cz + 5) (sq + 70) (lw_Z below #[Value.ref b] s) (F0 m 260 ls [.int o374, .int r373]) := by
                  intro ls H locs w hl hw hP hD hS
                  have hSz : s.heap.size ≤ H.size := hS.1
                  obtain ⟨o375, eo375, h⟩ := obind h
                  have hJ268_o375 : ∀ (ls : Array Slot) (H : Heap) (locs : List Loc) (w : va_W), lv_has ls 17 [(0, .ref b), (1, .ref x0), (3, .int y3_70), (5, .int x355), (6, .int x356), (8, .int r358), (9, .int r359), (10, .int r360), (11, .int r361), (12, .int x364), (13, .int x367), (14, .int o369), (15, .int r371.1), (16, .int o372)] → XG t x0 r371.2 w → va_P D vwCl w H → va_D (OA L0 s.heap.size) w → va_S (OA L0 s.heap.size) s.heap H locs → W p l e room_1 s m #[Value.ref b] below meth c H locs (cz + 5) (sq + 70) (lw_Z below #[Value.ref b] s) (F0 m 268 ls [.int o375]) := by
                    intro ls H locs w hl hw hP hD hS
                    have hSz : s.heap.size ≤ H.size := hS.1
                    refine lv_istore_n (lv' := [(2, .int o375), (0, .ref b), (1, .ref x0), (3, .int y3_70), (5, .int x355), (6, .int x356), (8, .int r358), (9, .int r359), (10, .int r360), (11, .int r361), (12, .int x364), (13, .int x367), (14, .int o369), (15, .int r371.1), (16, .int o372)]) hx hb dL_law_268 rfl hl (by decide) rfl (fun ls hl => ?_)
                    refine lv_iload_n hx hb dL_law_269 rfl (lv_at hl 0 rfl) ?_
                    obtain ⟨o380, eo380, h⟩ := obind h
                    have hJ334_o380 : ∀ (ls : Array Slot) (H : Heap) (locs : List Loc) (w : va_W), lv_has ls 17 [(0, .ref b), (1, .ref x0), (3, .int y3_70), (5, .int x355), (6, .int x356), (9, .int r359), (10, .int r360), (11, .int r361), (12, .int x364), (13, .int x367), (15, .int r371.1), (16, .int o372)] → XG t x0 r371.2 w → va_P D vwCl w H → va_D (OA L0 s.heap.size) w → va_S (OA L0 s.heap.size) s.heap H locs → W p l e room_1 s m #[Value.ref b] below meth c H locs (cz + 5) (sq + 70) (lw_Z below #[Value.ref b] s) (F0 m 334 ls [.int o380]) := by
                      intro ls H locs w hl hw hP hD hS
                      have hSz : s.heap.size ≤ H.size := hS.1
                      refine lv_istore_n (lv' := [(2, .int o380), (0, .ref b), (1, .ref x0), (3, .int y3_70), (5, .int x355), (6, .int x356), (9, .int r359), (10, .int r360), (11, .int r361), (12, .int x364), (13, .int x367), (15, .int r371.1), (16, .int o372)]) hx hb dL_law_334 rfl hl (by decide) rfl (fun ls hl => ?_)
                      refine lv_iload_n hx hb dL_law_335 rfl (lv_at hl 0 rfl) ?_
                      obtain ⟨o451, eo451, h⟩ := obind h
                      have hJ553_o451 : ∀ (ls : Array Slot) (H : Heap) (locs : List Loc) (w : va_W), lv_has ls 17 [(0, .ref b), (1, .ref x0), (2, .int o451.1), (3, .int y3_70)] → XG t x0 o451.2 w → va_P D vwCl w H → va_D (OA L0 s.heap.size) w → va_S (OA L0 s.heap.size) s.heap H locs → W p l e room_1 s m #[Value.ref b] below meth c H locs (cz + 10) (sq + 140) (lw_Z below #[Value.ref b] s) (F0 m 553 ls []) := by
                        intro ls H locs w hl hw hP hD hS
                        have hSz : s.heap.size ≤ H.size := hS.1
                        refine lv_iload_n hx hb dL_law_553 rfl (lv_at hl 2 rfl) ?_
                        obtain ⟨o520, eo520, h⟩ := obind h
                        have hJ576_o520 : ∀ (ls : Array Slot) (H : Heap) (locs : List Loc) (w : va_W), lv_has ls 17 [(0, .ref b), (1, .ref x0), (3, .int y3_70)] → XG t x0 o451.2 w → va_P D vwCl w H → va_D (OA L0 s.heap.size) w → va_S (OA L0 s.heap.size) s.heap H locs → W p l e room_1 s m #[Value.ref b] below meth c H locs (cz + 13) (sq + 158) (lw_Z below #[Value.ref b] s) (F0 m 576 ls [.int o520]) := by
                          intro ls H locs w hl hw hP hD hS
                          have hSz : s.heap.size ≤ H.size := hS.1
                          refine lv_istore_n (lv' := [(2, .int o520), (0, .ref b), (1, .ref x0), (3, .int y3_70)]) hx hb dL_law_576 rfl hl (by decide) rfl (fun ls hl => ?_)
                          obtain ⟨x523, ex523, h⟩ := jlet_some h
                          refine lv_iinc (v := x523) (lv' := [(3, .int x523), (2, .int o520), (0, .ref b), (1, .ref x0)]) hx hb dL_law_577 hl (k := 3) rfl (by rw [ex523]; rfl) (by decide) rfl (fun ls hl => ?_)
                          refine lv_goto (tgt := 70) hx hb dL_law_580 (by decide) ?_
                          refine W.widen (k := 518 - 13 * n) (n := 40861 - 158 * n) (by omega) (by omega) ?_
                          exact ih (by omega) _ _ _ _ h hK70 ls H locs w (lv_sub hl [2, 3, 1, 0] rfl) hw hP hD hS
                        have h := eo520
                        clear eo520
                        refine lv_if_eq (tgt := 575) hx hb dL_law_554 (by decide) (fun hc => ?_) (fun hc => ?_)
                        · have h := iteT hc h
                          refine lv_iconst (v := (0)) hx hb dL_law_575 (by decide) ?_
                          obtain rfl := Option.some.inj h
                          refine W.widen (k := (cz + 13)) (n := (sq + 158)) (by omega) (by omega) ?_
                          exact hJ576_o520 ls H locs w (lv_sub hl [0, 1, 3] rfl) hw hP hD hS
                        · have h := iteF hc h
                          refine lv_aload_n hx hb dL_law_557 rfl (lv_at hl 1 rfl) ?_
                          obtain ⟨r521, er521, h⟩ := obind h
                          have hsr := OA.ofD (L' := w.map Prod.fst) hD rfl hSz
                          refine call_Q (va_runS (As := [.ref x0]) (rest := []) ⟨hx, hb, hml, hown, hts⟩ (c_L_hangs l hl9 z0 D t x0 o451.2 r521 er521 w hw H.size) (kS hts qw895 qw896 qw0 qw897 ok_L_hangs ⟨Nat.le_of_ble_eq_true rfl, Nat.le_of_ble_eq_true rfl⟩) ⟨PMH.blind, fun U hU hW => ⟨rfl, ⟨by rw [hU]; exact (hC.at hS hZ).warm hW, hN.moved hW.alike⟩, by rw [hU], by rw [hU]; exact hP, ⟨hD.1, fun _ _ h9 => Or.inl (in_map (L := w.map Prod.fst) rfl h9)⟩, fun q hq => hZ q (hsr q hq)⟩⟩ rfl rfl hl.1 rfl (lv_room (Nat.le_of_ble_eq_true rfl)) dL_law_558 ⟨by show (cz + 10) + 3 ≤ 600130; omega, by show (sq + 140) + 18 ≤ 7301080; omega⟩) hS hsr (fun w H locs hw hP hD1 hS _ _ => ?_)
                          refine W.widen (k := (cz + 13)) (n := (sq + 158)) (by omega) (by omega) ?_
                          have hD : va_D (OA L0 s.heap.size) w := hD1.weaken (fun _ q _ h9 => hsr q.1 h9)
                          have hSz : s.heap.size ≤ H.size := hS.1
                          refine lv_if_eq (tgt := 575) hx hb dL_law_561 (by decide) (fun hc => ?_) (fun hc => ?_)
                          · have h := iteT hc h
                            refine lv_iconst (v := (0)) hx hb dL_law_575 (by decide) ?_
                            obtain rfl := Option.some.inj h
                            exact hJ576_o520 ls H locs w (lv_sub hl [0, 1, 3] rfl) hw hP hD hS
                          · have h := iteF hc h
                            refine lv_aload_n hx hb dL_law_564 rfl (lv_at hl 1 rfl) ?_
                            obtain ⟨r522, er522, h⟩ := obind h
                            have hsr := OA.ofD (L' := w.map Prod.fst) hD rfl hSz
                            refine call_Q (va_runS (As := [.ref x0]) (rest := []) ⟨hx, hb, hml, hown, hts⟩ (c_L_addsUp l hl9 z0 D t x0 o451.2 r522 er522 w hw H.size) (kS hts qw917 qw918 qw0 qw919 ok_L_addsUp ⟨Nat.le_of_ble_eq_true rfl, Nat.le_of_ble_eq_true rfl⟩) ⟨PMH.blind, fun U hU hW => ⟨rfl, ⟨by rw [hU]; exact (hC.at hS hZ).warm hW, hN.moved hW.alike⟩, by rw [hU], by rw [hU]; exact hP, ⟨hD.1, fun _ _ h9 => Or.inl (in_map (L := w.map Prod.fst) rfl h9)⟩, fun q hq => hZ q (hsr q hq)⟩⟩ rfl rfl hl.1 rfl (lv_room (Nat.le_of_ble_eq_true rfl)) dL_law_565 ⟨by show (cz + 13) + 0 ≤ 600130; omega, by show (sq + 158) + 0 ≤ 7301080; omega⟩) hS hsr (fun w H locs hw hP hD1 hS _ _ => ?_)
                            have hD : va_D (OA L0 s.heap.size) w := hD1.weaken (fun _ q _ h9 => hsr q.1 h9)
                            have hSz : s.heap.size ≤ H.size := hS.1
                            refine lv_if_eq (tgt := 575) hx hb dL_law_568 (by decide) (fun hc => ?_) (fun hc => ?_)
                            · have h := iteT hc h
                              refine lv_iconst (v := (0)) hx hb dL_law_575 (by decide) ?_
                              obtain rfl := Option.some.inj h
                              exact hJ576_o520 ls H locs w (lv_sub hl [0, 1, 3] rfl) hw hP hD hS
                            · have h := iteF hc h
                              refine lv_iconst (v := (1)) hx hb dL_law_571 (by decide) ?_
                              refine lv_goto (tgt := 576) hx hb dL_law_572 (by decide) ?_
                              obtain rfl := Option.some.inj h
                              exact hJ576_o520 ls H locs w (lv_sub hl [0, 1, 3] rfl) hw hP hD hS
                      have h := eo451
                      clear eo451
                      refine lv_if_eq (tgt := 415) hx hb dL_law_336 (by decide) (fun hc => ?_) (fun hc => ?_)
                      · have h := iteT hc h
                        refine lv_iload_n hx hb dL_law_415 rfl (lv_at hl 0 rfl) ?_
                        refine lv_if_eq (tgt := 502) hx hb dL_law_416 (by decide) (fun hc => ?_) (fun hc => ?_)
                        · have h := iteT hc h
                          refine lv_iload_n hx hb dL_law_502 rfl (lv_at hl 0 rfl) ?_
                          refine lv_if_eq (tgt := 553) hx hb dL_law_503 (by decide) (fun hc => ?_) (fun hc => ?_)
                          · have h := iteT hc h
                            obtain rfl := Option.some.inj h
                            refine W.widen (k := (cz + 10)) (n := (sq + 140)) (by omega) (by omega) ?_
                            exact hJ553_o451 ls H locs w (lv_sub hl [1, 2, 0, 3] rfl) hw hP hD hS
                          · have h := iteF hc h
                            refine lv_iload hx hb dL_law_506 (lv_at hl 5 rfl) ?_
                            refine lv_bipush (v := (14)) hx hb dL_law_508 (by decide) ?_
                            refine lv_icmp_ne (tgt := 553) hx hb dL_law_510 (by decide) (fun hc => ?_) (fun hc => ?_)
                            · have h := iteF hc h
                              obtain rfl := Option.some.inj h
                              refine W.widen (k := (cz + 10)) (n := (sq + 140)) (by omega) (by omega) ?_
                              exact hJ553_o451 ls H locs w (lv_sub hl [1, 2, 0, 3] rfl) hw hP hD hS
                            · have h := iteT hc h
                              refine lv_iload hx hb dL_law_513 (lv_at hl 12 rfl) ?_
                              refine lv_if_eq (tgt := 553) hx hb dL_law_515 (by decide) (fun hc => ?_) (fun hc => ?_)
                              · have h := iteT hc h
                                obtain rfl := Option.some.inj h
                                refine W.widen (k := (cz + 10)) (n := (sq + 140)) (by omega) (by omega) ?_
                                exact hJ553_o451 ls H locs w (lv_sub hl [1, 2, 0, 3] rfl) hw hP hD hS
                              · have h := iteF hc h
                                refine lv_aload_n hx hb dL_law_518 rfl (lv_at hl 2 rfl) ?_
                                refine lv_bipush (v := (6)) hx hb dL_law_519 (by decide) ?_
                                obtain ⟨r452, er452, h⟩ := obind h
                                have hsr := OA.ofD (L' := w.map Prod.fst) hD rfl hSz
                                refine call_Q (vx_runSW (As := [.ref x0, .int (6 : Int32)]) (rest := []) ⟨hx, hb, hml, hown, hts⟩ (hq_count l hl9 z0 D t x0 r371.2 (6 : Int32) r452 er452 w hw H.size) (kH hts qw800 qw801 qw0 qw802 okL_count ⟨Nat.le_of_ble_eq_true rfl, Nat.le_of_ble_eq_true rfl⟩) ⟨PMH.blind, fun U hU hW => ⟨rfl, ⟨by rw [hU]; exact (hC.at hS hZ).warm hW, hN.moved hW.alike⟩, by rw [hU], by rw [hU]; exact hP, ⟨hD.1, fun _ _ h9 => Or.inl (in_map (L := w.map Prod.fst) rfl h9)⟩, fun q hq => hZ q (hsr q hq)⟩⟩ rfl rfl hl.1 rfl (lv_room (Nat.le_of_ble_eq_true rfl)) dL_law_521 ⟨by show (cz + 5) + 0 ≤ 600130; omega, by show (sq + 70) + 0 ≤ 7301080; omega⟩) hS hsr (fun w H locs hw hP hD1 hS _ _ => ?_)
                                have hD : va_D (OA L0 s.heap.size) w := hD1.weaken (fun _ q _ h9 => hsr q.1 h9)
                                have hSz : s.heap.size ≤ H.size := hS.1
                                obtain ⟨o455, eo455, h⟩ := obind h
                                have hJ552_o455 : ∀ (ls : Array Slot) (H : Heap) (locs : List Loc) (w : va_W), lv_has ls 17 [(0, .ref b), (1, .ref x0), (3, .int y3_70)] → XG t x0 r371.2 w → va_P D vwCl w H → va_D (OA L0 s.heap.size) w → va_S (OA L0 s.heap.size) s.heap H locs → W p l e room_1 s m #[Value.ref b] below meth c H locs (cz + 5) (sq + 70) (lw_Z below #[Value.ref b] s) (F0 m 552 ls [.int o455]) := by
                                  intro ls H locs w hl hw hP hD hS
                                  have hSz : s.heap.size ≤ H.size := hS.1
                                  refine lv_istore_n (lv' := [(2, .int o455), (0, .ref b), (1, .ref x0), (3, .int y3_70)]) hx hb dL_law_552 rfl hl (by decide) rfl (fun ls hl => ?_)
                                  obtain rfl := Option.some.inj h
                                  refine W.widen (k := (cz + 10)) (n := (sq + 140)) (by omega) (by omega) ?_
                                  exact hJ553_o451 ls H locs w (lv_sub hl [1, 2, 0, 3] rfl) hw hP hD hS
                                have h := eo455
                                clear eo455
                                refine lv_if_ne (tgt := 551) hx hb dL_law_524 (by decide) (fun hc => ?_) (fun hc => ?_)
                                · have h := iteF hc h
                                  refine lv_iconst (v := (0)) hx hb dL_law_551 (by decide) ?_
                                  obtain rfl := Option.some.inj h
                                  exact hJ552_o455 ls H locs w (lv_sub hl [1, 2, 3] rfl) hw hP hD hS
                                · have h := iteT hc h
                                  refine lv_iload hx hb dL_law_527 (lv_at hl 11 rfl) ?_
                                  refine lv_iconst (v := (3)) hx hb dL_law_529 (by decide) ?_
                                  refine lv_imul hx hb dL_law_530 ?_
                                  refine lv_iconst (v := (1)) hx hb dL_law_531 (by decide) ?_
                                  refine lv_iadd hx hb dL_law_532 ?_
                                  refine lv_aload_n hx hb dL_law_533 rfl (lv_at hl 2 rfl) ?_
                                  refine lv_iconst (v := (0)) hx hb dL_law_534 (by decide) ?_
                                  obtain ⟨r456, er456, h⟩ := obind h
                                  have hsr := OA.ofD (L' := w.map Prod.fst) hD rfl hSz
                                  refine call_Q (vx_runSW (As := [.ref x0, .int (0 : Int32)]) (rest := [.int ((r371.1 * (3 : Int32)) + (1 : Int32))]) ⟨hx, hb, hml, hown, hts⟩ (hq_count l hl9 z0 D t x0 r371.2 (0 : Int32) r456 er456 w hw H.size) (kH hts qw800 qw801 qw0 qw802 okL_count ⟨Nat.le_of_ble_eq_true rfl, Nat.le_of_ble_eq_true rfl⟩) ⟨PMH.blind, fun U hU hW => ⟨rfl, ⟨by rw [hU]; exact (hC.at hS hZ).warm hW, hN.moved hW.alike⟩, by rw [hU], by rw [hU]; exact hP, ⟨hD.1, fun _ _ h9 => Or.inl (in_map (L := w.map Prod.fst) rfl h9)⟩, fun q hq => hZ q (hsr q hq)⟩⟩ rfl rfl hl.1 rfl (lv_room (Nat.le_of_ble_eq_true rfl)) dL_law_535 ⟨by show (cz + 5) + 0 ≤ 600130; omega, by show (sq + 70) + 0 ≤ 7301080; omega⟩) hS hsr (fun w H locs hw hP hD1 hS _ _ => ?_)
                                  have hD : va_D (OA L0 s.heap.size) w := hD1.weaken (fun _ q _ h9 => hsr q.1 h9)
                                  have hSz : s.heap.size ≤ H.size := hS.1
                                  refine lv_aload_n hx hb dL_law_538 rfl (lv_at hl 2 rfl) ?_
                                  refine lv_iconst (v := (0)) hx hb dL_law_539 (by decide) ?_
                                  obtain ⟨r457, er457, h⟩ := obind h
                                  have hsr := OA.ofD (L' := w.map Prod.fst) hD rfl hSz
                                  refine call_Q (vx_runSW (As := [.ref x0, .int (0 : Int32)]) (rest := [.int r456, .int ((r371.1 * (3 : Int32)) + (1 : Int32))]) ⟨hx, hb, hml, hown, hts⟩ (hq_count l hl9 z0 D t x0 r371.2 (0 : Int32) r457 er457 w hw H.size) (kH hts qw800 qw801 qw0 qw802 okL_count ⟨Nat.le_of_ble_eq_true rfl, Nat.le_of_ble_eq_true rfl⟩) ⟨PMH.blind, fun U hU hW => ⟨rfl, ⟨by rw [hU]; exact (hC.at hS hZ).warm hW, hN.moved hW.alike⟩, by rw [hU], by rw [hU]; exact hP, ⟨hD.1, fun _ _ h9 => Or.inl (in_map (L := w.map Prod.fst) rfl h9)⟩, fun q hq => hZ q (hsr q hq)⟩⟩ rfl rfl hl.1 rfl (lv_room (Nat.le_of_ble_eq_true rfl)) dL_law_540 ⟨by show (cz + 5) + 0 ≤ 600130; omega, by show (sq + 70) + 0 ≤ 7301080; omega⟩) hS hsr (fun w H locs hw hP hD1 hS _ _ => ?_)
                                  have hD : va_D (OA L0 s.heap.size) w := hD1.weaken (fun _ q _ h9 => hsr q.1 h9)
                                  have hSz : s.heap.size ≤ H.size := hS.1
                                  refine lv_imul hx hb dL_law_543 ?_
                                  refine lv_icmp_ne (tgt := 551) hx hb dL_law_544 (by decide) (fun hc => ?_) (fun hc => ?_)
                                  · have h := iteF hc h
                                    refine lv_iconst (v := (0)) hx hb dL_law_551 (by decide) ?_
                                    obtain rfl := Option.some.inj h
                                    exact hJ552_o455 ls H locs w (lv_sub hl [1, 2, 3] rfl) hw hP hD hS
                                  · have h := iteT hc h
                                    refine lv_iconst (v := (1)) hx hb dL_law_547 (by decide) ?_
                                    refine lv_goto (tgt := 552) hx hb dL_law_548 (by decide) ?_
                                    obtain rfl := Option.some.inj h
                                    exact hJ552_o455 ls H locs w (lv_sub hl [1, 2, 3] rfl) hw hP hD hS
                        · have h := iteF hc h
                          refine lv_iload hx hb dL_law_419 (lv_at hl 5 rfl) ?_
                          refine lv_bipush (v := (12)) hx hb dL_law_421 (by decide) ?_
                          refine lv_icmp_eq (tgt := 433) hx hb dL_law_423 (by decide) (fun hc => ?_) (fun hc => ?_)
                          · have h := iteT hc h
                            refine lv_iload hx hb dL_law_433 (lv_at hl 12 rfl) ?_
                            obtain ⟨o461, eo461, h⟩ := obind h
                            have hJ498_o461 : ∀ (ls : Array Slot) (H : Heap) (locs : List Loc) (w : va_W), lv_has ls 17 [(0, .ref b), (1, .ref x0), (3, .int y3_70)] → XG t x0 r371.2 w → va_P D vwCl w H → va_D (OA L0 s.heap.size) w → va_S (OA L0 s.heap.size) s.heap H locs → W p l e room_1 s m #[Value.ref b] below meth c H locs (cz + 5) (sq + 70) (lw_Z below #[Value.ref b] s) (F0 m 498 ls [.int o461]) := by
                              intro ls H locs w hl hw hP hD hS
                              have hSz : s.heap.size ≤ H.size := hS.1
                              refine lv_istore_n (lv' := [(2, .int o461), (0, .ref b), (1, .ref x0), (3, .int y3_70)]) hx hb dL_law_498 rfl hl (by decide) rfl (fun ls hl => ?_)
                              refine lv_goto (tgt := 553) hx hb dL_law_499 (by decide) ?_
                              obtain rfl := Option.some.inj h
                              refine W.widen (k := (cz + 10)) (n := (sq + 140)) (by omega) (by omega) ?_
                              exact hJ553_o451 ls H locs w (lv_sub hl [1, 2, 0, 3] rfl) hw hP hD hS
                            have h := eo461
                            clear eo461
                            refine lv_if_eq (tgt := 477) hx hb dL_law_435 (by decide) (fun hc => ?_) (fun hc => ?_)
                            · have h := iteT hc h
                              refine lv_iload hx hb dL_law_477 (lv_at hl 8 rfl) ?_
                              refine lv_if_ne (tgt := 497) hx hb dL_law_479 (by decide) (fun hc => ?_) (fun hc => ?_)
                              · have h := iteF hc h
                                refine lv_iconst (v := (0)) hx hb dL_law_497 (by decide) ?_
                                obtain rfl := Option.some.inj h
                                exact hJ498_o461 ls H locs w (lv_sub hl [1, 2, 3] rfl) hw hP hD hS
                              · have h := iteT hc h
                                refine lv_aload_n hx hb dL_law_482 rfl (lv_at hl 2 rfl) ?_
                                refine lv_bipush (v := (6)) hx hb dL_law_483 (by decide) ?_
                                obtain ⟨r462, er462, h⟩ := obind h
                                have hsr := OA.ofD (L' := w.map Prod.fst) hD rfl hSz
                                refine call_Q (vx_runSW (As := [.ref x0, .int (6 : Int32)]) (rest := []) ⟨hx, hb, hml, hown, hts⟩ (hq_count l hl9 z0 D t x0 r371.2 (6 : Int32) r462 er462 w hw H.size) (kH hts qw800 qw801 qw0 qw802 okL_count ⟨Nat.le_of_ble_eq_true rfl, Nat.le_of_ble_eq_true rfl⟩) ⟨PMH.blind, fun U hU hW => ⟨rfl, ⟨by rw [hU]; exact (hC.at hS hZ).warm hW, hN.moved hW.alike⟩, by rw [hU], by rw [hU]; exact hP, ⟨hD.1, fun _ _ h9 => Or.inl (in_map (L := w.map Prod.fst) rfl h9)⟩, fun q hq => hZ q (hsr q hq)⟩⟩ rfl rfl hl.1 rfl (lv_room (Nat.le_of_ble_eq_true rfl)) dL_law_485 ⟨by show (cz + 5) + 0 ≤ 600130; omega, by show (sq + 70) + 0 ≤ 7301080; omega⟩) hS hsr (fun w H locs hw hP hD1 hS _ _ => ?_)
                                have hD : va_D (OA L0 s.heap.size) w := hD1.weaken (fun _ q _ h9 => hsr q.1 h9)
                                have hSz : s.heap.size ≤ H.size := hS.1
                                refine lv_iload hx hb dL_law_488 (lv_at hl 7 rfl) ?_
                                refine lv_icmp_ne (tgt := 497) hx hb dL_law_490 (by decide) (fun hc => ?_) (fun hc => ?_)
                                · have h := iteF hc h
                                  refine lv_iconst (v := (0)) hx hb dL_law_497 (by decide) ?_
                                  obtain rfl := Option.some.inj h
                                  exact hJ498_o461 ls H locs w (lv_sub hl [1, 2, 3] rfl) hw hP hD hS
                                · have h := iteT hc h
                                  refine lv_iconst (v := (1)) hx hb dL_law_493 (by decide) ?_
                                  refine lv_goto (tgt := 498) hx hb dL_law_494 (by decide) ?_
                                  obtain rfl := Option.some.inj h
                                  exact hJ498_o461 ls H locs w (lv_sub hl [1, 2, 3] rfl) hw hP hD hS
                            · have h := iteF hc h
                              refine lv_iload hx hb dL_law_438 (lv_at hl 8 rfl) ?_
                              refine lv_if_le (tgt := 473) hx hb dL_law_440 (by decide) (fun hc => ?_) (fun hc => ?_)
                              · have h := iteT hc h
                                refine lv_iconst (v := (0)) hx hb dL_law_473 (by decide) ?_
                                refine lv_goto (tgt := 498) hx hb dL_law_474 (by decide) ?_
                                obtain rfl := Option.some.inj h
                                exact hJ498_o461 ls H locs w (lv_sub hl [1, 2, 3] rfl) hw hP hD hS
                              · have h := iteF hc h
                                refine lv_iload hx hb dL_law_443 (lv_at hl 11 rfl) ?_
                                refine lv_iconst (v := (3)) hx hb dL_law_445 (by decide) ?_
                                refine lv_imul hx hb dL_law_446 ?_
                                refine lv_iload hx hb dL_law_447 (lv_at hl 7 rfl) ?_
                                refine lv_icmp_ne (tgt := 473) hx hb dL_law_449 (by decide) (fun hc => ?_) (fun hc => ?_)
                                · have h := iteF hc h
                                  refine lv_iconst (v := (0)) hx hb dL_law_473 (by decide) ?_
                                  refine lv_goto (tgt := 498) hx hb dL_law_474 (by decide) ?_
                                  obtain rfl := Option.some.inj h
                                  exact hJ498_o461 ls H locs w (lv_sub hl [1, 2, 3] rfl) hw hP hD hS
                                · have h := iteT hc h
                                  refine lv_aload_n hx hb dL_law_452 rfl (lv_at hl 2 rfl) ?_
                                  refine lv_bipush (v := (6)) hx hb dL_law_453 (by decide) ?_
                                  obtain ⟨r463, er463, h⟩ := obind h
                                  have hsr := OA.ofD (L' := w.map Prod.fst) hD rfl hSz
                                  refine call_Q (vx_runSW (As := [.ref x0, .int (6 : Int32)]) (rest := []) ⟨hx, hb, hml, hown, hts⟩ (hq_count l hl9 z0 D t x0 r371.2 (6 : Int32) r463 er463 w hw H.size) (kH hts qw800 qw801 qw0 qw802 okL_count ⟨Nat.le_of_ble_eq_true rfl, Nat.le_of_ble_eq_true rfl⟩) ⟨PMH.blind, fun U hU hW => ⟨rfl, ⟨by rw [hU]; exact (hC.at hS hZ).warm hW, hN.moved hW.alike⟩, by rw [hU], by rw [hU]; exact hP, ⟨hD.1, fun _ _ h9 => Or.inl (in_map (L := w.map Prod.fst) rfl h9)⟩, fun q hq => hZ q (hsr q hq)⟩⟩ rfl rfl hl.1 rfl (lv_room (Nat.le_of_ble_eq_true rfl)) dL_law_455 ⟨by show (cz + 5) + 0 ≤ 600130; omega, by show (sq + 70) + 0 ≤ 7301080; omega⟩) hS hsr (fun w H locs hw hP hD1 hS _ _ => ?_)
                                  have hD : va_D (OA L0 s.heap.size) w := hD1.weaken (fun _ q _ h9 => hsr q.1 h9)
                                  have hSz : s.heap.size ≤ H.size := hS.1
                                  refine lv_if_ne (tgt := 473) hx hb dL_law_458 (by decide) (fun hc => ?_) (fun hc => ?_)
                                  · have h := iteF hc h
                                    refine lv_iconst (v := (0)) hx hb dL_law_473 (by decide) ?_
                                    refine lv_goto (tgt := 498) hx hb dL_law_474 (by decide) ?_
                                    obtain rfl := Option.some.inj h
                                    exact hJ498_o461 ls H locs w (lv_sub hl [1, 2, 3] rfl) hw hP hD hS
                                  · have h := iteT hc h
                                    refine lv_aload_n hx hb dL_law_461 rfl (lv_at hl 2 rfl) ?_
                                    obtain ⟨r464, er464, h⟩ := obind h
                                    have hsr := OA.ofD (L' := w.map Prod.fst) hD rfl hSz
                                    obtain ⟨fs9, h09⟩ := XG_h0 hw
                                    refine call_Q (va_runV (As := []) (rest := []) ⟨hx, hb, hml, hown, hts⟩ (hd_ways l hl9 z0 D t x0 r371.2 r464 er464 w hw H.size) (kV hts qw232 qw233 qw234 qw1 qw235 ok_X4_ways ⟨Nat.le_of_ble_eq_true rfl, Nat.le_of_ble_eq_true rfl⟩) ⟨PM.blind, va_recv hK hP (ci := 5) (q0 := 0) rfl h09, fun U hU hW => ⟨rfl, by rw [hU]; exact (hC.at hS hZ).warm hW, by rw [hU], by rw [hU]; exact hP, ⟨hD.1, fun _ _ h9 => Or.inl (in_map (L := w.map Prod.fst) rfl h9)⟩, fun q hq => hZ q (hsr q hq)⟩⟩ rfl rfl hl.1 rfl (lv_room (Nat.le_of_ble_eq_true rfl)) dL_law_462 ⟨by show (cz + 5) + 0 ≤ 600130; omega, by show (sq + 70) + 0 ≤ 7301080; omega⟩) hS hsr (fun w H locs hw hP hD1 hS _ _ => ?_)
                                    have hD : va_D (OA L0 s.heap.size) w := hD1.weaken (fun _ q _ h9 => hsr q.1 h9)
                                    have hSz : s.heap.size ≤ H.size := hS.1
                                    refine lv_iconst (v := (1)) hx hb dL_law_465 (by decide) ?_
                                    refine lv_icmp_ne (tgt := 473) hx hb dL_law_466 (by decide) (fun hc => ?_) (fun hc => ?_)
                                    · have h := iteF hc h
                                      refine lv_iconst (v := (0)) hx hb dL_law_473 (by decide) ?_
                                      refine lv_goto (tgt := 498) hx hb dL_law_474 (by decide) ?_
                                      obtain rfl := Option.some.inj h
                                      exact hJ498_o461 ls H locs w (lv_sub hl [1, 2, 3] rfl) hw hP hD hS
                                    · have h := iteT hc h
                                      refine lv_iconst (v := (1)) hx hb dL_law_469 (by decide) ?_
                                      refine lv_goto (tgt := 498) hx hb dL_law_470 (by decide) ?_
                                      obtain rfl := Option.some.inj h
                                      exact hJ498_o461 ls H locs w (lv_sub hl [1, 2, 3] rfl) hw hP hD hS
                          · have h := iteF hc h
                            refine lv_iload hx hb dL_law_426 (lv_at hl 5 rfl) ?_
                            refine lv_bipush (v := (13)) hx hb dL_law_428 (by decide) ?_
                            refine lv_icmp_ne (tgt := 502) hx hb dL_law_430 (by decide) (fun hc => ?_) (fun hc => ?_)
                            · have h := iteF hc h
                              refine lv_iload_n hx hb dL_law_502 rfl (lv_at hl 0 rfl) ?_
                              refine lv_if_eq (tgt := 553) hx hb dL_law_503 (by decide) (fun hc => ?_) (fun hc => ?_)
                              · have h := iteT hc h
                                obtain rfl := Option.some.inj h
                                refine W.widen (k := (cz + 10)) (n := (sq + 140)) (by omega) (by omega) ?_
                                exact hJ553_o451 ls H locs w (lv_sub hl [1, 2, 0, 3] rfl) hw hP hD hS
                              · have h := iteF hc h
                                refine lv_iload hx hb dL_law_506 (lv_at hl 5 rfl) ?_
                                refine lv_bipush (v := (14)) hx hb dL_law_508 (by decide) ?_
                                refine lv_icmp_ne (tgt := 553) hx hb dL_law_510 (by decide) (fun hc => ?_) (fun hc => ?_)
                                · have h := iteF hc h
                                  obtain rfl := Option.some.inj h
                                  refine W.widen (k := (cz + 10)) (n := (sq + 140)) (by omega) (by omega) ?_
                                  exact hJ553_o451 ls H locs w (lv_sub hl [1, 2, 0, 3] rfl) hw hP hD hS
                                · have h := iteT hc h
                                  refine lv_iload hx hb dL_law_513 (lv_at hl 12 rfl) ?_
                                  refine lv_if_eq (tgt := 553) hx hb dL_law_515 (by decide) (fun hc => ?_) (fun hc => ?_)
                                  · have h := iteT hc h
                                    obtain rfl := Option.some.inj h
                                    refine W.widen (k := (cz + 10)) (n := (sq + 140)) (by omega) (by omega) ?_
                                    exact hJ553_o451 ls H locs w (lv_sub hl [1, 2, 0, 3] rfl) hw hP hD hS
                                  · have h := iteF hc h
                                    refine lv_aload_n hx hb dL_law_518 rfl (lv_at hl 2 rfl) ?_
                                    refine lv_bipush (v := (6)) hx hb dL_law_519 (by decide) ?_
                                    obtain ⟨r465, er465, h⟩ := obind h
                                    have hsr := OA.ofD (L' := w.map Prod.fst) hD rfl hSz
                                    refine call_Q (vx_runSW (As := [.ref x0, .int (6 : Int32)]) (rest := []) ⟨hx, hb, hml, hown, hts⟩ (hq_count l hl9 z0 D t x0 r371.2 (6 : Int32) r465 er465 w hw H.size) (kH hts qw800 qw801 qw0 qw802 okL_count ⟨Nat.le_of_ble_eq_true rfl, Nat.le_of_ble_eq_true rfl⟩) ⟨PMH.blind, fun U hU hW => ⟨rfl, ⟨by rw [hU]; exact (hC.at hS hZ).warm hW, hN.moved hW.alike⟩, by rw [hU], by rw [hU]; exact hP, ⟨hD.1, fun _ _ h9 => Or.inl (in_map (L := w.map Prod.fst) rfl h9)⟩, fun q hq => hZ q (hsr q hq)⟩⟩ rfl rfl hl.1 rfl (lv_room (Nat.le_of_ble_eq_true rfl)) dL_law_521 ⟨by show (cz + 5) + 0 ≤ 600130; omega, by show (sq + 70) + 0 ≤ 7301080; omega⟩) hS hsr (fun w H locs hw hP hD1 hS _ _ => ?_)
                                    have hD : va_D (OA L0 s.heap.size) w := hD1.weaken (fun _ q _ h9 => hsr q.1 h9)
                                    have hSz : s.heap.size ≤ H.size := hS.1
                                    obtain ⟨o468, eo468, h⟩ := obind h
                                    have hJ552_o468 : ∀ (ls : Array Slot) (H : Heap) (locs : List Loc) (w : va_W), lv_has ls 17 [(0, .ref b), (1, .ref x0), (3, .int y3_70)] → XG t x0 r371.2 w → va_P D vwCl w H → va_D (OA L0 s.heap.size) w → va_S (OA L0 s.heap.size) s.heap H locs → W p l e room_1 s m #[Value.ref b] below meth c H locs (cz + 5) (sq + 70) (lw_Z below #[Value.ref b] s) (F0 m 552 ls [.int o468]) := by
                                      intro ls H locs w hl hw hP hD hS
                                      have hSz : s.heap.size ≤ H.size := hS.1
                                      refine lv_istore_n (lv' := [(2, .int o468), (0, .ref b), (1, .ref x0), (3, .int y3_70)]) hx hb dL_law_552 rfl hl (by decide) rfl (fun ls hl => ?_)
                                      obtain rfl := Option.some.inj h
                                      refine W.widen (k := (cz + 10)) (n := (sq + 140)) (by omega) (by omega) ?_
                                      exact hJ553_o451 ls H locs w (lv_sub hl [1, 2, 0, 3] rfl) hw hP hD hS
                                    have h := eo468
                                    clear eo468
                                    refine lv_if_ne (tgt := 551) hx hb dL_law_524 (by decide) (fun hc => ?_) (fun hc => ?_)
                                    · have h := iteF hc h
                                      refine lv_iconst (v := (0)) hx hb dL_law_551 (by decide) ?_
                                      obtain rfl := Option.some.inj h
                                      exact hJ552_o468 ls H locs w (lv_sub hl [1, 2, 3] rfl) hw hP hD hS
                                    · have h := iteT hc h
                                      refine lv_iload hx hb dL_law_527 (lv_at hl 11 rfl) ?_
                                      refine lv_iconst (v := (3)) hx hb dL_law_529 (by decide) ?_
                                      refine lv_imul hx hb dL_law_530 ?_
                                      refine lv_iconst (v := (1)) hx hb dL_law_531 (by decide) ?_
                                      refine lv_iadd hx hb dL_law_532 ?_
                                      refine lv_aload_n hx hb dL_law_533 rfl (lv_at hl 2 rfl) ?_
                                      refine lv_iconst (v := (0)) hx hb dL_law_534 (by decide) ?_
                                      obtain ⟨r469, er469, h⟩ := obind h
                                      have hsr := OA.ofD (L' := w.map Prod.fst) hD rfl hSz
                                      refine call_Q (vx_runSW (As := [.ref x0, .int (0 : Int32)]) (rest := [.int ((r371.1 * (3 : Int32)) + (1 : Int32))]) ⟨hx, hb, hml, hown, hts⟩ (hq_count l hl9 z0 D t x0 r371.2 (0 : Int32) r469 er469 w hw H.size) (kH hts qw800 qw801 qw0 qw802 okL_count ⟨Nat.le_of_ble_eq_true rfl, Nat.le_of_ble_eq_true rfl⟩) ⟨PMH.blind, fun U hU hW => ⟨rfl, ⟨by rw [hU]; exact (hC.at hS hZ).warm hW, hN.moved hW.alike⟩, by rw [hU], by rw [hU]; exact hP, ⟨hD.1, fun _ _ h9 => Or.inl (in_map (L := w.map Prod.fst) rfl h9)⟩, fun q hq => hZ q (hsr q hq)⟩⟩ rfl rfl hl.1 rfl (lv_room (Nat.le_of_ble_eq_true rfl)) dL_law_535 ⟨by show (cz + 5) + 0 ≤ 600130; omega, by show (sq + 70) + 0 ≤ 7301080; omega⟩) hS hsr (fun w H locs hw hP hD1 hS _ _ => ?_)
                                      have hD : va_D (OA L0 s.heap.size) w := hD1.weaken (fun _ q _ h9 => hsr q.1 h9)
                                      have hSz : s.heap.size ≤ H.size := hS.1
                                      refine lv_aload_n hx hb dL_law_538 rfl (lv_at hl 2 rfl) ?_
                                      refine lv_iconst (v := (0)) hx hb dL_law_539 (by decide) ?_
                                      obtain ⟨r470, er470, h⟩ := obind h
                                      have hsr := OA.ofD (L' := w.map Prod.fst) hD rfl hSz
                                      refine call_Q (vx_runSW (As := [.ref x0, .int (0 : Int32)]) (rest := [.int r469, .int ((r371.1 * (3 : Int32)) + (1 : Int32))]) ⟨hx, hb, hml, hown, hts⟩ (hq_count l hl9 z0 D t x0 r371.2 (0 : Int32) r470 er470 w hw H.size) (kH hts qw800 qw801 qw0 qw802 okL_count ⟨Nat.le_of_ble_eq_true rfl, Nat.le_of_ble_eq_true rfl⟩) ⟨PMH.blind, fun U hU hW => ⟨rfl, ⟨by rw [hU]; exact (hC.at hS hZ).warm hW, hN.moved hW.alike⟩, by rw [hU], by rw [hU]; exact hP, ⟨hD.1, fun _ _ h9 => Or.inl (in_map (L := w.map Prod.fst) rfl h9)⟩, fun q hq => hZ q (hsr q hq)⟩⟩ rfl rfl hl.1 rfl (lv_room (Nat.le_of_ble_eq_true rfl)) dL_law_540 ⟨by show (cz + 5) + 0 ≤ 600130; omega, by show (sq + 70) + 0 ≤ 7301080; omega⟩) hS hsr (fun w H locs hw hP hD1 hS _ _ => ?_)
                                      have hD : va_D (OA L0 s.heap.size) w := hD1.weaken (fun _ q _ h9 => hsr q.1 h9)
                                      have hSz : s.heap.size ≤ H.size := hS.1
                                      refine lv_imul hx hb dL_law_543 ?_
                                      refine lv_icmp_ne (tgt := 551) hx hb dL_law_544 (by decide) (fun hc => ?_) (fun hc => ?_)
                                      · have h := iteF hc h
                                        refine lv_iconst (v := (0)) hx hb dL_law_551 (by decide) ?_
                                        obtain rfl := Option.some.inj h
                                        exact hJ552_o468 ls H locs w (lv_sub hl [1, 2, 3] rfl) hw hP hD hS
                                      · have h := iteT hc h
                                        refine lv_iconst (v := (1)) hx hb dL_law_547 (by decide) ?_
                                        refine lv_goto (tgt := 552) hx hb dL_law_548 (by decide) ?_
                                        obtain rfl := Option.some.inj h
                                        exact hJ552_o468 ls H locs w (lv_sub hl [1, 2, 3] rfl) hw hP hD hS
                            · have h := iteT hc h
                              refine lv_iload hx hb dL_law_433 (lv_at hl 12 rfl) ?_
                              obtain ⟨o474, eo474, h⟩ := obind h
                              have hJ498_o474 : ∀ (ls : Array Slot) (H : Heap) (locs : List Loc) (w : va_W), lv_has ls 17 [(0, .ref b), (1, .ref x0), (3, .int y3_70)] → XG t x0 r371.2 w → va_P D vwCl w H → va_D (OA L0 s.heap.size) w → va_S (OA L0 s.heap.size) s.heap H locs → W p l e room_1 s m #[Value.ref b] below meth c H locs (cz + 5) (sq + 70) (lw_Z below #[Value.ref b] s) (F0 m 498 ls [.int o474]) := by
                                intro ls H locs w hl hw hP hD hS
                                have hSz : s.heap.size ≤ H.size := hS.1
                                refine lv_istore_n (lv' := [(2, .int o474), (0, .ref b), (1, .ref x0), (3, .int y3_70)]) hx hb dL_law_498 rfl hl (by decide) rfl (fun ls hl => ?_)
                                refine lv_goto (tgt := 553) hx hb dL_law_499 (by decide) ?_
                                obtain rfl := Option.some.inj h
                                refine W.widen (k := (cz + 10)) (n := (sq + 140)) (by omega) (by omega) ?_
                                exact hJ553_o451 ls H locs w (lv_sub hl [1, 2, 0, 3] rfl) hw hP hD hS
                              have h := eo474
                              clear eo474
                              refine lv_if_eq (tgt := 477) hx hb dL_law_435 (by decide) (fun hc => ?_) (fun hc => ?_)
                              · have h := iteT hc h
                                refine lv_iload hx hb dL_law_477 (lv_at hl 8 rfl) ?_
                                refine lv_if_ne (tgt := 497) hx hb dL_law_479 (by decide) (fun hc => ?_) (fun hc => ?_)
                                · have h := iteF hc h
                                  refine lv_iconst (v := (0)) hx hb dL_law_497 (by decide) ?_
                                  obtain rfl := Option.some.inj h
                                  exact hJ498_o474 ls H locs w (lv_sub hl [1, 2, 3] rfl) hw hP hD hS
                                · have h := iteT hc h
                                  refine lv_aload_n hx hb dL_law_482 rfl (lv_at hl 2 rfl) ?_
                                  refine lv_bipush (v := (6)) hx hb dL_law_483 (by decide) ?_
                                  obtain ⟨r475, er475, h⟩ := obind h
                                  have hsr := OA.ofD (L' := w.map Prod.fst) hD rfl hSz
                                  refine call_Q (vx_runSW (As := [.ref x0, .int (6 : Int32)]) (rest := []) ⟨hx, hb, hml, hown, hts⟩ (hq_count l hl9 z0 D t x0 r371.2 (6 : Int32) r475 er475 w hw H.size) (kH hts qw800 qw801 qw0 qw802 okL_count ⟨Nat.le_of_ble_eq_true rfl, Nat.le_of_ble_eq_true rfl⟩) ⟨PMH.blind, fun U hU hW => ⟨rfl, ⟨by rw [hU]; exact (hC.at hS hZ).warm hW, hN.moved hW.alike⟩, by rw [hU], by rw [hU]; exact hP, ⟨hD.1, fun _ _ h9 => Or.inl (in_map (L := w.map Prod.fst) rfl h9)⟩, fun q hq => hZ q (hsr q hq)⟩⟩ rfl rfl hl.1 rfl (lv_room (Nat.le_of_ble_eq_true rfl)) dL_law_485 ⟨by show (cz + 5) + 0 ≤ 600130; omega, by show (sq + 70) + 0 ≤ 7301080; omega⟩) hS hsr (fun w H locs hw hP hD1 hS _ _ => ?_)
                                  have hD : va_D (OA L0 s.heap.size) w := hD1.weaken (fun _ q _ h9 => hsr q.1 h9)
                                  have hSz : s.heap.size ≤ H.size := hS.1
                                  refine lv_iload hx hb dL_law_488 (lv_at hl 7 rfl) ?_
                                  refine lv_icmp_ne (tgt := 497) hx hb dL_law_490 (by decide) (fun hc => ?_) (fun hc => ?_)
                                  · have h := iteF hc h
                                    refine lv_iconst (v := (0)) hx hb dL_law_497 (by decide) ?_
                                    obtain rfl := Option.some.inj h
                                    exact hJ498_o474 ls H locs w (lv_sub hl [1, 2, 3] rfl) hw hP hD hS
                                  · have h := iteT hc h
                                    refine lv_iconst (v := (1)) hx hb dL_law_493 (by decide) ?_
                                    refine lv_goto (tgt := 498) hx hb dL_law_494 (by decide) ?_
                                    obtain rfl := Option.some.inj h
                                    exact hJ498_o474 ls H locs w (lv_sub hl [1, 2, 3] rfl) hw hP hD hS
                              · have h := iteF hc h
                                refine lv_iload hx hb dL_law_438 (lv_at hl 8 rfl) ?_
                                refine lv_if_le (tgt := 473) hx hb dL_law_440 (by decide) (fun hc => ?_) (fun hc => ?_)
                                · have h := iteT hc h
                                  refine lv_iconst (v := (0)) hx hb dL_law_473 (by decide) ?_
                                  refine lv_goto (tgt := 498) hx hb dL_law_474 (by decide) ?_
                                  obtain rfl := Option.some.inj h
                                  exact hJ498_o474 ls H locs w (lv_sub hl [1, 2, 3] rfl) hw hP hD hS
                                · have h := iteF hc h
                                  refine lv_iload hx hb dL_law_443 (lv_at hl 11 rfl) ?_
                                  refine lv_iconst (v := (3)) hx hb dL_law_445 (by decide) ?_
                                  refine lv_imul hx hb dL_law_446 ?_
                                  refine lv_iload hx hb dL_law_447 (lv_at hl 7 rfl) ?_
                                  refine lv_icmp_ne (tgt := 473) hx hb dL_law_449 (by decide) (fun hc => ?_) (fun hc => ?_)
                                  · have h := iteF hc h
                                    refine lv_iconst (v := (0)) hx hb dL_law_473 (by decide) ?_
                                    refine lv_goto (tgt := 498) hx hb dL_law_474 (by decide) ?_
                                    obtain rfl := Option.some.inj h
                                    exact hJ498_o474 ls H locs w (lv_sub hl [1, 2, 3] rfl) hw hP hD hS
                                  · have h := iteT hc h
                                    refine lv_aload_n hx hb dL_law_452 rfl (lv_at hl 2 rfl) ?_
                                    refine lv_bipush (v := (6)) hx hb dL_law_453 (by decide) ?_
                                    obtain ⟨r476, er476, h⟩ := obind h
                                    have hsr := OA.ofD (L' := w.map Prod.fst) hD rfl hSz
                                    refine call_Q (vx_runSW (As := [.ref x0, .int (6 : Int32)]) (rest := []) ⟨hx, hb, hml, hown, hts⟩ (hq_count l hl9 z0 D t x0 r371.2 (6 : Int32) r476 er476 w hw H.size) (kH hts qw800 qw801 qw0 qw802 okL_count ⟨Nat.le_of_ble_eq_true rfl, Nat.le_of_ble_eq_true rfl⟩) ⟨PMH.blind, fun U hU hW => ⟨rfl, ⟨by rw [hU]; exact (hC.at hS hZ).warm hW, hN.moved hW.alike⟩, by rw [hU], by rw [hU]; exact hP, ⟨hD.1, fun _ _ h9 => Or.inl (in_map (L := w.map Prod.fst) rfl h9)⟩, fun q hq => hZ q (hsr q hq)⟩⟩ rfl rfl hl.1 rfl (lv_room (Nat.le_of_ble_eq_true rfl)) dL_law_455 ⟨by show (cz + 5) + 0 ≤ 600130; omega, by show (sq + 70) + 0 ≤ 7301080; omega⟩) hS hsr (fun w H locs hw hP hD1 hS _ _ => ?_)
                                    have hD : va_D (OA L0 s.heap.size) w := hD1.weaken (fun _ q _ h9 => hsr q.1 h9)
                                    have hSz : s.heap.size ≤ H.size := hS.1
                                    refine lv_if_ne (tgt := 473) hx hb dL_law_458 (by decide) (fun hc => ?_) (fun hc => ?_)
                                    · have h := iteF hc h
                                      refine lv_iconst (v := (0)) hx hb dL_law_473 (by decide) ?_
                                      refine lv_goto (tgt := 498) hx hb dL_law_474 (by decide) ?_
                                      obtain rfl := Option.some.inj h
                                      exact hJ498_o474 ls H locs w (lv_sub hl [1, 2, 3] rfl) hw hP hD hS
                                    · have h := iteT hc h
                                      refine lv_aload_n hx hb dL_law_461 rfl (lv_at hl 2 rfl) ?_
                                      obtain ⟨r477, er477, h⟩ := obind h
                                      have hsr := OA.ofD (L' := w.map Prod.fst) hD rfl hSz
                                      obtain ⟨fs9, h09⟩ := XG_h0 hw
                                      refine call_Q (va_runV (As := []) (rest := []) ⟨hx, hb, hml, hown, hts⟩ (hd_ways l hl9 z0 D t x0 r371.2 r477 er477 w hw H.size) (kV hts qw232 qw233 qw234 qw1 qw235 ok_X4_ways ⟨Nat.le_of_ble_eq_true rfl, Nat.le_of_ble_eq_true rfl⟩) ⟨PM.blind, va_recv hK hP (ci := 5) (q0 := 0) rfl h09, fun U hU hW => ⟨rfl, by rw [hU]; exact (hC.at hS hZ).warm hW, by rw [hU], by rw [hU]; exact hP, ⟨hD.1, fun _ _ h9 => Or.inl (in_map (L := w.map Prod.fst) rfl h9)⟩, fun q hq => hZ q (hsr q hq)⟩⟩ rfl rfl hl.1 rfl (lv_room (Nat.le_of_ble_eq_true rfl)) dL_law_462 ⟨by show (cz + 5) + 0 ≤ 600130; omega, by show (sq + 70) + 0 ≤ 7301080; omega⟩) hS hsr (fun w H locs hw hP hD1 hS _ _ => ?_)
                                      have hD : va_D (OA L0 s.heap.size) w := hD1.weaken (fun _ q _ h9 => hsr q.1 h9)
                                      have hSz : s.heap.size ≤ H.size := hS.1
                                      refine lv_iconst (v := (1)) hx hb dL_law_465 (by decide) ?_
                                      refine lv_icmp_ne (tgt := 473) hx hb dL_law_466 (by decide) (fun hc => ?_) (fun hc => ?_)
                                      · have h := iteF hc h
                                        refine lv_iconst (v := (0)) hx hb dL_law_473 (by decide) ?_
                                        refine lv_goto (tgt := 498) hx hb dL_law_474 (by decide) ?_
                                        obtain rfl := Option.some.inj h
                                        exact hJ498_o474 ls H locs w (lv_sub hl [1, 2, 3] rfl) hw hP hD hS
                                      · have h := iteT hc h
                                        refine lv_iconst (v := (1)) hx hb dL_law_469 (by decide) ?_
                                        refine lv_goto (tgt := 498) hx hb dL_law_470 (by decide) ?_
                                        obtain rfl := Option.some.inj h
                                        exact hJ498_o474 ls H locs w (lv_sub hl [1, 2, 3] rfl) hw hP hD hS
                      · have h := iteF hc h
                        refine lv_iload hx hb dL_law_339 (lv_at hl 5 rfl) ?_
                        refine lv_bipush (v := (10)) hx hb dL_law_341 (by decide) ?_
                        refine lv_icmp_eq (tgt := 353) hx hb dL_law_343 (by decide) (fun hc => ?_) (fun hc => ?_)
                        · have h := iteT hc h
                          refine lv_iload hx hb dL_law_353 (lv_at hl 12 rfl) ?_
                          obtain ⟨o481, eo481, h⟩ := obind h
                          have hJ411_o481 : ∀ (ls : Array Slot) (H : Heap) (locs : List Loc) (w : va_W), lv_has ls 17 [(0, .ref b), (1, .ref x0), (3, .int y3_70)] → XG t x0 o481.2 w → va_P D vwCl w H → va_D (OA L0 s.heap.size) w → va_S (OA L0 s.heap.size) s.heap H locs → W p l e room_1 s m #[Value.ref b] below meth c H locs (cz + 10) (sq + 140) (lw_Z below #[Value.ref b] s) (F0 m 411 ls [.int o481.1]) := by
                            intro ls H locs w hl hw hP hD hS
                            have hSz : s.heap.size ≤ H.size := hS.1
                            refine lv_istore_n (lv' := [(2, .int o481.1), (0, .ref b), (1, .ref x0), (3, .int y3_70)]) hx hb dL_law_411 rfl hl (by decide) rfl (fun ls hl => ?_)
                            refine lv_goto (tgt := 553) hx hb dL_law_412 (by decide) ?_
                            obtain rfl := Option.some.inj h
                            exact hJ553_o451 ls H locs w (lv_sub hl [1, 2, 0, 3] rfl) hw hP hD hS
                          have h := eo481
                          clear eo481
                          refine lv_if_eq (tgt := 406) hx hb dL_law_355 (by decide) (fun hc => ?_) (fun hc => ?_)
                          · have h := iteT hc h
                            refine lv_iconst (v := (1)) hx hb dL_law_406 (by decide) ?_
                            refine lv_goto (tgt := 411) hx hb dL_law_407 (by decide) ?_
                            obtain rfl := Option.some.inj h
                            refine W.widen (k := (cz + 10)) (n := (sq + 140)) (by omega) (by omega) ?_
                            exact hJ411_o481 ls H locs w (lv_sub hl [1, 2, 3] rfl) hw hP hD hS
                          · have h := iteF hc h
                            refine lv_iload hx hb dL_law_358 (lv_at hl 11 rfl) ?_
                            refine lv_iload hx hb dL_law_360 (lv_at hl 6 rfl) ?_
                            refine lv_iconst (v := (1)) hx hb dL_law_362 (by decide) ?_
                            refine lv_iadd hx hb dL_law_363 ?_
                            refine lv_icmp_ne (tgt := 410) hx hb dL_law_364 (by decide) (fun hc => ?_) (fun hc => ?_)
                            · have h := iteF hc h
                              refine lv_iconst (v := (0)) hx hb dL_law_410 (by decide) ?_
                              obtain rfl := Option.some.inj h
                              refine W.widen (k := (cz + 10)) (n := (sq + 140)) (by omega) (by omega) ?_
                              exact hJ411_o481 ls H locs w (lv_sub hl [1, 2, 3] rfl) hw hP hD hS
                            · have h := iteT hc h
                              refine lv_aload_n hx hb dL_law_367 rfl (lv_at hl 2 rfl) ?_
                              obtain ⟨r482, er482, h⟩ := obind h
                              have hsr := OA.ofD (L' := w.map Prod.fst) hD rfl hSz
                              obtain ⟨fs9, h09⟩ := XG_h0 hw
                              refine call_Q (va_runV (As := []) (rest := []) ⟨hx, hb, hml, hown, hts⟩ (hd_ways l hl9 z0 D t x0 r371.2 r482 er482 w hw H.size) (kV hts qw232 qw233 qw234 qw1 qw235 ok_X4_ways ⟨Nat.le_of_ble_eq_true rfl, Nat.le_of_ble_eq_true rfl⟩) ⟨PM.blind, va_recv hK hP (ci := 5) (q0 := 0) rfl h09, fun U hU hW => ⟨rfl, by rw [hU]; exact (hC.at hS hZ).warm hW, by rw [hU], by rw [hU]; exact hP, ⟨hD.1, fun _ _ h9 => Or.inl (in_map (L := w.map Prod.fst) rfl h9)⟩, fun q hq => hZ q (hsr q hq)⟩⟩ rfl rfl hl.1 rfl (lv_room (Nat.le_of_ble_eq_true rfl)) dL_law_368 ⟨by show (cz + 5) + 0 ≤ 600130; omega, by show (sq + 70) + 0 ≤ 7301080; omega⟩) hS hsr (fun w H locs hw hP hD1 hS _ _ => ?_)
                              have hD : va_D (OA L0 s.heap.size) w := hD1.weaken (fun _ q _ h9 => hsr q.1 h9)
                              have hSz : s.heap.size ≤ H.size := hS.1
                              refine lv_iload hx hb dL_law_371 (lv_at hl 8 rfl) ?_
                              refine lv_icmp_ne (tgt := 410) hx hb dL_law_373 (by decide) (fun hc => ?_) (fun hc => ?_)
                              · have h := iteF hc h
                                refine lv_iconst (v := (0)) hx hb dL_law_410 (by decide) ?_
                                obtain rfl := Option.some.inj h
                                refine W.widen (k := (cz + 10)) (n := (sq + 140)) (by omega) (by omega) ?_
                                exact hJ411_o481 ls H locs w (lv_sub hl [1, 2, 3] rfl) hw hP hD hS
                              · have h := iteT hc h
                                refine lv_aload_n hx hb dL_law_376 rfl (lv_at hl 2 rfl) ?_
                                refine lv_iload hx hb dL_law_377 (lv_at hl 9 rfl) ?_
                                refine lv_iload hx hb dL_law_379 (lv_at hl 10 rfl) ?_
                                refine lv_iload hx hb dL_law_381 (lv_at hl 4 rfl) ?_
                                refine lv_bipush (v := (64)) hx hb dL_law_383 (by decide) ?_
                                refine lv_idiv hx hb dL_law_385 (by decide) ?_
                                refine lv_iconst (v := (2)) hx hb dL_law_386 (by decide) ?_
                                refine lv_irem hx hb dL_law_387 (by decide) ?_
                                obtain ⟨o483, eo483, h⟩ := obind h
                                have hJ396_o483 : ∀ (ls : Array Slot) (H : Heap) (locs : List Loc) (w : va_W), lv_has ls 17 [(0, .ref b), (1, .ref x0), (3, .int y3_70), (15, .int r371.1)] → XG t x0 r371.2 w → va_P D vwCl w H → va_D (OA L0 s.heap.size) w → va_S (OA L0 s.heap.size) s.heap H locs → W p l e room_1 s m #[Value.ref b] below meth c H locs (cz + 5) (sq + 70) (lw_Z below #[Value.ref b] s) (F0 m 396 ls [.int o483, .int x367, .int x364, .ref x0]) := by
                                  intro ls H locs w hl hw hP hD hS
                                  have hSz : s.heap.size ≤ H.size := hS.1
                                  obtain ⟨r484, er484, h⟩ := obind h
                                  have hsr := OA.ofD (L' := w.map Prod.fst) hD rfl hSz
                                  refine call_Q (vx_runSW (As := [.ref x0, .int x364, .int x367, .int o483]) (rest := []) ⟨hx, hb, hml, hown, hts⟩ (hm_flip l hl9 z0 D t x0 r371.2 x364 x367 o483 r484 er484 w hw H.size) (kH hts qw662 qw663 qw0 qw664 okL_flip ⟨Nat.le_of_ble_eq_true rfl, Nat.le_of_ble_eq_true rfl⟩) ⟨PMH.blind, fun U hU hW => ⟨rfl, ⟨by rw [hU]; exact (hC.at hS hZ).warm hW, hN.moved hW.alike⟩, by rw [hU], by rw [hU]; exact hP, ⟨hD.1, fun _ _ h9 => Or.inl (in_map (L := w.map Prod.fst) rfl h9)⟩, fun q hq => hZ q (hsr q hq)⟩⟩ rfl rfl hl.1 rfl (lv_room (Nat.le_of_ble_eq_true rfl)) dL_law_396 ⟨by show (cz + 5) + 5 ≤ 600130; omega, by show (sq + 70) + 70 ≤ 7301080; omega⟩) hS hsr (fun w H locs hw hP hD1 hS _ _ => ?_)
                                  refine W.widen (k := (cz + 10)) (n := (sq + 140)) (by omega) (by omega) ?_
                                  have hD : va_D (OA L0 s.heap.size) w := hD1.weaken (fun _ q _ h9 => hsr q.1 h9)
                                  have hSz : s.heap.size ≤ H.size := hS.1
                                  refine lv_iload hx hb dL_law_399 (lv_at hl 3 rfl) ?_
                                  refine lv_iconst (v := (1)) hx hb dL_law_401 (by decide) ?_
                                  refine lv_iadd hx hb dL_law_402 ?_
                                  refine lv_icmp_ne (tgt := 410) hx hb dL_law_403 (by decide) (fun hc => ?_) (fun hc => ?_)
                                  · have h := iteF hc h
                                    refine lv_iconst (v := (0)) hx hb dL_law_410 (by decide) ?_
                                    obtain rfl := Option.some.inj h
                                    exact hJ411_o481 ls H locs w (lv_sub hl [0, 1, 2] rfl) hw hP hD hS
                                  · have h := iteT hc h
                                    refine lv_iconst (v := (1)) hx hb dL_law_406 (by decide) ?_
                                    refine lv_goto (tgt := 411) hx hb dL_law_407 (by decide) ?_
                                    obtain rfl := Option.some.inj h
                                    exact hJ411_o481 ls H locs w (lv_sub hl [0, 1, 2] rfl) hw hP hD hS
                                have h := eo483
                                clear eo483
                                refine lv_if_ne (tgt := 395) hx hb dL_law_388 (by decide) (fun hc => ?_) (fun hc => ?_)
                                · have h := iteF hc h
                                  refine lv_iconst (v := (0)) hx hb dL_law_395 (by decide) ?_
                                  obtain rfl := Option.some.inj h
                                  exact hJ396_o483 ls H locs w (lv_sub hl [1, 2, 3, 11] rfl) hw hP hD hS
                                · have h := iteT hc h
                                  refine lv_iconst (v := (1)) hx hb dL_law_391 (by decide) ?_
                                  refine lv_goto (tgt := 396) hx hb dL_law_392 (by decide) ?_
                                  obtain rfl := Option.some.inj h
                                  exact hJ396_o483 ls H locs w (lv_sub hl [1, 2, 3, 11] rfl) hw hP hD hS
                        · have h := iteF hc h
                          refine lv_iload hx hb dL_law_346 (lv_at hl 5 rfl) ?_
                          refine lv_bipush (v := (11)) hx hb dL_law_348 (by decide) ?_
                          refine lv_icmp_ne (tgt := 415) hx hb dL_law_350 (by decide) (fun hc => ?_) (fun hc => ?_)
                          · have h := iteF hc h
                            refine lv_iload_n hx hb dL_law_415 rfl (lv_at hl 0 rfl) ?_
                            refine lv_if_eq (tgt := 502) hx hb dL_law_416 (by decide) (fun hc => ?_) (fun hc => ?_)
                            · have h := iteT hc h
                              refine lv_iload_n hx hb dL_law_502 rfl (lv_at hl 0 rfl) ?_
                              refine lv_if_eq (tgt := 553) hx hb dL_law_503 (by decide) (fun hc => ?_) (fun hc => ?_)
                              · have h := iteT hc h
                                obtain rfl := Option.some.inj h
                                refine W.widen (k := (cz + 10)) (n := (sq + 140)) (by omega) (by omega) ?_
                                exact hJ553_o451 ls H locs w (lv_sub hl [1, 2, 0, 3] rfl) hw hP hD hS
                              · have h := iteF hc h
                                refine lv_iload hx hb dL_law_506 (lv_at hl 5 rfl) ?_
                                refine lv_bipush (v := (14)) hx hb dL_law_508 (by decide) ?_
                                refine lv_icmp_ne (tgt := 553) hx hb dL_law_510 (by decide) (fun hc => ?_) (fun hc => ?_)
                                · have h := iteF hc h
                                  obtain rfl := Option.some.inj h
                                  refine W.widen (k := (cz + 10)) (n := (sq + 140)) (by omega) (by omega) ?_
                                  exact hJ553_o451 ls H locs w (lv_sub hl [1, 2, 0, 3] rfl) hw hP hD hS
                                · have h := iteT hc h
                                  refine lv_iload hx hb dL_law_513 (lv_at hl 12 rfl) ?_
                                  refine lv_if_eq (tgt := 553) hx hb dL_law_515 (by decide) (fun hc => ?_) (fun hc => ?_)
                                  · have h := iteT hc h
                                    obtain rfl := Option.some.inj h
                                    refine W.widen (k := (cz + 10)) (n := (sq + 140)) (by omega) (by omega) ?_
                                    exact hJ553_o451 ls H locs w (lv_sub hl [1, 2, 0, 3] rfl) hw hP hD hS
                                  · have h := iteF hc h
                                    refine lv_aload_n hx hb dL_law_518 rfl (lv_at hl 2 rfl) ?_
                                    refine lv_bipush (v := (6)) hx hb dL_law_519 (by decide) ?_
                                    obtain ⟨r485, er485, h⟩ := obind h
                                    have hsr := OA.ofD (L' := w.map Prod.fst) hD rfl hSz
                                    refine call_Q (vx_runSW (As := [.ref x0, .int (6 : Int32)]) (rest := []) ⟨hx, hb, hml, hown, hts⟩ (hq_count l hl9 z0 D t x0 r371.2 (6 : Int32) r485 er485 w hw H.size) (kH hts qw800 qw801 qw0 qw802 okL_count ⟨Nat.le_of_ble_eq_true rfl, Nat.le_of_ble_eq_true rfl⟩) ⟨PMH.blind, fun U hU hW => ⟨rfl, ⟨by rw [hU]; exact (hC.at hS hZ).warm hW, hN.moved hW.alike⟩, by rw [hU], by rw [hU]; exact hP, ⟨hD.1, fun _ _ h9 => Or.inl (in_map (L := w.map Prod.fst) rfl h9)⟩, fun q hq => hZ q (hsr q hq)⟩⟩ rfl rfl hl.1 rfl (lv_room (Nat.le_of_ble_eq_true rfl)) dL_law_521 ⟨by show (cz + 5) + 0 ≤ 600130; omega, by show (sq + 70) + 0 ≤ 7301080; omega⟩) hS hsr (fun w H locs hw hP hD1 hS _ _ => ?_)
                                    have hD : va_D (OA L0 s.heap.size) w := hD1.weaken (fun _ q _ h9 => hsr q.1 h9)
                                    have hSz : s.heap.size ≤ H.size := hS.1
                                    obtain ⟨o488, eo488, h⟩ := obind h
                                    have hJ552_o488 : ∀ (ls : Array Slot) (H : Heap) (locs : List Loc) (w : va_W), lv_has ls 17 [(0, .ref b), (1, .ref x0), (3, .int y3_70)] → XG t x0 r371.2 w → va_P D vwCl w H → va_D (OA L0 s.heap.size) w → va_S (OA L0 s.heap.size) s.heap H locs → W p l e room_1 s m #[Value.ref b] below meth c H locs (cz + 5) (sq + 70) (lw_Z below #[Value.ref b] s) (F0 m 552 ls [.int o488]) := by
                                      intro ls H locs w hl hw hP hD hS
                                      have hSz : s.heap.size ≤ H.size := hS.1
                                      refine lv_istore_n (lv' := [(2, .int o488), (0, .ref b), (1, .ref x0), (3, .int y3_70)]) hx hb dL_law_552 rfl hl (by decide) rfl (fun ls hl => ?_)
                                      obtain rfl := Option.some.inj h
                                      refine W.widen (k := (cz + 10)) (n := (sq + 140)) (by omega) (by omega) ?_
                                      exact hJ553_o451 ls H locs w (lv_sub hl [1, 2, 0, 3] rfl) hw hP hD hS
                                    have h := eo488
                                    clear eo488
                                    refine lv_if_ne (tgt := 551) hx hb dL_law_524 (by decide) (fun hc => ?_) (fun hc => ?_)
                                    · have h := iteF hc h
                                      refine lv_iconst (v := (0)) hx hb dL_law_551 (by decide) ?_
                                      obtain rfl := Option.some.inj h
                                      exact hJ552_o488 ls H locs w (lv_sub hl [1, 2, 3] rfl) hw hP hD hS
                                    · have h := iteT hc h
                                      refine lv_iload hx hb dL_law_527 (lv_at hl 11 rfl) ?_
                                      refine lv_iconst (v := (3)) hx hb dL_law_529 (by decide) ?_
                                      refine lv_imul hx hb dL_law_530 ?_
                                      refine lv_iconst (v := (1)) hx hb dL_law_531 (by decide) ?_
                                      refine lv_iadd hx hb dL_law_532 ?_
                                      refine lv_aload_n hx hb dL_law_533 rfl (lv_at hl 2 rfl) ?_
                                      refine lv_iconst (v := (0)) hx hb dL_law_534 (by decide) ?_
                                      obtain ⟨r489, er489, h⟩ := obind h
                                      have hsr := OA.ofD (L' := w.map Prod.fst) hD rfl hSz
                                      refine call_Q (vx_runSW (As := [.ref x0, .int (0 : Int32)]) (rest := [.int ((r371.1 * (3 : Int32)) + (1 : Int32))]) ⟨hx, hb, hml, hown, hts⟩ (hq_count l hl9 z0 D t x0 r371.2 (0 : Int32) r489 er489 w hw H.size) (kH hts qw800 qw801 qw0 qw802 okL_count ⟨Nat.le_of_ble_eq_true rfl, Nat.le_of_ble_eq_true rfl⟩) ⟨PMH.blind, fun U hU hW => ⟨rfl, ⟨by rw [hU]; exact (hC.at hS hZ).warm hW, hN.moved hW.alike⟩, by rw [hU], by rw [hU]; exact hP, ⟨hD.1, fun _ _ h9 => Or.inl (in_map (L := w.map Prod.fst) rfl h9)⟩, fun q hq => hZ q (hsr q hq)⟩⟩ rfl rfl hl.1 rfl (lv_room (Nat.le_of_ble_eq_true rfl)) dL_law_535 ⟨by show (cz + 5) + 0 ≤ 600130; omega, by show (sq + 70) + 0 ≤ 7301080; omega⟩) hS hsr (fun w H locs hw hP hD1 hS _ _ => ?_)
                                      have hD : va_D (OA L0 s.heap.size) w := hD1.weaken (fun _ q _ h9 => hsr q.1 h9)
                                      have hSz : s.heap.size ≤ H.size := hS.1
                                      refine lv_aload_n hx hb dL_law_538 rfl (lv_at hl 2 rfl) ?_
                                      refine lv_iconst (v := (0)) hx hb dL_law_539 (by decide) ?_
                                      obtain ⟨r490, er490, h⟩ := obind h
                                      have hsr := OA.ofD (L' := w.map Prod.fst) hD rfl hSz
                                      refine call_Q (vx_runSW (As := [.ref x0, .int (0 : Int32)]) (rest := [.int r489, .int ((r371.1 * (3 : Int32)) + (1 : Int32))]) ⟨hx, hb, hml, hown, hts⟩ (hq_count l hl9 z0 D t x0 r371.2 (0 : Int32) r490 er490 w hw H.size) (kH hts qw800 qw801 qw0 qw802 okL_count ⟨Nat.le_of_ble_eq_true rfl, Nat.le_of_ble_eq_true rfl⟩) ⟨PMH.blind, fun U hU hW => ⟨rfl, ⟨by rw [hU]; exact (hC.at hS hZ).warm hW, hN.moved hW.alike⟩, by rw [hU], by rw [hU]; exact hP, ⟨hD.1, fun _ _ h9 => Or.inl (in_map (L := w.map Prod.fst) rfl h9)⟩, fun q hq => hZ q (hsr q hq)⟩⟩ rfl rfl hl.1 rfl (lv_room (Nat.le_of_ble_eq_true rfl)) dL_law_540 ⟨by show (cz + 5) + 0 ≤ 600130; omega, by show (sq + 70) + 0 ≤ 7301080; omega⟩) hS hsr (fun w H locs hw hP hD1 hS _ _ => ?_)
                                      have hD : va_D (OA L0 s.heap.size) w := hD1.weaken (fun _ q _ h9 => hsr q.1 h9)
                                      have hSz : s.heap.size ≤ H.size := hS.1
                                      refine lv_imul hx hb dL_law_543 ?_
                                      refine lv_icmp_ne (tgt := 551) hx hb dL_law_544 (by decide) (fun hc => ?_) (fun hc => ?_)
                                      · have h := iteF hc h
                                        refine lv_iconst (v := (0)) hx hb dL_law_551 (by decide) ?_
                                        obtain rfl := Option.some.inj h
                                        exact hJ552_o488 ls H locs w (lv_sub hl [1, 2, 3] rfl) hw hP hD hS
                                      · have h := iteT hc h
                                        refine lv_iconst (v := (1)) hx hb dL_law_547 (by decide) ?_
                                        refine lv_goto (tgt := 552) hx hb dL_law_548 (by decide) ?_
                                        obtain rfl := Option.some.inj h
                                        exact hJ552_o488 ls H locs w (lv_sub hl [1, 2, 3] rfl) hw hP hD hS
                            · have h := iteF hc h
                              refine lv_iload hx hb dL_law_419 (lv_at hl 5 rfl) ?_
                              refine lv_bipush (v := (12)) hx hb dL_law_421 (by decide) ?_
                              refine lv_icmp_eq (tgt := 433) hx hb dL_law_423 (by decide) (fun hc => ?_) (fun hc => ?_)
                              · have h := iteT hc h
                                refine lv_iload hx hb dL_law_433 (lv_at hl 12 rfl) ?_
                                obtain ⟨o494, eo494, h⟩ := obind h
                                have hJ498_o494 : ∀ (ls : Array Slot) (H : Heap) (locs : List Loc) (w : va_W), lv_has ls 17 [(0, .ref b), (1, .ref x0), (3, .int y3_70)] → XG t x0 r371.2 w → va_P D vwCl w H → va_D (OA L0 s.heap.size) w → va_S (OA L0 s.heap.size) s.heap H locs → W p l e room_1 s m #[Value.ref b] below meth c H locs (cz + 5) (sq + 70) (lw_Z below #[Value.ref b] s) (F0 m 498 ls [.int o494]) := by
                                  intro ls H locs w hl hw hP hD hS
                                  have hSz : s.heap.size ≤ H.size := hS.1
                                  refine lv_istore_n (lv' := [(2, .int o494), (0, .ref b), (1, .ref x0), (3, .int y3_70)]) hx hb dL_law_498 rfl hl (by decide) rfl (fun ls hl => ?_)
                                  refine lv_goto (tgt := 553) hx hb dL_law_499 (by decide) ?_
                                  obtain rfl := Option.some.inj h
                                  refine W.widen (k := (cz + 10)) (n := (sq + 140)) (by omega) (by omega) ?_
                                  exact hJ553_o451 ls H locs w (lv_sub hl [1, 2, 0, 3] rfl) hw hP hD hS
                                have h := eo494
                                clear eo494
                                refine lv_if_eq (tgt := 477) hx hb dL_law_435 (by decide) (fun hc => ?_) (fun hc => ?_)
                                · have h := iteT hc h
                                  refine lv_iload hx hb dL_law_477 (lv_at hl 8 rfl) ?_
                                  refine lv_if_ne (tgt := 497) hx hb dL_law_479 (by decide) (fun hc => ?_) (fun hc => ?_)
                                  · have h := iteF hc h
                                    refine lv_iconst (v := (0)) hx hb dL_law_497 (by decide) ?_
                                    obtain rfl := Option.some.inj h
                                    exact hJ498_o494 ls H locs w (lv_sub hl [1, 2, 3] rfl) hw hP hD hS
                                  · have h := iteT hc h
                                    refine lv_aload_n hx hb dL_law_482 rfl (lv_at hl 2 rfl) ?_
                                    refine lv_bipush (v := (6)) hx hb dL_law_483 (by decide) ?_
                                    obtain ⟨r495, er495, h⟩ := obind h
                                    have hsr := OA.ofD (L' := w.map Prod.fst) hD rfl hSz
                                    refine call_Q (vx_runSW (As := [.ref x0, .int (6 : Int32)]) (rest := []) ⟨hx, hb, hml, hown, hts⟩ (hq_count l hl9 z0 D t x0 r371.2 (6 : Int32) r495 er495 w hw H.size) (kH hts qw800 qw801 qw0 qw802 okL_count ⟨Nat.le_of_ble_eq_true rfl, Nat.le_of_ble_eq_true rfl⟩) ⟨PMH.blind, fun U hU hW => ⟨rfl, ⟨by rw [hU]; exact (hC.at hS hZ).warm hW, hN.moved hW.alike⟩, by rw [hU], by rw [hU]; exact hP, ⟨hD.1, fun _ _ h9 => Or.inl (in_map (L := w.map Prod.fst) rfl h9)⟩, fun q hq => hZ q (hsr q hq)⟩⟩ rfl rfl hl.1 rfl (lv_room (Nat.le_of_ble_eq_true rfl)) dL_law_485 ⟨by show (cz + 5) + 0 ≤ 600130; omega, by show (sq + 70) + 0 ≤ 7301080; omega⟩) hS hsr (fun w H locs hw hP hD1 hS _ _ => ?_)
                                    have hD : va_D (OA L0 s.heap.size) w := hD1.weaken (fun _ q _ h9 => hsr q.1 h9)
                                    have hSz : s.heap.size ≤ H.size := hS.1
                                    refine lv_iload hx hb dL_law_488 (lv_at hl 7 rfl) ?_
                                    refine lv_icmp_ne (tgt := 497) hx hb dL_law_490 (by decide) (fun hc => ?_) (fun hc => ?_)
                                    · have h := iteF hc h
                                      refine lv_iconst (v := (0)) hx hb dL_law_497 (by decide) ?_
                                      obtain rfl := Option.some.inj h
                                      exact hJ498_o494 ls H locs w (lv_sub hl [1, 2, 3] rfl) hw hP hD hS
                                    · have h := iteT hc h
                                      refine lv_iconst (v := (1)) hx hb dL_law_493 (by decide) ?_
                                      refine lv_goto (tgt := 498) hx hb dL_law_494 (by decide) ?_
                                      obtain rfl := Option.some.inj h
                                      exact hJ498_o494 ls H locs w (lv_sub hl [1, 2, 3] rfl) hw hP hD hS
                                · have h := iteF hc h
                                  refine lv_iload hx hb dL_law_438 (lv_at hl 8 rfl) ?_
                                  refine lv_if_le (tgt := 473) hx hb dL_law_440 (by decide) (fun hc => ?_) (fun hc => ?_)
                                  · have h := iteT hc h
                                    refine lv_iconst (v := (0)) hx hb dL_law_473 (by decide) ?_
                                    refine lv_goto (tgt := 498) hx hb dL_law_474 (by decide) ?_
                                    obtain rfl := Option.some.inj h
                                    exact hJ498_o494 ls H locs w (lv_sub hl [1, 2, 3] rfl) hw hP hD hS
                                  · have h := iteF hc h
                                    refine lv_iload hx hb dL_law_443 (lv_at hl 11 rfl) ?_
                                    refine lv_iconst (v := (3)) hx hb dL_law_445 (by decide) ?_
                                    refine lv_imul hx hb dL_law_446 ?_
                                    refine lv_iload hx hb dL_law_447 (lv_at hl 7 rfl) ?_
                                    refine lv_icmp_ne (tgt := 473) hx hb dL_law_449 (by decide) (fun hc => ?_) (fun hc => ?_)
                                    · have h := iteF hc h
                                      refine lv_iconst (v := (0)) hx hb dL_law_473 (by decide) ?_
                                      refine lv_goto (tgt := 498) hx hb dL_law_474 (by decide) ?_
                                      obtain rfl := Option.some.inj h
                                      exact hJ498_o494 ls H locs w (lv_sub hl [1, 2, 3] rfl) hw hP hD hS
                                    · have h := iteT hc h
                                      refine lv_aload_n hx hb dL_law_452 rfl (lv_at hl 2 rfl) ?_
                                      refine lv_bipush (v := (6)) hx hb dL_law_453 (by decide) ?_
                                      obtain ⟨r496, er496, h⟩ := obind h
                                      have hsr := OA.ofD (L' := w.map Prod.fst) hD rfl hSz
                                      refine call_Q (vx_runSW (As := [.ref x0, .int (6 : Int32)]) (rest := []) ⟨hx, hb, hml, hown, hts⟩ (hq_count l hl9 z0 D t x0 r371.2 (6 : Int32) r496 er496 w hw H.size) (kH hts qw800 qw801 qw0 qw802 okL_count ⟨Nat.le_of_ble_eq_true rfl, Nat.le_of_ble_eq_true rfl⟩) ⟨PMH.blind, fun U hU hW => ⟨rfl, ⟨by rw [hU]; exact (hC.at hS hZ).warm hW, hN.moved hW.alike⟩, by rw [hU], by rw [hU]; exact hP, ⟨hD.1, fun _ _ h9 => Or.inl (in_map (L := w.map Prod.fst) rfl h9)⟩, fun q hq => hZ q (hsr q hq)⟩⟩ rfl rfl hl.1 rfl (lv_room (Nat.le_of_ble_eq_true rfl)) dL_law_455 ⟨by show (cz + 5) + 0 ≤ 600130; omega, by show (sq + 70) + 0 ≤ 7301080; omega⟩) hS hsr (fun w H locs hw hP hD1 hS _ _ => ?_)
                                      have hD : va_D (OA L0 s.heap.size) w := hD1.weaken (fun _ q _ h9 => hsr q.1 h9)
                                      have hSz : s.heap.size ≤ H.size := hS.1
                                      refine lv_if_ne (tgt := 473) hx hb dL_law_458 (by decide) (fun hc => ?_) (fun hc => ?_)
                                      · have h := iteF hc h
                                        refine lv_iconst (v := (0)) hx hb dL_law_473 (by decide) ?_
                                        refine lv_goto (tgt := 498) hx hb dL_law_474 (by decide) ?_
                                        obtain rfl := Option.some.inj h
                                        exact hJ498_o494 ls H locs w (lv_sub hl [1, 2, 3] rfl) hw hP hD hS
                                      · have h := iteT hc h
                                        refine lv_aload_n hx hb dL_law_461 rfl (lv_at hl 2 rfl) ?_
                                        obtain ⟨r497, er497, h⟩ := obind h
                                        have hsr := OA.ofD (L' := w.map Prod.fst) hD rfl hSz
                                        obtain ⟨fs9, h09⟩ := XG_h0 hw
                                        refine call_Q (va_runV (As := []) (rest := []) ⟨hx, hb, hml, hown, hts⟩ (hd_ways l hl9 z0 D t x0 r371.2 r497 er497 w hw H.size) (kV hts qw232 qw233 qw234 qw1 qw235 ok_X4_ways ⟨Nat.le_of_ble_eq_true rfl, Nat.le_of_ble_eq_true rfl⟩) ⟨PM.blind, va_recv hK hP (ci := 5) (q0 := 0) rfl h09, fun U hU hW => ⟨rfl, by rw [hU]; exact (hC.at hS hZ).warm hW, by rw [hU], by rw [hU]; exact hP, ⟨hD.1, fun _ _ h9 => Or.inl (in_map (L := w.map Prod.fst) rfl h9)⟩, fun q hq => hZ q (hsr q hq)⟩⟩ rfl rfl hl.1 rfl (lv_room (Nat.le_of_ble_eq_true rfl)) dL_law_462 ⟨by show (cz + 5) + 0 ≤ 600130; omega, by show (sq + 70) + 0 ≤ 7301080; omega⟩) hS hsr (fun w H locs hw hP hD1 hS _ _ => ?_)
                                        have hD : va_D (OA L0 s.heap.size) w := hD1.weaken (fun _ q _ h9 => hsr q.1 h9)
                                        have hSz : s.heap.size ≤ H.size := hS.1
                                        refine lv_iconst (v := (1)) hx hb dL_law_465 (by decide) ?_
                                        refine lv_icmp_ne (tgt := 473) hx hb dL_law_466 (by decide) (fun hc => ?_) (fun hc => ?_)
                                        · have h := iteF hc h
                                          refine lv_iconst (v := (0)) hx hb dL_law_473 (by decide) ?_
                                          refine lv_goto (tgt := 498) hx hb dL_law_474 (by decide) ?_
                                          obtain rfl := Option.some.inj h
                                          exact hJ498_o494 ls H locs w (lv_sub hl [1, 2, 3] rfl) hw hP hD hS
                                        · have h := iteT hc h
                                          refine lv_iconst (v := (1)) hx hb dL_law_469 (by decide) ?_
                                          refine lv_goto (tgt := 498) hx hb dL_law_470 (by decide) ?_
                                          obtain rfl := Option.some.inj h
                                          exact hJ498_o494 ls H locs w (lv_sub hl [1, 2, 3] rfl) hw hP hD hS
                              · have h := iteF hc h
                                refine lv_iload hx hb dL_law_426 (lv_at hl 5 rfl) ?_
                                refine lv_bipush (v := (13)) hx hb dL_law_428 (by decide) ?_
                                refine lv_icmp_ne (tgt := 502) hx hb dL_law_430 (by decide) (fun hc => ?_) (fun hc => ?_)
                                · have h := iteF hc h
                                  refine lv_iload_n hx hb dL_law_502 rfl (lv_at hl 0 rfl) ?_
                                  refine lv_if_eq (tgt := 553) hx hb dL_law_503 (by decide) (fun hc => ?_) (fun hc => ?_)
                                  · have h := iteT hc h
                                    obtain rfl := Option.some.inj h
                                    refine W.widen (k := (cz + 10)) (n := (sq + 140)) (by omega) (by omega) ?_
                                    exact hJ553_o451 ls H locs w (lv_sub hl [1, 2, 0, 3] rfl) hw hP hD hS
                                  · have h := iteF hc h
                                    refine lv_iload hx hb dL_law_506 (lv_at hl 5 rfl) ?_
                                    refine lv_bipush (v := (14)) hx hb dL_law_508 (by decide) ?_
                                    refine lv_icmp_ne (tgt := 553) hx hb dL_law_510 (by decide) (fun hc => ?_) (fun hc => ?_)
                                    · have h := iteF hc h
                                      obtain rfl := Option.some.inj h
                                      refine W.widen (k := (cz + 10)) (n := (sq + 140)) (by omega) (by omega) ?_
                                      exact hJ553_o451 ls H locs w (lv_sub hl [1, 2, 0, 3] rfl) hw hP hD hS
                                    · have h := iteT hc h
                                      refine lv_iload hx hb dL_law_513 (lv_at hl 12 rfl) ?_
                                      refine lv_if_eq (tgt := 553) hx hb dL_law_515 (by decide) (fun hc => ?_) (fun hc => ?_)
                                      · have h := iteT hc h
                                        obtain rfl := Option.some.inj h
                                        refine W.widen (k := (cz + 10)) (n := (sq + 140)) (by omega) (by omega) ?_
                                        exact hJ553_o451 ls H locs w (lv_sub hl [1, 2, 0, 3] rfl) hw hP hD hS
                                      · have h := iteF hc h
                                        refine lv_aload_n hx hb dL_law_518 rfl (lv_at hl 2 rfl) ?_
                                        refine lv_bipush (v := (6)) hx hb dL_law_519 (by decide) ?_
                                        obtain ⟨r498, er498, h⟩ := obind h
                                        have hsr := OA.ofD (L' := w.map Prod.fst) hD rfl hSz
                                        refine call_Q (vx_runSW (As := [.ref x0, .int (6 : Int32)]) (rest := []) ⟨hx, hb, hml, hown, hts⟩ (hq_count l hl9 z0 D t x0 r371.2 (6 : Int32) r498 er498 w hw H.size) (kH hts qw800 qw801 qw0 qw802 okL_count ⟨Nat.le_of_ble_eq_true rfl, Nat.le_of_ble_eq_true rfl⟩) ⟨PMH.blind, fun U hU hW => ⟨rfl, ⟨by rw [hU]; exact (hC.at hS hZ).warm hW, hN.moved hW.alike⟩, by rw [hU], by rw [hU]; exact hP, ⟨hD.1, fun _ _ h9 => Or.inl (in_map (L := w.map Prod.fst) rfl h9)⟩, fun q hq => hZ q (hsr q hq)⟩⟩ rfl rfl hl.1 rfl (lv_room (Nat.le_of_ble_eq_true rfl)) dL_law_521 ⟨by show (cz + 5) + 0 ≤ 600130; omega, by show (sq + 70) + 0 ≤ 7301080; omega⟩) hS hsr (fun w H locs hw hP hD1 hS _ _ => ?_)
                                        have hD : va_D (OA L0 s.heap.size) w := hD1.weaken (fun _ q _ h9 => hsr q.1 h9)
                                        have hSz : s.heap.size ≤ H.size := hS.1
                                        obtain ⟨o501, eo501, h⟩ := obind h
                                        have hJ552_o501 : ∀ (ls : Array Slot) (H : Heap) (locs : List Loc) (w : va_W), lv_has ls 17 [(0, .ref b), (1, .ref x0), (3, .int y3_70)] → XG t x0 r371.2 w → va_P D vwCl w H → va_D (OA L0 s.heap.size) w → va_S (OA L0 s.heap.size) s.heap H locs → W p l e room_1 s m #[Value.ref b] below meth c H locs (cz + 5) (sq + 70) (lw_Z below #[Value.ref b] s) (F0 m 552 ls [.int o501]) := by
                                          intro ls H locs w hl hw hP hD hS
                                          have hSz : s.heap.size ≤ H.size := hS.1
                                          refine lv_istore_n (lv' := [(2, .int o501), (0, .ref b), (1, .ref x0), (3, .int y3_70)]) hx hb dL_law_552 rfl hl (by decide) rfl (fun ls hl => ?_)
                                          obtain rfl := Option.some.inj h
                                          refine W.widen (k := (cz + 10)) (n := (sq + 140)) (by omega) (by omega) ?_
                                          exact hJ553_o451 ls H locs w (lv_sub hl [1, 2, 0, 3] rfl) hw hP hD hS
                                        have h := eo501
                                        clear eo501
                                        refine lv_if_ne (tgt := 551) hx hb dL_law_524 (by decide) (fun hc => ?_) (fun hc => ?_)
                                        · have h := iteF hc h
                                          refine lv_iconst (v := (0)) hx hb dL_law_551 (by decide) ?_
                                          obtain rfl := Option.some.inj h
                                          exact hJ552_o501 ls H locs w (lv_sub hl [1, 2, 3] rfl) hw hP hD hS
                                        · have h := iteT hc h
                                          refine lv_iload hx hb dL_law_527 (lv_at hl 11 rfl) ?_
                                          refine lv_iconst (v := (3)) hx hb dL_law_529 (by decide) ?_
                                          refine lv_imul hx hb dL_law_530 ?_
                                          refine lv_iconst (v := (1)) hx hb dL_law_531 (by decide) ?_
                                          refine lv_iadd hx hb dL_law_532 ?_
                                          refine lv_aload_n hx hb dL_law_533 rfl (lv_at hl 2 rfl) ?_
                                          refine lv_iconst (v := (0)) hx hb dL_law_534 (by decide) ?_
                                          obtain ⟨r502, er502, h⟩ := obind h
                                          have hsr := OA.ofD (L' := w.map Prod.fst) hD rfl hSz
                                          refine call_Q (vx_runSW (As := [.ref x0, .int (0 : Int32)]) (rest := [.int ((r371.1 * (3 : Int32)) + (1 : Int32))]) ⟨hx, hb, hml, hown, hts⟩ (hq_count l hl9 z0 D t x0 r371.2 (0 : Int32) r502 er502 w hw H.size) (kH hts qw800 qw801 qw0 qw802 okL_count ⟨Nat.le_of_ble_eq_true rfl, Nat.le_of_ble_eq_true rfl⟩) ⟨PMH.blind, fun U hU hW => ⟨rfl, ⟨by rw [hU]; exact (hC.at hS hZ).warm hW, hN.moved hW.alike⟩, by rw [hU], by rw [hU]; exact hP, ⟨hD.1, fun _ _ h9 => Or.inl (in_map (L := w.map Prod.fst) rfl h9)⟩, fun q hq => hZ q (hsr q hq)⟩⟩ rfl rfl hl.1 rfl (lv_room (Nat.le_of_ble_eq_true rfl)) dL_law_535 ⟨by show (cz + 5) + 0 ≤ 600130; omega, by show (sq + 70) + 0 ≤ 7301080; omega⟩) hS hsr (fun w H locs hw hP hD1 hS _ _ => ?_)
                                          have hD : va_D (OA L0 s.heap.size) w := hD1.weaken (fun _ q _ h9 => hsr q.1 h9)
                                          have hSz : s.heap.size ≤ H.size := hS.1
                                          refine lv_aload_n hx hb dL_law_538 rfl (lv_at hl 2 rfl) ?_
                                          refine lv_iconst (v := (0)) hx hb dL_law_539 (by decide) ?_
                                          obtain ⟨r503, er503, h⟩ := obind h
                                          have hsr := OA.ofD (L' := w.map Prod.fst) hD rfl hSz
                                          refine call_Q (vx_runSW (As := [.ref x0, .int (0 : Int32)]) (rest := [.int r502, .int ((r371.1 * (3 : Int32)) + (1 : Int32))]) ⟨hx, hb, hml, hown, hts⟩ (hq_count l hl9 z0 D t x0 r371.2 (0 : Int32) r503 er503 w hw H.size) (kH hts qw800 qw801 qw0 qw802 okL_count ⟨Nat.le_of_ble_eq_true rfl, Nat.le_of_ble_eq_true rfl⟩) ⟨PMH.blind, fun U hU hW => ⟨rfl, ⟨by rw [hU]; exact (hC.at hS hZ).warm hW, hN.moved hW.alike⟩, by rw [hU], by rw [hU]; exact hP, ⟨hD.1, fun _ _ h9 => Or.inl (in_map (L := w.map Prod.fst) rfl h9)⟩, fun q hq => hZ q (hsr q hq)⟩⟩ rfl rfl hl.1 rfl (lv_room (Nat.le_of_ble_eq_true rfl)) dL_law_540 ⟨by show (cz + 5) + 0 ≤ 600130; omega, by show (sq + 70) + 0 ≤ 7301080; omega⟩) hS hsr (fun w H locs hw hP hD1 hS _ _ => ?_)
                                          have hD : va_D (OA L0 s.heap.size) w := hD1.weaken (fun _ q _ h9 => hsr q.1 h9)
                                          have hSz : s.heap.size ≤ H.size := hS.1
                                          refine lv_imul hx hb dL_law_543 ?_
                                          refine lv_icmp_ne (tgt := 551) hx hb dL_law_544 (by decide) (fun hc => ?_) (fun hc => ?_)
                                          · have h := iteF hc h
                                            refine lv_iconst (v := (0)) hx hb dL_law_551 (by decide) ?_
                                            obtain rfl := Option.some.inj h
                                            exact hJ552_o501 ls H locs w (lv_sub hl [1, 2, 3] rfl) hw hP hD hS
                                          · have h := iteT hc h
                                            refine lv_iconst (v := (1)) hx hb dL_law_547 (by decide) ?_
                                            refine lv_goto (tgt := 552) hx hb dL_law_548 (by decide) ?_
                                            obtain rfl := Option.some.inj h
                                            exact hJ552_o501 ls H locs w (lv_sub hl [1, 2, 3] rfl) hw hP hD hS
                                · have h := iteT hc h
                                  refine lv_iload hx hb dL_law_433 (lv_at hl 12 rfl) ?_
                                  obtain ⟨o507, eo507, h⟩ := obind h
                                  have hJ498_o507 : ∀ (ls : Array Slot) (H : Heap) (locs : List Loc) (w : va_W), lv_has ls 17 [(0, .ref b), (1, .ref x0), (3, .int y3_70)] → XG t x0 r371.2 w → va_P D vwCl w H → va_D (OA L0 s.heap.size) w → va_S (OA L0 s.heap.size) s.heap H locs → W p l e room_1 s m #[Value.ref b] below meth c H locs (cz + 5) (sq + 70) (lw_Z below #[Value.ref b] s) (F0 m 498 ls [.int o507]) := by
                                    intro ls H locs w hl hw hP hD hS
                                    have hSz : s.heap.size ≤ H.size := hS.1
                                    refine lv_istore_n (lv' := [(2, .int o507), (0, .ref b), (1, .ref x0), (3, .int y3_70)]) hx hb dL_law_498 rfl hl (by decide) rfl (fun ls hl => ?_)
                                    refine lv_goto (tgt := 553) hx hb dL_law_499 (by decide) ?_
                                    obtain rfl := Option.some.inj h
                                    refine W.widen (k := (cz + 10)) (n := (sq + 140)) (by omega) (by omega) ?_
                                    exact hJ553_o451 ls H locs w (lv_sub hl [1, 2, 0, 3] rfl) hw hP hD hS
                                  have h := eo507
                                  clear eo507
                                  refine lv_if_eq (tgt := 477) hx hb dL_law_435 (by decide) (fun hc => ?_) (fun hc => ?_)
                                  · have h := iteT hc h
                                    refine lv_iload hx hb dL_law_477 (lv_at hl 8 rfl) ?_
                                    refine lv_if_ne (tgt := 497) hx hb dL_law_479 (by decide) (fun hc => ?_) (fun hc => ?_)
                                    · have h := iteF hc h
                                      refine lv_iconst (v := (0)) hx hb dL_law_497 (by decide) ?_
                                      obtain rfl := Option.some.inj h
                                      exact hJ498_o507 ls H locs w (lv_sub hl [1, 2, 3] rfl) hw hP hD hS
                                    · have h := iteT hc h
                                      refine lv_aload_n hx hb dL_law_482 rfl (lv_at hl 2 rfl) ?_
                                      refine lv_bipush (v := (6)) hx hb dL_law_483 (by decide) ?_
                                      obtain ⟨r508, er508, h⟩ := obind h
                                      have hsr := OA.ofD (L' := w.map Prod.fst) hD rfl hSz
                                      refine call_Q (vx_runSW (As := [.ref x0, .int (6 : Int32)]) (rest := []) ⟨hx, hb, hml, hown, hts⟩ (hq_count l hl9 z0 D t x0 r371.2 (6 : Int32) r508 er508 w hw H.size) (kH hts qw800 qw801 qw0 qw802 okL_count ⟨Nat.le_of_ble_eq_true rfl, Nat.le_of_ble_eq_true rfl⟩) ⟨PMH.blind, fun U hU hW => ⟨rfl, ⟨by rw [hU]; exact (hC.at hS hZ).warm hW, hN.moved hW.alike⟩, by rw [hU], by rw [hU]; exact hP, ⟨hD.1, fun _ _ h9 => Or.inl (in_map (L := w.map Prod.fst) rfl h9)⟩, fun q hq => hZ q (hsr q hq)⟩⟩ rfl rfl hl.1 rfl (lv_room (Nat.le_of_ble_eq_true rfl)) dL_law_485 ⟨by show (cz + 5) + 0 ≤ 600130; omega, by show (sq + 70) + 0 ≤ 7301080; omega⟩) hS hsr (fun w H locs hw hP hD1 hS _ _ => ?_)
                                      have hD : va_D (OA L0 s.heap.size) w := hD1.weaken (fun _ q _ h9 => hsr q.1 h9)
                                      have hSz : s.heap.size ≤ H.size := hS.1
                                      refine lv_iload hx hb dL_law_488 (lv_at hl 7 rfl) ?_
                                      refine lv_icmp_ne (tgt := 497) hx hb dL_law_490 (by decide) (fun hc => ?_) (fun hc => ?_)
                                      · have h := iteF hc h
                                        refine lv_iconst (v := (0)) hx hb dL_law_497 (by decide) ?_
                                        obtain rfl := Option.some.inj h
                                        exact hJ498_o507 ls H locs w (lv_sub hl [1, 2, 3] rfl) hw hP hD hS
                                      · have h := iteT hc h
                                        refine lv_iconst (v := (1)) hx hb dL_law_493 (by decide) ?_
                                        refine lv_goto (tgt := 498) hx hb dL_law_494 (by decide) ?_
                                        obtain rfl := Option.some.inj h
                                        exact hJ498_o507 ls H locs w (lv_sub hl [1, 2, 3] rfl) hw hP hD hS
                                  · have h := iteF hc h
                                    refine lv_iload hx hb dL_law_438 (lv_at hl 8 rfl) ?_
                                    refine lv_if_le (tgt := 473) hx hb dL_law_440 (by decide) (fun hc => ?_) (fun hc => ?_)
                                    · have h := iteT hc h
                                      refine lv_iconst (v := (0)) hx hb dL_law_473 (by decide) ?_
                                      refine lv_goto (tgt := 498) hx hb dL_law_474 (by decide) ?_
                                      obtain rfl := Option.some.inj h
                                      exact hJ498_o507 ls H locs w (lv_sub hl [1, 2, 3] rfl) hw hP hD hS
                                    · have h := iteF hc h
                                      refine lv_iload hx hb dL_law_443 (lv_at hl 11 rfl) ?_
                                      refine lv_iconst (v := (3)) hx hb dL_law_445 (by decide) ?_
                                      refine lv_imul hx hb dL_law_446 ?_
                                      refine lv_iload hx hb dL_law_447 (lv_at hl 7 rfl) ?_
                                      refine lv_icmp_ne (tgt := 473) hx hb dL_law_449 (by decide) (fun hc => ?_) (fun hc => ?_)
                                      · have h := iteF hc h
                                        refine lv_iconst (v := (0)) hx hb dL_law_473 (by decide) ?_
                                        refine lv_goto (tgt := 498) hx hb dL_law_474 (by decide) ?_
                                        obtain rfl := Option.some.inj h
                                        exact hJ498_o507 ls H locs w (lv_sub hl [1, 2, 3] rfl) hw hP hD hS
                                      · have h := iteT hc h
                                        refine lv_aload_n hx hb dL_law_452 rfl (lv_at hl 2 rfl) ?_
                                        refine lv_bipush (v := (6)) hx hb dL_law_453 (by decide) ?_
                                        obtain ⟨r509, er509, h⟩ := obind h
                                        have hsr := OA.ofD (L' := w.map Prod.fst) hD rfl hSz
                                        refine call_Q (vx_runSW (As := [.ref x0, .int (6 : Int32)]) (rest := []) ⟨hx, hb, hml, hown, hts⟩ (hq_count l hl9 z0 D t x0 r371.2 (6 : Int32) r509 er509 w hw H.size) (kH hts qw800 qw801 qw0 qw802 okL_count ⟨Nat.le_of_ble_eq_true rfl, Nat.le_of_ble_eq_true rfl⟩) ⟨PMH.blind, fun U hU hW => ⟨rfl, ⟨by rw [hU]; exact (hC.at hS hZ).warm hW, hN.moved hW.alike⟩, by rw [hU], by rw [hU]; exact hP, ⟨hD.1, fun _ _ h9 => Or.inl (in_map (L := w.map Prod.fst) rfl h9)⟩, fun q hq => hZ q (hsr q hq)⟩⟩ rfl rfl hl.1 rfl (lv_room (Nat.le_of_ble_eq_true rfl)) dL_law_455 ⟨by show (cz + 5) + 0 ≤ 600130; omega, by show (sq + 70) + 0 ≤ 7301080; omega⟩) hS hsr (fun w H locs hw hP hD1 hS _ _ => ?_)
                                        have hD : va_D (OA L0 s.heap.size) w := hD1.weaken (fun _ q _ h9 => hsr q.1 h9)
                                        have hSz : s.heap.size ≤ H.size := hS.1
                                        refine lv_if_ne (tgt := 473) hx hb dL_law_458 (by decide) (fun hc => ?_) (fun hc => ?_)
                                        · have h := iteF hc h
                                          refine lv_iconst (v := (0)) hx hb dL_law_473 (by decide) ?_
                                          refine lv_goto (tgt := 498) hx hb dL_law_474 (by decide) ?_
                                          obtain rfl := Option.some.inj h
                                          exact hJ498_o507 ls H locs w (lv_sub hl [1, 2, 3] rfl) hw hP hD hS
                                        · have h := iteT hc h
                                          refine lv_aload_n hx hb dL_law_461 rfl (lv_at hl 2 rfl) ?_
                                          obtain ⟨r510, er510, h⟩ := obind h
                                          have hsr := OA.ofD (L' := w.map Prod.fst) hD rfl hSz
                                          obtain ⟨fs9, h09⟩ := XG_h0 hw
                                          refine call_Q (va_runV (As := []) (rest := []) ⟨hx, hb, hml, hown, hts⟩ (hd_ways l hl9 z0 D t x0 r371.2 r510 er510 w hw H.size) (kV hts qw232 qw233 qw234 qw1 qw235 ok_X4_ways ⟨Nat.le_of_ble_eq_true rfl, Nat.le_of_ble_eq_true rfl⟩) ⟨PM.blind, va_recv hK hP (ci := 5) (q0 := 0) rfl h09, fun U hU hW => ⟨rfl, by rw [hU]; exact (hC.at hS hZ).warm hW, by rw [hU], by rw [hU]; exact hP, ⟨hD.1, fun _ _ h9 => Or.inl (in_map (L := w.map Prod.fst) rfl h9)⟩, fun q hq => hZ q (hsr q hq)⟩⟩ rfl rfl hl.1 rfl (lv_room (Nat.le_of_ble_eq_true rfl)) dL_law_462 ⟨by show (cz + 5) + 0 ≤ 600130; omega, by show (sq + 70) + 0 ≤ 7301080; omega⟩) hS hsr (fun w H locs hw hP hD1 hS _ _ => ?_)
                                          have hD : va_D (OA L0 s.heap.size) w := hD1.weaken (fun _ q _ h9 => hsr q.1 h9)
                                          have hSz : s.heap.size ≤ H.size := hS.1
                                          refine lv_iconst (v := (1)) hx hb dL_law_465 (by decide) ?_
                                          refine lv_icmp_ne (tgt := 473) hx hb dL_law_466 (by decide) (fun hc => ?_) (fun hc => ?_)
                                          · have h := iteF hc h
                                            refine lv_iconst (v := (0)) hx hb dL_law_473 (by decide) ?_
                                            refine lv_goto (tgt := 498) hx hb dL_law_474 (by decide) ?_
                                            obtain rfl := Option.some.inj h
                                            exact hJ498_o507 ls H locs w (lv_sub hl [1, 2, 3] rfl) hw hP hD hS
                                          · have h := iteT hc h
                                            refine lv_iconst (v := (1)) hx hb dL_law_469 (by decide) ?_
                                            refine lv_goto (tgt := 498) hx hb dL_law_470 (by decide) ?_
                                            obtain rfl := Option.some.inj h
                                            exact hJ498_o507 ls H locs w (lv_sub hl [1, 2, 3] rfl) hw hP hD hS
                          · have h := iteT hc h
                            refine lv_iload hx hb dL_law_353 (lv_at hl 12 rfl) ?_
                            obtain ⟨o514, eo514, h⟩ := obind h
                            have hJ411_o514 : ∀ (ls : Array Slot) (H : Heap) (locs : List Loc) (w : va_W), lv_has ls 17 [(0, .ref b), (1, .ref x0), (3, .int y3_70)] → XG t x0 o514.2 w → va_P D vwCl w H → va_D (OA L0 s.heap.size) w → va_S (OA L0 s.heap.size) s.heap H locs → W p l e room_1 s m #[Value.ref b] below meth c H locs (cz + 10) (sq + 140) (lw_Z below #[Value.ref b] s) (F0 m 411 ls [.int o514.1]) := by
                              intro ls H locs w hl hw hP hD hS
                              have hSz : s.heap.size ≤ H.size := hS.1
                              refine lv_istore_n (lv' := [(2, .int o514.1), (0, .ref b), (1, .ref x0), (3, .int y3_70)]) hx hb dL_law_411 rfl hl (by decide) rfl (fun ls hl => ?_)
                              refine lv_goto (tgt := 553) hx hb dL_law_412 (by decide) ?_
                              obtain rfl := Option.some.inj h
                              exact hJ553_o451 ls H locs w (lv_sub hl [1, 2, 0, 3] rfl) hw hP hD hS
                            have h := eo514
                            clear eo514
                            refine lv_if_eq (tgt := 406) hx hb dL_law_355 (by decide) (fun hc => ?_) (fun hc => ?_)
                            · have h := iteT hc h
                              refine lv_iconst (v := (1)) hx hb dL_law_406 (by decide) ?_
                              refine lv_goto (tgt := 411) hx hb dL_law_407 (by decide) ?_
                              obtain rfl := Option.some.inj h
                              refine W.widen (k := (cz + 10)) (n := (sq + 140)) (by omega) (by omega) ?_
                              exact hJ411_o514 ls H locs w (lv_sub hl [1, 2, 3] rfl) hw hP hD hS
                            · have h := iteF hc h
                              refine lv_iload hx hb dL_law_358 (lv_at hl 11 rfl) ?_
                              refine lv_iload hx hb dL_law_360 (lv_at hl 6 rfl) ?_
                              refine lv_iconst (v := (1)) hx hb dL_law_362 (by decide) ?_
                              refine lv_iadd hx hb dL_law_363 ?_
                              refine lv_icmp_ne (tgt := 410) hx hb dL_law_364 (by decide) (fun hc => ?_) (fun hc => ?_)
                              · have h := iteF hc h
                                refine lv_iconst (v := (0)) hx hb dL_law_410 (by decide) ?_
                                obtain rfl := Option.some.inj h
                                refine W.widen (k := (cz + 10)) (n := (sq + 140)) (by omega) (by omega) ?_
                                exact hJ411_o514 ls H locs w (lv_sub hl [1, 2, 3] rfl) hw hP hD hS
                              · have h := iteT hc h
                                refine lv_aload_n hx hb dL_law_367 rfl (lv_at hl 2 rfl) ?_
                                obtain ⟨r515, er515, h⟩ := obind h
                                have hsr := OA.ofD (L' := w.map Prod.fst) hD rfl hSz
                                obtain ⟨fs9, h09⟩ := XG_h0 hw
                                refine call_Q (va_runV (As := []) (rest := []) ⟨hx, hb, hml, hown, hts⟩ (hd_ways l hl9 z0 D t x0 r371.2 r515 er515 w hw H.size) (kV hts qw232 qw233 qw234 qw1 qw235 ok_X4_ways ⟨Nat.le_of_ble_eq_true rfl, Nat.le_of_ble_eq_true rfl⟩) ⟨PM.blind, va_recv hK hP (ci := 5) (q0 := 0) rfl h09, fun U hU hW => ⟨rfl, by rw [hU]; exact (hC.at hS hZ).warm hW, by rw [hU], by rw [hU]; exact hP, ⟨hD.1, fun _ _ h9 => Or.inl (in_map (L := w.map Prod.fst) rfl h9)⟩, fun q hq => hZ q (hsr q hq)⟩⟩ rfl rfl hl.1 rfl (lv_room (Nat.le_of_ble_eq_true rfl)) dL_law_368 ⟨by show (cz + 5) + 0 ≤ 600130; omega, by show (sq + 70) + 0 ≤ 7301080; omega⟩) hS hsr (fun w H locs hw hP hD1 hS _ _ => ?_)
                                have hD : va_D (OA L0 s.heap.size) w := hD1.weaken (fun _ q _ h9 => hsr q.1 h9)
                                have hSz : s.heap.size ≤ H.size := hS.1
                                refine lv_iload hx hb dL_law_371 (lv_at hl 8 rfl) ?_
                                refine lv_icmp_ne (tgt := 410) hx hb dL_law_373 (by decide) (fun hc => ?_) (fun hc => ?_)
                                · have h := iteF hc h
                                  refine lv_iconst (v := (0)) hx hb dL_law_410 (by decide) ?_
                                  obtain rfl := Option.some.inj h
                                  refine W.widen (k := (cz + 10)) (n := (sq + 140)) (by omega) (by omega) ?_
                                  exact hJ411_o514 ls H locs w (lv_sub hl [1, 2, 3] rfl) hw hP hD hS
                                · have h := iteT hc h
                                  refine lv_aload_n hx hb dL_law_376 rfl (lv_at hl 2 rfl) ?_
                                  refine lv_iload hx hb dL_law_377 (lv_at hl 9 rfl) ?_
                                  refine lv_iload hx hb dL_law_379 (lv_at hl 10 rfl) ?_
                                  refine lv_iload hx hb dL_law_381 (lv_at hl 4 rfl) ?_
                                  refine lv_bipush (v := (64)) hx hb dL_law_383 (by decide) ?_
                                  refine lv_idiv hx hb dL_law_385 (by decide) ?_
                                  refine lv_iconst (v := (2)) hx hb dL_law_386 (by decide) ?_
                                  refine lv_irem hx hb dL_law_387 (by decide) ?_
                                  obtain ⟨o516, eo516, h⟩ := obind h
                                  have hJ396_o516 : ∀ (ls : Array Slot) (H : Heap) (locs : List Loc) (w : va_W), lv_has ls 17 [(0, .ref b), (1, .ref x0), (3, .int y3_70), (15, .int r371.1)] → XG t x0 r371.2 w → va_P D vwCl w H → va_D (OA L0 s.heap.size) w → va_S (OA L0 s.heap.size) s.heap H locs → W p l e room_1 s m #[Value.ref b] below meth c H locs (cz + 5) (sq + 70) (lw_Z below #[Value.ref b] s) (F0 m 396 ls [.int o516, .int x367, .int x364, .ref x0]) := by
                                    intro ls H locs w hl hw hP hD hS
                                    have hSz : s.heap.size ≤ H.size := hS.1
                                    obtain ⟨r517, er517, h⟩ := obind h
                                    have hsr := OA.ofD (L' := w.map Prod.fst) hD rfl hSz
                                    refine call_Q (vx_runSW (As := [.ref x0, .int x364, .int x367, .int o516]) (rest := []) ⟨hx, hb, hml, hown, hts⟩ (hm_flip l hl9 z0 D t x0 r371.2 x364 x367 o516 r517 er517 w hw H.size) (kH hts qw662 qw663 qw0 qw664 okL_flip ⟨Nat.le_of_ble_eq_true rfl, Nat.le_of_ble_eq_true rfl⟩) ⟨PMH.blind, fun U hU hW => ⟨rfl, ⟨by rw [hU]; exact (hC.at hS hZ).warm hW, hN.moved hW.alike⟩, by rw [hU], by rw [hU]; exact hP, ⟨hD.1, fun _ _ h9 => Or.inl (in_map (L := w.map Prod.fst) rfl h9)⟩, fun q hq => hZ q (hsr q hq)⟩⟩ rfl rfl hl.1 rfl (lv_room (Nat.le_of_ble_eq_true rfl)) dL_law_396 ⟨by show (cz + 5) + 5 ≤ 600130; omega, by show (sq + 70) + 70 ≤ 7301080; omega⟩) hS hsr (fun w H locs hw hP hD1 hS _ _ => ?_)
                                    refine W.widen (k := (cz + 10)) (n := (sq + 140)) (by omega) (by omega) ?_
                                    have hD : va_D (OA L0 s.heap.size) w := hD1.weaken (fun _ q _ h9 => hsr q.1 h9)
                                    have hSz : s.heap.size ≤ H.size := hS.1
                                    refine lv_iload hx hb dL_law_399 (lv_at hl 3 rfl) ?_
                                    refine lv_iconst (v := (1)) hx hb dL_law_401 (by decide) ?_
                                    refine lv_iadd hx hb dL_law_402 ?_
                                    refine lv_icmp_ne (tgt := 410) hx hb dL_law_403 (by decide) (fun hc => ?_) (fun hc => ?_)
                                    · have h := iteF hc h
                                      refine lv_iconst (v := (0)) hx hb dL_law_410 (by decide) ?_
                                      obtain rfl := Option.some.inj h
                                      exact hJ411_o514 ls H locs w (lv_sub hl [0, 1, 2] rfl) hw hP hD hS
                                    · have h := iteT hc h
                                      refine lv_iconst (v := (1)) hx hb dL_law_406 (by decide) ?_
                                      refine lv_goto (tgt := 411) hx hb dL_law_407 (by decide) ?_
                                      obtain rfl := Option.some.inj h
                                      exact hJ411_o514 ls H locs w (lv_sub hl [0, 1, 2] rfl) hw hP hD hS
                                  have h := eo516
                                  clear eo516
                                  refine lv_if_ne (tgt := 395) hx hb dL_law_388 (by decide) (fun hc => ?_) (fun hc => ?_)
                                  · have h := iteF hc h
                                    refine lv_iconst (v := (0)) hx hb dL_law_395 (by decide) ?_
                                    obtain rfl := Option.some.inj h
                                    exact hJ396_o516 ls H locs w (lv_sub hl [1, 2, 3, 11] rfl) hw hP hD hS
                                  · have h := iteT hc h
                                    refine lv_iconst (v := (1)) hx hb dL_law_391 (by decide) ?_
                                    refine lv_goto (tgt := 396) hx hb dL_law_392 (by decide) ?_
                                    obtain rfl := Option.some.inj h
                                    exact hJ396_o516 ls H locs w (lv_sub hl [1, 2, 3, 11] rfl) hw hP hD hS
                    have h := eo380
                    clear eo380
                    refine lv_if_eq (tgt := 333) hx hb dL_law_270 (by decide) (fun hc => ?_) (fun hc => ?_)
                    · have h := iteT hc h
                      refine lv_iconst (v := (0)) hx hb dL_law_333 (by decide) ?_
                      obtain rfl := Option.some.inj h
                      exact hJ334_o380 ls H locs w (lv_sub hl [1, 2, 3, 4, 5, 7, 8, 9, 10, 11, 13, 14] rfl) hw hP hD hS
                    · have h := iteF hc h
                      refine lv_iload hx hb dL_law_273 (lv_at hl 12 rfl) ?_
                      refine lv_if_lt (tgt := 329) hx hb dL_law_275 (by decide) (fun hc => ?_) (fun hc => ?_)
                      · have h := iteT hc h
                        refine lv_iconst (v := (1)) hx hb dL_law_329 (by decide) ?_
                        refine lv_goto (tgt := 334) hx hb dL_law_330 (by decide) ?_
                        obtain rfl := Option.some.inj h
                        exact hJ334_o380 ls H locs w (lv_sub hl [1, 2, 3, 4, 5, 7, 8, 9, 10, 11, 13, 14] rfl) hw hP hD hS
                      · have h := iteF hc h
                        refine lv_iload hx hb dL_law_278 (lv_at hl 13 rfl) ?_
                        refine lv_iload hx hb dL_law_280 (lv_at hl 12 rfl) ?_
                        refine lv_icmp_ne (tgt := 333) hx hb dL_law_282 (by decide) (fun hc => ?_) (fun hc => ?_)
                        · have h := iteF hc h
                          refine lv_iconst (v := (0)) hx hb dL_law_333 (by decide) ?_
                          obtain rfl := Option.some.inj h
                          exact hJ334_o380 ls H locs w (lv_sub hl [1, 2, 3, 4, 5, 7, 8, 9, 10, 11, 13, 14] rfl) hw hP hD hS
                        · have h := iteT hc h
                          refine lv_aload_n hx hb dL_law_285 rfl (lv_at hl 2 rfl) ?_
                          refine lv_bipush (v := (10)) hx hb dL_law_286 (by decide) ?_
                          obtain ⟨r381, er381, h⟩ := obind h
                          have hsr := OA.ofD (L' := w.map Prod.fst) hD rfl hSz
                          refine call_Q (vx_runSW (As := [.ref x0, .int (10 : Int32)]) (rest := []) ⟨hx, hb, hml, hown, hts⟩ (hq_count l hl9 z0 D t x0 r371.2 (10 : Int32) r381 er381 w hw H.size) (kH hts qw800 qw801 qw0 qw802 okL_count ⟨Nat.le_of_ble_eq_true rfl, Nat.le_of_ble_eq_true rfl⟩) ⟨PMH.blind, fun U hU hW => ⟨rfl, ⟨by rw [hU]; exact (hC.at hS hZ).warm hW, hN.moved hW.alike⟩, by rw [hU], by rw [hU]; exact hP, ⟨hD.1, fun _ _ h9 => Or.inl (in_map (L := w.map Prod.fst) rfl h9)⟩, fun q hq => hZ q (hsr q hq)⟩⟩ rfl rfl hl.1 rfl (lv_room (Nat.le_of_ble_eq_true rfl)) dL_law_288 ⟨by show (cz + 5) + 0 ≤ 600130; omega, by show (sq + 70) + 0 ≤ 7301080; omega⟩) hS hsr (fun w H locs hw hP hD1 hS _ _ => ?_)
                          have hD : va_D (OA L0 s.heap.size) w := hD1.weaken (fun _ q _ h9 => hsr q.1 h9)
                          have hSz : s.heap.size ≤ H.size := hS.1
                          refine lv_iload hx hb dL_law_291 (lv_at hl 6 rfl) ?_
                          refine lv_iload hx hb dL_law_293 (lv_at hl 12 rfl) ?_
                          obtain ⟨o382, eo382, h⟩ := obind h
                          have hJ303_o382 : ∀ (ls : Array Slot) (H : Heap) (locs : List Loc) (w : va_W), lv_has ls 17 [(0, .ref b), (1, .ref x0), (3, .int y3_70), (5, .int x355), (6, .int x356), (9, .int r359), (10, .int r360), (11, .int r361), (12, .int x364), (13, .int x367), (14, .int o369), (15, .int r371.1), (16, .int o372)] → XG t x0 r371.2 w → va_P D vwCl w H → va_D (OA L0 s.heap.size) w → va_S (OA L0 s.heap.size) s.heap H locs → W p l e room_1 s m #[Value.ref b] below meth c H locs (cz + 5) (sq + 70) (lw_Z below #[Value.ref b] s) (F0 m 303 ls [.int o382, .int r358, .int r381]) := by
                            intro ls H locs w hl hw hP hD hS
                            have hSz : s.heap.size ≤ H.size := hS.1
                            refine lv_iadd hx hb dL_law_303 ?_
                            refine lv_icmp_ne (tgt := 333) hx hb dL_law_304 (by decide) (fun hc => ?_) (fun hc => ?_)
                            · have h := iteF hc h
                              refine lv_iconst (v := (0)) hx hb dL_law_333 (by decide) ?_
                              obtain rfl := Option.some.inj h
                              exact hJ334_o380 ls H locs w (lv_sub hl [0, 1, 2, 3, 4, 5, 6, 7, 8, 9, 11, 12] rfl) hw hP hD hS
                            · have h := iteT hc h
                              refine lv_aload_n hx hb dL_law_307 rfl (lv_at hl 1 rfl) ?_
                              refine lv_bipush (v := (6)) hx hb dL_law_308 (by decide) ?_
                              obtain ⟨r383, er383, h⟩ := obind h
                              have hsr := OA.ofD (L' := w.map Prod.fst) hD rfl hSz
                              refine call_Q (vx_runSW (As := [.ref x0, .int (6 : Int32)]) (rest := []) ⟨hx, hb, hml, hown, hts⟩ (hq_count l hl9 z0 D t x0 r371.2 (6 : Int32) r383 er383 w hw H.size) (kH hts qw800 qw801 qw0 qw802 okL_count ⟨Nat.le_of_ble_eq_true rfl, Nat.le_of_ble_eq_true rfl⟩) ⟨PMH.blind, fun U hU hW => ⟨rfl, ⟨by rw [hU]; exact (hC.at hS hZ).warm hW, hN.moved hW.alike⟩, by rw [hU], by rw [hU]; exact hP, ⟨hD.1, fun _ _ h9 => Or.inl (in_map (L := w.map Prod.fst) rfl h9)⟩, fun q hq => hZ q (hsr q hq)⟩⟩ rfl rfl hl.1 rfl (lv_room (Nat.le_of_ble_eq_true rfl)) dL_law_310 ⟨by show (cz + 5) + 0 ≤ 600130; omega, by show (sq + 70) + 0 ≤ 7301080; omega⟩) hS hsr (fun w H locs hw hP hD1 hS _ _ => ?_)
                              have hD : va_D (OA L0 s.heap.size) w := hD1.weaken (fun _ q _ h9 => hsr q.1 h9)
                              have hSz : s.heap.size ≤ H.size := hS.1
                              refine lv_iload hx hb dL_law_313 (lv_at hl 6 rfl) ?_
                              refine lv_iload hx hb dL_law_315 (lv_at hl 10 rfl) ?_
                              obtain ⟨o384, eo384, h⟩ := obind h
                              have hJ325_o384 : ∀ (ls : Array Slot) (H : Heap) (locs : List Loc) (w : va_W), lv_has ls 17 [(0, .ref b), (1, .ref x0), (3, .int y3_70), (5, .int x355), (6, .int x356), (9, .int r359), (10, .int r360), (11, .int r361), (12, .int x364), (13, .int x367), (15, .int r371.1), (16, .int o372)] → XG t x0 r371.2 w → va_P D vwCl w H → va_D (OA L0 s.heap.size) w → va_S (OA L0 s.heap.size) s.heap H locs → W p l e room_1 s m #[Value.ref b] below meth c H locs (cz + 5) (sq + 70) (lw_Z below #[Value.ref b] s) (F0 m 325 ls [.int o384, .int r360, .int r383]) := by
                                intro ls H locs w hl hw hP hD hS
                                have hSz : s.heap.size ≤ H.size := hS.1
                                refine lv_isub hx hb dL_law_325 ?_
                                refine lv_icmp_ne (tgt := 333) hx hb dL_law_326 (by decide) (fun hc => ?_) (fun hc => ?_)
                                · have h := iteF hc h
                                  refine lv_iconst (v := (0)) hx hb dL_law_333 (by decide) ?_
                                  obtain rfl := Option.some.inj h
                                  exact hJ334_o380 ls H locs w (lv_sub hl [0, 1, 2, 3, 4, 5, 6, 7, 8, 9, 10, 11] rfl) hw hP hD hS
                                · have h := iteT hc h
                                  refine lv_iconst (v := (1)) hx hb dL_law_329 (by decide) ?_
                                  refine lv_goto (tgt := 334) hx hb dL_law_330 (by decide) ?_
                                  obtain rfl := Option.some.inj h
                                  exact hJ334_o380 ls H locs w (lv_sub hl [0, 1, 2, 3, 4, 5, 6, 7, 8, 9, 10, 11] rfl) hw hP hD hS
                              have h := eo384
                              clear eo384
                              refine lv_if_le (tgt := 324) hx hb dL_law_317 (by decide) (fun hc => ?_) (fun hc => ?_)
                              · have h := iteT hc h
                                refine lv_iconst (v := (3)) hx hb dL_law_324 (by decide) ?_
                                obtain rfl := Option.some.inj h
                                exact hJ325_o384 ls H locs w (lv_sub hl [0, 1, 2, 3, 4, 5, 6, 7, 8, 9, 11, 12] rfl) hw hP hD hS
                              · have h := iteF hc h
                                refine lv_iconst (v := (0)) hx hb dL_law_320 (by decide) ?_
                                refine lv_goto (tgt := 325) hx hb dL_law_321 (by decide) ?_
                                obtain rfl := Option.some.inj h
                                exact hJ325_o384 ls H locs w (lv_sub hl [0, 1, 2, 3, 4, 5, 6, 7, 8, 9, 11, 12] rfl) hw hP hD hS
                          have h := eo382
                          clear eo382
                          refine lv_if_le (tgt := 302) hx hb dL_law_295 (by decide) (fun hc => ?_) (fun hc => ?_)
                          · have h := iteT hc h
                            refine lv_iconst (v := (0)) hx hb dL_law_302 (by decide) ?_
                            obtain rfl := Option.some.inj h
                            exact hJ303_o382 ls H locs w (lv_sub hl [1, 2, 3, 4, 5, 7, 8, 9, 10, 11, 12, 13, 14] rfl) hw hP hD hS
                          · have h := iteF hc h
                            refine lv_iconst (v := (1)) hx hb dL_law_298 (by decide) ?_
                            refine lv_goto (tgt := 303) hx hb dL_law_299 (by decide) ?_
                            obtain rfl := Option.some.inj h
                            exact hJ303_o382 ls H locs w (lv_sub hl [1, 2, 3, 4, 5, 7, 8, 9, 10, 11, 12, 13, 14] rfl) hw hP hD hS
                  have h := eo375
                  clear eo375
                  refine lv_icmp_ne (tgt := 267) hx hb dL_law_260 (by decide) (fun hc => ?_) (fun hc => ?_)
                  · have h := iteF hc h
                    refine lv_iconst (v := (0)) hx hb dL_law_267 (by decide) ?_
                    obtain rfl := Option.some.inj h
                    exact hJ268_o375 ls H locs w (lv_sub hl [0, 1, 2, 3, 4, 5, 6, 7, 8, 9, 10, 11, 12, 13] rfl) hw hP hD hS
                  · have h := iteT hc h
                    refine lv_iconst (v := (1)) hx hb dL_law_263 (by decide) ?_
                    refine lv_goto (tgt := 268) hx hb dL_law_264 (by decide) ?_
                    obtain rfl := Option.some.inj h
                    exact hJ268_o375 ls H locs w (lv_sub hl [0, 1, 2, 3, 4, 5, 6, 7, 8, 9, 10, 11, 12, 13] rfl) hw hP hD hS
                have h := eo374
                clear eo374
                refine lv_if_eq (tgt := 251) hx hb dL_law_226 (by decide) (fun hc => ?_) (fun hc => ?_)
                · have h := iteT hc h
                  refine lv_iload hx hb dL_law_251 (lv_at hl 6 rfl) ?_
                  refine lv_goto (tgt := 260) hx hb dL_law_253 (by decide) ?_
                  obtain rfl := Option.some.inj h
                  exact hJ260_o374 ls H locs w (lv_sub hl [1, 2, 3, 4, 5, 7, 8, 9, 10, 11, 12, 13, 14, 0] rfl) hw hP hD hS
                · have h := iteF hc h
                  refine lv_iload hx hb dL_law_229 (lv_at hl 5 rfl) ?_
                  refine lv_bipush (v := (15)) hx hb dL_law_231 (by decide) ?_
                  refine lv_icmp_ne (tgt := 244) hx hb dL_law_233 (by decide) (fun hc => ?_) (fun hc => ?_)
                  · have h := iteF hc h
                    refine lv_iload hx hb dL_law_244 (lv_at hl 6 rfl) ?_
                    refine lv_bipush (v := (6)) hx hb dL_law_246 (by decide) ?_
                    refine lv_icmp_ne (tgt := 256) hx hb dL_law_248 (by decide) (fun hc => ?_) (fun hc => ?_)
                    · have h := iteF hc h
                      refine lv_iload hx hb dL_law_256 (lv_at hl 6 rfl) ?_
                      refine lv_iconst (v := (1)) hx hb dL_law_258 (by decide) ?_
                      refine lv_iadd hx hb dL_law_259 ?_
                      obtain rfl := Option.some.inj h
                      exact hJ260_o374 ls H locs w (lv_sub hl [1, 2, 3, 4, 5, 7, 8, 9, 10, 11, 12, 13, 14, 0] rfl) hw hP hD hS
                    · have h := iteT hc h
                      refine lv_iload hx hb dL_law_251 (lv_at hl 6 rfl) ?_
                      refine lv_goto (tgt := 260) hx hb dL_law_253 (by decide) ?_
                      obtain rfl := Option.some.inj h
                      exact hJ260_o374 ls H locs w (lv_sub hl [1, 2, 3, 4, 5, 7, 8, 9, 10, 11, 12, 13, 14, 0] rfl) hw hP hD hS
                  · have h := iteT hc h
                    refine lv_iload hx hb dL_law_236 (lv_at hl 4 rfl) ?_
                    refine lv_iconst (v := (2)) hx hb dL_law_238 (by decide) ?_
                    refine lv_irem hx hb dL_law_239 (by decide) ?_
                    refine lv_iconst (v := (1)) hx hb dL_law_240 (by decide) ?_
                    refine lv_icmp_eq (tgt := 251) hx hb dL_law_241 (by decide) (fun hc => ?_) (fun hc => ?_)
                    · have h := iteT hc h
                      refine lv_iload hx hb dL_law_251 (lv_at hl 6 rfl) ?_
                      refine lv_goto (tgt := 260) hx hb dL_law_253 (by decide) ?_
                      obtain rfl := Option.some.inj h
                      exact hJ260_o374 ls H locs w (lv_sub hl [1, 2, 3, 4, 5, 7, 8, 9, 10, 11, 12, 13, 14, 0] rfl) hw hP hD hS
                    · have h := iteF hc h
                      refine lv_iload hx hb dL_law_244 (lv_at hl 6 rfl) ?_
                      refine lv_bipush (v := (6)) hx hb dL_law_246 (by decide) ?_
                      refine lv_icmp_ne (tgt := 256) hx hb dL_law_248 (by decide) (fun hc => ?_) (fun hc => ?_)
                      · have h := iteF hc h
                        refine lv_iload hx hb dL_law_256 (lv_at hl 6 rfl) ?_
                        refine lv_iconst (v := (1)) hx hb dL_law_258 (by decide) ?_
                        refine lv_iadd hx hb dL_law_259 ?_
                        obtain rfl := Option.some.inj h
                        exact hJ260_o374 ls H locs w (lv_sub hl [1, 2, 3, 4, 5, 7, 8, 9, 10, 11, 12, 13, 14, 0] rfl) hw hP hD hS
                      · have h := iteT hc h
                        refine lv_iload hx hb dL_law_251 (lv_at hl 6 rfl) ?_
                        refine lv_goto (tgt := 260) hx hb dL_law_253 (by decide) ?_
                        obtain rfl := Option.some.inj h
                        exact hJ260_o374 ls H locs w (lv_sub hl [1, 2, 3, 4, 5, 7, 8, 9, 10, 11, 12, 13, 14, 0] rfl) hw hP hD hS
              have h := eo372
              clear eo372
              refine lv_icmp_le (tgt := 215) hx hb dL_law_208 (by decide) (fun hc => ?_) (fun hc => ?_)
              · have h := iteT hc h
                refine lv_iconst (v := (0)) hx hb dL_law_215 (by decide) ?_
                obtain rfl := Option.some.inj h
                exact hJ216_o372 ls H locs w (lv_sub hl [2, 3, 4, 6, 7, 8, 9, 10, 11, 12, 13, 14, 1, 0] rfl) hw hP hD hS
              · have h := iteF hc h
                refine lv_iconst (v := (1)) hx hb dL_law_211 (by decide) ?_
                refine lv_goto (tgt := 216) hx hb dL_law_212 (by decide) ?_
                obtain rfl := Option.some.inj h
                exact hJ216_o372 ls H locs w (lv_sub hl [2, 3, 4, 6, 7, 8, 9, 10, 11, 12, 13, 14, 1, 0] rfl) hw hP hD hS
            have h := eo369
            clear eo369
            refine lv_icmp_le (tgt := 193) hx hb dL_law_165 (by decide) (fun hc => ?_) (fun hc => ?_)
            · have h := iteT hc h
              refine lv_iconst (v := (-1)) hx hb dL_law_193 (by decide) ?_
              obtain rfl := Option.some.inj h
              exact hJ194_o369 ls H locs w (lv_sub hl [10, 11, 13, 9, 8, 7, 6, 5, 4, 3, 2, 1, 0] rfl) hw hP hD hS
            · have h := iteF hc h
              refine lv_iload hx hb dL_law_168 (lv_at hl 7 rfl) ?_
              refine lv_bipush (v := (9)) hx hb dL_law_170 (by decide) ?_
              refine lv_icmp_ge (tgt := 193) hx hb dL_law_172 (by decide) (fun hc => ?_) (fun hc => ?_)
              · have h := iteT hc h
                refine lv_iconst (v := (-1)) hx hb dL_law_193 (by decide) ?_
                obtain rfl := Option.some.inj h
                exact hJ194_o369 ls H locs w (lv_sub hl [10, 11, 13, 9, 8, 7, 6, 5, 4, 3, 2, 1, 0] rfl) hw hP hD hS
              · have h := iteF hc h
                refine lv_aload_n hx hb dL_law_175 rfl (lv_at hl 11 rfl) ?_
                refine lv_iload hx hb dL_law_176 (lv_at hl 1 rfl) ?_
                refine lv_iload hx hb dL_law_178 (lv_at hl 0 rfl) ?_
                refine lv_iload hx hb dL_law_180 (lv_at hl 8 rfl) ?_
                refine lv_bipush (v := (64)) hx hb dL_law_182 (by decide) ?_
                refine lv_idiv hx hb dL_law_184 (by decide) ?_
                refine lv_iconst (v := (4)) hx hb dL_law_185 (by decide) ?_
                refine lv_irem hx hb dL_law_186 (by decide) ?_
                obtain ⟨r370, er370, h⟩ := obind h
                have hsr := OA.ofD (L' := w.map Prod.fst) hD rfl hSz
                refine call_Q (vx_runSW (As := [.ref x0, .int x364, .int x367, .int ((x355 / (64 : Int32)) - (x355 / (64 : Int32)) / (4 : Int32) * (4 : Int32))]) (rest := []) ⟨hx, hb, hml, hown, hts⟩ (hq_whyNot l hl9 z0 D t x0 st_70 x364 x367 ((x355 / (64 : Int32)) - (x355 / (64 : Int32)) / (4 : Int32) * (4 : Int32)) r370 er370 w hw H.size) (kH hts qw818 qw819 qw0 qw820 okL_whyNot ⟨Nat.le_of_ble_eq_true rfl, Nat.le_of_ble_eq_true rfl⟩) ⟨PMH.blind, fun U hU hW => ⟨rfl, ⟨by rw [hU]; exact (hC.at hS hZ).warm hW, hN.moved hW.alike⟩, by rw [hU], by rw [hU]; exact hP, ⟨hD.1, fun _ _ h9 => Or.inl (in_map (L := w.map Prod.fst) rfl h9)⟩, fun q hq => hZ q (hsr q hq)⟩⟩ rfl rfl hl.1 rfl (lv_room (Nat.le_of_ble_eq_true rfl)) dL_law_187 ⟨by show cz + 0 ≤ 600130; omega, by show sq + 0 ≤ 7301080; omega⟩) hS hsr (fun w H locs hw hP hD1 hS _ _ => ?_)
                have hD : va_D (OA L0 s.heap.size) w := hD1.weaken (fun _ q _ h9 => hsr q.1 h9)
                have hSz : s.heap.size ≤ H.size := hS.1
                refine lv_goto (tgt := 194) hx hb dL_law_190 (by decide) ?_
                obtain rfl := Option.some.inj h
                exact hJ194_o369 ls H locs w (lv_sub hl [10, 11, 13, 9, 8, 7, 6, 5, 4, 3, 2, 1, 0] rfl) hw hP hD hS
    refine hL70 _ (Nat.le_refl _) _ _ _ _ eo353 (fun ls H locs w hl hw hP hD hS => ?_) ls H locs w (lv_sub hl [2, 3, 1, 0] rfl) hw hP hD hS
    have hSz : s.heap.size ≤ H.size := hS.1
    refine lv_iload_n hx hb dL_law_583 rfl (lv_at hl 1 rfl) ?_
    obtain ⟨o525, eo525, h⟩ := obind h
    have hJ595_o525 : ∀ (ls : Array Slot) (H : Heap) (locs : List Loc) (w : va_W), lv_has ls 17 [(1, .ref x0), (2, .int o353.1)] → XG t x0 o353.2 w → va_P D vwCl w H → va_D (OA L0 s.heap.size) w → va_S (OA L0 s.heap.size) s.heap H locs → W p l e room_1 s m #[Value.ref b] below meth c H locs 518 40861 (lw_Z below #[Value.ref b] s) (F0 m 595 ls [.int o525]) := by
      intro ls H locs w hl hw hP hD hS
      have hSz : s.heap.size ≤ H.size := hS.1
      refine lv_istore_n (lv' := [(3, .int o525), (1, .ref x0), (2, .int o353.1)]) hx hb dL_law_595 rfl hl (by decide) rfl (fun ls hl => ?_)
      refine lv_iload_n hx hb dL_law_596 rfl (lv_at hl 2 rfl) ?_
      obtain ⟨o538, eo538, h⟩ := obind h
      have hJ663_o538 : ∀ (ls : Array Slot) (H : Heap) (locs : List Loc) (w : va_W), lv_has ls 17 [(1, .ref x0), (2, .int o538.1)] → XG t x0 o538.2 w → va_P D vwCl w H → va_D (OA L0 s.heap.size) w → va_S (OA L0 s.heap.size) s.heap H locs → W p l e room_1 s m #[Value.ref b] below meth c H locs 528 41001 (lw_Z below #[Value.ref b] s) (F0 m 663 ls []) := by
        intro ls H locs w hl hw hP hD hS
        have hSz : s.heap.size ≤ H.size := hS.1
        refine lv_iload_n hx hb dL_law_663 rfl (lv_at hl 1 rfl) ?_
        refine lv_if_eq (tgt := 828) hx hb dL_law_664 (by decide) (fun hc => ?_) (fun hc => ?_)
        · have h := iteT hc h
          refine lv_iconst (v := (0)) hx hb dL_law_828 (by decide) ?_
          exact absurd (Option.some.inj h) (by decide)
        · have h := iteF hc h
          refine lv_aload_n hx hb dL_law_667 rfl (lv_at hl 0 rfl) ?_
          obtain ⟨r550, er550, h⟩ := obind h
          have hsr := OA.ofD (L' := w.map Prod.fst) hD rfl hSz
          refine call_Q (va_runS (As := [.ref x0]) (rest := []) ⟨hx, hb, hml, hown, hts⟩ (c_L_hangs l hl9 z0 D t x0 o538.2 r550 er550 w hw H.size) (kS hts qw895 qw896 qw0 qw897 ok_L_hangs ⟨Nat.le_of_ble_eq_true rfl, Nat.le_of_ble_eq_true rfl⟩) ⟨PMH.blind, fun U hU hW => ⟨rfl, ⟨by rw [hU]; exact (hC.at hS hZ).warm hW, hN.moved hW.alike⟩, by rw [hU], by rw [hU]; exact hP, ⟨hD.1, fun _ _ h9 => Or.inl (in_map (L := w.map Prod.fst) rfl h9)⟩, fun q hq => hZ q (hsr q hq)⟩⟩ rfl rfl hl.1 rfl (lv_room (Nat.le_of_ble_eq_true rfl)) dL_law_668 ⟨by show 528 + 3 ≤ 600130; omega, by show 41001 + 18 ≤ 7301080; omega⟩) hS hsr (fun w H locs hw hP hD1 hS _ _ => ?_)
          refine W.widen (k := 531) (n := 41019) (by omega) (by omega) ?_
          have hD : va_D (OA L0 s.heap.size) w := hD1.weaken (fun _ q _ h9 => hsr q.1 h9)
          have hSz : s.heap.size ≤ H.size := hS.1
          refine lv_if_eq (tgt := 828) hx hb dL_law_671 (by decide) (fun hc => ?_) (fun hc => ?_)
          · have h := iteT hc h
            refine lv_iconst (v := (0)) hx hb dL_law_828 (by decide) ?_
            exact absurd (Option.some.inj h) (by decide)
          · have h := iteF hc h
            refine lv_aload_n hx hb dL_law_674 rfl (lv_at hl 0 rfl) ?_
            refine lv_bipush (v := (9)) hx hb dL_law_675 (by decide) ?_
            refine lv_iconst (v := (2)) hx hb dL_law_677 (by decide) ?_
            obtain ⟨r551, er551, h⟩ := obind h
            have hsr := OA.ofD (L' := w.map Prod.fst) hD rfl hSz
            refine call_Q (vx_runSW (As := [.ref x0, .int (9 : Int32), .int (2 : Int32)]) (rest := []) ⟨hx, hb, hml, hown, hts⟩ (hm_garden l hl9 z0 D t x0 o538.2 (9 : Int32) (2 : Int32) r551 er551 w hw H.size) (kH hts qw378 qw379 qw0 qw380 okL_garden ⟨Nat.le_of_ble_eq_true rfl, Nat.le_of_ble_eq_true rfl⟩) ⟨PMH.blind, fun U hU hW => ⟨rfl, ⟨by rw [hU]; exact (hC.at hS hZ).warm hW, hN.moved hW.alike⟩, by rw [hU], by rw [hU]; exact hP, ⟨hD.1, fun _ _ h9 => Or.inl (in_map (L := w.map Prod.fst) rfl h9)⟩, fun q hq => hZ q (hsr q hq)⟩⟩ rfl rfl hl.1 rfl (lv_room (Nat.le_of_ble_eq_true rfl)) dL_law_678 ⟨by show 531 + 5 ≤ 600130; omega, by show 41019 + 70 ≤ 7301080; omega⟩) hS hsr (fun w H locs hw hP hD1 hS _ _ => ?_)
            refine W.widen (k := 536) (n := 41089) (by omega) (by omega) ?_
            have hD : va_D (OA L0 s.heap.size) w := hD1.weaken (fun _ q _ h9 => hsr q.1 h9)
            have hSz : s.heap.size ≤ H.size := hS.1
            refine lv_ldc (v := (-2000001)) hx hb hown (hts _ qw544) dL_law_681 ?_
            refine lv_icmp_ne (tgt := 828) hx hb dL_law_683 (by decide) (fun hc => ?_) (fun hc => ?_)
            · have h := iteF hc h
              refine lv_iconst (v := (0)) hx hb dL_law_828 (by decide) ?_
              exact absurd (Option.some.inj h) (by decide)
            · have h := iteT hc h
              refine lv_aload_n hx hb dL_law_686 rfl (lv_at hl 0 rfl) ?_
              refine lv_iconst (v := (-1)) hx hb dL_law_687 (by decide) ?_
              refine lv_iconst (v := (0)) hx hb dL_law_688 (by decide) ?_
              obtain ⟨r552, er552, h⟩ := obind h
              have hsr := OA.ofD (L' := w.map Prod.fst) hD rfl hSz
              refine call_Q (vx_runSW (As := [.ref x0, .int (-1 : Int32), .int (0 : Int32)]) (rest := []) ⟨hx, hb, hml, hown, hts⟩ (hm_pond l hl9 z0 D t x0 r551.2 (-1 : Int32) (0 : Int32) r552 er552 w hw H.size) (kH hts qw545 qw546 qw0 qw547 okL_pond ⟨Nat.le_of_ble_eq_true rfl, Nat.le_of_ble_eq_true rfl⟩) ⟨PMH.blind, fun U hU hW => ⟨rfl, ⟨by rw [hU]; exact (hC.at hS hZ).warm hW, hN.moved hW.alike⟩, by rw [hU], by rw [hU]; exact hP, ⟨hD.1, fun _ _ h9 => Or.inl (in_map (L := w.map Prod.fst) rfl h9)⟩, fun q hq => hZ q (hsr q hq)⟩⟩ rfl rfl hl.1 rfl (lv_room (Nat.le_of_ble_eq_true rfl)) dL_law_689 ⟨by show 536 + 5 ≤ 600130; omega, by show 41089 + 70 ≤ 7301080; omega⟩) hS hsr (fun w H locs hw hP hD1 hS _ _ => ?_)
              refine W.widen (k := 541) (n := 41159) (by omega) (by omega) ?_
              have hD : va_D (OA L0 s.heap.size) w := hD1.weaken (fun _ q _ h9 => hsr q.1 h9)
              have hSz : s.heap.size ≤ H.size := hS.1
              refine lv_ldc (v := (-2000001)) hx hb hown (hts _ qw544) dL_law_692 ?_
              refine lv_icmp_ne (tgt := 828) hx hb dL_law_694 (by decide) (fun hc => ?_) (fun hc => ?_)
              · have h := iteF hc h
                refine lv_iconst (v := (0)) hx hb dL_law_828 (by decide) ?_
                exact absurd (Option.some.inj h) (by decide)
              · have h := iteT hc h
                refine lv_aload_n hx hb dL_law_697 rfl (lv_at hl 0 rfl) ?_
                refine lv_iconst (v := (0)) hx hb dL_law_698 (by decide) ?_
                refine lv_bipush (v := (8)) hx hb dL_law_699 (by decide) ?_
                obtain ⟨r553, er553, h⟩ := obind h
                have hsr := OA.ofD (L' := w.map Prod.fst) hD rfl hSz
                refine call_Q (vx_runSW (As := [.ref x0, .int (0 : Int32), .int (8 : Int32)]) (rest := []) ⟨hx, hb, hml, hown, hts⟩ (hm_wall l hl9 z0 D t x0 r552.2 (0 : Int32) (8 : Int32) r553 er553 w hw H.size) (kH hts qw596 qw597 qw0 qw598 okL_wall ⟨Nat.le_of_ble_eq_true rfl, Nat.le_of_ble_eq_true rfl⟩) ⟨PMH.blind, fun U hU hW => ⟨rfl, ⟨by rw [hU]; exact (hC.at hS hZ).warm hW, hN.moved hW.alike⟩, by rw [hU], by rw [hU]; exact hP, ⟨hD.1, fun _ _ h9 => Or.inl (in_map (L := w.map Prod.fst) rfl h9)⟩, fun q hq => hZ q (hsr q hq)⟩⟩ rfl rfl hl.1 rfl (lv_room (Nat.le_of_ble_eq_true rfl)) dL_law_701 ⟨by show 541 + 5 ≤ 600130; omega, by show 41159 + 70 ≤ 7301080; omega⟩) hS hsr (fun w H locs hw hP hD1 hS _ _ => ?_)
                refine W.widen (k := 546) (n := 41229) (by omega) (by omega) ?_
                have hD : va_D (OA L0 s.heap.size) w := hD1.weaken (fun _ q _ h9 => hsr q.1 h9)
                have hSz : s.heap.size ≤ H.size := hS.1
                refine lv_ldc (v := (-2000001)) hx hb hown (hts _ qw544) dL_law_704 ?_
                refine lv_icmp_ne (tgt := 828) hx hb dL_law_706 (by decide) (fun hc => ?_) (fun hc => ?_)
                · have h := iteF hc h
                  refine lv_iconst (v := (0)) hx hb dL_law_828 (by decide) ?_
                  exact absurd (Option.some.inj h) (by decide)
                · have h := iteT hc h
                  refine lv_aload_n hx hb dL_law_709 rfl (lv_at hl 0 rfl) ?_
                  refine lv_iconst (v := (0)) hx hb dL_law_710 (by decide) ?_
                  refine lv_iconst (v := (0)) hx hb dL_law_711 (by decide) ?_
                  refine lv_iconst (v := (4)) hx hb dL_law_712 (by decide) ?_
                  obtain ⟨r554, er554, h⟩ := obind h
                  have hsr := OA.ofD (L' := w.map Prod.fst) hD rfl hSz
                  refine call_Q (vx_runSW (As := [.ref x0, .int (0 : Int32), .int (0 : Int32), .int (4 : Int32)]) (rest := []) ⟨hx, hb, hml, hown, hts⟩ (hm_lay l hl9 z0 D t x0 r553.2 (0 : Int32) (0 : Int32) (4 : Int32) r554 er554 w hw H.size) (kH hts qw605 qw606 qw0 qw607 okL_lay ⟨Nat.le_of_ble_eq_true rfl, Nat.le_of_ble_eq_true rfl⟩) ⟨PMH.blind, fun U hU hW => ⟨rfl, ⟨by rw [hU]; exact (hC.at hS hZ).warm hW, hN.moved hW.alike⟩, by rw [hU], by rw [hU]; exact hP, ⟨hD.1, fun _ _ h9 => Or.inl (in_map (L := w.map Prod.fst) rfl h9)⟩, fun q hq => hZ q (hsr q hq)⟩⟩ rfl rfl hl.1 rfl (lv_room (Nat.le_of_ble_eq_true rfl)) dL_law_713 ⟨by show 546 + 5 ≤ 600130; omega, by show 41229 + 70 ≤ 7301080; omega⟩) hS hsr (fun w H locs hw hP hD1 hS _ _ => ?_)
                  refine W.widen (k := 551) (n := 41299) (by omega) (by omega) ?_
                  have hD : va_D (OA L0 s.heap.size) w := hD1.weaken (fun _ q _ h9 => hsr q.1 h9)
                  have hSz : s.heap.size ≤ H.size := hS.1
                  refine lv_ldc (v := (-2000001)) hx hb hown (hts _ qw544) dL_law_716 ?_
                  refine lv_icmp_ne (tgt := 828) hx hb dL_law_718 (by decide) (fun hc => ?_) (fun hc => ?_)
                  · have h := iteF hc h
                    refine lv_iconst (v := (0)) hx hb dL_law_828 (by decide) ?_
                    exact absurd (Option.some.inj h) (by decide)
                  · have h := iteT hc h
                    refine lv_aload_n hx hb dL_law_721 rfl (lv_at hl 0 rfl) ?_
                    refine lv_bipush (v := (-5)) hx hb dL_law_722 (by decide) ?_
                    refine lv_iconst (v := (0)) hx hb dL_law_724 (by decide) ?_
                    refine lv_iconst (v := (0)) hx hb dL_law_725 (by decide) ?_
                    obtain ⟨r555, er555, h⟩ := obind h
                    have hsr := OA.ofD (L' := w.map Prod.fst) hD rfl hSz
                    refine call_Q (vx_runSW (As := [.ref x0, .int (-5 : Int32), .int (0 : Int32), .int (0 : Int32)]) (rest := []) ⟨hx, hb, hml, hown, hts⟩ (hq_whyNot l hl9 z0 D t x0 r554.2 (-5 : Int32) (0 : Int32) (0 : Int32) r555 er555 w hw H.size) (kH hts qw818 qw819 qw0 qw820 okL_whyNot ⟨Nat.le_of_ble_eq_true rfl, Nat.le_of_ble_eq_true rfl⟩) ⟨PMH.blind, fun U hU hW => ⟨rfl, ⟨by rw [hU]; exact (hC.at hS hZ).warm hW, hN.moved hW.alike⟩, by rw [hU], by rw [hU]; exact hP, ⟨hD.1, fun _ _ h9 => Or.inl (in_map (L := w.map Prod.fst) rfl h9)⟩, fun q hq => hZ q (hsr q hq)⟩⟩ rfl rfl hl.1 rfl (lv_room (Nat.le_of_ble_eq_true rfl)) dL_law_726 ⟨by show 551 + 0 ≤ 600130; omega, by show 41299 + 0 ≤ 7301080; omega⟩) hS hsr (fun w H locs hw hP hD1 hS _ _ => ?_)
                    have hD : va_D (OA L0 s.heap.size) w := hD1.weaken (fun _ q _ h9 => hsr q.1 h9)
                    have hSz : s.heap.size ≤ H.size := hS.1
                    refine lv_iconst (v := (1)) hx hb dL_law_729 (by decide) ?_
                    refine lv_icmp_ne (tgt := 828) hx hb dL_law_730 (by decide) (fun hc => ?_) (fun hc => ?_)
                    · have h := iteF hc h
                      refine lv_iconst (v := (0)) hx hb dL_law_828 (by decide) ?_
                      exact absurd (Option.some.inj h) (by decide)
                    · have h := iteT hc h
                      refine lv_aload_n hx hb dL_law_733 rfl (lv_at hl 0 rfl) ?_
                      refine lv_bipush (v := (7)) hx hb dL_law_734 (by decide) ?_
                      refine lv_bipush (v := (7)) hx hb dL_law_736 (by decide) ?_
                      refine lv_iconst (v := (1)) hx hb dL_law_738 (by decide) ?_
                      obtain ⟨r556, er556, h⟩ := obind h
                      have hsr := OA.ofD (L' := w.map Prod.fst) hD rfl hSz
                      refine call_Q (vx_runSW (As := [.ref x0, .int (7 : Int32), .int (7 : Int32), .int (1 : Int32)]) (rest := []) ⟨hx, hb, hml, hown, hts⟩ (hm_flip l hl9 z0 D t x0 r554.2 (7 : Int32) (7 : Int32) (1 : Int32) r556 er556 w hw H.size) (kH hts qw662 qw663 qw0 qw664 okL_flip ⟨Nat.le_of_ble_eq_true rfl, Nat.le_of_ble_eq_true rfl⟩) ⟨PMH.blind, fun U hU hW => ⟨rfl, ⟨by rw [hU]; exact (hC.at hS hZ).warm hW, hN.moved hW.alike⟩, by rw [hU], by rw [hU]; exact hP, ⟨hD.1, fun _ _ h9 => Or.inl (in_map (L := w.map Prod.fst) rfl h9)⟩, fun q hq => hZ q (hsr q hq)⟩⟩ rfl rfl hl.1 rfl (lv_room (Nat.le_of_ble_eq_true rfl)) dL_law_739 ⟨by show 551 + 5 ≤ 600130; omega, by show 41299 + 70 ≤ 7301080; omega⟩) hS hsr (fun w H locs hw hP hD1 hS _ _ => ?_)
                      refine W.widen (k := 556) (n := 41369) (by omega) (by omega) ?_
                      have hD : va_D (OA L0 s.heap.size) w := hD1.weaken (fun _ q _ h9 => hsr q.1 h9)
                      have hSz : s.heap.size ≤ H.size := hS.1
                      refine lv_ldc (v := (-2000001)) hx hb hown (hts _ qw544) dL_law_742 ?_
                      refine lv_icmp_ne (tgt := 828) hx hb dL_law_744 (by decide) (fun hc => ?_) (fun hc => ?_)
                      · have h := iteF hc h
                        refine lv_iconst (v := (0)) hx hb dL_law_828 (by decide) ?_
                        exact absurd (Option.some.inj h) (by decide)
                      · have h := iteT hc h
                        refine lv_aload_n hx hb dL_law_747 rfl (lv_at hl 0 rfl) ?_
                        refine lv_bipush (v := (127)) hx hb dL_law_748 (by decide) ?_
                        obtain ⟨r557, er557, h⟩ := obind h
                        have hsr := OA.ofD (L' := w.map Prod.fst) hD rfl hSz
                        refine call_Q (vx_runSW (As := [.ref x0, .int (127 : Int32)]) (rest := []) ⟨hx, hb, hml, hown, hts⟩ (hm_append l hl9 z0 D t x0 r556.2 (127 : Int32) r557 er557 w hw H.size) (kH hts qw692 qw693 qw0 qw694 okL_append ⟨Nat.le_of_ble_eq_true rfl, Nat.le_of_ble_eq_true rfl⟩) ⟨PMH.blind, fun U hU hW => ⟨rfl, ⟨by rw [hU]; exact (hC.at hS hZ).warm hW, hN.moved hW.alike⟩, by rw [hU], by rw [hU]; exact hP, ⟨hD.1, fun _ _ h9 => Or.inl (in_map (L := w.map Prod.fst) rfl h9)⟩, fun q hq => hZ q (hsr q hq)⟩⟩ rfl rfl hl.1 rfl (lv_room (Nat.le_of_ble_eq_true rfl)) dL_law_750 ⟨by show 556 + 5 ≤ 600130; omega, by show 41369 + 70 ≤ 7301080; omega⟩) hS hsr (fun w H locs hw hP hD1 hS _ _ => ?_)
                        refine W.widen (k := 561) (n := 41439) (by omega) (by omega) ?_
                        have hD : va_D (OA L0 s.heap.size) w := hD1.weaken (fun _ q _ h9 => hsr q.1 h9)
                        have hSz : s.heap.size ≤ H.size := hS.1
                        refine lv_ldc (v := (-2000001)) hx hb hown (hts _ qw544) dL_law_753 ?_
                        refine lv_icmp_ne (tgt := 828) hx hb dL_law_755 (by decide) (fun hc => ?_) (fun hc => ?_)
                        · have h := iteF hc h
                          refine lv_iconst (v := (0)) hx hb dL_law_828 (by decide) ?_
                          exact absurd (Option.some.inj h) (by decide)
                        · have h := iteT hc h
                          refine lv_aload_n hx hb dL_law_758 rfl (lv_at hl 0 rfl) ?_
                          refine lv_iconst (v := (2)) hx hb dL_law_759 (by decide) ?_
                          obtain ⟨r558, er558, h⟩ := obind h
                          have hsr := OA.ofD (L' := w.map Prod.fst) hD rfl hSz
                          refine call_Q (vx_runSW (As := [.ref x0, .int (2 : Int32)]) (rest := []) ⟨hx, hb, hml, hown, hts⟩ (hm_keep l hl9 z0 D t x0 r557.2 (2 : Int32) r558 er558 w hw H.size) (kH hts qw721 qw722 qw0 qw723 okL_keep ⟨Nat.le_of_ble_eq_true rfl, Nat.le_of_ble_eq_true rfl⟩) ⟨PMH.blind, fun U hU hW => ⟨rfl, ⟨by rw [hU]; exact (hC.at hS hZ).warm hW, hN.moved hW.alike⟩, by rw [hU], by rw [hU]; exact hP, ⟨hD.1, fun _ _ h9 => Or.inl (in_map (L := w.map Prod.fst) rfl h9)⟩, fun q hq => hZ q (hsr q hq)⟩⟩ rfl rfl hl.1 rfl (lv_room (Nat.le_of_ble_eq_true rfl)) dL_law_760 ⟨by show 561 + 5 ≤ 600130; omega, by show 41439 + 70 ≤ 7301080; omega⟩) hS hsr (fun w H locs hw hP hD1 hS _ _ => ?_)
                          refine W.widen (k := 566) (n := 41509) (by omega) (by omega) ?_
                          have hD : va_D (OA L0 s.heap.size) w := hD1.weaken (fun _ q _ h9 => hsr q.1 h9)
                          have hSz : s.heap.size ≤ H.size := hS.1
                          refine lv_ldc (v := (-2000001)) hx hb hown (hts _ qw544) dL_law_763 ?_
                          refine lv_icmp_ne (tgt := 828) hx hb dL_law_765 (by decide) (fun hc => ?_) (fun hc => ?_)
                          · have h := iteF hc h
                            refine lv_iconst (v := (0)) hx hb dL_law_828 (by decide) ?_
                            exact absurd (Option.some.inj h) (by decide)
                          · have h := iteT hc h
                            refine lv_aload_n hx hb dL_law_768 rfl (lv_at hl 0 rfl) ?_
                            refine lv_iconst (v := (0)) hx hb dL_law_769 (by decide) ?_
                            refine lv_iconst (v := (0)) hx hb dL_law_770 (by decide) ?_
                            refine lv_iconst (v := (3)) hx hb dL_law_771 (by decide) ?_
                            obtain ⟨r559, er559, h⟩ := obind h
                            have hsr := OA.ofD (L' := w.map Prod.fst) hD rfl hSz
                            refine call_Q (vx_runSW (As := [.ref x0, .int (0 : Int32), .int (0 : Int32), .int (3 : Int32)]) (rest := []) ⟨hx, hb, hml, hown, hts⟩ (ht_cellOf l hl9 z0 D t x0 r558.2 (0 : Int32) (0 : Int32) (3 : Int32) r559 er559 w hw H.size) (kH hts qw757 qw758 qw0 qw759 okL_cellOf ⟨Nat.le_of_ble_eq_true rfl, Nat.le_of_ble_eq_true rfl⟩) ⟨PMH.blind, fun U hU hW => ⟨rfl, ⟨by rw [hU]; exact (hC.at hS hZ).warm hW, hN.moved hW.alike⟩, by rw [hU], by rw [hU]; exact hP, ⟨hD.1, fun _ _ h9 => Or.inl (in_map (L := w.map Prod.fst) rfl h9)⟩, fun q hq => hZ q (hsr q hq)⟩⟩ rfl rfl hl.1 rfl (lv_room (Nat.le_of_ble_eq_true rfl)) dL_law_772 ⟨by show 566 + 1 ≤ 600130; omega, by show 41509 + 6 ≤ 7301080; omega⟩) hS hsr (fun w H locs hw hP hD1 hS _ _ => ?_)
                            refine W.widen (k := 567) (n := 41515) (by omega) (by omega) ?_
                            have hD : va_D (OA L0 s.heap.size) w := hD1.weaken (fun _ q _ h9 => hsr q.1 h9)
                            have hSz : s.heap.size ≤ H.size := hS.1
                            refine lv_ldc (v := (-2000002)) hx hb hown (hts _ qw595) dL_law_775 ?_
                            refine lv_icmp_ne (tgt := 828) hx hb dL_law_777 (by decide) (fun hc => ?_) (fun hc => ?_)
                            · have h := iteF hc h
                              refine lv_iconst (v := (0)) hx hb dL_law_828 (by decide) ?_
                              exact absurd (Option.some.inj h) (by decide)
                            · have h := iteT hc h
                              refine lv_aload_n hx hb dL_law_780 rfl (lv_at hl 0 rfl) ?_
                              refine lv_iconst (v := (0)) hx hb dL_law_781 (by decide) ?_
                              refine lv_iconst (v := (3)) hx hb dL_law_782 (by decide) ?_
                              obtain ⟨r560, er560, h⟩ := obind h
                              have hsr := OA.ofD (L' := w.map Prod.fst) hD rfl hSz
                              refine call_Q (vx_runSW (As := [.ref x0, .int (0 : Int32), .int (3 : Int32)]) (rest := []) ⟨hx, hb, hml, hown, hts⟩ (ht_row l hl9 z0 D t x0 r558.2 (0 : Int32) (3 : Int32) r560 er560 w hw H.size) (kH hts qw788 qw789 qw0 qw790 okL_row ⟨Nat.le_of_ble_eq_true rfl, Nat.le_of_ble_eq_true rfl⟩) ⟨PMH.blind, fun U hU hW => ⟨rfl, ⟨by rw [hU]; exact (hC.at hS hZ).warm hW, hN.moved hW.alike⟩, by rw [hU], by rw [hU]; exact hP, ⟨hD.1, fun _ _ h9 => Or.inl (in_map (L := w.map Prod.fst) rfl h9)⟩, fun q hq => hZ q (hsr q hq)⟩⟩ rfl rfl hl.1 rfl (lv_room (Nat.le_of_ble_eq_true rfl)) dL_law_783 ⟨by show 567 + 1 ≤ 600130; omega, by show 41515 + 6 ≤ 7301080; omega⟩) hS hsr (fun w H locs hw hP hD1 hS _ _ => ?_)
                              refine W.widen (k := 568) (n := 41521) (by omega) (by omega) ?_
                              have hD : va_D (OA L0 s.heap.size) w := hD1.weaken (fun _ q _ h9 => hsr q.1 h9)
                              have hSz : s.heap.size ≤ H.size := hS.1
                              refine lv_ldc (v := (-2000002)) hx hb hown (hts _ qw595) dL_law_786 ?_
                              refine lv_icmp_ne (tgt := 828) hx hb dL_law_788 (by decide) (fun hc => ?_) (fun hc => ?_)
                              · have h := iteF hc h
                                refine lv_iconst (v := (0)) hx hb dL_law_828 (by decide) ?_
                                exact absurd (Option.some.inj h) (by decide)
                              · have h := iteT hc h
                                refine lv_aload_n hx hb dL_law_791 rfl (lv_at hl 0 rfl) ?_
                                refine lv_bipush (v := (12)) hx hb dL_law_792 (by decide) ?_
                                obtain ⟨r561, er561, h⟩ := obind h
                                have hsr := OA.ofD (L' := w.map Prod.fst) hD rfl hSz
                                refine call_Q (vx_runSW (As := [.ref x0, .int (12 : Int32)]) (rest := []) ⟨hx, hb, hml, hown, hts⟩ (ht_count l hl9 z0 D t x0 r558.2 (12 : Int32) r561 er561 w hw H.size) (kH hts qw800 qw801 qw0 qw802 okL_count ⟨Nat.le_of_ble_eq_true rfl, Nat.le_of_ble_eq_true rfl⟩) ⟨PMH.blind, fun U hU hW => ⟨rfl, ⟨by rw [hU]; exact (hC.at hS hZ).warm hW, hN.moved hW.alike⟩, by rw [hU], by rw [hU]; exact hP, ⟨hD.1, fun _ _ h9 => Or.inl (in_map (L := w.map Prod.fst) rfl h9)⟩, fun q hq => hZ q (hsr q hq)⟩⟩ rfl rfl hl.1 rfl (lv_room (Nat.le_of_ble_eq_true rfl)) dL_law_794 ⟨by show 568 + 1 ≤ 600130; omega, by show 41521 + 6 ≤ 7301080; omega⟩) hS hsr (fun w H locs hw hP hD1 hS _ _ => ?_)
                                refine W.widen (k := 569) (n := 41527) (by omega) (by omega) ?_
                                have hD : va_D (OA L0 s.heap.size) w := hD1.weaken (fun _ q _ h9 => hsr q.1 h9)
                                have hSz : s.heap.size ≤ H.size := hS.1
                                refine lv_ldc (v := (-2000001)) hx hb hown (hts _ qw544) dL_law_797 ?_
                                refine lv_icmp_ne (tgt := 828) hx hb dL_law_799 (by decide) (fun hc => ?_) (fun hc => ?_)
                                · have h := iteF hc h
                                  refine lv_iconst (v := (0)) hx hb dL_law_828 (by decide) ?_
                                  exact absurd (Option.some.inj h) (by decide)
                                · have h := iteT hc h
                                  refine lv_aload_n hx hb dL_law_802 rfl (lv_at hl 0 rfl) ?_
                                  refine lv_iconst (v := (0)) hx hb dL_law_803 (by decide) ?_
                                  refine lv_iconst (v := (0)) hx hb dL_law_804 (by decide) ?_
                                  refine lv_iconst (v := (-1)) hx hb dL_law_805 (by decide) ?_
                                  obtain ⟨r562, er562, h⟩ := obind h
                                  have hsr := OA.ofD (L' := w.map Prod.fst) hD rfl hSz
                                  refine call_Q (vx_runSW (As := [.ref x0, .int (0 : Int32), .int (0 : Int32), .int (-1 : Int32)]) (rest := []) ⟨hx, hb, hml, hown, hts⟩ (ht_waysWith l hl9 z0 D t x0 r558.2 (0 : Int32) (0 : Int32) (-1 : Int32) r562 er562 w hw H.size) (kH hts qw825 qw826 qw0 qw827 okL_waysWith ⟨Nat.le_of_ble_eq_true rfl, Nat.le_of_ble_eq_true rfl⟩) ⟨PMH.blind, fun U hU hW => ⟨rfl, ⟨by rw [hU]; exact (hC.at hS hZ).warm hW, hN.moved hW.alike⟩, by rw [hU], by rw [hU]; exact hP, ⟨hD.1, fun _ _ h9 => Or.inl (in_map (L := w.map Prod.fst) rfl h9)⟩, fun q hq => hZ q (hsr q hq)⟩⟩ rfl rfl hl.1 rfl (lv_room (Nat.le_of_ble_eq_true rfl)) dL_law_806 ⟨by show 569 + 1 ≤ 600130; omega, by show 41527 + 6 ≤ 7301080; omega⟩) hS hsr (fun w H locs hw hP hD1 hS _ _ => ?_)
                                  refine W.widen (k := 570) (n := 41533) (by omega) (by omega) ?_
                                  have hD : va_D (OA L0 s.heap.size) w := hD1.weaken (fun _ q _ h9 => hsr q.1 h9)
                                  have hSz : s.heap.size ≤ H.size := hS.1
                                  refine lv_ldc (v := (-2000001)) hx hb hown (hts _ qw544) dL_law_809 ?_
                                  refine lv_icmp_ne (tgt := 828) hx hb dL_law_811 (by decide) (fun hc => ?_) (fun hc => ?_)
                                  · have h := iteF hc h
                                    refine lv_iconst (v := (0)) hx hb dL_law_828 (by decide) ?_
                                    exact absurd (Option.some.inj h) (by decide)
                                  · have h := iteT hc h
                                    refine lv_aload_n hx hb dL_law_814 rfl (lv_at hl 0 rfl) ?_
                                    refine lv_iconst (v := (2)) hx hb dL_law_815 (by decide) ?_
                                    obtain ⟨r563, er563, h⟩ := obind h
                                    have hsr := OA.ofD (L' := w.map Prod.fst) hD rfl hSz
                                    refine call_Q (vx_runSW (As := [.ref x0, .int (2 : Int32)]) (rest := []) ⟨hx, hb, hml, hown, hts⟩ (ht_forced l hl9 z0 D t x0 r558.2 (2 : Int32) r563 er563 w hw H.size) (kH hts qw834 qw835 qw0 qw836 okL_forced ⟨Nat.le_of_ble_eq_true rfl, Nat.le_of_ble_eq_true rfl⟩) ⟨PMH.blind, fun U hU hW => ⟨rfl, ⟨by rw [hU]; exact (hC.at hS hZ).warm hW, hN.moved hW.alike⟩, by rw [hU], by rw [hU]; exact hP, ⟨hD.1, fun _ _ h9 => Or.inl (in_map (L := w.map Prod.fst) rfl h9)⟩, fun q hq => hZ q (hsr q hq)⟩⟩ rfl rfl hl.1 rfl (lv_room (Nat.le_of_ble_eq_true rfl)) dL_law_816 ⟨by show 570 + 1 ≤ 600130; omega, by show 41533 + 6 ≤ 7301080; omega⟩) hS hsr (fun w H locs hw hP hD1 hS _ _ => ?_)
                                    refine W.widen (k := 571) (n := 41539) (by omega) (by omega) ?_
                                    have hD : va_D (OA L0 s.heap.size) w := hD1.weaken (fun _ q _ h9 => hsr q.1 h9)
                                    have hSz : s.heap.size ≤ H.size := hS.1
                                    refine lv_ldc (v := (-2000001)) hx hb hown (hts _ qw544) dL_law_819 ?_
                                    refine lv_icmp_ne (tgt := 828) hx hb dL_law_821 (by decide) (fun hc => ?_) (fun hc => ?_)
                                    · have h := iteF hc h
                                      refine lv_iconst (v := (0)) hx hb dL_law_828 (by decide) ?_
                                      exact absurd (Option.some.inj h) (by decide)
                                    · have h := iteT hc h
                                      refine lv_iconst (v := (1)) hx hb dL_law_824 (by decide) ?_
                                      refine lv_goto (tgt := 829) hx hb dL_law_825 (by decide) ?_
                                      exact law_end C0 hz0 hL0 hS (by omega) (by omega) dL_law_829
      have h := eo538
      clear eo538
      refine lv_if_eq (tgt := 663) hx hb dL_law_597 (by decide) (fun hc => ?_) (fun hc => ?_)
      · have h := iteT hc h
        obtain rfl := Option.some.inj h
        refine W.widen (k := 528) (n := 41001) (by omega) (by omega) ?_
        exact hJ663_o538 ls H locs w (lv_sub hl [1, 2] rfl) hw hP hD hS
      · have h := iteF hc h
        refine lv_iload_n hx hb dL_law_600 rfl (lv_at hl 0 rfl) ?_
        refine lv_if_lt (tgt := 663) hx hb dL_law_601 (by decide) (fun hc => ?_) (fun hc => ?_)
        · have h := iteT hc h
          obtain rfl := Option.some.inj h
          refine W.widen (k := 528) (n := 41001) (by omega) (by omega) ?_
          exact hJ663_o538 ls H locs w (lv_sub hl [1, 2] rfl) hw hP hD hS
        · have h := iteF hc h
          refine lv_aload_n hx hb dL_law_604 rfl (lv_at hl 1 rfl) ?_
          obtain ⟨r539, er539, h⟩ := obind h
          have hsr := OA.ofD (L' := w.map Prod.fst) hD rfl hSz
          obtain ⟨fs9, h09⟩ := XG_h0 hw
          refine call_Q (va_runV (As := []) (rest := []) ⟨hx, hb, hml, hown, hts⟩ (hd_ways l hl9 z0 D t x0 o353.2 r539 er539 w hw H.size) (kV hts qw232 qw233 qw234 qw1 qw235 ok_X4_ways ⟨Nat.le_of_ble_eq_true rfl, Nat.le_of_ble_eq_true rfl⟩) ⟨PM.blind, va_recv hK hP (ci := 5) (q0 := 0) rfl h09, fun U hU hW => ⟨rfl, by rw [hU]; exact (hC.at hS hZ).warm hW, by rw [hU], by rw [hU]; exact hP, ⟨hD.1, fun _ _ h9 => Or.inl (in_map (L := w.map Prod.fst) rfl h9)⟩, fun q hq => hZ q (hsr q hq)⟩⟩ rfl rfl hl.1 rfl (lv_room (Nat.le_of_ble_eq_true rfl)) dL_law_605 ⟨by show 518 + 0 ≤ 600130; omega, by show 40861 + 0 ≤ 7301080; omega⟩) hS hsr (fun w H locs hw hP hD1 hS _ _ => ?_)
          have hD : va_D (OA L0 s.heap.size) w := hD1.weaken (fun _ q _ h9 => hsr q.1 h9)
          have hSz : s.heap.size ≤ H.size := hS.1
          refine lv_istore (lv' := [(4, .int r539), (3, .int o525), (1, .ref x0), (2, .int o353.1)]) hx hb dL_law_608 hl (by decide) rfl (fun ls hl => ?_)
          refine lv_aload_n hx hb dL_law_610 rfl (lv_at hl 2 rfl) ?_
          refine lv_iload_n hx hb dL_law_611 rfl (lv_at hl 1 rfl) ?_
          refine lv_bipush (v := (10)) hx hb dL_law_612 (by decide) ?_
          refine lv_irem hx hb dL_law_614 (by decide) ?_
          refine lv_iload_n hx hb dL_law_615 rfl (lv_at hl 1 rfl) ?_
          refine lv_bipush (v := (10)) hx hb dL_law_616 (by decide) ?_
          refine lv_idiv hx hb dL_law_618 (by decide) ?_
          obtain ⟨r540, er540, h⟩ := obind h
          have hsr := OA.ofD (L' := w.map Prod.fst) hD rfl hSz
          refine call_Q (vx_runSW (As := [.ref x0, .int (o525 - o525 / (10 : Int32) * (10 : Int32)), .int (o525 / (10 : Int32))]) (rest := []) ⟨hx, hb, hml, hown, hts⟩ (hm_pond l hl9 z0 D t x0 o353.2 (o525 - o525 / (10 : Int32) * (10 : Int32)) (o525 / (10 : Int32)) r540 er540 w hw H.size) (kH hts qw545 qw546 qw0 qw547 okL_pond ⟨Nat.le_of_ble_eq_true rfl, Nat.le_of_ble_eq_true rfl⟩) ⟨PMH.blind, fun U hU hW => ⟨rfl, ⟨by rw [hU]; exact (hC.at hS hZ).warm hW, hN.moved hW.alike⟩, by rw [hU], by rw [hU]; exact hP, ⟨hD.1, fun _ _ h9 => Or.inl (in_map (L := w.map Prod.fst) rfl h9)⟩, fun q hq => hZ q (hsr q hq)⟩⟩ rfl rfl hl.1 rfl (lv_room (Nat.le_of_ble_eq_true rfl)) dL_law_619 ⟨by show 518 + 5 ≤ 600130; omega, by show 40861 + 70 ≤ 7301080; omega⟩) hS hsr (fun w H locs hw hP hD1 hS _ _ => ?_)
          refine W.widen (k := 523) (n := 40931) (by omega) (by omega) ?_
          have hD : va_D (OA L0 s.heap.size) w := hD1.weaken (fun _ q _ h9 => hsr q.1 h9)
          have hSz : s.heap.size ≤ H.size := hS.1
          obtain ⟨o545, eo545, h⟩ := obind h
          have hJ662_o545 : ∀ (ls : Array Slot) (H : Heap) (locs : List Loc) (w : va_W), lv_has ls 17 [(1, .ref x0)] → XG t x0 o545.2 w → va_P D vwCl w H → va_D (OA L0 s.heap.size) w → va_S (OA L0 s.heap.size) s.heap H locs → W p l e room_1 s m #[Value.ref b] below meth c H locs 528 41001 (lw_Z below #[Value.ref b] s) (F0 m 662 ls [.int o545.1]) := by
            intro ls H locs w hl hw hP hD hS
            have hSz : s.heap.size ≤ H.size := hS.1
            refine lv_istore_n (lv' := [(2, .int o545.1), (1, .ref x0)]) hx hb dL_law_662 rfl hl (by decide) rfl (fun ls hl => ?_)
            obtain rfl := Option.some.inj h
            exact hJ663_o538 ls H locs w (lv_sub hl [1, 0] rfl) hw hP hD hS
          have h := eo545
          clear eo545
          refine lv_if_lt (tgt := 661) hx hb dL_law_622 (by decide) (fun hc => ?_) (fun hc => ?_)
          · have h := iteT hc h
            refine lv_iconst (v := (0)) hx hb dL_law_661 (by decide) ?_
            obtain rfl := Option.some.inj h
            refine W.widen (k := 528) (n := 41001) (by omega) (by omega) ?_
            exact hJ662_o545 ls H locs w (lv_sub hl [2] rfl) hw hP hD hS
          · have h := iteF hc h
            refine lv_aload_n hx hb dL_law_625 rfl (lv_at hl 2 rfl) ?_
            obtain ⟨r546, er546, h⟩ := obind h
            have hsr := OA.ofD (L' := w.map Prod.fst) hD rfl hSz
            obtain ⟨fs9, h09⟩ := XG_h0 hw
            refine call_Q (va_runV (As := []) (rest := []) ⟨hx, hb, hml, hown, hts⟩ (hd_ways l hl9 z0 D t x0 r540.2 r546 er546 w hw H.size) (kV hts qw232 qw233 qw234 qw1 qw235 ok_X4_ways ⟨Nat.le_of_ble_eq_true rfl, Nat.le_of_ble_eq_true rfl⟩) ⟨PM.blind, va_recv hK hP (ci := 5) (q0 := 0) rfl h09, fun U hU hW => ⟨rfl, by rw [hU]; exact (hC.at hS hZ).warm hW, by rw [hU], by rw [hU]; exact hP, ⟨hD.1, fun _ _ h9 => Or.inl (in_map (L := w.map Prod.fst) rfl h9)⟩, fun q hq => hZ q (hsr q hq)⟩⟩ rfl rfl hl.1 rfl (lv_room (Nat.le_of_ble_eq_true rfl)) dL_law_626 ⟨by show 523 + 0 ≤ 600130; omega, by show 40931 + 0 ≤ 7301080; omega⟩) hS hsr (fun w H locs hw hP hD1 hS _ _ => ?_)
            have hD : va_D (OA L0 s.heap.size) w := hD1.weaken (fun _ q _ h9 => hsr q.1 h9)
            have hSz : s.heap.size ≤ H.size := hS.1
            refine lv_iload hx hb dL_law_629 (lv_at hl 0 rfl) ?_
            refine lv_icmp_lt (tgt := 661) hx hb dL_law_631 (by decide) (fun hc => ?_) (fun hc => ?_)
            · have h := iteT hc h
              refine lv_iconst (v := (0)) hx hb dL_law_661 (by decide) ?_
              obtain rfl := Option.some.inj h
              refine W.widen (k := 528) (n := 41001) (by omega) (by omega) ?_
              exact hJ662_o545 ls H locs w (lv_sub hl [2] rfl) hw hP hD hS
            · have h := iteF hc h
              refine lv_aload_n hx hb dL_law_634 rfl (lv_at hl 2 rfl) ?_
              obtain ⟨r547, er547, h⟩ := obind h
              have hsr := OA.ofD (L' := w.map Prod.fst) hD rfl hSz
              obtain ⟨fs9, h09⟩ := XG_h0 hw
              refine call_Q (va_runV (As := []) (rest := []) ⟨hx, hb, hml, hown, hts⟩ (hd_ways l hl9 z0 D t x0 r540.2 r547 er547 w hw H.size) (kV hts qw232 qw233 qw234 qw1 qw235 ok_X4_ways ⟨Nat.le_of_ble_eq_true rfl, Nat.le_of_ble_eq_true rfl⟩) ⟨PM.blind, va_recv hK hP (ci := 5) (q0 := 0) rfl h09, fun U hU hW => ⟨rfl, by rw [hU]; exact (hC.at hS hZ).warm hW, by rw [hU], by rw [hU]; exact hP, ⟨hD.1, fun _ _ h9 => Or.inl (in_map (L := w.map Prod.fst) rfl h9)⟩, fun q hq => hZ q (hsr q hq)⟩⟩ rfl rfl hl.1 rfl (lv_room (Nat.le_of_ble_eq_true rfl)) dL_law_635 ⟨by show 523 + 0 ≤ 600130; omega, by show 40931 + 0 ≤ 7301080; omega⟩) hS hsr (fun w H locs hw hP hD1 hS _ _ => ?_)
              have hD : va_D (OA L0 s.heap.size) w := hD1.weaken (fun _ q _ h9 => hsr q.1 h9)
              have hSz : s.heap.size ≤ H.size := hS.1
              refine lv_if_le (tgt := 661) hx hb dL_law_638 (by decide) (fun hc => ?_) (fun hc => ?_)
              · have h := iteT hc h
                refine lv_iconst (v := (0)) hx hb dL_law_661 (by decide) ?_
                obtain rfl := Option.some.inj h
                refine W.widen (k := 528) (n := 41001) (by omega) (by omega) ?_
                exact hJ662_o545 ls H locs w (lv_sub hl [2] rfl) hw hP hD hS
              · have h := iteF hc h
                refine lv_aload_n hx hb dL_law_641 rfl (lv_at hl 2 rfl) ?_
                obtain ⟨r548, er548, h⟩ := obind h
                have hsr := OA.ofD (L' := w.map Prod.fst) hD rfl hSz
                refine call_Q (vx_runSW (As := [.ref x0]) (rest := []) ⟨hx, hb, hml, hown, hts⟩ (hm_undo l hl9 z0 D t x0 r540.2 r548 er548 w hw H.size) (kH hts qw741 qw742 qw0 qw743 okL_undo ⟨Nat.le_of_ble_eq_true rfl, Nat.le_of_ble_eq_true rfl⟩) ⟨PMH.blind, fun U hU hW => ⟨rfl, ⟨by rw [hU]; exact (hC.at hS hZ).warm hW, hN.moved hW.alike⟩, by rw [hU], by rw [hU]; exact hP, ⟨hD.1, fun _ _ h9 => Or.inl (in_map (L := w.map Prod.fst) rfl h9)⟩, fun q hq => hZ q (hsr q hq)⟩⟩ rfl rfl hl.1 rfl (lv_room (Nat.le_of_ble_eq_true rfl)) dL_law_642 ⟨by show 523 + 5 ≤ 600130; omega, by show 40931 + 70 ≤ 7301080; omega⟩) hS hsr (fun w H locs hw hP hD1 hS _ _ => ?_)
                refine W.widen (k := 528) (n := 41001) (by omega) (by omega) ?_
                have hD : va_D (OA L0 s.heap.size) w := hD1.weaken (fun _ q _ h9 => hsr q.1 h9)
                have hSz : s.heap.size ≤ H.size := hS.1
                refine lv_if_lt (tgt := 661) hx hb dL_law_645 (by decide) (fun hc => ?_) (fun hc => ?_)
                · have h := iteT hc h
                  refine lv_iconst (v := (0)) hx hb dL_law_661 (by decide) ?_
                  obtain rfl := Option.some.inj h
                  exact hJ662_o545 ls H locs w (lv_sub hl [2] rfl) hw hP hD hS
                · have h := iteF hc h
                  refine lv_aload_n hx hb dL_law_648 rfl (lv_at hl 2 rfl) ?_
                  obtain ⟨r549, er549, h⟩ := obind h
                  have hsr := OA.ofD (L' := w.map Prod.fst) hD rfl hSz
                  obtain ⟨fs9, h09⟩ := XG_h0 hw
                  refine call_Q (va_runV (As := []) (rest := []) ⟨hx, hb, hml, hown, hts⟩ (hd_ways l hl9 z0 D t x0 r548.2 r549 er549 w hw H.size) (kV hts qw232 qw233 qw234 qw1 qw235 ok_X4_ways ⟨Nat.le_of_ble_eq_true rfl, Nat.le_of_ble_eq_true rfl⟩) ⟨PM.blind, va_recv hK hP (ci := 5) (q0 := 0) rfl h09, fun U hU hW => ⟨rfl, by rw [hU]; exact (hC.at hS hZ).warm hW, by rw [hU], by rw [hU]; exact hP, ⟨hD.1, fun _ _ h9 => Or.inl (in_map (L := w.map Prod.fst) rfl h9)⟩, fun q hq => hZ q (hsr q hq)⟩⟩ rfl rfl hl.1 rfl (lv_room (Nat.le_of_ble_eq_true rfl)) dL_law_649 ⟨by show 528 + 0 ≤ 600130; omega, by show 41001 + 0 ≤ 7301080; omega⟩) hS hsr (fun w H locs hw hP hD1 hS _ _ => ?_)
                  have hD : va_D (OA L0 s.heap.size) w := hD1.weaken (fun _ q _ h9 => hsr q.1 h9)
                  have hSz : s.heap.size ≤ H.size := hS.1
                  refine lv_iload hx hb dL_law_652 (lv_at hl 0 rfl) ?_
                  refine lv_icmp_ne (tgt := 661) hx hb dL_law_654 (by decide) (fun hc => ?_) (fun hc => ?_)
                  · have h := iteF hc h
                    refine lv_iconst (v := (0)) hx hb dL_law_661 (by decide) ?_
                    obtain rfl := Option.some.inj h
                    exact hJ662_o545 ls H locs w (lv_sub hl [2] rfl) hw hP hD hS
                  · have h := iteT hc h
                    refine lv_iconst (v := (1)) hx hb dL_law_657 (by decide) ?_
                    refine lv_goto (tgt := 662) hx hb dL_law_658 (by decide) ?_
                    obtain rfl := Option.some.inj h
                    exact hJ662_o545 ls H locs w (lv_sub hl [2] rfl) hw hP hD hS
    have h := eo525
    clear eo525
    refine lv_if_eq (tgt := 594) hx hb dL_law_584 (by decide) (fun hc => ?_) (fun hc => ?_)
    · have h := iteT hc h
      refine lv_iconst (v := (0)) hx hb dL_law_594 (by decide) ?_
      obtain rfl := Option.some.inj h
      exact hJ595_o525 ls H locs w (lv_sub hl [0, 1] rfl) hw hP hD hS
    · have h := iteF hc h
      refine lv_aload_n hx hb dL_law_587 rfl (lv_at hl 0 rfl) ?_
      obtain ⟨r526, er526, h⟩ := obind h
      have hsr := OA.ofD (L' := w.map Prod.fst) hD rfl hSz
      obtain ⟨fs9, h09⟩ := XG_h0 hw
      refine call_Q (va_runV (As := []) (rest := []) ⟨hx, hb, hml, hown, hts⟩ (hd_bestPond l hl9 z0 D t x0 o353.2 r526 er526 w hw H.size) (kV hts qw328 qw329 qw330 qw1 qw331 ok_X4_bestPond ⟨Nat.le_of_ble_eq_true rfl, Nat.le_of_ble_eq_true rfl⟩) ⟨PM.blind, va_recv hK hP (ci := 5) (q0 := 0) rfl h09, fun U hU hW => ⟨rfl, by rw [hU]; exact (hC.at hS hZ).warm hW, by rw [hU], by rw [hU]; exact hP, ⟨hD.1, fun _ _ h9 => Or.inl (in_map (L := w.map Prod.fst) rfl h9)⟩, fun q hq => hZ q (hsr q hq)⟩⟩ rfl rfl hl.1 rfl (lv_room (Nat.le_of_ble_eq_true rfl)) dL_law_588 ⟨by show 518 + 0 ≤ 600130; omega, by show 40861 + 0 ≤ 7301080; omega⟩) hS hsr (fun w H locs hw hP hD1 hS _ _ => ?_)
      have hD : va_D (OA L0 s.heap.size) w := hD1.weaken (fun _ q _ h9 => hsr q.1 h9)
      have hSz : s.heap.size ≤ H.size := hS.1
      refine lv_goto (tgt := 595) hx hb dL_law_591 (by decide) ?_
      obtain rfl := Option.some.inj h
      exact hJ595_o525 ls H locs w (lv_sub hl [0, 1] rfl) hw hP hD hS
  have h := eo7
  clear eo7
  refine lv_icmp_ne (tgt := 66) hx hb dL_law_14 (by decide) (fun hc => ?_) (fun hc => ?_)
  · have h := iteF hc h
    refine lv_iconst (v := (0)) hx hb dL_law_66 (by decide) ?_
    obtain rfl := Option.some.inj h
    refine W.widen (k := 102) (n := 35805) (by omega) (by omega) ?_
    exact hJ67_o7 ls H locs w (lv_sub hl [1, 0] rfl) hw hP hD hS
  · have h := iteT hc h
    refine lv_aload_n hx hb dL_law_17 rfl (lv_at hl 0 rfl) ?_
    refine lv_iconst (v := (0)) hx hb dL_law_18 (by decide) ?_
    obtain ⟨r8, er8, h⟩ := obind h
    have hsr := OA.ofD (L' := w.map Prod.fst) hD rfl hSz
    refine call_Q (vx_runSW (As := [.ref x0, .int (0 : Int32)]) (rest := []) ⟨hx, hb, hml, hown, hts⟩ (hm_goBack l hl9 z0 D t x0 r1.2 (0 : Int32) r8 er8 w hw H.size) (kH hts qw733 qw734 qw0 qw735 okL_goBack ⟨Nat.le_of_ble_eq_true rfl, Nat.le_of_ble_eq_true rfl⟩) ⟨PMH.blind, fun U hU hW => ⟨rfl, ⟨by rw [hU]; exact (hC.at hS hZ).warm hW, hN.moved hW.alike⟩, by rw [hU], by rw [hU]; exact hP, ⟨hD.1, fun _ _ h9 => Or.inl (in_map (L := w.map Prod.fst) rfl h9)⟩, fun q hq => hZ q (hsr q hq)⟩⟩ rfl rfl hl.1 rfl (lv_room (Nat.le_of_ble_eq_true rfl)) dL_law_19 ⟨by show 86 + 5 ≤ 600130; omega, by show 35590 + 70 ≤ 7301080; omega⟩) hS hsr (fun w H locs hw hP hD1 hS _ _ => ?_)
    refine W.widen (k := 91) (n := 35660) (by omega) (by omega) ?_
    have hD : va_D (OA L0 s.heap.size) w := hD1.weaken (fun _ q _ h9 => hsr q.1 h9)
    have hSz : s.heap.size ≤ H.size := hS.1
    refine lv_ldc (v := (-2000002)) hx hb hown (hts _ qw595) dL_law_22 ?_
    refine lv_icmp_ne (tgt := 66) hx hb dL_law_24 (by decide) (fun hc => ?_) (fun hc => ?_)
    · have h := iteF hc h
      refine lv_iconst (v := (0)) hx hb dL_law_66 (by decide) ?_
      obtain rfl := Option.some.inj h
      refine W.widen (k := 102) (n := 35805) (by omega) (by omega) ?_
      exact hJ67_o7 ls H locs w (lv_sub hl [1, 0] rfl) hw hP hD hS
    · have h := iteT hc h
      refine lv_aload_n hx hb dL_law_27 rfl (lv_at hl 0 rfl) ?_
      obtain ⟨r9, er9, h⟩ := obind h
      have hsr := OA.ofD (L' := w.map Prod.fst) hD rfl hSz
      refine call_Q (vx_runSW (As := [.ref x0]) (rest := []) ⟨hx, hb, hml, hown, hts⟩ (hm_load l hl9 z0 D t x0 r8.2 r9 er9 w hw H.size) (kH hts qw709 qw710 qw0 qw711 okL_load ⟨Nat.le_of_ble_eq_true rfl, Nat.le_of_ble_eq_true rfl⟩) ⟨PMH.blind, fun U hU hW => ⟨rfl, ⟨by rw [hU]; exact (hC.at hS hZ).warm hW, hN.moved hW.alike⟩, by rw [hU], by rw [hU]; exact hP, ⟨hD.1, fun _ _ h9 => Or.inl (in_map (L := w.map Prod.fst) rfl h9)⟩, fun q hq => hZ q (hsr q hq)⟩⟩ rfl rfl hl.1 rfl (lv_room (Nat.le_of_ble_eq_true rfl)) dL_law_28 ⟨by show 91 + 5 ≤ 600130; omega, by show 35660 + 70 ≤ 7301080; omega⟩) hS hsr (fun w H locs hw hP hD1 hS _ _ => ?_)
      refine W.widen (k := 96) (n := 35730) (by omega) (by omega) ?_
      have hD : va_D (OA L0 s.heap.size) w := hD1.weaken (fun _ q _ h9 => hsr q.1 h9)
      have hSz : s.heap.size ≤ H.size := hS.1
      refine lv_ldc (v := (-2000001)) hx hb hown (hts _ qw544) dL_law_31 ?_
      refine lv_icmp_ne (tgt := 66) hx hb dL_law_33 (by decide) (fun hc => ?_) (fun hc => ?_)
      · have h := iteF hc h
        refine lv_iconst (v := (0)) hx hb dL_law_66 (by decide) ?_
        obtain rfl := Option.some.inj h
        refine W.widen (k := 102) (n := 35805) (by omega) (by omega) ?_
        exact hJ67_o7 ls H locs w (lv_sub hl [1, 0] rfl) hw hP hD hS
      · have h := iteT hc h
        refine lv_aload_n hx hb dL_law_36 rfl (lv_at hl 0 rfl) ?_
        obtain ⟨r10, er10, h⟩ := obind h
        have hsr := OA.ofD (L' := w.map Prod.fst) hD rfl hSz
        obtain ⟨fs9, h09⟩ := XG_h0 hw
        refine call_Q (va_runV (As := []) (rest := []) ⟨hx, hb, hml, hown, hts⟩ (hd_firstError l hl9 z0 D t x0 r9.2 r10 er10 w hw H.size) (kV hts qw171 qw172 qw173 qw1 qw174 ok_X4_firstError ⟨Nat.le_of_ble_eq_true rfl, Nat.le_of_ble_eq_true rfl⟩) ⟨PM.blind, va_recv hK hP (ci := 5) (q0 := 0) rfl h09, fun U hU hW => ⟨rfl, by rw [hU]; exact (hC.at hS hZ).warm hW, by rw [hU], by rw [hU]; exact hP, ⟨hD.1, fun _ _ h9 => Or.inl (in_map (L := w.map Prod.fst) rfl h9)⟩, fun q hq => hZ q (hsr q hq)⟩⟩ rfl rfl hl.1 rfl (lv_room (Nat.le_of_ble_eq_true rfl)) dL_law_37 ⟨by show 96 + 1 ≤ 600130; omega, by show 35730 + 5 ≤ 7301080; omega⟩) hS hsr (fun w H locs hw hP hD1 hS _ _ => ?_)
        refine W.widen (k := 97) (n := 35735) (by omega) (by omega) ?_
        have hD : va_D (OA L0 s.heap.size) w := hD1.weaken (fun _ q _ h9 => hsr q.1 h9)
        have hSz : s.heap.size ≤ H.size := hS.1
        refine lv_if_ne (tgt := 66) hx hb dL_law_40 (by decide) (fun hc => ?_) (fun hc => ?_)
        · have h := iteF hc h
          refine lv_iconst (v := (0)) hx hb dL_law_66 (by decide) ?_
          obtain rfl := Option.some.inj h
          refine W.widen (k := 102) (n := 35805) (by omega) (by omega) ?_
          exact hJ67_o7 ls H locs w (lv_sub hl [1, 0] rfl) hw hP hD hS
        · have h := iteT hc h
          refine lv_aload_n hx hb dL_law_43 rfl (lv_at hl 0 rfl) ?_
          obtain ⟨r11, er11, h⟩ := obind h
          have hsr := OA.ofD (L' := w.map Prod.fst) hD rfl hSz
          obtain ⟨fs9, h09⟩ := XG_h0 hw
          refine call_Q (va_runV (As := []) (rest := []) ⟨hx, hb, hml, hown, hts⟩ (hd_ways l hl9 z0 D t x0 r9.2 r11 er11 w hw H.size) (kV hts qw232 qw233 qw234 qw1 qw235 ok_X4_ways ⟨Nat.le_of_ble_eq_true rfl, Nat.le_of_ble_eq_true rfl⟩) ⟨PM.blind, va_recv hK hP (ci := 5) (q0 := 0) rfl h09, fun U hU hW => ⟨rfl, by rw [hU]; exact (hC.at hS hZ).warm hW, by rw [hU], by rw [hU]; exact hP, ⟨hD.1, fun _ _ h9 => Or.inl (in_map (L := w.map Prod.fst) rfl h9)⟩, fun q hq => hZ q (hsr q hq)⟩⟩ rfl rfl hl.1 rfl (lv_room (Nat.le_of_ble_eq_true rfl)) dL_law_44 ⟨by show 97 + 0 ≤ 600130; omega, by show 35735 + 0 ≤ 7301080; omega⟩) hS hsr (fun w H locs hw hP hD1 hS _ _ => ?_)
          have hD : va_D (OA L0 s.heap.size) w := hD1.weaken (fun _ q _ h9 => hsr q.1 h9)
          have hSz : s.heap.size ≤ H.size := hS.1
          refine lv_iconst (v := (1)) hx hb dL_law_47 (by decide) ?_
          refine lv_icmp_ne (tgt := 66) hx hb dL_law_48 (by decide) (fun hc => ?_) (fun hc => ?_)
          · have h := iteF hc h
            refine lv_iconst (v := (0)) hx hb dL_law_66 (by decide) ?_
            obtain rfl := Option.some.inj h
            refine W.widen (k := 102) (n := 35805) (by omega) (by omega) ?_
            exact hJ67_o7 ls H locs w (lv_sub hl [1, 0] rfl) hw hP hD hS
          · have h := iteT hc h
            refine lv_aload_n hx hb dL_law_51 rfl (lv_at hl 0 rfl) ?_
            refine lv_iconst (v := (0)) hx hb dL_law_52 (by decide) ?_
            refine lv_iconst (v := (0)) hx hb dL_law_53 (by decide) ?_
            obtain ⟨r12, er12, h⟩ := obind h
            have hsr := OA.ofD (L' := w.map Prod.fst) hD rfl hSz
            refine call_Q (vx_runSW (As := [.ref x0, .int (0 : Int32), .int (0 : Int32)]) (rest := []) ⟨hx, hb, hml, hown, hts⟩ (hm_lift l hl9 z0 D t x0 r9.2 (0 : Int32) (0 : Int32) r12 er12 w hw H.size) (kH hts qw629 qw630 qw0 qw631 okL_lift ⟨Nat.le_of_ble_eq_true rfl, Nat.le_of_ble_eq_true rfl⟩) ⟨PMH.blind, fun U hU hW => ⟨rfl, ⟨by rw [hU]; exact (hC.at hS hZ).warm hW, hN.moved hW.alike⟩, by rw [hU], by rw [hU]; exact hP, ⟨hD.1, fun _ _ h9 => Or.inl (in_map (L := w.map Prod.fst) rfl h9)⟩, fun q hq => hZ q (hsr q hq)⟩⟩ rfl rfl hl.1 rfl (lv_room (Nat.le_of_ble_eq_true rfl)) dL_law_54 ⟨by show 97 + 5 ≤ 600130; omega, by show 35735 + 70 ≤ 7301080; omega⟩) hS hsr (fun w H locs hw hP hD1 hS _ _ => ?_)
            refine W.widen (k := 102) (n := 35805) (by omega) (by omega) ?_
            have hD : va_D (OA L0 s.heap.size) w := hD1.weaken (fun _ q _ h9 => hsr q.1 h9)
            have hSz : s.heap.size ≤ H.size := hS.1
            refine lv_ldc (v := (-2000002)) hx hb hown (hts _ qw595) dL_law_57 ?_
            refine lv_icmp_ne (tgt := 66) hx hb dL_law_59 (by decide) (fun hc => ?_) (fun hc => ?_)
            · have h := iteF hc h
              refine lv_iconst (v := (0)) hx hb dL_law_66 (by decide) ?_
              obtain rfl := Option.some.inj h
              exact hJ67_o7 ls H locs w (lv_sub hl [1, 0] rfl) hw hP hD hS
            · have h := iteT hc h
              refine lv_iconst (v := (1)) hx hb dL_law_62 (by decide) ?_
              refine lv_goto (tgt := 67) hx hb dL_law_63 (by decide) ?_
              obtain rfl := Option.some.inj h
              exact hJ67_o7 ls H locs w (lv_sub hl [1, 0] rfl) hw hP hD hS
