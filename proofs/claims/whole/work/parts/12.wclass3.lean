abbrev rm_X2_bestGap : Room := { frames := 4, cells := 0, slots := 0, locals := 107 }
theorem ok_X2_bestGap : okY yX2_bestGap 1 := ⟨by decide +kernel, by decide +kernel, by decide +kernel⟩
set_option maxHeartbeats 4000000 in
set_option maxRecDepth 100000 in
theorem c_X2_bestGap (l : Launch) (z0 : Nat) (D : va_G) (t : Nat → ClassId) (A : Nat → Nat) (u1 : Nat) (u2 : Nat) (B : Nat → Nat) (μ : VS) (a1 : Int64) (res : Int32 × (Nat → Nat → Int32) × (Nat → Int32) × (Nat → Int32) × (Nat → Int32)) (sz : Nat) (h : f_X2_bestGap μ a1 = some res) : Met l yX2_bestGap (ws_ yX2_bestGap cX2_bestGap 8 (some .int)) rm_X2_bestGap (PM z0 D t [.ref (A 0), .long a1] (VW A u1 u2 B t μ) (VL A u1 u2 B) sz) (QMu (some (.int res.1)) D (fun u1 u2 => (VW A u1 u2 B t (v_rnext' (v_reached' (v_takes' (v_rest' μ res.2.1) res.2.2.1) res.2.2.2.1) res.2.2.2.2))) (VL A u1 u2 B) sz) 0 0 (OA (VL A u1 u2 B) sz) := by
  refine Met.ofW (cc := cX2_bestGap) (maxL := 8) (ret := (some .int)) (by decide) rfl ?_
  intro p e s m args below meth c s₁ Bo hml hv
  obtain ⟨rfl, hC, hsz, hP, hD, hZ⟩ := hv
  have hx := Bo.exec
  have hb := Bo.bytes
  have hr := Bo.returns
  have hts : ∀ w ∈ LA, w.before _ s = true := fun w hw => atoms_spec (ws := ws_ yX2_bestGap cX2_bestGap 8 (some .int)) Bo.pre w (List.mem_cons_of_mem _ hw)
  have hown : s.vm.findClass RX2 = some m.cls := findClass_of_methodNamed Bo.named
  have hlocks := Bo.notSynchronized
  have hK := hC.1
  subst hsz
  have hl := lv_entry ([.ref (A 0), .long a1]) (n := 8) (Nat.le_of_ble_eq_true rfl)
  rw [lg_entry_eq]
  generalize (lg_sl ([.ref (A 0), .long a1]) ++ List.replicate (8 - (lg_sl ([.ref (A 0), .long a1])).length) Slot.unset).toArray = ls at hl ⊢
  have hl : lv_has ls 8 [(0, .ref (A 0)), (1, .long a1)] := hl
  suffices K9 : ∀ (H : Heap) (locs : List Loc), va_P D vwCl (VW A u1 u2 B t μ) H → va_S (OA (VL A u1 u2 B) s.heap.size) s.heap H locs → W p l e (headSpec (ws_ yX2_bestGap cX2_bestGap 8 (some .int)) rm_X2_bestGap).room s m ([.ref (A 0), .long a1] : List Value).toArray below meth c H locs 0 0 (MQ below (QMu (some (.int res.1)) D (fun u1 u2 => (VW A u1 u2 B t (v_rnext' (v_reached' (v_takes' (v_rest' μ res.2.1) res.2.2.1) res.2.2.2.1) res.2.2.2.2))) (VL A u1 u2 B) s.heap.size) ([.ref (A 0), .long a1] : List Value).toArray s 0 0 (OA (VL A u1 u2 B) s.heap.size)) (F0 m 0 ls []) from K9 s.heap [] hP va_S.rf
  intro H locs hP hS
  have hSz : s.heap.size ≤ H.size := hS.1
  unfold f_X2_bestGap at h
  refine lv_aload_n hx hb dX2_bestGap_0 rfl (lv_at hl 0 rfl) ?_
  refine lv_lload_n hx hb dX2_bestGap_1 rfl (lv_at hl 1 rfl) ?_
  obtain ⟨r1, er1, h⟩ := obind h
  refine call_M (va_runV (As := [.long a1]) (rest := []) ⟨hx, hb, hml, hown, hts⟩ (c_X2_countRest l z0 D t A u1 u2 B μ a1 _ H.size er1) (kV hts qw247 qw249 qs2 qw6 qw250 ok_X2_countRest ⟨Nat.le_of_ble_eq_true rfl, Nat.le_of_ble_eq_true rfl⟩) ⟨PM.blind, va_recv hK hP (ci := 3) (q0 := 0) rfl rfl, fun U hU hW => ⟨rfl, by rw [hU]; exact (hC.at hS hZ).warm hW, by rw [hU], by rw [hU]; exact hP, ⟨hD.1, fun _ _ h9 => Or.inl (in_map (L := (VL A u1 u2 B)) rfl h9)⟩, fun q hq => hZ q (OA.ofD hD rfl hSz q hq)⟩⟩ rfl rfl hl.1 rfl (lv_room (Nat.le_of_ble_eq_true rfl)) dX2_bestGap_2 ⟨Nat.le_of_ble_eq_true rfl, Nat.le_of_ble_eq_true rfl⟩) hS (OA.ofD hD rfl hSz) (fun H locs hP hD1 hS _ _ => ?_)
  have hP : va_P D vwCl (VW A u1 u2 B t (v_takes' (v_rest' μ r1.1) r1.2)) H := hP
  have hD : va_D (OA (VL A u1 u2 B) s.heap.size) (VW A u1 u2 B t (v_takes' (v_rest' μ r1.1) r1.2)) := hD1.weaken (fun _ q _ h9 => OA.ofD hD rfl hSz q.1 h9)
  have hSz : s.heap.size ≤ H.size := hS.1
  refine lv_aload_n hx hb dX2_bestGap_5 rfl (lv_at hl 0 rfl) ?_
  refine va_get hx hb hts inX2 hown hK hP 0 rfl rfl 2 (by decide) (hts _ qw87) (fun _ h9 => h9) rfl dX2_bestGap_6 ?_
  refine lv_iconst (v := (0)) hx hb dX2_bestGap_9 (by decide) ?_
  obtain ⟨r2, er2, h⟩ := obind h
  refine call_M (va_runS (As := [.ref u1, .int (0 : Int32)]) (rest := []) ⟨hx, hb, hml, hown, hts⟩ (c_J7_fill_53178 l z0 D t u1 (v_reached μ) (0 : Int32) _ H.size er2) (kS hts qw261 qw262 qw18 qw263 ok_J7_fill_53178 ⟨Nat.le_of_ble_eq_true rfl, Nat.le_of_ble_eq_true rfl⟩) ⟨PM.blind, fun U hU hW => ⟨rfl, by rw [hU]; exact (hC.at hS hZ).warm hW, by rw [hU], by rw [hU]; exact (sub_V_F_3 (μ := v_takes' (v_rest' μ r1.1) r1.2) hP), ⟨(subD_V_F_3 (μ := v_takes' (v_rest' μ r1.1) r1.2) hD).1, fun _ _ h9 => Or.inl (in_map (L := (FL u1)) rfl h9)⟩, fun q hq => hZ q (OA.ofD (subD_V_F_3 (μ := v_takes' (v_rest' μ r1.1) r1.2) hD) rfl hSz q hq)⟩⟩ rfl rfl hl.1 rfl (lv_room (Nat.le_of_ble_eq_true rfl)) dX2_bestGap_10 ⟨Nat.le_of_ble_eq_true rfl, Nat.le_of_ble_eq_true rfl⟩) hS (OA.ofD (subD_V_F_3 (μ := v_takes' (v_rest' μ r1.1) r1.2) hD) rfl hSz) (fun H locs hP1 hD1 hS _ hk1 => ?_)
  obtain ⟨hP, hD⟩ := back_V_F_3 (μ := v_takes' (v_rest' μ r1.1) r1.2) hP hD hk1 hP1
  have hP : va_P D vwCl (VW A u1 u2 B t (v_reached' (v_takes' (v_rest' μ r1.1) r1.2) r2)) H := hP
  have hD : va_D (OA (VL A u1 u2 B) s.heap.size) (VW A u1 u2 B t (v_reached' (v_takes' (v_rest' μ r1.1) r1.2) r2)) := hD
  have hSz : s.heap.size ≤ H.size := hS.1
  refine lv_aload_n hx hb dX2_bestGap_13 rfl (lv_at hl 0 rfl) ?_
  refine va_get hx hb hts inX2 hown hK hP 0 rfl rfl 2 (by decide) (hts _ qw87) (fun _ h9 => h9) rfl dX2_bestGap_14 ?_
  refine lv_iconst (v := (0)) hx hb dX2_bestGap_17 (by decide) ?_
  refine lv_iconst (v := (1)) hx hb dX2_bestGap_18 (by decide) ?_
  obtain ⟨f3, ef3, h⟩ := obind h
  refine k_iast (ws' := (VW A u1 u2 B t (v_reached' (v_takes' (v_rest' μ r1.1) r1.2) f3))) hx hb hK hP hD hS 3 rfl ef3 rfl dX2_bestGap_19 (fun H locs hP hD hS => ?_)
  have hSz : s.heap.size ≤ H.size := hS.1
  refine lv_iconst (v := (-1)) hx hb dX2_bestGap_20 (by decide) ?_
  refine lv_istore_n (lv' := [(3, .int (-1 : Int32)), (0, .ref (A 0)), (1, .long a1)]) hx hb dX2_bestGap_21 rfl hl (by decide) rfl (fun ls hl => ?_)
  refine lv_iconst (v := (0)) hx hb dX2_bestGap_22 (by decide) ?_
  refine lv_istore (lv' := [(4, .int (0 : Int32)), (3, .int (-1 : Int32)), (0, .ref (A 0)), (1, .long a1)]) hx hb dX2_bestGap_23 hl (by decide) rfl (fun ls hl => ?_)
  refine lv_lload_n hx hb dX2_bestGap_25 rfl (lv_at hl 3 rfl) ?_
  obtain ⟨r4, er4, h⟩ := obind h
  refine call_R (va_runS (As := [.long a1]) (rest := []) ⟨hx, hb, hml, hown, hts⟩ (c_X2_endOf l z0 D t a1 _ er4) (kS hts qw251 qw252 qw6 qw253 ok_X2_endOf ⟨Nat.le_of_ble_eq_true rfl, Nat.le_of_ble_eq_true rfl⟩) ⟨PR.blind, fun U hU hW => ⟨rfl, by rw [hU]; exact (hC.at hS hZ).warm hW, by rw [hU]; exact va_P_nil⟩⟩ rfl rfl hl.1 rfl (lv_room (Nat.le_of_ble_eq_true rfl)) dX2_bestGap_26 ⟨Nat.le_of_ble_eq_true rfl, Nat.le_of_ble_eq_true rfl⟩) ?_
  refine lv_istore (lv' := [(5, .int r4), (4, .int (0 : Int32)), (3, .int (-1 : Int32)), (0, .ref (A 0)), (1, .long a1)]) hx hb dX2_bestGap_29 hl (by decide) rfl (fun ls hl => ?_)
  refine lv_iconst (v := (0)) hx hb dX2_bestGap_31 (by decide) ?_
  refine lv_istore (lv' := [(6, .int (0 : Int32)), (5, .int r4), (4, .int (0 : Int32)), (3, .int (-1 : Int32)), (0, .ref (A 0)), (1, .long a1)]) hx hb dX2_bestGap_32 hl (by decide) rfl (fun ls hl => ?_)
  obtain ⟨o19, eo19, h⟩ := obind h
  have hL34 : ∀ (n : Nat) (y3_34 : Int32) (y4_34 : Int32) (y6_34 : Int32) (takes_34 : Nat → Int32) (reached_34 : Nat → Int32) (rnext_34 : Nat → Int32) (o19 : Int32 × (Nat → Int32) × (Nat → Int32) × (Nat → Int32)), f_X2_bestGap_L34 a1 μ r1 r4 n y3_34 y4_34 y6_34 takes_34 reached_34 rnext_34 = some o19 → (∀ (ls : Array Slot) (H : Heap) (locs : List Loc) (u1_34 u2_34 : Nat), lv_has ls 8 [(3, .int o19.1)] → va_P D vwCl (VW A u1_34 u2_34 B t (v_rnext' (v_reached' (v_takes' (v_rest' μ r1.1) o19.2.1) o19.2.2.1) o19.2.2.2)) H → va_D (OA (VL A u1 u2 B) s.heap.size) (VW A u1_34 u2_34 B t (v_rnext' (v_reached' (v_takes' (v_rest' μ r1.1) o19.2.1) o19.2.2.1) o19.2.2.2)) → va_S (OA (VL A u1 u2 B) s.heap.size) s.heap H locs → W p l e (headSpec (ws_ yX2_bestGap cX2_bestGap 8 (some .int)) rm_X2_bestGap).room s m ([.ref (A 0), .long a1] : List Value).toArray below meth c H locs 0 0 (MQ below (QMu (some (.int res.1)) D (fun u1 u2 => (VW A u1 u2 B t (v_rnext' (v_reached' (v_takes' (v_rest' μ res.2.1) res.2.2.1) res.2.2.2.1) res.2.2.2.2))) (VL A u1 u2 B) s.heap.size) ([.ref (A 0), .long a1] : List Value).toArray s 0 0 (OA (VL A u1 u2 B) s.heap.size)) (F0 m 89 ls [])) → ∀ (ls : Array Slot) (H : Heap) (locs : List Loc) (u1_34 u2_34 : Nat), lv_has ls 8 [(0, .ref (A 0)), (1, .long a1), (3, .int y3_34), (4, .int y4_34), (5, .int r4), (6, .int y6_34)] → va_P D vwCl (VW A u1_34 u2_34 B t (v_rnext' (v_reached' (v_takes' (v_rest' μ r1.1) takes_34) reached_34) rnext_34)) H → va_D (OA (VL A u1 u2 B) s.heap.size) (VW A u1_34 u2_34 B t (v_rnext' (v_reached' (v_takes' (v_rest' μ r1.1) takes_34) reached_34) rnext_34)) → va_S (OA (VL A u1 u2 B) s.heap.size) s.heap H locs → W p l e (headSpec (ws_ yX2_bestGap cX2_bestGap 8 (some .int)) rm_X2_bestGap).room s m ([.ref (A 0), .long a1] : List Value).toArray below meth c H locs 0 0 (MQ below (QMu (some (.int res.1)) D (fun u1 u2 => (VW A u1 u2 B t (v_rnext' (v_reached' (v_takes' (v_rest' μ res.2.1) res.2.2.1) res.2.2.2.1) res.2.2.2.2))) (VL A u1 u2 B) s.heap.size) ([.ref (A 0), .long a1] : List Value).toArray s 0 0 (OA (VL A u1 u2 B) s.heap.size)) (F0 m 34 ls []) := by
    intro n
    induction n with
    | zero => intro y3_34 y4_34 y6_34 takes_34 reached_34 rnext_34 o19 h; exact absurd h (fun z => by cases z)
    | succ n ih =>
      intro y3_34 y4_34 y6_34 takes_34 reached_34 rnext_34 o19 h hK34 ls H locs u1_34 u2_34 hl hP hD hS
      replace h : f_X2_bestGap_L34_b a1 μ r1 r4 (f_X2_bestGap_L34 a1 μ r1 r4 n) y3_34 y4_34 y6_34 takes_34 reached_34 rnext_34 = some o19 := h
      unfold f_X2_bestGap_L34_b at h
      have hSz : s.heap.size ≤ H.size := hS.1
      refine lv_iload hx hb dX2_bestGap_34 (lv_at hl 5 rfl) ?_
      refine lv_iload hx hb dX2_bestGap_36 (lv_at hl 4 rfl) ?_
      refine lv_icmp_ge (tgt := 89) hx hb dX2_bestGap_38 (by decide) (fun hc => ?_) (fun hc => ?_)
      · have h := iteT hc h
        obtain rfl := Option.some.inj h
        exact hK34 ls H locs u1_34 u2_34 (lv_sub hl [2] rfl) hP hD hS
      · have h := iteF hc h
        refine lv_lload_n hx hb dX2_bestGap_41 rfl (lv_at hl 1 rfl) ?_
        refine lv_iload hx hb dX2_bestGap_42 (lv_at hl 5 rfl) ?_
        obtain ⟨r20, er20, h⟩ := obind h
        refine call_R (va_runSN (As := [.long a1, .int y6_34]) (rest := []) ⟨hx, hb, hml, hown, hts⟩ (c_X4_holds l z0 D t a1 y6_34 _ er20) ⟨kN hts (hC.2.1 _ qw277) qw1 qw279 ok_X4_holds ⟨Nat.le_of_ble_eq_true rfl, Nat.le_of_ble_eq_true rfl⟩, hts _ qw278, trivial⟩ ⟨PR.blind, fun U hU hW => ⟨rfl, by rw [hU]; exact (hC.at hS hZ).warm hW, by rw [hU]; exact va_P_nil⟩⟩ rfl rfl hl.1 rfl (lv_room (Nat.le_of_ble_eq_true rfl)) dX2_bestGap_44 ⟨Nat.le_of_ble_eq_true rfl, Nat.le_of_ble_eq_true rfl⟩) ?_
        obtain ⟨o22, eo22, h⟩ := obind h
        have hJ60_o22 : ∀ (ls : Array Slot) (H : Heap) (locs : List Loc), lv_has ls 8 [(0, .ref (A 0)), (1, .long a1), (3, .int y3_34), (4, .int y4_34), (5, .int r4), (6, .int y6_34)] → va_P D vwCl (VW A u1_34 u2_34 B t (v_rnext' (v_reached' (v_takes' (v_rest' μ r1.1) takes_34) reached_34) rnext_34)) H → va_D (OA (VL A u1 u2 B) s.heap.size) (VW A u1_34 u2_34 B t (v_rnext' (v_reached' (v_takes' (v_rest' μ r1.1) takes_34) reached_34) rnext_34)) → va_S (OA (VL A u1 u2 B) s.heap.size) s.heap H locs → W p l e (headSpec (ws_ yX2_bestGap cX2_bestGap 8 (some .int)) rm_X2_bestGap).room s m ([.ref (A 0), .long a1] : List Value).toArray below meth c H locs 0 0 (MQ below (QMu (some (.int res.1)) D (fun u1 u2 => (VW A u1 u2 B t (v_rnext' (v_reached' (v_takes' (v_rest' μ res.2.1) res.2.2.1) res.2.2.2.1) res.2.2.2.2))) (VL A u1 u2 B) s.heap.size) ([.ref (A 0), .long a1] : List Value).toArray s 0 0 (OA (VL A u1 u2 B) s.heap.size)) (F0 m 60 ls [.int o22]) := by
          intro ls H locs hl hP hD hS
          have hSz : s.heap.size ≤ H.size := hS.1
          refine lv_istore (lv' := [(7, .int o22), (0, .ref (A 0)), (1, .long a1), (3, .int y3_34), (4, .int y4_34), (5, .int r4), (6, .int y6_34)]) hx hb dX2_bestGap_60 hl (by decide) rfl (fun ls hl => ?_)
          refine lv_iload hx hb dX2_bestGap_62 (lv_at hl 0 rfl) ?_
          refine lv_iload hx hb dX2_bestGap_64 (lv_at hl 4 rfl) ?_
          obtain ⟨o24, eo24, h⟩ := obind h
          have hJ76_o24 : ∀ (ls : Array Slot) (H : Heap) (locs : List Loc), lv_has ls 8 [(0, .ref (A 0)), (1, .long a1), (3, .int o24.1), (4, .int o24.2), (5, .int r4), (6, .int y6_34)] → va_P D vwCl (VW A u1_34 u2_34 B t (v_rnext' (v_reached' (v_takes' (v_rest' μ r1.1) takes_34) reached_34) rnext_34)) H → va_D (OA (VL A u1 u2 B) s.heap.size) (VW A u1_34 u2_34 B t (v_rnext' (v_reached' (v_takes' (v_rest' μ r1.1) takes_34) reached_34) rnext_34)) → va_S (OA (VL A u1 u2 B) s.heap.size) s.heap H locs → W p l e (headSpec (ws_ yX2_bestGap cX2_bestGap 8 (some .int)) rm_X2_bestGap).room s m ([.ref (A 0), .long a1] : List Value).toArray below meth c H locs 0 0 (MQ below (QMu (some (.int res.1)) D (fun u1 u2 => (VW A u1 u2 B t (v_rnext' (v_reached' (v_takes' (v_rest' μ res.2.1) res.2.2.1) res.2.2.2.1) res.2.2.2.2))) (VL A u1 u2 B) s.heap.size) ([.ref (A 0), .long a1] : List Value).toArray s 0 0 (OA (VL A u1 u2 B) s.heap.size)) (F0 m 76 ls []) := by
            intro ls H locs hl hP hD hS
            have hSz : s.heap.size ≤ H.size := hS.1
            refine lv_aload_n hx hb dX2_bestGap_76 rfl (lv_at hl 0 rfl) ?_
            refine lv_lload_n hx hb dX2_bestGap_77 rfl (lv_at hl 1 rfl) ?_
            refine lv_iload hx hb dX2_bestGap_78 (lv_at hl 5 rfl) ?_
            obtain ⟨r25, er25, h⟩ := obind h
            refine call_M (va_runV (As := [.long a1, .int y6_34]) (rest := []) ⟨hx, hb, hml, hown, hts⟩ (c_X2_reachNext l z0 D t A u1_34 u2_34 B (v_rnext' (v_reached' (v_takes' (v_rest' μ r1.1) takes_34) reached_34) rnext_34) a1 y6_34 _ H.size er25) (kV hts qw345 qw347 qs10 qw6 qw348 ok_X2_reachNext ⟨Nat.le_of_ble_eq_true rfl, Nat.le_of_ble_eq_true rfl⟩) ⟨PM.blind, va_recv hK hP (ci := 3) (q0 := 0) rfl rfl, fun U hU hW => ⟨rfl, by rw [hU]; exact (hC.at hS hZ).warm hW, by rw [hU], by rw [hU]; exact hP, ⟨hD.1, fun _ _ h9 => Or.inl (in_map (L := (VL A u1_34 u2_34 B)) rfl h9)⟩, fun q hq => hZ q (OA.ofD hD rfl hSz q hq)⟩⟩ rfl rfl hl.1 rfl (lv_room (Nat.le_of_ble_eq_true rfl)) dX2_bestGap_80 ⟨Nat.le_of_ble_eq_true rfl, Nat.le_of_ble_eq_true rfl⟩) hS (OA.ofD hD rfl hSz) (fun H locs hP hD1 hS _ _ => ?_)
            have hP : va_P D vwCl (VW A u2_34 u1_34 B t (v_rnext' (v_reached' (v_takes' (v_rest' μ r1.1) r25.1) r25.2.1) r25.2.2)) H := hP
            have hD : va_D (OA (VL A u1 u2 B) s.heap.size) (VW A u2_34 u1_34 B t (v_rnext' (v_reached' (v_takes' (v_rest' μ r1.1) r25.1) r25.2.1) r25.2.2)) := hD1.weaken (fun _ q _ h9 => OA.ofD hD rfl hSz q.1 h9)
            have hSz : s.heap.size ≤ H.size := hS.1
            obtain ⟨x26, ex26, h⟩ := jlet_some h
            refine lv_iinc (v := x26) (lv' := [(6, .int x26), (0, .ref (A 0)), (1, .long a1), (3, .int o24.1), (4, .int o24.2), (5, .int r4)]) hx hb dX2_bestGap_83 hl (k := 5) rfl (by rw [ex26]; rfl) (by decide) rfl (fun ls hl => ?_)
            refine lv_goto (tgt := 34) hx hb dX2_bestGap_86 (by decide) ?_
            exact ih _ _ _ _ _ _ _ h hK34 ls H locs u2_34 u1_34 (lv_sub hl [1, 2, 3, 4, 5, 0] rfl) hP hD hS
          have h := eo24
          clear eo24
          refine lv_icmp_le (tgt := 76) hx hb dX2_bestGap_66 (by decide) (fun hc => ?_) (fun hc => ?_)
          · have h := iteT hc h
            obtain rfl := Option.some.inj h
            exact hJ76_o24 ls H locs (lv_sub hl [1, 2, 3, 4, 5, 6] rfl) hP hD hS
          · have h := iteF hc h
            refine lv_iload hx hb dX2_bestGap_69 (lv_at hl 0 rfl) ?_
            refine lv_istore (lv' := [(4, .int o22), (7, .int o22), (0, .ref (A 0)), (1, .long a1), (3, .int y3_34), (5, .int r4), (6, .int y6_34)]) hx hb dX2_bestGap_71 hl (by decide) rfl (fun ls hl => ?_)
            refine lv_iload hx hb dX2_bestGap_73 (lv_at hl 6 rfl) ?_
            refine lv_istore_n (lv' := [(3, .int y6_34), (4, .int o22), (7, .int o22), (0, .ref (A 0)), (1, .long a1), (5, .int r4), (6, .int y6_34)]) hx hb dX2_bestGap_75 rfl hl (by decide) rfl (fun ls hl => ?_)
            obtain rfl := Option.some.inj h
            exact hJ76_o24 ls H locs (lv_sub hl [3, 4, 0, 1, 5, 6] rfl) hP hD hS
        have h := eo22
        clear eo22
        refine lv_if_eq (tgt := 59) hx hb dX2_bestGap_47 (by decide) (fun hc => ?_) (fun hc => ?_)
        · have h := iteT hc h
          refine lv_iconst (v := (0)) hx hb dX2_bestGap_59 (by decide) ?_
          obtain rfl := Option.some.inj h
          exact hJ60_o22 ls H locs (lv_sub hl [0, 1, 2, 3, 4, 5] rfl) hP hD hS
        · have h := iteF hc h
          refine lv_aload_n hx hb dX2_bestGap_50 rfl (lv_at hl 0 rfl) ?_
          refine lv_iload hx hb dX2_bestGap_51 (lv_at hl 5 rfl) ?_
          obtain ⟨r23, er23, h⟩ := obind h
          refine call_R (va_runV (As := [.int y6_34]) (rest := []) ⟨hx, hb, hml, hown, hts⟩ (c_X2_waysAround l z0 D t A u1_34 u2_34 B (v_rnext' (v_reached' (v_takes' (v_rest' μ r1.1) takes_34) reached_34) rnext_34) y6_34 _ er23) (kV hts qw341 qw343 qs9 qw6 qw344 ok_X2_waysAround ⟨Nat.le_of_ble_eq_true rfl, Nat.le_of_ble_eq_true rfl⟩) ⟨PR.blind, va_recv hK hP (ci := 3) (q0 := 0) rfl rfl, fun U hU hW => ⟨rfl, by rw [hU]; exact (hC.at hS hZ).warm hW, by rw [hU]; exact hP⟩⟩ rfl rfl hl.1 rfl (lv_room (Nat.le_of_ble_eq_true rfl)) dX2_bestGap_53 ⟨Nat.le_of_ble_eq_true rfl, Nat.le_of_ble_eq_true rfl⟩) ?_
          refine lv_goto (tgt := 60) hx hb dX2_bestGap_56 (by decide) ?_
          obtain rfl := Option.some.inj h
          exact hJ60_o22 ls H locs (lv_sub hl [0, 1, 2, 3, 4, 5] rfl) hP hD hS
  refine hL34 _ _ _ _ _ _ _ _ eo19 (fun ls H locs u1_34 u2_34 hl hP hD hS => ?_) ls H locs u1 u2 (lv_sub hl [4, 5, 3, 2, 1, 0] rfl) hP hD hS
  have hSz : s.heap.size ≤ H.size := hS.1
  refine lv_iload_n hx hb dX2_bestGap_89 rfl (lv_at hl 0 rfl) ?_
  obtain rfl := Option.some.inj h
  exact W.iret hx hb hr (fun t ht hW => ⟨rfl, _, _, by rw [ht]; exact hP, hD, hS.F ht⟩) hS.2.2 dX2_bestGap_90

abbrev rm_X1_layableTriples : Room := { frames := 2, cells := 0, slots := 0, locals := 65 }
theorem ok_X1_layableTriples : okY yX1_layableTriples 0 := ⟨by decide +kernel, by decide +kernel, by decide +kernel⟩
set_option maxHeartbeats 4000000 in
set_option maxRecDepth 100000 in
theorem c_X1_layableTriples (l : Launch) (z0 : Nat) (D : va_G) (t : Nat → ClassId) (G : Nat → Nat) (μ : GS) (res : Int32) (h : f_X1_layableTriples μ = some res) : Met l yX1_layableTriples (ws_ yX1_layableTriples cX1_layableTriples 5 (some .int)) rm_X1_layableTriples (PR z0 D t [.ref (G 0)] (GW G t μ)) (QR (some (.int res))) 0 0 FN := by
  refine Met.ofW (cc := cX1_layableTriples) (maxL := 5) (ret := (some .int)) (by decide) rfl ?_
  intro p e s m args below meth c s₁ Bo hml hv
  obtain ⟨rfl, hC, hP⟩ := hv
  have hx := Bo.exec
  have hb := Bo.bytes
  have hr := Bo.returns
  have hts : ∀ w ∈ LA, w.before _ s = true := fun w hw => atoms_spec (ws := ws_ yX1_layableTriples cX1_layableTriples 5 (some .int)) Bo.pre w (List.mem_cons_of_mem _ hw)
  have hown : s.vm.findClass RX1 = some m.cls := findClass_of_methodNamed Bo.named
  have hlocks := Bo.notSynchronized
  have hK := hC.1
  have hl := lv_entry ([.ref (G 0)]) (n := 5) (Nat.le_of_ble_eq_true rfl)
  rw [lg_entry_eq]
  generalize (lg_sl ([.ref (G 0)]) ++ List.replicate (5 - (lg_sl ([.ref (G 0)])).length) Slot.unset).toArray = ls at hl ⊢
  have hl : lv_has ls 5 [(0, .ref (G 0))] := hl
  unfold f_X1_layableTriples at h
  refine lv_iconst (v := (0)) hx hb dX1_layableTriples_0 (by decide) ?_
  refine lv_istore_n (lv' := [(1, .int (0 : Int32)), (0, .ref (G 0))]) hx hb dX1_layableTriples_1 rfl hl (by decide) rfl (fun ls hl => ?_)
  refine lv_iconst (v := (0)) hx hb dX1_layableTriples_2 (by decide) ?_
  refine lv_istore_n (lv' := [(2, .int (0 : Int32)), (1, .int (0 : Int32)), (0, .ref (G 0))]) hx hb dX1_layableTriples_3 rfl hl (by decide) rfl (fun ls hl => ?_)
  obtain ⟨o89, eo89, h⟩ := obind h
  have hL4 : ∀ (n : Nat) (y1_4 : Int32) (y2_4 : Int32) (o89 : Int32), f_X1_layableTriples_L4 μ n y1_4 y2_4 = some o89 → (∀ (ls : Array Slot), lv_has ls 5 [(1, .int o89)] → W p l e (headSpec (ws_ yX1_layableTriples cX1_layableTriples 5 (some .int)) rm_X1_layableTriples).room s m ([.ref (G 0)] : List Value).toArray below meth c s.heap [] 0 0 (MQ below (QR (some (.int res))) ([.ref (G 0)] : List Value).toArray s 0 0 FN) (F0 m 68 ls [])) → ∀ (ls : Array Slot), lv_has ls 5 [(0, .ref (G 0)), (1, .int y1_4), (2, .int y2_4)] → W p l e (headSpec (ws_ yX1_layableTriples cX1_layableTriples 5 (some .int)) rm_X1_layableTriples).room s m ([.ref (G 0)] : List Value).toArray below meth c s.heap [] 0 0 (MQ below (QR (some (.int res))) ([.ref (G 0)] : List Value).toArray s 0 0 FN) (F0 m 4 ls []) := by
    intro n
    induction n with
    | zero => intro y1_4 y2_4 o89 h; exact absurd h (fun z => by cases z)
    | succ n ih =>
      intro y1_4 y2_4 o89 h hK4 ls hl
      replace h : f_X1_layableTriples_L4_b μ (f_X1_layableTriples_L4 μ n) y1_4 y2_4 = some o89 := h
      unfold f_X1_layableTriples_L4_b at h
      refine lv_iload_n hx hb dX1_layableTriples_4 rfl (lv_at hl 2 rfl) ?_
      refine lv_aload_n hx hb dX1_layableTriples_5 rfl (lv_at hl 0 rfl) ?_
      refine va_get hx hb hts inX1 hown hK hP 0 rfl rfl 1 (by decide) (hts _ qw105) (fun _ h9 => h9) rfl dX1_layableTriples_6 ?_
      refine lv_icmp_ge (tgt := 68) hx hb dX1_layableTriples_9 (by decide) (fun hc => ?_) (fun hc => ?_)
      · have h := iteT hc h
        obtain rfl := Option.some.inj h
        exact hK4 ls (lv_sub hl [1] rfl)
      · have h := iteF hc h
        refine lv_iconst (v := (0)) hx hb dX1_layableTriples_12 (by decide) ?_
        refine lv_istore_n (lv' := [(3, .int (0 : Int32)), (0, .ref (G 0)), (1, .int y1_4), (2, .int y2_4)]) hx hb dX1_layableTriples_13 rfl hl (by decide) rfl (fun ls hl => ?_)
        obtain ⟨o118, eo118, h⟩ := obind h
        have hL14 : ∀ (n : Nat) (y1_14 : Int32) (y3_14 : Int32) (o118 : Int32), f_X1_layableTriples_L14 μ y2_4 n y1_14 y3_14 = some o118 → (∀ (ls : Array Slot), lv_has ls 5 [(0, .ref (G 0)), (1, .int o118), (2, .int y2_4)] → W p l e (headSpec (ws_ yX1_layableTriples cX1_layableTriples 5 (some .int)) rm_X1_layableTriples).room s m ([.ref (G 0)] : List Value).toArray below meth c s.heap [] 0 0 (MQ below (QR (some (.int res))) ([.ref (G 0)] : List Value).toArray s 0 0 FN) (F0 m 62 ls [])) → ∀ (ls : Array Slot), lv_has ls 5 [(0, .ref (G 0)), (1, .int y1_14), (2, .int y2_4), (3, .int y3_14)] → W p l e (headSpec (ws_ yX1_layableTriples cX1_layableTriples 5 (some .int)) rm_X1_layableTriples).room s m ([.ref (G 0)] : List Value).toArray below meth c s.heap [] 0 0 (MQ below (QR (some (.int res))) ([.ref (G 0)] : List Value).toArray s 0 0 FN) (F0 m 14 ls []) := by
          intro n
          induction n with
          | zero => intro y1_14 y3_14 o118 h; exact absurd h (fun z => by cases z)
          | succ n ih =>
            intro y1_14 y3_14 o118 h hK14 ls hl
            replace h : f_X1_layableTriples_L14_b μ y2_4 (f_X1_layableTriples_L14 μ y2_4 n) y1_14 y3_14 = some o118 := h
            unfold f_X1_layableTriples_L14_b at h
            refine lv_iload_n hx hb dX1_layableTriples_14 rfl (lv_at hl 3 rfl) ?_
            refine lv_aload_n hx hb dX1_layableTriples_15 rfl (lv_at hl 0 rfl) ?_
            refine va_get hx hb hts inX1 hown hK hP 0 rfl rfl 0 (by decide) (hts _ qw103) (fun _ h9 => h9) rfl dX1_layableTriples_16 ?_
            refine lv_icmp_ge (tgt := 62) hx hb dX1_layableTriples_19 (by decide) (fun hc => ?_) (fun hc => ?_)
            · have h := iteT hc h
              obtain rfl := Option.some.inj h
              exact hK14 ls (lv_sub hl [0, 1, 2] rfl)
            · have h := iteF hc h
              refine lv_iconst (v := (0)) hx hb dX1_layableTriples_22 (by decide) ?_
              refine lv_istore (lv' := [(4, .int (0 : Int32)), (0, .ref (G 0)), (1, .int y1_14), (2, .int y2_4), (3, .int y3_14)]) hx hb dX1_layableTriples_23 hl (by decide) rfl (fun ls hl => ?_)
              obtain ⟨o127, eo127, h⟩ := obind h
              have hL25 : ∀ (n : Nat) (y1_25 : Int32) (y4_25 : Int32) (o127 : Int32), f_X1_layableTriples_L25 μ y3_14 y2_4 n y1_25 y4_25 = some o127 → (∀ (ls : Array Slot), lv_has ls 5 [(0, .ref (G 0)), (1, .int o127), (2, .int y2_4), (3, .int y3_14)] → W p l e (headSpec (ws_ yX1_layableTriples cX1_layableTriples 5 (some .int)) rm_X1_layableTriples).room s m ([.ref (G 0)] : List Value).toArray below meth c s.heap [] 0 0 (MQ below (QR (some (.int res))) ([.ref (G 0)] : List Value).toArray s 0 0 FN) (F0 m 56 ls [])) → ∀ (ls : Array Slot), lv_has ls 5 [(0, .ref (G 0)), (1, .int y1_25), (2, .int y2_4), (3, .int y3_14), (4, .int y4_25)] → W p l e (headSpec (ws_ yX1_layableTriples cX1_layableTriples 5 (some .int)) rm_X1_layableTriples).room s m ([.ref (G 0)] : List Value).toArray below meth c s.heap [] 0 0 (MQ below (QR (some (.int res))) ([.ref (G 0)] : List Value).toArray s 0 0 FN) (F0 m 25 ls []) := by
                intro n
                induction n with
                | zero => intro y1_25 y4_25 o127 h; exact absurd h (fun z => by cases z)
                | succ n ih =>
                  intro y1_25 y4_25 o127 h hK25 ls hl
                  replace h : f_X1_layableTriples_L25_b μ y3_14 y2_4 (f_X1_layableTriples_L25 μ y3_14 y2_4 n) y1_25 y4_25 = some o127 := h
                  unfold f_X1_layableTriples_L25_b at h
                  refine lv_iload hx hb dX1_layableTriples_25 (lv_at hl 4 rfl) ?_
                  refine lv_iconst (v := (4)) hx hb dX1_layableTriples_27 (by decide) ?_
                  refine lv_icmp_ge (tgt := 56) hx hb dX1_layableTriples_28 (by decide) (fun hc => ?_) (fun hc => ?_)
                  · have h := iteT hc h
                    obtain rfl := Option.some.inj h
                    exact hK25 ls (lv_sub hl [0, 1, 2, 3] rfl)
                  · have h := iteF hc h
                    refine lv_iload_n hx hb dX1_layableTriples_31 rfl (lv_at hl 1 rfl) ?_
                    refine lv_aload_n hx hb dX1_layableTriples_32 rfl (lv_at hl 0 rfl) ?_
                    refine lv_iload_n hx hb dX1_layableTriples_33 rfl (lv_at hl 3 rfl) ?_
                    refine lv_iload_n hx hb dX1_layableTriples_34 rfl (lv_at hl 2 rfl) ?_
                    refine lv_iload hx hb dX1_layableTriples_35 (lv_at hl 4 rfl) ?_
                    obtain ⟨r128, er128, h⟩ := obind h
                    refine call_R (va_runV (As := [.int y3_14, .int y2_4, .int y4_25]) (rest := [.int y1_25]) ⟨hx, hb, hml, hown, hts⟩ (c_X1_whyRefused l z0 D t G μ y3_14 y2_4 y4_25 _ er128) (kV hts qw320 qw321 qw322 qw7 qw323 ok_X1_whyRefused ⟨Nat.le_of_ble_eq_true rfl, Nat.le_of_ble_eq_true rfl⟩) ⟨PR.blind, va_recv hK hP (ci := 2) (q0 := 0) rfl rfl, fun U hU hW => ⟨rfl, by rw [hU]; exact hC.warm hW, by rw [hU]; exact hP⟩⟩ rfl rfl hl.1 rfl (lv_room (Nat.le_of_ble_eq_true rfl)) dX1_layableTriples_37 ⟨Nat.le_of_ble_eq_true rfl, Nat.le_of_ble_eq_true rfl⟩) ?_
                    obtain ⟨o129, eo129, h⟩ := obind h
                    have hJ48_o129 : ∀ ls : Array Slot, lv_has ls 5 [(0, .ref (G 0)), (2, .int y2_4), (3, .int y3_14), (4, .int y4_25)] → W p l e (headSpec (ws_ yX1_layableTriples cX1_layableTriples 5 (some .int)) rm_X1_layableTriples).room s m ([.ref (G 0)] : List Value).toArray below meth c s.heap [] 0 0 (MQ below (QR (some (.int res))) ([.ref (G 0)] : List Value).toArray s 0 0 FN) (F0 m 48 ls [.int o129, .int y1_25]) := by
                      intro ls hl
                      refine lv_iadd hx hb dX1_layableTriples_48 ?_
                      obtain ⟨x130, ex130, h⟩ := jlet_some h
                      refine topI ex130 ?_
                      refine lv_istore_n (lv' := [(1, .int x130), (0, .ref (G 0)), (2, .int y2_4), (3, .int y3_14), (4, .int y4_25)]) hx hb dX1_layableTriples_49 rfl hl (by decide) rfl (fun ls hl => ?_)
                      obtain ⟨x131, ex131, h⟩ := jlet_some h
                      refine lv_iinc (v := x131) (lv' := [(4, .int x131), (1, .int x130), (0, .ref (G 0)), (2, .int y2_4), (3, .int y3_14)]) hx hb dX1_layableTriples_50 hl (k := 4) rfl (by rw [ex131]; rfl) (by decide) rfl (fun ls hl => ?_)
                      refine lv_goto (tgt := 25) hx hb dX1_layableTriples_53 (by decide) ?_
                      exact ih _ _ _ h hK25 ls (lv_sub hl [2, 1, 3, 4, 0] rfl)
                    have h := eo129
                    clear eo129
                    refine lv_if_ne (tgt := 47) hx hb dX1_layableTriples_40 (by decide) (fun hc => ?_) (fun hc => ?_)
                    · have h := iteF hc h
                      refine lv_iconst (v := (0)) hx hb dX1_layableTriples_47 (by decide) ?_
                      obtain rfl := Option.some.inj h
                      exact hJ48_o129 ls (lv_sub hl [0, 2, 3, 4] rfl)
                    · have h := iteT hc h
                      refine lv_iconst (v := (1)) hx hb dX1_layableTriples_43 (by decide) ?_
                      refine lv_goto (tgt := 48) hx hb dX1_layableTriples_44 (by decide) ?_
                      obtain rfl := Option.some.inj h
                      exact hJ48_o129 ls (lv_sub hl [0, 2, 3, 4] rfl)
              refine hL25 _ _ _ _ eo127 (fun ls hl => ?_) ls (lv_sub hl [1, 2, 3, 4, 0] rfl)
              obtain ⟨x132, ex132, h⟩ := jlet_some h
              refine lv_iinc (v := x132) (lv' := [(3, .int x132), (0, .ref (G 0)), (1, .int o127), (2, .int y2_4)]) hx hb dX1_layableTriples_56 hl (k := 3) rfl (by rw [ex132]; rfl) (by decide) rfl (fun ls hl => ?_)
              refine lv_goto (tgt := 14) hx hb dX1_layableTriples_59 (by decide) ?_
              exact ih _ _ _ h hK14 ls (lv_sub hl [1, 2, 3, 0] rfl)
        refine hL14 _ _ _ _ eo118 (fun ls hl => ?_) ls (lv_sub hl [1, 2, 3, 0] rfl)
        obtain ⟨x133, ex133, h⟩ := jlet_some h
        refine lv_iinc (v := x133) (lv' := [(2, .int x133), (0, .ref (G 0)), (1, .int o118)]) hx hb dX1_layableTriples_62 hl (k := 2) rfl (by rw [ex133]; rfl) (by decide) rfl (fun ls hl => ?_)
        refine lv_goto (tgt := 4) hx hb dX1_layableTriples_65 (by decide) ?_
        exact ih _ _ _ h hK4 ls (lv_sub hl [1, 2, 0] rfl)
  refine hL4 _ _ _ _ eo89 (fun ls hl => ?_) ls (lv_sub hl [2, 1, 0] rfl)
  refine lv_iload_n hx hb dX1_layableTriples_68 rfl (lv_at hl 0 rfl) ?_
  obtain rfl := Option.some.inj h
  exact W.iret hx hb hr (fun t ht hW => ⟨rfl, ht⟩) (fun q hq => absurd hq List.not_mem_nil) dX1_layableTriples_69

abbrev rm_X1_hasFlipBlock : Room := { frames := 1, cells := 0, slots := 0, locals := 24 }
theorem ok_X1_hasFlipBlock : okY yX1_hasFlipBlock 3 := ⟨by decide +kernel, by decide +kernel, by decide +kernel⟩
set_option maxHeartbeats 4000000 in
set_option maxRecDepth 100000 in
theorem c_X1_hasFlipBlock (l : Launch) (z0 : Nat) (D : va_G) (t : Nat → ClassId) (G : Nat → Nat) (μ : GS) (a1 : Int32) (a2 : Int32) (a3 : Int32) (res : Int32) (h : f_X1_hasFlipBlock μ a1 a2 a3 = some res) : Met l yX1_hasFlipBlock (ws_ yX1_hasFlipBlock cX1_hasFlipBlock 4 (some .boolean)) rm_X1_hasFlipBlock (PR z0 D t [.ref (G 0), .int a1, .int a2, .int a3] (GW G t μ)) (QR (some (.int res))) 0 0 FN := by
  refine Met.ofW (cc := cX1_hasFlipBlock) (maxL := 4) (ret := (some .boolean)) (by decide) rfl ?_
  intro p e s m args below meth c s₁ Bo hml hv
  obtain ⟨rfl, hC, hP⟩ := hv
  have hx := Bo.exec
  have hb := Bo.bytes
  have hr := Bo.returns
  have hts : ∀ w ∈ LA, w.before _ s = true := fun w hw => atoms_spec (ws := ws_ yX1_hasFlipBlock cX1_hasFlipBlock 4 (some .boolean)) Bo.pre w (List.mem_cons_of_mem _ hw)
  have hown : s.vm.findClass RX1 = some m.cls := findClass_of_methodNamed Bo.named
  have hlocks := Bo.notSynchronized
  have hK := hC.1
  have hl := lv_entry ([.ref (G 0), .int a1, .int a2, .int a3]) (n := 4) (Nat.le_of_ble_eq_true rfl)
  rw [lg_entry_eq]
  generalize (lg_sl ([.ref (G 0), .int a1, .int a2, .int a3]) ++ List.replicate (4 - (lg_sl ([.ref (G 0), .int a1, .int a2, .int a3])).length) Slot.unset).toArray = ls at hl ⊢
  have hl : lv_has ls 4 [(0, .ref (G 0)), (1, .int a1), (2, .int a2), (3, .int a3)] := hl
  unfold f_X1_hasFlipBlock at h
  refine lv_aload_n hx hb dX1_hasFlipBlock_0 rfl (lv_at hl 0 rfl) ?_
  refine lv_iload_n hx hb dX1_hasFlipBlock_1 rfl (lv_at hl 1 rfl) ?_
  refine lv_iload_n hx hb dX1_hasFlipBlock_2 rfl (lv_at hl 2 rfl) ?_
  refine lv_iload_n hx hb dX1_hasFlipBlock_3 rfl (lv_at hl 3 rfl) ?_
  obtain ⟨o1, eo1, h⟩ := obind h
  have hJ12_o1 : ∀ ls : Array Slot, lv_has ls 4 [(3, .int a3)] → W p l e (headSpec (ws_ yX1_hasFlipBlock cX1_hasFlipBlock 4 (some .boolean)) rm_X1_hasFlipBlock).room s m ([.ref (G 0), .int a1, .int a2, .int a3] : List Value).toArray below meth c s.heap [] 0 0 (MQ below (QR (some (.int res))) ([.ref (G 0), .int a1, .int a2, .int a3] : List Value).toArray s 0 0 FN) (F0 m 12 ls [.int o1, .int a2, .int a1, .ref (G 0)]) := by
    intro ls hl
    refine lv_iload_n hx hb dX1_hasFlipBlock_12 rfl (lv_at hl 0 rfl) ?_
    obtain ⟨o2, eo2, h⟩ := obind h
    have hJ21_o2 : ∀ ls : Array Slot, lv_has ls 4 [] → W p l e (headSpec (ws_ yX1_hasFlipBlock cX1_hasFlipBlock 4 (some .boolean)) rm_X1_hasFlipBlock).room s m ([.ref (G 0), .int a1, .int a2, .int a3] : List Value).toArray below meth c s.heap [] 0 0 (MQ below (QR (some (.int res))) ([.ref (G 0), .int a1, .int a2, .int a3] : List Value).toArray s 0 0 FN) (F0 m 21 ls [.int o2, .int o1, .int a2, .int a1, .ref (G 0)]) := by
      intro ls hl
      obtain ⟨r3, er3, h⟩ := obind h
      refine call_R (va_runV (As := [.int a1, .int a2, .int o1, .int o2]) (rest := []) ⟨hx, hb, hml, hown, hts⟩ (c_X1_hasBlock l z0 D t G μ a1 a2 o1 o2 _ er3) (kV hts qw324 qw325 qw326 qw7 qw327 ok_X1_hasBlock ⟨Nat.le_of_ble_eq_true rfl, Nat.le_of_ble_eq_true rfl⟩) ⟨PR.blind, va_recv hK hP (ci := 2) (q0 := 0) rfl rfl, fun U hU hW => ⟨rfl, by rw [hU]; exact hC.warm hW, by rw [hU]; exact hP⟩⟩ rfl rfl hl.1 rfl (lv_room (Nat.le_of_ble_eq_true rfl)) dX1_hasFlipBlock_21 ⟨Nat.le_of_ble_eq_true rfl, Nat.le_of_ble_eq_true rfl⟩) ?_
      obtain ⟨z4, ez4, h⟩ := obind h
      refine topI (jz_some ez4).1 ?_
      obtain rfl := Option.some.inj h
      exact W.zret hx hb hr (jz_some ez4).2 (fun t ht hW => ⟨rfl, ht⟩) (fun q hq => absurd hq List.not_mem_nil) dX1_hasFlipBlock_24
    have h := eo2
    clear eo2
    refine lv_if_eq (tgt := 20) hx hb dX1_hasFlipBlock_13 (by decide) (fun hc => ?_) (fun hc => ?_)
    · have h := iteT hc h
      refine lv_iconst (v := (2)) hx hb dX1_hasFlipBlock_20 (by decide) ?_
      obtain rfl := Option.some.inj h
      exact hJ21_o2 ls (lv_sub hl [] rfl)
    · have h := iteF hc h
      refine lv_iconst (v := (3)) hx hb dX1_hasFlipBlock_16 (by decide) ?_
      refine lv_goto (tgt := 21) hx hb dX1_hasFlipBlock_17 (by decide) ?_
      obtain rfl := Option.some.inj h
      exact hJ21_o2 ls (lv_sub hl [] rfl)
  have h := eo1
  clear eo1
  refine lv_if_eq (tgt := 11) hx hb dX1_hasFlipBlock_4 (by decide) (fun hc => ?_) (fun hc => ?_)
  · have h := iteT hc h
    refine lv_iconst (v := (3)) hx hb dX1_hasFlipBlock_11 (by decide) ?_
    obtain rfl := Option.some.inj h
    exact hJ12_o1 ls (lv_sub hl [3] rfl)
  · have h := iteF hc h
    refine lv_iconst (v := (2)) hx hb dX1_hasFlipBlock_7 (by decide) ?_
    refine lv_goto (tgt := 12) hx hb dX1_hasFlipBlock_8 (by decide) ?_
    obtain rfl := Option.some.inj h
    exact hJ12_o1 ls (lv_sub hl [3] rfl)

abbrev rm_X1_tripleName : Room := { frames := 0, cells := 0, slots := 0, locals := 0 }
theorem ok_X1_tripleName : okY yX1_tripleName 1 := ⟨by decide +kernel, by decide +kernel, by decide +kernel⟩
set_option maxHeartbeats 4000000 in
set_option maxRecDepth 100000 in
theorem c_X1_tripleName (l : Launch) (z0 : Nat) (D : va_G) (t : Nat → ClassId) (G : Nat → Nat) (μ : GS) (a1 : Int32) (res : Int32) (h : f_X1_tripleName μ a1 = some res) : Met l yX1_tripleName (ws_ yX1_tripleName cX1_tripleName 2 (some .int)) rm_X1_tripleName (PR z0 D t [.ref (G 0), .int a1] (GW G t μ)) (QR (some (.int res))) 0 0 FN := by
  refine Met.ofW (cc := cX1_tripleName) (maxL := 2) (ret := (some .int)) (by decide) rfl ?_
  intro p e s m args below meth c s₁ Bo hml hv
  obtain ⟨rfl, hC, hP⟩ := hv
  have hx := Bo.exec
  have hb := Bo.bytes
  have hr := Bo.returns
  have hts : ∀ w ∈ LA, w.before _ s = true := fun w hw => atoms_spec (ws := ws_ yX1_tripleName cX1_tripleName 2 (some .int)) Bo.pre w (List.mem_cons_of_mem _ hw)
  have hown : s.vm.findClass RX1 = some m.cls := findClass_of_methodNamed Bo.named
  have hlocks := Bo.notSynchronized
  have hK := hC.1
  have hl := lv_entry ([.ref (G 0), .int a1]) (n := 2) (Nat.le_of_ble_eq_true rfl)
  rw [lg_entry_eq]
  generalize (lg_sl ([.ref (G 0), .int a1]) ++ List.replicate (2 - (lg_sl ([.ref (G 0), .int a1])).length) Slot.unset).toArray = ls at hl ⊢
  have hl : lv_has ls 2 [(0, .ref (G 0)), (1, .int a1)] := hl
  unfold f_X1_tripleName at h
  refine lv_iload_n hx hb dX1_tripleName_0 rfl (lv_at hl 1 rfl) ?_
  refine lv_if_lt (tgt := 30) hx hb dX1_tripleName_1 (by decide) (fun hc => ?_) (fun hc => ?_)
  · have h := iteT hc h
    refine lv_iconst (v := (0)) hx hb dX1_tripleName_30 (by decide) ?_
    obtain rfl := Option.some.inj h
    exact W.iret hx hb hr (fun t ht hW => ⟨rfl, ht⟩) (fun q hq => absurd hq List.not_mem_nil) dX1_tripleName_31
  · have h := iteF hc h
    refine lv_iload_n hx hb dX1_tripleName_4 rfl (lv_at hl 1 rfl) ?_
    refine lv_aload_n hx hb dX1_tripleName_5 rfl (lv_at hl 0 rfl) ?_
    refine va_get hx hb hts inX1 hown hK hP 0 rfl rfl 5 (by decide) (hts _ qw113) (fun _ h9 => h9) rfl dX1_tripleName_6 ?_
    refine lv_icmp_ge (tgt := 30) hx hb dX1_tripleName_9 (by decide) (fun hc => ?_) (fun hc => ?_)
    · have h := iteT hc h
      refine lv_iconst (v := (0)) hx hb dX1_tripleName_30 (by decide) ?_
      obtain rfl := Option.some.inj h
      exact W.iret hx hb hr (fun t ht hW => ⟨rfl, ht⟩) (fun q hq => absurd hq List.not_mem_nil) dX1_tripleName_31
    · have h := iteF hc h
      refine lv_iload_n hx hb dX1_tripleName_12 rfl (lv_at hl 1 rfl) ?_
      refine lv_aload_n hx hb dX1_tripleName_13 rfl (lv_at hl 0 rfl) ?_
      refine va_get hx hb hts inX1 hown hK hP 0 rfl rfl 8 (by decide) (hts _ qw119) (fun _ h9 => h9) rfl dX1_tripleName_14 ?_
      refine va_alen hx hb hK hP 1 0 rfl rfl (v := 21) rfl dX1_tripleName_17 ?_
      refine lv_icmp_ge (tgt := 30) hx hb dX1_tripleName_18 (by decide) (fun hc => ?_) (fun hc => ?_)
      · have h := iteT hc h
        refine lv_iconst (v := (0)) hx hb dX1_tripleName_30 (by decide) ?_
        obtain rfl := Option.some.inj h
        exact W.iret hx hb hr (fun t ht hW => ⟨rfl, ht⟩) (fun q hq => absurd hq List.not_mem_nil) dX1_tripleName_31
      · have h := iteF hc h
        refine lv_aload_n hx hb dX1_tripleName_21 rfl (lv_at hl 0 rfl) ?_
        refine va_get hx hb hts inX1 hown hK hP 0 rfl rfl 8 (by decide) (hts _ qw119) (fun _ h9 => h9) rfl dX1_tripleName_22 ?_
        refine lv_iload_n hx hb dX1_tripleName_25 rfl (lv_at hl 1 rfl) ?_
        obtain ⟨v1, ev1, h⟩ := obind h
        refine k_iald hx hb hK hP 1 rfl ev1 dX1_tripleName_26 ?_
        refine lv_goto (tgt := 31) hx hb dX1_tripleName_27 (by decide) ?_
        obtain rfl := Option.some.inj h
        exact W.iret hx hb hr (fun t ht hW => ⟨rfl, ht⟩) (fun q hq => absurd hq List.not_mem_nil) dX1_tripleName_31

abbrev rm_X4_columnOf : Room := { frames := 0, cells := 0, slots := 0, locals := 0 }
theorem ok_X4_columnOf : okY yX4_columnOf 1 := ⟨by decide +kernel, by decide +kernel, by decide +kernel⟩
set_option maxHeartbeats 4000000 in
set_option maxRecDepth 100000 in
theorem c_X4_columnOf (l : Launch) (z0 : Nat) (D : va_G) (t : Nat → ClassId) (a1 : Int32) (res : Int32) (h : f_X4_columnOf a1 = some res) : Met l yX4_columnOf (ws_ yX4_columnOf cX4_columnOf 1 (some .int)) rm_X4_columnOf (PR z0 D t [.int a1] []) (QR (some (.int res))) 0 0 FN := by
  refine Met.ofW (cc := cX4_columnOf) (maxL := 1) (ret := (some .int)) (by decide) rfl ?_
  intro p e s m args below meth c s₁ Bo hml hv
  obtain ⟨rfl, hC, hP⟩ := hv
  have hx := Bo.exec
  have hb := Bo.bytes
  have hr := Bo.returns
  have hts : ∀ w ∈ LA, w.before _ s = true := fun w hw => atoms_spec (ws := ws_ yX4_columnOf cX4_columnOf 1 (some .int)) Bo.pre w (List.mem_cons_of_mem _ hw)
  have hown : s.vm.findClass RX4 = some m.cls := findClass_of_methodNamed Bo.named
  have hlocks := Bo.notSynchronized
  have hK := hC.1
  have hl := lv_entry ([.int a1]) (n := 1) (Nat.le_of_ble_eq_true rfl)
  rw [lg_entry_eq]
  generalize (lg_sl ([.int a1]) ++ List.replicate (1 - (lg_sl ([.int a1])).length) Slot.unset).toArray = ls at hl ⊢
  have hl : lv_has ls 1 [(0, .int a1)] := hl
  unfold f_X4_columnOf at h
  refine lv_iload_n hx hb dX4_columnOf_0 rfl (lv_at hl 0 rfl) ?_
  refine lv_bipush (v := (10)) hx hb dX4_columnOf_1 (by decide) ?_
  refine lv_irem hx hb dX4_columnOf_3 (by decide) ?_
  obtain rfl := Option.some.inj h
  exact W.iret hx hb hr (fun t ht hW => ⟨rfl, ht⟩) (fun q hq => absurd hq List.not_mem_nil) dX4_columnOf_4

abbrev rm_X4_rowOf : Room := { frames := 0, cells := 0, slots := 0, locals := 0 }
theorem ok_X4_rowOf : okY yX4_rowOf 1 := ⟨by decide +kernel, by decide +kernel, by decide +kernel⟩
set_option maxHeartbeats 4000000 in
set_option maxRecDepth 100000 in
theorem c_X4_rowOf (l : Launch) (z0 : Nat) (D : va_G) (t : Nat → ClassId) (a1 : Int32) (res : Int32) (h : f_X4_rowOf a1 = some res) : Met l yX4_rowOf (ws_ yX4_rowOf cX4_rowOf 1 (some .int)) rm_X4_rowOf (PR z0 D t [.int a1] []) (QR (some (.int res))) 0 0 FN := by
  refine Met.ofW (cc := cX4_rowOf) (maxL := 1) (ret := (some .int)) (by decide) rfl ?_
  intro p e s m args below meth c s₁ Bo hml hv
  obtain ⟨rfl, hC, hP⟩ := hv
  have hx := Bo.exec
  have hb := Bo.bytes
  have hr := Bo.returns
  have hts : ∀ w ∈ LA, w.before _ s = true := fun w hw => atoms_spec (ws := ws_ yX4_rowOf cX4_rowOf 1 (some .int)) Bo.pre w (List.mem_cons_of_mem _ hw)
  have hown : s.vm.findClass RX4 = some m.cls := findClass_of_methodNamed Bo.named
  have hlocks := Bo.notSynchronized
  have hK := hC.1
  have hl := lv_entry ([.int a1]) (n := 1) (Nat.le_of_ble_eq_true rfl)
  rw [lg_entry_eq]
  generalize (lg_sl ([.int a1]) ++ List.replicate (1 - (lg_sl ([.int a1])).length) Slot.unset).toArray = ls at hl ⊢
  have hl : lv_has ls 1 [(0, .int a1)] := hl
  unfold f_X4_rowOf at h
  refine lv_iload_n hx hb dX4_rowOf_0 rfl (lv_at hl 0 rfl) ?_
  refine lv_bipush (v := (10)) hx hb dX4_rowOf_1 (by decide) ?_
  refine lv_idiv hx hb dX4_rowOf_3 (by decide) ?_
  refine lv_bipush (v := (10)) hx hb dX4_rowOf_4 (by decide) ?_
  refine lv_irem hx hb dX4_rowOf_6 (by decide) ?_
  obtain rfl := Option.some.inj h
  exact W.iret hx hb hr (fun t ht hW => ⟨rfl, ht⟩) (fun q hq => absurd hq List.not_mem_nil) dX4_rowOf_7

abbrev rm_X4_turnOf : Room := { frames := 0, cells := 0, slots := 0, locals := 0 }
theorem ok_X4_turnOf : okY yX4_turnOf 1 := ⟨by decide +kernel, by decide +kernel, by decide +kernel⟩
set_option maxHeartbeats 4000000 in
set_option maxRecDepth 100000 in
theorem c_X4_turnOf (l : Launch) (z0 : Nat) (D : va_G) (t : Nat → ClassId) (a1 : Int32) (res : Int32) (h : f_X4_turnOf a1 = some res) : Met l yX4_turnOf (ws_ yX4_turnOf cX4_turnOf 1 (some .int)) rm_X4_turnOf (PR z0 D t [.int a1] []) (QR (some (.int res))) 0 0 FN := by
  refine Met.ofW (cc := cX4_turnOf) (maxL := 1) (ret := (some .int)) (by decide) rfl ?_
  intro p e s m args below meth c s₁ Bo hml hv
  obtain ⟨rfl, hC, hP⟩ := hv
  have hx := Bo.exec
  have hb := Bo.bytes
  have hr := Bo.returns
  have hts : ∀ w ∈ LA, w.before _ s = true := fun w hw => atoms_spec (ws := ws_ yX4_turnOf cX4_turnOf 1 (some .int)) Bo.pre w (List.mem_cons_of_mem _ hw)
  have hown : s.vm.findClass RX4 = some m.cls := findClass_of_methodNamed Bo.named
  have hlocks := Bo.notSynchronized
  have hK := hC.1
  have hl := lv_entry ([.int a1]) (n := 1) (Nat.le_of_ble_eq_true rfl)
  rw [lg_entry_eq]
  generalize (lg_sl ([.int a1]) ++ List.replicate (1 - (lg_sl ([.int a1])).length) Slot.unset).toArray = ls at hl ⊢
  have hl : lv_has ls 1 [(0, .int a1)] := hl
  unfold f_X4_turnOf at h
  refine lv_iload_n hx hb dX4_turnOf_0 rfl (lv_at hl 0 rfl) ?_
  refine lv_bipush (v := (100)) hx hb dX4_turnOf_1 (by decide) ?_
  refine lv_idiv hx hb dX4_turnOf_3 (by decide) ?_
  obtain rfl := Option.some.inj h
  exact W.iret hx hb hr (fun t ht hW => ⟨rfl, ht⟩) (fun q hq => absurd hq List.not_mem_nil) dX4_turnOf_4

abbrev rm_X1_tripleCells : Room := { frames := 1, cells := 0, slots := 0, locals := 40 }
theorem ok_X1_tripleCells : okY yX1_tripleCells 1 := ⟨by decide +kernel, by decide +kernel, by decide +kernel⟩
set_option maxHeartbeats 4000000 in
set_option maxRecDepth 100000 in
theorem c_X1_tripleCells (l : Launch) (z0 : Nat) (D : va_G) (t : Nat → ClassId) (G : Nat → Nat) (μ : GS) (a1 : Int32) (res : Int64) (h : f_X1_tripleCells μ a1 = some res) : Met l yX1_tripleCells (ws_ yX1_tripleCells cX1_tripleCells 3 (some .long)) rm_X1_tripleCells (PR z0 D t [.ref (G 0), .int a1] (GW G t μ)) (QR (some (.long res))) 0 0 FN := by
  refine Met.ofW (cc := cX1_tripleCells) (maxL := 3) (ret := (some .long)) (by decide) rfl ?_
  intro p e s m args below meth c s₁ Bo hml hv
  obtain ⟨rfl, hC, hP⟩ := hv
  have hx := Bo.exec
  have hb := Bo.bytes
  have hr := Bo.returns
  have hts : ∀ w ∈ LA, w.before _ s = true := fun w hw => atoms_spec (ws := ws_ yX1_tripleCells cX1_tripleCells 3 (some .long)) Bo.pre w (List.mem_cons_of_mem _ hw)
  have hown : s.vm.findClass RX1 = some m.cls := findClass_of_methodNamed Bo.named
  have hlocks := Bo.notSynchronized
  have hK := hC.1
  have hl := lv_entry ([.ref (G 0), .int a1]) (n := 3) (Nat.le_of_ble_eq_true rfl)
  rw [lg_entry_eq]
  generalize (lg_sl ([.ref (G 0), .int a1]) ++ List.replicate (3 - (lg_sl ([.ref (G 0), .int a1])).length) Slot.unset).toArray = ls at hl ⊢
  have hl : lv_has ls 3 [(0, .ref (G 0)), (1, .int a1)] := hl
  unfold f_X1_tripleCells at h
  refine lv_aload_n hx hb dX1_tripleCells_0 rfl (lv_at hl 0 rfl) ?_
  refine lv_iload_n hx hb dX1_tripleCells_1 rfl (lv_at hl 1 rfl) ?_
  obtain ⟨r1, er1, h⟩ := obind h
  refine call_R (va_runV (As := [.int a1]) (rest := []) ⟨hx, hb, hml, hown, hts⟩ (c_X1_tripleName l z0 D t G μ a1 _ er1) (kV hts qw392 qw393 qw394 qw7 qw395 ok_X1_tripleName ⟨Nat.le_of_ble_eq_true rfl, Nat.le_of_ble_eq_true rfl⟩) ⟨PR.blind, va_recv hK hP (ci := 2) (q0 := 0) rfl rfl, fun U hU hW => ⟨rfl, by rw [hU]; exact hC.warm hW, by rw [hU]; exact hP⟩⟩ rfl rfl hl.1 rfl (lv_room (Nat.le_of_ble_eq_true rfl)) dX1_tripleCells_2 ⟨Nat.le_of_ble_eq_true rfl, Nat.le_of_ble_eq_true rfl⟩) ?_
  refine lv_istore_n (lv' := [(2, .int r1), (0, .ref (G 0)), (1, .int a1)]) hx hb dX1_tripleCells_5 rfl hl (by decide) rfl (fun ls hl => ?_)
  refine lv_iload_n hx hb dX1_tripleCells_6 rfl (lv_at hl 0 rfl) ?_
  obtain ⟨r2, er2, h⟩ := obind h
  refine call_R (va_runSN (As := [.int r1]) (rest := []) ⟨hx, hb, hml, hown, hts⟩ (c_X4_columnOf l z0 D t r1 _ er2) ⟨kN hts (hC.2.1 _ qw396) qw1 qw398 ok_X4_columnOf ⟨Nat.le_of_ble_eq_true rfl, Nat.le_of_ble_eq_true rfl⟩, hts _ qw397, trivial⟩ ⟨PR.blind, fun U hU hW => ⟨rfl, by rw [hU]; exact hC.warm hW, by rw [hU]; exact va_P_nil⟩⟩ rfl rfl hl.1 rfl (lv_room (Nat.le_of_ble_eq_true rfl)) dX1_tripleCells_7 ⟨Nat.le_of_ble_eq_true rfl, Nat.le_of_ble_eq_true rfl⟩) ?_
  refine lv_iload_n hx hb dX1_tripleCells_10 rfl (lv_at hl 0 rfl) ?_
  obtain ⟨r3, er3, h⟩ := obind h
  refine call_R (va_runSN (As := [.int r1]) (rest := [.int r2]) ⟨hx, hb, hml, hown, hts⟩ (c_X4_rowOf l z0 D t r1 _ er3) ⟨kN hts (hC.2.1 _ qw399) qw1 qw401 ok_X4_rowOf ⟨Nat.le_of_ble_eq_true rfl, Nat.le_of_ble_eq_true rfl⟩, hts _ qw400, trivial⟩ ⟨PR.blind, fun U hU hW => ⟨rfl, by rw [hU]; exact hC.warm hW, by rw [hU]; exact va_P_nil⟩⟩ rfl rfl hl.1 rfl (lv_room (Nat.le_of_ble_eq_true rfl)) dX1_tripleCells_11 ⟨Nat.le_of_ble_eq_true rfl, Nat.le_of_ble_eq_true rfl⟩) ?_
  refine lv_iload_n hx hb dX1_tripleCells_14 rfl (lv_at hl 0 rfl) ?_
  obtain ⟨r4, er4, h⟩ := obind h
  refine call_R (va_runSN (As := [.int r1]) (rest := [.int r3, .int r2]) ⟨hx, hb, hml, hown, hts⟩ (c_X4_turnOf l z0 D t r1 _ er4) ⟨kN hts (hC.2.1 _ qw402) qw1 qw404 ok_X4_turnOf ⟨Nat.le_of_ble_eq_true rfl, Nat.le_of_ble_eq_true rfl⟩, hts _ qw403, trivial⟩ ⟨PR.blind, fun U hU hW => ⟨rfl, by rw [hU]; exact hC.warm hW, by rw [hU]; exact va_P_nil⟩⟩ rfl rfl hl.1 rfl (lv_room (Nat.le_of_ble_eq_true rfl)) dX1_tripleCells_15 ⟨Nat.le_of_ble_eq_true rfl, Nat.le_of_ble_eq_true rfl⟩) ?_
  obtain ⟨r5, er5, h⟩ := obind h
  refine call_R (va_runSN (As := [.int r2, .int r3, .int r4]) (rest := []) ⟨hx, hb, hml, hown, hts⟩ (c_X4_cellsOf l z0 D t r2 r3 r4 _ er5) ⟨kN hts (hC.2.1 _ qw328) qw1 qw273 ok_X4_cellsOf ⟨Nat.le_of_ble_eq_true rfl, Nat.le_of_ble_eq_true rfl⟩, hts _ qw272, trivial⟩ ⟨PR.blind, fun U hU hW => ⟨rfl, by rw [hU]; exact hC.warm hW, by rw [hU]; exact va_P_nil⟩⟩ rfl rfl hl.1 rfl (lv_room (Nat.le_of_ble_eq_true rfl)) dX1_tripleCells_18 ⟨Nat.le_of_ble_eq_true rfl, Nat.le_of_ble_eq_true rfl⟩) ?_
  obtain rfl := Option.some.inj h
  exact W.lret hx hb hr (fun t ht hW => ⟨rfl, ht⟩) (fun q hq => absurd hq List.not_mem_nil) dX1_tripleCells_21

abbrev rm_X1_tripleOver : Room := { frames := 2, cells := 0, slots := 0, locals := 62 }
theorem ok_X1_tripleOver : okY yX1_tripleOver 1 := ⟨by decide +kernel, by decide +kernel, by decide +kernel⟩
set_option maxHeartbeats 4000000 in
set_option maxRecDepth 100000 in
theorem c_X1_tripleOver (l : Launch) (z0 : Nat) (D : va_G) (t : Nat → ClassId) (G : Nat → Nat) (μ : GS) (a1 : Int64) (res : Int32) (h : f_X1_tripleOver μ a1 = some res) : Met l yX1_tripleOver (ws_ yX1_tripleOver cX1_tripleOver 4 (some .int)) rm_X1_tripleOver (PR z0 D t [.ref (G 0), .long a1] (GW G t μ)) (QR (some (.int res))) 0 0 FN := by
  refine Met.ofW (cc := cX1_tripleOver) (maxL := 4) (ret := (some .int)) (by decide) rfl ?_
  intro p e s m args below meth c s₁ Bo hml hv
  obtain ⟨rfl, hC, hP⟩ := hv
  have hx := Bo.exec
  have hb := Bo.bytes
  have hr := Bo.returns
  have hts : ∀ w ∈ LA, w.before _ s = true := fun w hw => atoms_spec (ws := ws_ yX1_tripleOver cX1_tripleOver 4 (some .int)) Bo.pre w (List.mem_cons_of_mem _ hw)
  have hown : s.vm.findClass RX1 = some m.cls := findClass_of_methodNamed Bo.named
  have hlocks := Bo.notSynchronized
  have hK := hC.1
  have hl := lv_entry ([.ref (G 0), .long a1]) (n := 4) (Nat.le_of_ble_eq_true rfl)
  rw [lg_entry_eq]
  generalize (lg_sl ([.ref (G 0), .long a1]) ++ List.replicate (4 - (lg_sl ([.ref (G 0), .long a1])).length) Slot.unset).toArray = ls at hl ⊢
  have hl : lv_has ls 4 [(0, .ref (G 0)), (1, .long a1)] := hl
  unfold f_X1_tripleOver at h
  refine lv_iconst (v := (0)) hx hb dX1_tripleOver_0 (by decide) ?_
  refine lv_istore_n (lv' := [(3, .int (0 : Int32)), (0, .ref (G 0)), (1, .long a1)]) hx hb dX1_tripleOver_1 rfl hl (by decide) rfl (fun ls hl => ?_)
  obtain ⟨o5, eo5, h⟩ := obind h
  have hL2 : ∀ (n : Nat) (y3_2 : Int32) (o5 : (Unit) ⊕ (Int32)), f_X1_tripleOver_L2 a1 μ n y3_2 = some o5 → (∀ o5l, o5 = .inl o5l → ∀ (ls : Array Slot), lv_has ls 4 [] → W p l e (headSpec (ws_ yX1_tripleOver cX1_tripleOver 4 (some .int)) rm_X1_tripleOver).room s m ([.ref (G 0), .long a1] : List Value).toArray below meth c s.heap [] 0 0 (MQ below (QR (some (.int res))) ([.ref (G 0), .long a1] : List Value).toArray s 0 0 FN) (F0 m 30 ls [])) → (∀ r9, o5 = .inr r9 → r9 = res) → ∀ (ls : Array Slot), lv_has ls 4 [(0, .ref (G 0)), (1, .long a1), (3, .int y3_2)] → W p l e (headSpec (ws_ yX1_tripleOver cX1_tripleOver 4 (some .int)) rm_X1_tripleOver).room s m ([.ref (G 0), .long a1] : List Value).toArray below meth c s.heap [] 0 0 (MQ below (QR (some (.int res))) ([.ref (G 0), .long a1] : List Value).toArray s 0 0 FN) (F0 m 2 ls []) := by
    intro n
    induction n with
    | zero => intro y3_2 o5 h; exact absurd h (fun z => by cases z)
    | succ n ih =>
      intro y3_2 o5 h hK2 hR2 ls hl
      replace h : f_X1_tripleOver_L2_b a1 μ (f_X1_tripleOver_L2 a1 μ n) y3_2 = some o5 := h
      unfold f_X1_tripleOver_L2_b at h
      refine lv_iload_n hx hb dX1_tripleOver_2 rfl (lv_at hl 2 rfl) ?_
      refine lv_aload_n hx hb dX1_tripleOver_3 rfl (lv_at hl 0 rfl) ?_
      refine va_get hx hb hts inX1 hown hK hP 0 rfl rfl 5 (by decide) (hts _ qw113) (fun _ h9 => h9) rfl dX1_tripleOver_4 ?_
      refine lv_icmp_ge (tgt := 30) hx hb dX1_tripleOver_7 (by decide) (fun hc => ?_) (fun hc => ?_)
      · have h := iteT hc h
        obtain rfl := Option.some.inj h
        exact hK2 _ rfl ls (lv_sub hl [] rfl)
      · have h := iteF hc h
        refine lv_aload_n hx hb dX1_tripleOver_10 rfl (lv_at hl 0 rfl) ?_
        refine lv_iload_n hx hb dX1_tripleOver_11 rfl (lv_at hl 2 rfl) ?_
        obtain ⟨r6, er6, h⟩ := obind h
        refine call_R (va_runV (As := [.int y3_2]) (rest := []) ⟨hx, hb, hml, hown, hts⟩ (c_X1_tripleCells l z0 D t G μ y3_2 _ er6) (kV hts qw388 qw390 qs12 qw7 qw391 ok_X1_tripleCells ⟨Nat.le_of_ble_eq_true rfl, Nat.le_of_ble_eq_true rfl⟩) ⟨PR.blind, va_recv hK hP (ci := 2) (q0 := 0) rfl rfl, fun U hU hW => ⟨rfl, by rw [hU]; exact hC.warm hW, by rw [hU]; exact hP⟩⟩ rfl rfl hl.1 rfl (lv_room (Nat.le_of_ble_eq_true rfl)) dX1_tripleOver_12 ⟨Nat.le_of_ble_eq_true rfl, Nat.le_of_ble_eq_true rfl⟩) ?_
        refine lv_lload_n hx hb dX1_tripleOver_15 rfl (lv_at hl 1 rfl) ?_
        refine lv_land hx hb dX1_tripleOver_16 ?_
        refine lv_lconst (v := (0)) hx hb dX1_tripleOver_17 (by decide) ?_
        refine W.lcmp hx hb dX1_tripleOver_18 ?_
        refine lv_if_eq (tgt := 24) hx hb dX1_tripleOver_19 (by decide) (fun hc => ?_) (fun hc => ?_)
        · have h := iteT hc h
          obtain ⟨x7, ex7, h⟩ := jlet_some h
          refine lv_iinc (v := x7) (lv' := [(3, .int x7), (0, .ref (G 0)), (1, .long a1)]) hx hb dX1_tripleOver_24 hl (k := 2) rfl (by rw [ex7]; rfl) (by decide) rfl (fun ls hl => ?_)
          refine lv_goto (tgt := 2) hx hb dX1_tripleOver_27 (by decide) ?_
          exact ih _ _ h hK2 hR2 ls (lv_sub hl [1, 2, 0] rfl)
        · have h := iteF hc h
          refine lv_iload_n hx hb dX1_tripleOver_22 rfl (lv_at hl 2 rfl) ?_
          have e9 := hR2 _ (Option.some.inj h).symm
          subst e9
          exact W.iret hx hb hr (fun t ht hW => ⟨rfl, ht⟩) (fun q hq => absurd hq List.not_mem_nil) dX1_tripleOver_23
  refine hL2 _ _ _ eo5 (fun o5l eq9 ls hl => ?_) (fun r9 eq9 => ?_) ls (lv_sub hl [1, 2, 0] rfl)
  · subst eq9
    replace h := sumL h
    refine lv_iconst (v := (-1)) hx hb dX1_tripleOver_30 (by decide) ?_
    obtain rfl := Option.some.inj h
    exact W.iret hx hb hr (fun t ht hW => ⟨rfl, ht⟩) (fun q hq => absurd hq List.not_mem_nil) dX1_tripleOver_31
  · subst eq9
    replace h := sumR h
    exact Option.some.inj h

abbrev rm_X1_lastFlipCell : Room := { frames := 2, cells := 0, slots := 0, locals := 61 }
theorem ok_X1_lastFlipCell : okY yX1_lastFlipCell 3 := ⟨by decide +kernel, by decide +kernel, by decide +kernel⟩
set_option maxHeartbeats 4000000 in
set_option maxRecDepth 100000 in
theorem c_X1_lastFlipCell (l : Launch) (z0 : Nat) (D : va_G) (t : Nat → ClassId) (a1 : Int32) (a2 : Int32) (a3 : Int32) (res : Int64) (h : f_X1_lastFlipCell a1 a2 a3 = some res) : Met l yX1_lastFlipCell (ws_ yX1_lastFlipCell cX1_lastFlipCell 3 (some .long)) rm_X1_lastFlipCell (PR z0 D t [.int a1, .int a2, .int a3] []) (QR (some (.long res))) 0 0 FN := by
  refine Met.ofW (cc := cX1_lastFlipCell) (maxL := 3) (ret := (some .long)) (by decide) rfl ?_
  intro p e s m args below meth c s₁ Bo hml hv
  obtain ⟨rfl, hC, hP⟩ := hv
  have hx := Bo.exec
  have hb := Bo.bytes
  have hr := Bo.returns
  have hts : ∀ w ∈ LA, w.before _ s = true := fun w hw => atoms_spec (ws := ws_ yX1_lastFlipCell cX1_lastFlipCell 3 (some .long)) Bo.pre w (List.mem_cons_of_mem _ hw)
  have hown : s.vm.findClass RX1 = some m.cls := findClass_of_methodNamed Bo.named
  have hlocks := Bo.notSynchronized
  have hK := hC.1
  have hl := lv_entry ([.int a1, .int a2, .int a3]) (n := 3) (Nat.le_of_ble_eq_true rfl)
  rw [lg_entry_eq]
  generalize (lg_sl ([.int a1, .int a2, .int a3]) ++ List.replicate (3 - (lg_sl ([.int a1, .int a2, .int a3])).length) Slot.unset).toArray = ls at hl ⊢
  have hl : lv_has ls 3 [(0, .int a1), (1, .int a2), (2, .int a3)] := hl
  unfold f_X1_lastFlipCell at h
  refine lv_iload_n hx hb dX1_lastFlipCell_0 rfl (lv_at hl 2 rfl) ?_
  refine lv_if_eq (tgt := 16) hx hb dX1_lastFlipCell_1 (by decide) (fun hc => ?_) (fun hc => ?_)
  · have h := iteT hc h
    refine lv_iload_n hx hb dX1_lastFlipCell_16 rfl (lv_at hl 0 rfl) ?_
    refine lv_iconst (v := (2)) hx hb dX1_lastFlipCell_17 (by decide) ?_
    refine lv_iadd hx hb dX1_lastFlipCell_18 ?_
    refine lv_iload_n hx hb dX1_lastFlipCell_19 rfl (lv_at hl 1 rfl) ?_
    refine lv_iconst (v := (1)) hx hb dX1_lastFlipCell_20 (by decide) ?_
    refine lv_iadd hx hb dX1_lastFlipCell_21 ?_
    obtain ⟨r1, er1, h⟩ := obind h
    refine call_R (va_runSN (As := [.int (a1 + (2 : Int32)), .int (a2 + (1 : Int32))]) (rest := []) ⟨hx, hb, hml, hown, hts⟩ (c_X4_cellAt l z0 D t (a1 + (2 : Int32)) (a2 + (1 : Int32)) _ er1) ⟨kN hts (hC.2.1 _ qw383) qw1 qw218 ok_X4_cellAt ⟨Nat.le_of_ble_eq_true rfl, Nat.le_of_ble_eq_true rfl⟩, hts _ qw217, trivial⟩ ⟨PR.blind, fun U hU hW => ⟨rfl, by rw [hU]; exact hC.warm hW, by rw [hU]; exact va_P_nil⟩⟩ rfl rfl hl.1 rfl (lv_room (Nat.le_of_ble_eq_true rfl)) dX1_lastFlipCell_22 ⟨Nat.le_of_ble_eq_true rfl, Nat.le_of_ble_eq_true rfl⟩) ?_
    obtain rfl := Option.some.inj h
    exact W.lret hx hb hr (fun t ht hW => ⟨rfl, ht⟩) (fun q hq => absurd hq List.not_mem_nil) dX1_lastFlipCell_25
  · have h := iteF hc h
    refine lv_iload_n hx hb dX1_lastFlipCell_4 rfl (lv_at hl 0 rfl) ?_
    refine lv_iconst (v := (1)) hx hb dX1_lastFlipCell_5 (by decide) ?_
    refine lv_iadd hx hb dX1_lastFlipCell_6 ?_
    refine lv_iload_n hx hb dX1_lastFlipCell_7 rfl (lv_at hl 1 rfl) ?_
    refine lv_iconst (v := (2)) hx hb dX1_lastFlipCell_8 (by decide) ?_
    refine lv_iadd hx hb dX1_lastFlipCell_9 ?_
    obtain ⟨r2, er2, h⟩ := obind h
    refine call_R (va_runSN (As := [.int (a1 + (1 : Int32)), .int (a2 + (2 : Int32))]) (rest := []) ⟨hx, hb, hml, hown, hts⟩ (c_X4_cellAt l z0 D t (a1 + (1 : Int32)) (a2 + (2 : Int32)) _ er2) ⟨kN hts (hC.2.1 _ qw383) qw1 qw218 ok_X4_cellAt ⟨Nat.le_of_ble_eq_true rfl, Nat.le_of_ble_eq_true rfl⟩, hts _ qw217, trivial⟩ ⟨PR.blind, fun U hU hW => ⟨rfl, by rw [hU]; exact hC.warm hW, by rw [hU]; exact va_P_nil⟩⟩ rfl rfl hl.1 rfl (lv_room (Nat.le_of_ble_eq_true rfl)) dX1_lastFlipCell_10 ⟨Nat.le_of_ble_eq_true rfl, Nat.le_of_ble_eq_true rfl⟩) ?_
    refine lv_goto (tgt := 25) hx hb dX1_lastFlipCell_13 (by decide) ?_
    obtain rfl := Option.some.inj h
    exact W.lret hx hb hr (fun t ht hW => ⟨rfl, ht⟩) (fun q hq => absurd hq List.not_mem_nil) dX1_lastFlipCell_25

abbrev rm_X1_isFlippable : Room := { frames := 3, cells := 0, slots := 0, locals := 85 }
theorem ok_X1_isFlippable : okY yX1_isFlippable 3 := ⟨by decide +kernel, by decide +kernel, by decide +kernel⟩
set_option maxHeartbeats 4000000 in
set_option maxRecDepth 100000 in
theorem c_X1_isFlippable (l : Launch) (z0 : Nat) (D : va_G) (t : Nat → ClassId) (G : Nat → Nat) (μ : GS) (a1 : Int32) (a2 : Int32) (a3 : Int32) (res : Int32) (h : f_X1_isFlippable μ a1 a2 a3 = some res) : Met l yX1_isFlippable (ws_ yX1_isFlippable cX1_isFlippable 8 (some .boolean)) rm_X1_isFlippable (PR z0 D t [.ref (G 0), .int a1, .int a2, .int a3] (GW G t μ)) (QR (some (.int res))) 0 0 FN := by
  refine Met.ofW (cc := cX1_isFlippable) (maxL := 8) (ret := (some .boolean)) (by decide) rfl ?_
  intro p e s m args below meth c s₁ Bo hml hv
  obtain ⟨rfl, hC, hP⟩ := hv
  have hx := Bo.exec
  have hb := Bo.bytes
  have hr := Bo.returns
  have hts : ∀ w ∈ LA, w.before _ s = true := fun w hw => atoms_spec (ws := ws_ yX1_isFlippable cX1_isFlippable 8 (some .boolean)) Bo.pre w (List.mem_cons_of_mem _ hw)
  have hown : s.vm.findClass RX1 = some m.cls := findClass_of_methodNamed Bo.named
  have hlocks := Bo.notSynchronized
  have hK := hC.1
  have hl := lv_entry ([.ref (G 0), .int a1, .int a2, .int a3]) (n := 8) (Nat.le_of_ble_eq_true rfl)
  rw [lg_entry_eq]
  generalize (lg_sl ([.ref (G 0), .int a1, .int a2, .int a3]) ++ List.replicate (8 - (lg_sl ([.ref (G 0), .int a1, .int a2, .int a3])).length) Slot.unset).toArray = ls at hl ⊢
  have hl : lv_has ls 8 [(0, .ref (G 0)), (1, .int a1), (2, .int a2), (3, .int a3)] := hl
  unfold f_X1_isFlippable at h
  refine lv_aload_n hx hb dX1_isFlippable_0 rfl (lv_at hl 0 rfl) ?_
  refine lv_iload_n hx hb dX1_isFlippable_1 rfl (lv_at hl 1 rfl) ?_
  refine lv_iload_n hx hb dX1_isFlippable_2 rfl (lv_at hl 2 rfl) ?_
  obtain ⟨r1, er1, h⟩ := obind h
  refine call_R (va_runSN (As := [.int a1, .int a2]) (rest := [.ref (G 0)]) ⟨hx, hb, hml, hown, hts⟩ (c_X4_cellAt l z0 D t a1 a2 _ er1) ⟨kN hts (hC.2.1 _ qw383) qw1 qw218 ok_X4_cellAt ⟨Nat.le_of_ble_eq_true rfl, Nat.le_of_ble_eq_true rfl⟩, hts _ qw217, trivial⟩ ⟨PR.blind, fun U hU hW => ⟨rfl, by rw [hU]; exact hC.warm hW, by rw [hU]; exact va_P_nil⟩⟩ rfl rfl hl.1 rfl (lv_room (Nat.le_of_ble_eq_true rfl)) dX1_isFlippable_3 ⟨Nat.le_of_ble_eq_true rfl, Nat.le_of_ble_eq_true rfl⟩) ?_
  obtain ⟨r2, er2, h⟩ := obind h
  refine call_R (va_runV (As := [.long r1]) (rest := []) ⟨hx, hb, hml, hown, hts⟩ (c_X1_tripleOver l z0 D t G μ r1 _ er2) (kV hts qw384 qw385 qw386 qw7 qw387 ok_X1_tripleOver ⟨Nat.le_of_ble_eq_true rfl, Nat.le_of_ble_eq_true rfl⟩) ⟨PR.blind, va_recv hK hP (ci := 2) (q0 := 0) rfl rfl, fun U hU hW => ⟨rfl, by rw [hU]; exact hC.warm hW, by rw [hU]; exact hP⟩⟩ rfl rfl hl.1 rfl (lv_room (Nat.le_of_ble_eq_true rfl)) dX1_isFlippable_6 ⟨Nat.le_of_ble_eq_true rfl, Nat.le_of_ble_eq_true rfl⟩) ?_
  refine lv_istore (lv' := [(4, .int r2), (0, .ref (G 0)), (1, .int a1), (2, .int a2), (3, .int a3)]) hx hb dX1_isFlippable_9 hl (by decide) rfl (fun ls hl => ?_)
  refine lv_aload_n hx hb dX1_isFlippable_11 rfl (lv_at hl 1 rfl) ?_
  refine lv_iload_n hx hb dX1_isFlippable_12 rfl (lv_at hl 2 rfl) ?_
  refine lv_iload_n hx hb dX1_isFlippable_13 rfl (lv_at hl 3 rfl) ?_
  refine lv_iload_n hx hb dX1_isFlippable_14 rfl (lv_at hl 4 rfl) ?_
  obtain ⟨r3, er3, h⟩ := obind h
  refine call_R (va_runS (As := [.int a1, .int a2, .int a3]) (rest := [.ref (G 0)]) ⟨hx, hb, hml, hown, hts⟩ (c_X1_lastFlipCell l z0 D t a1 a2 a3 _ er3) (kS hts qw405 qw406 qw7 qw407 ok_X1_lastFlipCell ⟨Nat.le_of_ble_eq_true rfl, Nat.le_of_ble_eq_true rfl⟩) ⟨PR.blind, fun U hU hW => ⟨rfl, by rw [hU]; exact hC.warm hW, by rw [hU]; exact va_P_nil⟩⟩ rfl rfl hl.1 rfl (lv_room (Nat.le_of_ble_eq_true rfl)) dX1_isFlippable_15 ⟨Nat.le_of_ble_eq_true rfl, Nat.le_of_ble_eq_true rfl⟩) ?_
  obtain ⟨r4, er4, h⟩ := obind h
  refine call_R (va_runV (As := [.long r3]) (rest := []) ⟨hx, hb, hml, hown, hts⟩ (c_X1_tripleOver l z0 D t G μ r3 _ er4) (kV hts qw384 qw385 qw386 qw7 qw387 ok_X1_tripleOver ⟨Nat.le_of_ble_eq_true rfl, Nat.le_of_ble_eq_true rfl⟩) ⟨PR.blind, va_recv hK hP (ci := 2) (q0 := 0) rfl rfl, fun U hU hW => ⟨rfl, by rw [hU]; exact hC.warm hW, by rw [hU]; exact hP⟩⟩ rfl rfl hl.1 rfl (lv_room (Nat.le_of_ble_eq_true rfl)) dX1_isFlippable_18 ⟨Nat.le_of_ble_eq_true rfl, Nat.le_of_ble_eq_true rfl⟩) ?_
  refine lv_istore (lv' := [(5, .int r4), (4, .int r2), (0, .ref (G 0)), (1, .int a1), (2, .int a2), (3, .int a3)]) hx hb dX1_isFlippable_21 hl (by decide) rfl (fun ls hl => ?_)
  refine lv_iload hx hb dX1_isFlippable_23 (lv_at hl 1 rfl) ?_
  refine lv_iconst (v := (-1)) hx hb dX1_isFlippable_25 (by decide) ?_
  refine lv_icmp_eq (tgt := 35) hx hb dX1_isFlippable_26 (by decide) (fun hc => ?_) (fun hc => ?_)
  · have h := iteT hc h
    refine lv_iconst (v := (0)) hx hb dX1_isFlippable_35 (by decide) ?_
    obtain rfl := Option.some.inj h
    exact W.zret hx hb hr rfl (fun t ht hW => ⟨rfl, ht⟩) (fun q hq => absurd hq List.not_mem_nil) dX1_isFlippable_36
  · have h := iteF hc h
    refine lv_iload hx hb dX1_isFlippable_29 (lv_at hl 0 rfl) ?_
    refine lv_iconst (v := (-1)) hx hb dX1_isFlippable_31 (by decide) ?_
    refine lv_icmp_ne (tgt := 37) hx hb dX1_isFlippable_32 (by decide) (fun hc => ?_) (fun hc => ?_)
    · have h := iteF hc h
      refine lv_iload_n hx hb dX1_isFlippable_37 rfl (lv_at hl 3 rfl) ?_
      refine lv_iload_n hx hb dX1_isFlippable_38 rfl (lv_at hl 4 rfl) ?_
      refine lv_iload_n hx hb dX1_isFlippable_39 rfl (lv_at hl 5 rfl) ?_
      obtain ⟨o5, eo5, h⟩ := obind h
      have hJ48_o5 : ∀ ls : Array Slot, lv_has ls 8 [(0, .ref (G 0)), (3, .int a3), (4, .int r2), (5, .int r4)] → W p l e (headSpec (ws_ yX1_isFlippable cX1_isFlippable 8 (some .boolean)) rm_X1_isFlippable).room s m ([.ref (G 0), .int a1, .int a2, .int a3] : List Value).toArray below meth c s.heap [] 0 0 (MQ below (QR (some (.int res))) ([.ref (G 0), .int a1, .int a2, .int a3] : List Value).toArray s 0 0 FN) (F0 m 48 ls [.int o5, .int a2, .int a1]) := by
        intro ls hl
        refine lv_iload_n hx hb dX1_isFlippable_48 rfl (lv_at hl 1 rfl) ?_
        obtain ⟨o6, eo6, h⟩ := obind h
        have hJ57_o6 : ∀ ls : Array Slot, lv_has ls 8 [(0, .ref (G 0)), (4, .int r2), (5, .int r4)] → W p l e (headSpec (ws_ yX1_isFlippable cX1_isFlippable 8 (some .boolean)) rm_X1_isFlippable).room s m ([.ref (G 0), .int a1, .int a2, .int a3] : List Value).toArray below meth c s.heap [] 0 0 (MQ below (QR (some (.int res))) ([.ref (G 0), .int a1, .int a2, .int a3] : List Value).toArray s 0 0 FN) (F0 m 57 ls [.int o6, .int o5, .int a2, .int a1]) := by
          intro ls hl
          obtain ⟨r7, er7, h⟩ := obind h
          refine call_R (va_runS (As := [.int a1, .int a2, .int o5, .int o6]) (rest := []) ⟨hx, hb, hml, hown, hts⟩ (c_X1_blockCells l z0 D t a1 a2 o5 o6 _ er7) (kS hts qw228 qw229 qw7 qw230 ok_X1_blockCells ⟨Nat.le_of_ble_eq_true rfl, Nat.le_of_ble_eq_true rfl⟩) ⟨PR.blind, fun U hU hW => ⟨rfl, by rw [hU]; exact hC.warm hW, by rw [hU]; exact va_P_nil⟩⟩ rfl rfl hl.1 rfl (lv_room (Nat.le_of_ble_eq_true rfl)) dX1_isFlippable_57 ⟨Nat.le_of_ble_eq_true rfl, Nat.le_of_ble_eq_true rfl⟩) ?_
          refine lv_lstore (lv' := [(6, .long r7), (0, .ref (G 0)), (4, .int r2), (5, .int r4)]) hx hb dX1_isFlippable_60 hl (by decide) rfl (fun ls hl => ?_)
          refine lv_aload_n hx hb dX1_isFlippable_62 rfl (lv_at hl 1 rfl) ?_
          refine lv_iload hx hb dX1_isFlippable_63 (lv_at hl 2 rfl) ?_
          obtain ⟨r8, er8, h⟩ := obind h
          refine call_R (va_runV (As := [.int r2]) (rest := []) ⟨hx, hb, hml, hown, hts⟩ (c_X1_tripleCells l z0 D t G μ r2 _ er8) (kV hts qw388 qw390 qs12 qw7 qw391 ok_X1_tripleCells ⟨Nat.le_of_ble_eq_true rfl, Nat.le_of_ble_eq_true rfl⟩) ⟨PR.blind, va_recv hK hP (ci := 2) (q0 := 0) rfl rfl, fun U hU hW => ⟨rfl, by rw [hU]; exact hC.warm hW, by rw [hU]; exact hP⟩⟩ rfl rfl hl.1 rfl (lv_room (Nat.le_of_ble_eq_true rfl)) dX1_isFlippable_65 ⟨Nat.le_of_ble_eq_true rfl, Nat.le_of_ble_eq_true rfl⟩) ?_
          refine lv_aload_n hx hb dX1_isFlippable_68 rfl (lv_at hl 1 rfl) ?_
          refine lv_iload hx hb dX1_isFlippable_69 (lv_at hl 3 rfl) ?_
          obtain ⟨r9, er9, h⟩ := obind h
          refine call_R (va_runV (As := [.int r4]) (rest := [.long r8]) ⟨hx, hb, hml, hown, hts⟩ (c_X1_tripleCells l z0 D t G μ r4 _ er9) (kV hts qw388 qw390 qs12 qw7 qw391 ok_X1_tripleCells ⟨Nat.le_of_ble_eq_true rfl, Nat.le_of_ble_eq_true rfl⟩) ⟨PR.blind, va_recv hK hP (ci := 2) (q0 := 0) rfl rfl, fun U hU hW => ⟨rfl, by rw [hU]; exact hC.warm hW, by rw [hU]; exact hP⟩⟩ rfl rfl hl.1 rfl (lv_room (Nat.le_of_ble_eq_true rfl)) dX1_isFlippable_71 ⟨Nat.le_of_ble_eq_true rfl, Nat.le_of_ble_eq_true rfl⟩) ?_
          refine lv_lor hx hb dX1_isFlippable_74 ?_
          refine lv_lload hx hb dX1_isFlippable_75 (lv_at hl 0 rfl) ?_
          refine W.lcmp hx hb dX1_isFlippable_77 ?_
          refine lv_if_ne (tgt := 85) hx hb dX1_isFlippable_78 (by decide) (fun hc => ?_) (fun hc => ?_)
          · have h := iteF hc h
            refine lv_iconst (v := (0)) hx hb dX1_isFlippable_85 (by decide) ?_
            obtain rfl := Option.some.inj h
            exact W.zret hx hb hr rfl (fun t ht hW => ⟨rfl, ht⟩) (fun q hq => absurd hq List.not_mem_nil) dX1_isFlippable_86
          · have h := iteT hc h
            refine lv_iconst (v := (1)) hx hb dX1_isFlippable_81 (by decide) ?_
            refine lv_goto (tgt := 86) hx hb dX1_isFlippable_82 (by decide) ?_
            obtain rfl := Option.some.inj h
            exact W.zret hx hb hr rfl (fun t ht hW => ⟨rfl, ht⟩) (fun q hq => absurd hq List.not_mem_nil) dX1_isFlippable_86
        have h := eo6
        clear eo6
        refine lv_if_eq (tgt := 56) hx hb dX1_isFlippable_49 (by decide) (fun hc => ?_) (fun hc => ?_)
        · have h := iteT hc h
          refine lv_iconst (v := (2)) hx hb dX1_isFlippable_56 (by decide) ?_
          obtain rfl := Option.some.inj h
          exact hJ57_o6 ls (lv_sub hl [0, 2, 3] rfl)
        · have h := iteF hc h
          refine lv_iconst (v := (3)) hx hb dX1_isFlippable_52 (by decide) ?_
          refine lv_goto (tgt := 57) hx hb dX1_isFlippable_53 (by decide) ?_
          obtain rfl := Option.some.inj h
          exact hJ57_o6 ls (lv_sub hl [0, 2, 3] rfl)
      have h := eo5
      clear eo5
      refine lv_if_eq (tgt := 47) hx hb dX1_isFlippable_40 (by decide) (fun hc => ?_) (fun hc => ?_)
      · have h := iteT hc h
        refine lv_iconst (v := (3)) hx hb dX1_isFlippable_47 (by decide) ?_
        obtain rfl := Option.some.inj h
        exact hJ48_o5 ls (lv_sub hl [2, 5, 1, 0] rfl)
      · have h := iteF hc h
        refine lv_iconst (v := (2)) hx hb dX1_isFlippable_43 (by decide) ?_
        refine lv_goto (tgt := 48) hx hb dX1_isFlippable_44 (by decide) ?_
        obtain rfl := Option.some.inj h
        exact hJ48_o5 ls (lv_sub hl [2, 5, 1, 0] rfl)
    · have h := iteT hc h
      refine lv_iconst (v := (0)) hx hb dX1_isFlippable_35 (by decide) ?_
      obtain rfl := Option.some.inj h
      exact W.zret hx hb hr rfl (fun t ht hW => ⟨rfl, ht⟩) (fun q hq => absurd hq List.not_mem_nil) dX1_isFlippable_36

abbrev rm_X1_flippableBlocks : Room := { frames := 4, cells := 0, slots := 0, locals := 112 }
theorem ok_X1_flippableBlocks : okY yX1_flippableBlocks 0 := ⟨by decide +kernel, by decide +kernel, by decide +kernel⟩
set_option maxHeartbeats 4000000 in
set_option maxRecDepth 100000 in
theorem c_X1_flippableBlocks (l : Launch) (z0 : Nat) (D : va_G) (t : Nat → ClassId) (G : Nat → Nat) (μ : GS) (res : Int32) (h : f_X1_flippableBlocks μ = some res) : Met l yX1_flippableBlocks (ws_ yX1_flippableBlocks cX1_flippableBlocks 4 (some .int)) rm_X1_flippableBlocks (PR z0 D t [.ref (G 0)] (GW G t μ)) (QR (some (.int res))) 0 0 FN := by
  refine Met.ofW (cc := cX1_flippableBlocks) (maxL := 4) (ret := (some .int)) (by decide) rfl ?_
  intro p e s m args below meth c s₁ Bo hml hv
  obtain ⟨rfl, hC, hP⟩ := hv
  have hx := Bo.exec
  have hb := Bo.bytes
  have hr := Bo.returns
  have hts : ∀ w ∈ LA, w.before _ s = true := fun w hw => atoms_spec (ws := ws_ yX1_flippableBlocks cX1_flippableBlocks 4 (some .int)) Bo.pre w (List.mem_cons_of_mem _ hw)
  have hown : s.vm.findClass RX1 = some m.cls := findClass_of_methodNamed Bo.named
  have hlocks := Bo.notSynchronized
  have hK := hC.1
  have hl := lv_entry ([.ref (G 0)]) (n := 4) (Nat.le_of_ble_eq_true rfl)
  rw [lg_entry_eq]
  generalize (lg_sl ([.ref (G 0)]) ++ List.replicate (4 - (lg_sl ([.ref (G 0)])).length) Slot.unset).toArray = ls at hl ⊢
  have hl : lv_has ls 4 [(0, .ref (G 0))] := hl
  unfold f_X1_flippableBlocks at h
  refine lv_iconst (v := (0)) hx hb dX1_flippableBlocks_0 (by decide) ?_
  refine lv_istore_n (lv' := [(1, .int (0 : Int32)), (0, .ref (G 0))]) hx hb dX1_flippableBlocks_1 rfl hl (by decide) rfl (fun ls hl => ?_)
  refine lv_iconst (v := (0)) hx hb dX1_flippableBlocks_2 (by decide) ?_
  refine lv_istore_n (lv' := [(2, .int (0 : Int32)), (1, .int (0 : Int32)), (0, .ref (G 0))]) hx hb dX1_flippableBlocks_3 rfl hl (by decide) rfl (fun ls hl => ?_)
  obtain ⟨o71, eo71, h⟩ := obind h
  have hL4 : ∀ (n : Nat) (y1_4 : Int32) (y2_4 : Int32) (o71 : Int32), f_X1_flippableBlocks_L4 μ n y1_4 y2_4 = some o71 → (∀ (ls : Array Slot), lv_has ls 4 [(1, .int o71)] → W p l e (headSpec (ws_ yX1_flippableBlocks cX1_flippableBlocks 4 (some .int)) rm_X1_flippableBlocks).room s m ([.ref (G 0)] : List Value).toArray below meth c s.heap [] 0 0 (MQ below (QR (some (.int res))) ([.ref (G 0)] : List Value).toArray s 0 0 FN) (F0 m 90 ls [])) → ∀ (ls : Array Slot), lv_has ls 4 [(0, .ref (G 0)), (1, .int y1_4), (2, .int y2_4)] → W p l e (headSpec (ws_ yX1_flippableBlocks cX1_flippableBlocks 4 (some .int)) rm_X1_flippableBlocks).room s m ([.ref (G 0)] : List Value).toArray below meth c s.heap [] 0 0 (MQ below (QR (some (.int res))) ([.ref (G 0)] : List Value).toArray s 0 0 FN) (F0 m 4 ls []) := by
    intro n
    induction n with
    | zero => intro y1_4 y2_4 o71 h; exact absurd h (fun z => by cases z)
    | succ n ih =>
      intro y1_4 y2_4 o71 h hK4 ls hl
      replace h : f_X1_flippableBlocks_L4_b μ (f_X1_flippableBlocks_L4 μ n) y1_4 y2_4 = some o71 := h
      unfold f_X1_flippableBlocks_L4_b at h
      refine lv_iload_n hx hb dX1_flippableBlocks_4 rfl (lv_at hl 2 rfl) ?_
      refine lv_aload_n hx hb dX1_flippableBlocks_5 rfl (lv_at hl 0 rfl) ?_
      refine va_get hx hb hts inX1 hown hK hP 0 rfl rfl 1 (by decide) (hts _ qw105) (fun _ h9 => h9) rfl dX1_flippableBlocks_6 ?_
      refine lv_icmp_ge (tgt := 90) hx hb dX1_flippableBlocks_9 (by decide) (fun hc => ?_) (fun hc => ?_)
      · have h := iteT hc h
        obtain rfl := Option.some.inj h
        exact hK4 ls (lv_sub hl [1] rfl)
      · have h := iteF hc h
        refine lv_iconst (v := (0)) hx hb dX1_flippableBlocks_12 (by decide) ?_
        refine lv_istore_n (lv' := [(3, .int (0 : Int32)), (0, .ref (G 0)), (1, .int y1_4), (2, .int y2_4)]) hx hb dX1_flippableBlocks_13 rfl hl (by decide) rfl (fun ls hl => ?_)
        obtain ⟨o94, eo94, h⟩ := obind h
        have hL14 : ∀ (n : Nat) (y1_14 : Int32) (y3_14 : Int32) (o94 : Int32), f_X1_flippableBlocks_L14 μ y2_4 n y1_14 y3_14 = some o94 → (∀ (ls : Array Slot), lv_has ls 4 [(0, .ref (G 0)), (1, .int o94), (2, .int y2_4)] → W p l e (headSpec (ws_ yX1_flippableBlocks cX1_flippableBlocks 4 (some .int)) rm_X1_flippableBlocks).room s m ([.ref (G 0)] : List Value).toArray below meth c s.heap [] 0 0 (MQ below (QR (some (.int res))) ([.ref (G 0)] : List Value).toArray s 0 0 FN) (F0 m 84 ls [])) → ∀ (ls : Array Slot), lv_has ls 4 [(0, .ref (G 0)), (1, .int y1_14), (2, .int y2_4), (3, .int y3_14)] → W p l e (headSpec (ws_ yX1_flippableBlocks cX1_flippableBlocks 4 (some .int)) rm_X1_flippableBlocks).room s m ([.ref (G 0)] : List Value).toArray below meth c s.heap [] 0 0 (MQ below (QR (some (.int res))) ([.ref (G 0)] : List Value).toArray s 0 0 FN) (F0 m 14 ls []) := by
          intro n
          induction n with
          | zero => intro y1_14 y3_14 o94 h; exact absurd h (fun z => by cases z)
          | succ n ih =>
            intro y1_14 y3_14 o94 h hK14 ls hl
            replace h : f_X1_flippableBlocks_L14_b μ y2_4 (f_X1_flippableBlocks_L14 μ y2_4 n) y1_14 y3_14 = some o94 := h
            unfold f_X1_flippableBlocks_L14_b at h
            refine lv_iload_n hx hb dX1_flippableBlocks_14 rfl (lv_at hl 3 rfl) ?_
            refine lv_aload_n hx hb dX1_flippableBlocks_15 rfl (lv_at hl 0 rfl) ?_
            refine va_get hx hb hts inX1 hown hK hP 0 rfl rfl 0 (by decide) (hts _ qw103) (fun _ h9 => h9) rfl dX1_flippableBlocks_16 ?_
            refine lv_icmp_ge (tgt := 84) hx hb dX1_flippableBlocks_19 (by decide) (fun hc => ?_) (fun hc => ?_)
            · have h := iteT hc h
              obtain rfl := Option.some.inj h
              exact hK14 ls (lv_sub hl [0, 1, 2] rfl)
            · have h := iteF hc h
              refine lv_iload_n hx hb dX1_flippableBlocks_22 rfl (lv_at hl 1 rfl) ?_
              refine lv_aload_n hx hb dX1_flippableBlocks_23 rfl (lv_at hl 0 rfl) ?_
              refine lv_iload_n hx hb dX1_flippableBlocks_24 rfl (lv_at hl 3 rfl) ?_
              refine lv_iload_n hx hb dX1_flippableBlocks_25 rfl (lv_at hl 2 rfl) ?_
              refine lv_iconst (v := (1)) hx hb dX1_flippableBlocks_26 (by decide) ?_
              obtain ⟨r95, er95, h⟩ := obind h
              refine call_R (va_runV (As := [.int y3_14, .int y2_4, .int (1 : Int32)]) (rest := [.int y1_14]) ⟨hx, hb, hml, hown, hts⟩ (c_X1_hasFlipBlock l z0 D t G μ y3_14 y2_4 (1 : Int32) _ er95) (kV hts qw375 qw376 qw377 qw7 qw378 ok_X1_hasFlipBlock ⟨Nat.le_of_ble_eq_true rfl, Nat.le_of_ble_eq_true rfl⟩) ⟨PR.blind, va_recv hK hP (ci := 2) (q0 := 0) rfl rfl, fun U hU hW => ⟨rfl, by rw [hU]; exact hC.warm hW, by rw [hU]; exact hP⟩⟩ rfl rfl hl.1 rfl (lv_room (Nat.le_of_ble_eq_true rfl)) dX1_flippableBlocks_27 ⟨Nat.le_of_ble_eq_true rfl, Nat.le_of_ble_eq_true rfl⟩) ?_
              obtain ⟨o97, eo97, h⟩ := obind h
              have hJ48_o97 : ∀ ls : Array Slot, lv_has ls 4 [(0, .ref (G 0)), (2, .int y2_4), (3, .int y3_14)] → W p l e (headSpec (ws_ yX1_flippableBlocks cX1_flippableBlocks 4 (some .int)) rm_X1_flippableBlocks).room s m ([.ref (G 0)] : List Value).toArray below meth c s.heap [] 0 0 (MQ below (QR (some (.int res))) ([.ref (G 0)] : List Value).toArray s 0 0 FN) (F0 m 48 ls [.int o97, .int y1_14]) := by
                intro ls hl
                refine lv_iadd hx hb dX1_flippableBlocks_48 ?_
                obtain ⟨x99, ex99, h⟩ := jlet_some h
                refine topI ex99 ?_
                refine lv_istore_n (lv' := [(1, .int x99), (0, .ref (G 0)), (2, .int y2_4), (3, .int y3_14)]) hx hb dX1_flippableBlocks_49 rfl hl (by decide) rfl (fun ls hl => ?_)
                refine lv_iload_n hx hb dX1_flippableBlocks_50 rfl (lv_at hl 0 rfl) ?_
                refine lv_aload_n hx hb dX1_flippableBlocks_51 rfl (lv_at hl 1 rfl) ?_
                refine lv_iload_n hx hb dX1_flippableBlocks_52 rfl (lv_at hl 3 rfl) ?_
                refine lv_iload_n hx hb dX1_flippableBlocks_53 rfl (lv_at hl 2 rfl) ?_
                refine lv_iconst (v := (0)) hx hb dX1_flippableBlocks_54 (by decide) ?_
                obtain ⟨r100, er100, h⟩ := obind h
                refine call_R (va_runV (As := [.int y3_14, .int y2_4, .int (0 : Int32)]) (rest := [.int x99]) ⟨hx, hb, hml, hown, hts⟩ (c_X1_hasFlipBlock l z0 D t G μ y3_14 y2_4 (0 : Int32) _ er100) (kV hts qw375 qw376 qw377 qw7 qw378 ok_X1_hasFlipBlock ⟨Nat.le_of_ble_eq_true rfl, Nat.le_of_ble_eq_true rfl⟩) ⟨PR.blind, va_recv hK hP (ci := 2) (q0 := 0) rfl rfl, fun U hU hW => ⟨rfl, by rw [hU]; exact hC.warm hW, by rw [hU]; exact hP⟩⟩ rfl rfl hl.1 rfl (lv_room (Nat.le_of_ble_eq_true rfl)) dX1_flippableBlocks_55 ⟨Nat.le_of_ble_eq_true rfl, Nat.le_of_ble_eq_true rfl⟩) ?_
                obtain ⟨o102, eo102, h⟩ := obind h
                have hJ76_o102 : ∀ ls : Array Slot, lv_has ls 4 [(0, .ref (G 0)), (2, .int y2_4), (3, .int y3_14)] → W p l e (headSpec (ws_ yX1_flippableBlocks cX1_flippableBlocks 4 (some .int)) rm_X1_flippableBlocks).room s m ([.ref (G 0)] : List Value).toArray below meth c s.heap [] 0 0 (MQ below (QR (some (.int res))) ([.ref (G 0)] : List Value).toArray s 0 0 FN) (F0 m 76 ls [.int o102, .int x99]) := by
                  intro ls hl
                  refine lv_iadd hx hb dX1_flippableBlocks_76 ?_
                  obtain ⟨x104, ex104, h⟩ := jlet_some h
                  refine topI ex104 ?_
                  refine lv_istore_n (lv' := [(1, .int x104), (0, .ref (G 0)), (2, .int y2_4), (3, .int y3_14)]) hx hb dX1_flippableBlocks_77 rfl hl (by decide) rfl (fun ls hl => ?_)
                  obtain ⟨x105, ex105, h⟩ := jlet_some h
                  refine lv_iinc (v := x105) (lv' := [(3, .int x105), (1, .int x104), (0, .ref (G 0)), (2, .int y2_4)]) hx hb dX1_flippableBlocks_78 hl (k := 3) rfl (by rw [ex105]; rfl) (by decide) rfl (fun ls hl => ?_)
                  refine lv_goto (tgt := 14) hx hb dX1_flippableBlocks_81 (by decide) ?_
                  exact ih _ _ _ h hK14 ls (lv_sub hl [2, 1, 3, 0] rfl)
                have h := eo102
                clear eo102
                refine lv_if_eq (tgt := 75) hx hb dX1_flippableBlocks_58 (by decide) (fun hc => ?_) (fun hc => ?_)
                · have h := iteT hc h
                  refine lv_iconst (v := (0)) hx hb dX1_flippableBlocks_75 (by decide) ?_
                  obtain rfl := Option.some.inj h
                  exact hJ76_o102 ls (lv_sub hl [1, 2, 3] rfl)
                · have h := iteF hc h
                  refine lv_aload_n hx hb dX1_flippableBlocks_61 rfl (lv_at hl 1 rfl) ?_
                  refine lv_iload_n hx hb dX1_flippableBlocks_62 rfl (lv_at hl 3 rfl) ?_
                  refine lv_iload_n hx hb dX1_flippableBlocks_63 rfl (lv_at hl 2 rfl) ?_
                  refine lv_iconst (v := (0)) hx hb dX1_flippableBlocks_64 (by decide) ?_
                  obtain ⟨r103, er103, h⟩ := obind h
                  refine call_R (va_runV (As := [.int y3_14, .int y2_4, .int (0 : Int32)]) (rest := [.int x99]) ⟨hx, hb, hml, hown, hts⟩ (c_X1_isFlippable l z0 D t G μ y3_14 y2_4 (0 : Int32) _ er103) (kV hts qw379 qw380 qw381 qw7 qw382 ok_X1_isFlippable ⟨Nat.le_of_ble_eq_true rfl, Nat.le_of_ble_eq_true rfl⟩) ⟨PR.blind, va_recv hK hP (ci := 2) (q0 := 0) rfl rfl, fun U hU hW => ⟨rfl, by rw [hU]; exact hC.warm hW, by rw [hU]; exact hP⟩⟩ rfl rfl hl.1 rfl (lv_room (Nat.le_of_ble_eq_true rfl)) dX1_flippableBlocks_65 ⟨Nat.le_of_ble_eq_true rfl, Nat.le_of_ble_eq_true rfl⟩) ?_
                  refine lv_if_eq (tgt := 75) hx hb dX1_flippableBlocks_68 (by decide) (fun hc => ?_) (fun hc => ?_)
                  · have h := iteT hc h
                    refine lv_iconst (v := (0)) hx hb dX1_flippableBlocks_75 (by decide) ?_
                    obtain rfl := Option.some.inj h
                    exact hJ76_o102 ls (lv_sub hl [1, 2, 3] rfl)
                  · have h := iteF hc h
                    refine lv_iconst (v := (1)) hx hb dX1_flippableBlocks_71 (by decide) ?_
                    refine lv_goto (tgt := 76) hx hb dX1_flippableBlocks_72 (by decide) ?_
                    obtain rfl := Option.some.inj h
                    exact hJ76_o102 ls (lv_sub hl [1, 2, 3] rfl)
              have h := eo97
              clear eo97
              refine lv_if_eq (tgt := 47) hx hb dX1_flippableBlocks_30 (by decide) (fun hc => ?_) (fun hc => ?_)
              · have h := iteT hc h
                refine lv_iconst (v := (0)) hx hb dX1_flippableBlocks_47 (by decide) ?_
                obtain rfl := Option.some.inj h
                exact hJ48_o97 ls (lv_sub hl [0, 2, 3] rfl)
              · have h := iteF hc h
                refine lv_aload_n hx hb dX1_flippableBlocks_33 rfl (lv_at hl 0 rfl) ?_
                refine lv_iload_n hx hb dX1_flippableBlocks_34 rfl (lv_at hl 3 rfl) ?_
                refine lv_iload_n hx hb dX1_flippableBlocks_35 rfl (lv_at hl 2 rfl) ?_
                refine lv_iconst (v := (1)) hx hb dX1_flippableBlocks_36 (by decide) ?_
                obtain ⟨r98, er98, h⟩ := obind h
                refine call_R (va_runV (As := [.int y3_14, .int y2_4, .int (1 : Int32)]) (rest := [.int y1_14]) ⟨hx, hb, hml, hown, hts⟩ (c_X1_isFlippable l z0 D t G μ y3_14 y2_4 (1 : Int32) _ er98) (kV hts qw379 qw380 qw381 qw7 qw382 ok_X1_isFlippable ⟨Nat.le_of_ble_eq_true rfl, Nat.le_of_ble_eq_true rfl⟩) ⟨PR.blind, va_recv hK hP (ci := 2) (q0 := 0) rfl rfl, fun U hU hW => ⟨rfl, by rw [hU]; exact hC.warm hW, by rw [hU]; exact hP⟩⟩ rfl rfl hl.1 rfl (lv_room (Nat.le_of_ble_eq_true rfl)) dX1_flippableBlocks_37 ⟨Nat.le_of_ble_eq_true rfl, Nat.le_of_ble_eq_true rfl⟩) ?_
                refine lv_if_eq (tgt := 47) hx hb dX1_flippableBlocks_40 (by decide) (fun hc => ?_) (fun hc => ?_)
                · have h := iteT hc h
                  refine lv_iconst (v := (0)) hx hb dX1_flippableBlocks_47 (by decide) ?_
                  obtain rfl := Option.some.inj h
                  exact hJ48_o97 ls (lv_sub hl [0, 2, 3] rfl)
                · have h := iteF hc h
                  refine lv_iconst (v := (1)) hx hb dX1_flippableBlocks_43 (by decide) ?_
                  refine lv_goto (tgt := 48) hx hb dX1_flippableBlocks_44 (by decide) ?_
                  obtain rfl := Option.some.inj h
                  exact hJ48_o97 ls (lv_sub hl [0, 2, 3] rfl)
        refine hL14 _ _ _ _ eo94 (fun ls hl => ?_) ls (lv_sub hl [1, 2, 3, 0] rfl)
        obtain ⟨x106, ex106, h⟩ := jlet_some h
        refine lv_iinc (v := x106) (lv' := [(2, .int x106), (0, .ref (G 0)), (1, .int o94)]) hx hb dX1_flippableBlocks_84 hl (k := 2) rfl (by rw [ex106]; rfl) (by decide) rfl (fun ls hl => ?_)
        refine lv_goto (tgt := 4) hx hb dX1_flippableBlocks_87 (by decide) ?_
        exact ih _ _ _ h hK4 ls (lv_sub hl [1, 2, 0] rfl)
  refine hL4 _ _ _ _ eo71 (fun ls hl => ?_) ls (lv_sub hl [2, 1, 0] rfl)
  refine lv_iload_n hx hb dX1_flippableBlocks_90 rfl (lv_at hl 0 rfl) ?_
  obtain rfl := Option.some.inj h
  exact W.iret hx hb hr (fun t ht hW => ⟨rfl, ht⟩) (fun q hq => absurd hq List.not_mem_nil) dX1_flippableBlocks_91

abbrev rm_X4_mixed : Room := { frames := 0, cells := 0, slots := 0, locals := 0 }
theorem ok_X4_mixed : okY yX4_mixed 2 := ⟨by decide +kernel, by decide +kernel, by decide +kernel⟩
set_option maxHeartbeats 4000000 in
set_option maxRecDepth 100000 in
theorem c_X4_mixed (l : Launch) (z0 : Nat) (D : va_G) (t : Nat → ClassId) (a1 : Int64) (a2 : Int64) (res : Int64) (h : f_X4_mixed a1 a2 = some res) : Met l yX4_mixed (ws_ yX4_mixed cX4_mixed 4 (some .long)) rm_X4_mixed (PR z0 D t [.long a1, .long a2] []) (QR (some (.long res))) 0 0 FN := by
  refine Met.ofW (cc := cX4_mixed) (maxL := 4) (ret := (some .long)) (by decide) rfl ?_
  intro p e s m args below meth c s₁ Bo hml hv
  obtain ⟨rfl, hC, hP⟩ := hv
  have hx := Bo.exec
  have hb := Bo.bytes
  have hr := Bo.returns
  have hts : ∀ w ∈ LA, w.before _ s = true := fun w hw => atoms_spec (ws := ws_ yX4_mixed cX4_mixed 4 (some .long)) Bo.pre w (List.mem_cons_of_mem _ hw)
  have hown : s.vm.findClass RX4 = some m.cls := findClass_of_methodNamed Bo.named
  have hlocks := Bo.notSynchronized
  have hK := hC.1
  have hl := lv_entry ([.long a1, .long a2]) (n := 4) (Nat.le_of_ble_eq_true rfl)
  rw [lg_entry_eq]
  generalize (lg_sl ([.long a1, .long a2]) ++ List.replicate (4 - (lg_sl ([.long a1, .long a2])).length) Slot.unset).toArray = ls at hl ⊢
  have hl : lv_has ls 4 [(0, .long a1), (2, .long a2)] := hl
  unfold f_X4_mixed at h
  refine lv_ldc2 (v := (31)) hx hb hown (hts _ qw483) dX4_mixed_0 ?_
  refine lv_lload_n hx hb dX4_mixed_3 rfl (lv_at hl 0 rfl) ?_
  refine lv_lmul hx hb dX4_mixed_4 ?_
  refine lv_lload_n hx hb dX4_mixed_5 rfl (lv_at hl 1 rfl) ?_
  refine lv_ladd hx hb dX4_mixed_6 ?_
  obtain rfl := Option.some.inj h
  exact W.lret hx hb hr (fun t ht hW => ⟨rfl, ht⟩) (fun q hq => absurd hq List.not_mem_nil) dX4_mixed_7

abbrev rm_X4_rowMask : Room := { frames := 0, cells := 0, slots := 0, locals := 0 }
theorem ok_X4_rowMask : okY yX4_rowMask 2 := ⟨by decide +kernel, by decide +kernel, by decide +kernel⟩
set_option maxHeartbeats 4000000 in
set_option maxRecDepth 100000 in
theorem c_X4_rowMask (l : Launch) (z0 : Nat) (D : va_G) (t : Nat → ClassId) (a1 : Int64) (a2 : Int32) (res : Int32) (h : f_X4_rowMask a1 a2 = some res) : Met l yX4_rowMask (ws_ yX4_rowMask cX4_rowMask 3 (some .int)) rm_X4_rowMask (PR z0 D t [.long a1, .int a2] []) (QR (some (.int res))) 0 0 FN := by
  refine Met.ofW (cc := cX4_rowMask) (maxL := 3) (ret := (some .int)) (by decide) rfl ?_
  intro p e s m args below meth c s₁ Bo hml hv
  obtain ⟨rfl, hC, hP⟩ := hv
  have hx := Bo.exec
  have hb := Bo.bytes
  have hr := Bo.returns
  have hts : ∀ w ∈ LA, w.before _ s = true := fun w hw => atoms_spec (ws := ws_ yX4_rowMask cX4_rowMask 3 (some .int)) Bo.pre w (List.mem_cons_of_mem _ hw)
  have hown : s.vm.findClass RX4 = some m.cls := findClass_of_methodNamed Bo.named
  have hlocks := Bo.notSynchronized
  have hK := hC.1
  have hl := lv_entry ([.long a1, .int a2]) (n := 3) (Nat.le_of_ble_eq_true rfl)
  rw [lg_entry_eq]
  generalize (lg_sl ([.long a1, .int a2]) ++ List.replicate (3 - (lg_sl ([.long a1, .int a2])).length) Slot.unset).toArray = ls at hl ⊢
  have hl : lv_has ls 3 [(0, .long a1), (2, .int a2)] := hl
  unfold f_X4_rowMask at h
  refine lv_lload_n hx hb dX4_rowMask_0 rfl (lv_at hl 0 rfl) ?_
  refine lv_bipush (v := (8)) hx hb dX4_rowMask_1 (by decide) ?_
  refine lv_iload_n hx hb dX4_rowMask_3 rfl (lv_at hl 1 rfl) ?_
  refine lv_imul hx hb dX4_rowMask_4 ?_
  refine lv_lushr hx hb dX4_rowMask_5 rfl ?_
  refine lv_ldc2 (v := (255)) hx hb hown (hts _ qw515) dX4_rowMask_6 ?_
  refine lv_land hx hb dX4_rowMask_9 ?_
  refine lv_l2i hx hb dX4_rowMask_10 rfl ?_
  obtain rfl := Option.some.inj h
  exact W.iret hx hb hr (fun t ht hW => ⟨rfl, ht⟩) (fun q hq => absurd hq List.not_mem_nil) dX4_rowMask_11

abbrev rm_X1_kindOf : Room := { frames := 1, cells := 0, slots := 0, locals := 20 }
theorem ok_X1_kindOf : okY yX1_kindOf 1 := ⟨by decide +kernel, by decide +kernel, by decide +kernel⟩
set_option maxHeartbeats 4000000 in
set_option maxRecDepth 100000 in
theorem c_X1_kindOf (l : Launch) (z0 : Nat) (D : va_G) (t : Nat → ClassId) (G : Nat → Nat) (μ : GS) (a1 : Int64) (res : Int32) (h : f_X1_kindOf μ a1 = some res) : Met l yX1_kindOf (ws_ yX1_kindOf cX1_kindOf 3 (some .int)) rm_X1_kindOf (PR z0 D t [.ref (G 0), .long a1] (GW G t μ)) (QR (some (.int res))) 0 0 FN := by
  refine Met.ofW (cc := cX1_kindOf) (maxL := 3) (ret := (some .int)) (by decide) rfl ?_
  intro p e s m args below meth c s₁ Bo hml hv
  obtain ⟨rfl, hC, hP⟩ := hv
  have hx := Bo.exec
  have hb := Bo.bytes
  have hr := Bo.returns
  have hts : ∀ w ∈ LA, w.before _ s = true := fun w hw => atoms_spec (ws := ws_ yX1_kindOf cX1_kindOf 3 (some .int)) Bo.pre w (List.mem_cons_of_mem _ hw)
  have hown : s.vm.findClass RX1 = some m.cls := findClass_of_methodNamed Bo.named
  have hlocks := Bo.notSynchronized
  have hK := hC.1
  have hl := lv_entry ([.ref (G 0), .long a1]) (n := 3) (Nat.le_of_ble_eq_true rfl)
  rw [lg_entry_eq]
  generalize (lg_sl ([.ref (G 0), .long a1]) ++ List.replicate (3 - (lg_sl ([.ref (G 0), .long a1])).length) Slot.unset).toArray = ls at hl ⊢
  have hl : lv_has ls 3 [(0, .ref (G 0)), (1, .long a1)] := hl
  unfold f_X1_kindOf at h
  refine lv_lload_n hx hb dX1_kindOf_0 rfl (lv_at hl 1 rfl) ?_
  refine lv_aload_n hx hb dX1_kindOf_1 rfl (lv_at hl 0 rfl) ?_
  obtain ⟨r1, er1, h⟩ := obind h
  refine call_R (va_runV (As := []) (rest := [.long a1]) ⟨hx, hb, hml, hown, hts⟩ (c_X1_pondCell l z0 D t G μ _ er1) (kV hts qw232 qw233 qw234 qw7 qw235 ok_X1_pondCell ⟨Nat.le_of_ble_eq_true rfl, Nat.le_of_ble_eq_true rfl⟩) ⟨PR.blind, va_recv hK hP (ci := 2) (q0 := 0) rfl rfl, fun U hU hW => ⟨rfl, by rw [hU]; exact hC.warm hW, by rw [hU]; exact hP⟩⟩ rfl rfl hl.1 rfl (lv_room (Nat.le_of_ble_eq_true rfl)) dX1_kindOf_2 ⟨Nat.le_of_ble_eq_true rfl, Nat.le_of_ble_eq_true rfl⟩) ?_
  refine lv_land hx hb dX1_kindOf_5 ?_
  refine lv_lconst (v := (0)) hx hb dX1_kindOf_6 (by decide) ?_
  refine W.lcmp hx hb dX1_kindOf_7 ?_
  refine lv_if_eq (tgt := 13) hx hb dX1_kindOf_8 (by decide) (fun hc => ?_) (fun hc => ?_)
  · have h := iteT hc h
    refine lv_lload_n hx hb dX1_kindOf_13 rfl (lv_at hl 1 rfl) ?_
    refine lv_aload_n hx hb dX1_kindOf_14 rfl (lv_at hl 0 rfl) ?_
    refine va_get hx hb hts inX1 hown hK hP 0 rfl rfl 3 (by decide) (hts _ qw109) (fun _ h9 => h9) rfl dX1_kindOf_15 ?_
    refine lv_land hx hb dX1_kindOf_18 ?_
    refine lv_lconst (v := (0)) hx hb dX1_kindOf_19 (by decide) ?_
    refine W.lcmp hx hb dX1_kindOf_20 ?_
    refine lv_if_eq (tgt := 26) hx hb dX1_kindOf_21 (by decide) (fun hc => ?_) (fun hc => ?_)
    · have h := iteT hc h
      refine lv_lload_n hx hb dX1_kindOf_26 rfl (lv_at hl 1 rfl) ?_
      refine lv_aload_n hx hb dX1_kindOf_27 rfl (lv_at hl 0 rfl) ?_
      refine va_get hx hb hts inX1 hown hK hP 0 rfl rfl 4 (by decide) (hts _ qw111) (fun _ h9 => h9) rfl dX1_kindOf_28 ?_
      refine lv_land hx hb dX1_kindOf_31 ?_
      refine lv_lconst (v := (0)) hx hb dX1_kindOf_32 (by decide) ?_
      refine W.lcmp hx hb dX1_kindOf_33 ?_
      refine lv_if_eq (tgt := 41) hx hb dX1_kindOf_34 (by decide) (fun hc => ?_) (fun hc => ?_)
      · have h := iteT hc h
        refine lv_iconst (v := (0)) hx hb dX1_kindOf_41 (by decide) ?_
        obtain rfl := Option.some.inj h
        exact W.iret hx hb hr (fun t ht hW => ⟨rfl, ht⟩) (fun q hq => absurd hq List.not_mem_nil) dX1_kindOf_42
      · have h := iteF hc h
        refine lv_iconst (v := (3)) hx hb dX1_kindOf_37 (by decide) ?_
        refine lv_goto (tgt := 42) hx hb dX1_kindOf_38 (by decide) ?_
        obtain rfl := Option.some.inj h
        exact W.iret hx hb hr (fun t ht hW => ⟨rfl, ht⟩) (fun q hq => absurd hq List.not_mem_nil) dX1_kindOf_42
    · have h := iteF hc h
      refine lv_iconst (v := (2)) hx hb dX1_kindOf_24 (by decide) ?_
      obtain rfl := Option.some.inj h
      exact W.iret hx hb hr (fun t ht hW => ⟨rfl, ht⟩) (fun q hq => absurd hq List.not_mem_nil) dX1_kindOf_25
  · have h := iteF hc h
    refine lv_iconst (v := (1)) hx hb dX1_kindOf_11 (by decide) ?_
    obtain rfl := Option.some.inj h
    exact W.iret hx hb hr (fun t ht hW => ⟨rfl, ht⟩) (fun q hq => absurd hq List.not_mem_nil) dX1_kindOf_12

abbrev rm_X4_nameOf : Room := { frames := 0, cells := 0, slots := 0, locals := 0 }
theorem ok_X4_nameOf : okY yX4_nameOf 3 := ⟨by decide +kernel, by decide +kernel, by decide +kernel⟩
set_option maxHeartbeats 4000000 in
set_option maxRecDepth 100000 in
theorem c_X4_nameOf (l : Launch) (z0 : Nat) (D : va_G) (t : Nat → ClassId) (a1 : Int32) (a2 : Int32) (a3 : Int32) (res : Int32) (h : f_X4_nameOf a1 a2 a3 = some res) : Met l yX4_nameOf (ws_ yX4_nameOf cX4_nameOf 3 (some .int)) rm_X4_nameOf (PR z0 D t [.int a1, .int a2, .int a3] []) (QR (some (.int res))) 0 0 FN := by
  refine Met.ofW (cc := cX4_nameOf) (maxL := 3) (ret := (some .int)) (by decide) rfl ?_
  intro p e s m args below meth c s₁ Bo hml hv
  obtain ⟨rfl, hC, hP⟩ := hv
  have hx := Bo.exec
  have hb := Bo.bytes
  have hr := Bo.returns
  have hts : ∀ w ∈ LA, w.before _ s = true := fun w hw => atoms_spec (ws := ws_ yX4_nameOf cX4_nameOf 3 (some .int)) Bo.pre w (List.mem_cons_of_mem _ hw)
  have hown : s.vm.findClass RX4 = some m.cls := findClass_of_methodNamed Bo.named
  have hlocks := Bo.notSynchronized
  have hK := hC.1
  have hl := lv_entry ([.int a1, .int a2, .int a3]) (n := 3) (Nat.le_of_ble_eq_true rfl)
  rw [lg_entry_eq]
  generalize (lg_sl ([.int a1, .int a2, .int a3]) ++ List.replicate (3 - (lg_sl ([.int a1, .int a2, .int a3])).length) Slot.unset).toArray = ls at hl ⊢
  have hl : lv_has ls 3 [(0, .int a1), (1, .int a2), (2, .int a3)] := hl
  unfold f_X4_nameOf at h
  refine lv_iload_n hx hb dX4_nameOf_0 rfl (lv_at hl 0 rfl) ?_
  refine lv_bipush (v := (10)) hx hb dX4_nameOf_1 (by decide) ?_
  refine lv_iload_n hx hb dX4_nameOf_3 rfl (lv_at hl 1 rfl) ?_
  refine lv_imul hx hb dX4_nameOf_4 ?_
  refine lv_iadd hx hb dX4_nameOf_5 ?_
  refine lv_bipush (v := (100)) hx hb dX4_nameOf_6 (by decide) ?_
  refine lv_iload_n hx hb dX4_nameOf_8 rfl (lv_at hl 2 rfl) ?_
  refine lv_imul hx hb dX4_nameOf_9 ?_
  refine lv_iadd hx hb dX4_nameOf_10 ?_
  obtain rfl := Option.some.inj h
  exact W.iret hx hb hr (fun t ht hW => ⟨rfl, ht⟩) (fun q hq => absurd hq List.not_mem_nil) dX4_nameOf_11

abbrev rm_X1_firstCover : Room := { frames := 3, cells := 0, slots := 0, locals := 90 }
theorem ok_X1_firstCover : okY yX1_firstCover 1 := ⟨by decide +kernel, by decide +kernel, by decide +kernel⟩
set_option maxHeartbeats 4000000 in
set_option maxRecDepth 100000 in
theorem c_X1_firstCover (l : Launch) (z0 : Nat) (D : va_G) (t : Nat → ClassId) (G : Nat → Nat) (μ : GS) (a1 : Int32) (res : Int32) (h : f_X1_firstCover μ a1 = some res) : Met l yX1_firstCover (ws_ yX1_firstCover cX1_firstCover 3 (some .int)) rm_X1_firstCover (PR z0 D t [.ref (G 0), .int a1] (GW G t μ)) (QR (some (.int res))) 0 0 FN := by
  refine Met.ofW (cc := cX1_firstCover) (maxL := 3) (ret := (some .int)) (by decide) rfl ?_
  intro p e s m args below meth c s₁ Bo hml hv
  obtain ⟨rfl, hC, hP⟩ := hv
  have hx := Bo.exec
  have hb := Bo.bytes
  have hr := Bo.returns
  have hts : ∀ w ∈ LA, w.before _ s = true := fun w hw => atoms_spec (ws := ws_ yX1_firstCover cX1_firstCover 3 (some .int)) Bo.pre w (List.mem_cons_of_mem _ hw)
  have hown : s.vm.findClass RX1 = some m.cls := findClass_of_methodNamed Bo.named
  have hlocks := Bo.notSynchronized
  have hK := hC.1
  have hl := lv_entry ([.ref (G 0), .int a1]) (n := 3) (Nat.le_of_ble_eq_true rfl)
  rw [lg_entry_eq]
  generalize (lg_sl ([.ref (G 0), .int a1]) ++ List.replicate (3 - (lg_sl ([.ref (G 0), .int a1])).length) Slot.unset).toArray = ls at hl ⊢
  have hl : lv_has ls 3 [(0, .ref (G 0)), (1, .int a1)] := hl
  unfold f_X1_firstCover at h
  refine lv_iconst (v := (0)) hx hb dX1_firstCover_0 (by decide) ?_
  refine lv_istore_n (lv' := [(2, .int (0 : Int32)), (0, .ref (G 0)), (1, .int a1)]) hx hb dX1_firstCover_1 rfl hl (by decide) rfl (fun ls hl => ?_)
  obtain ⟨o11, eo11, h⟩ := obind h
  have hL2 : ∀ (n : Nat) (y2_2 : Int32) (o11 : (Unit) ⊕ (Int32)), f_X1_firstCover_L2 a1 μ n y2_2 = some o11 → (∀ o11l, o11 = .inl o11l → ∀ (ls : Array Slot), lv_has ls 3 [] → W p l e (headSpec (ws_ yX1_firstCover cX1_firstCover 3 (some .int)) rm_X1_firstCover).room s m ([.ref (G 0), .int a1] : List Value).toArray below meth c s.heap [] 0 0 (MQ below (QR (some (.int res))) ([.ref (G 0), .int a1] : List Value).toArray s 0 0 FN) (F0 m 40 ls [])) → (∀ r9, o11 = .inr r9 → r9 = res) → ∀ (ls : Array Slot), lv_has ls 3 [(0, .ref (G 0)), (1, .int a1), (2, .int y2_2)] → W p l e (headSpec (ws_ yX1_firstCover cX1_firstCover 3 (some .int)) rm_X1_firstCover).room s m ([.ref (G 0), .int a1] : List Value).toArray below meth c s.heap [] 0 0 (MQ below (QR (some (.int res))) ([.ref (G 0), .int a1] : List Value).toArray s 0 0 FN) (F0 m 2 ls []) := by
    intro n
    induction n with
    | zero => intro y2_2 o11 h; exact absurd h (fun z => by cases z)
    | succ n ih =>
      intro y2_2 o11 h hK2 hR2 ls hl
      replace h : f_X1_firstCover_L2_b a1 μ (f_X1_firstCover_L2 a1 μ n) y2_2 = some o11 := h
      unfold f_X1_firstCover_L2_b at h
      refine lv_iload_n hx hb dX1_firstCover_2 rfl (lv_at hl 2 rfl) ?_
      refine lv_bipush (v := (16)) hx hb dX1_firstCover_3 (by decide) ?_
      refine lv_icmp_ge (tgt := 40) hx hb dX1_firstCover_5 (by decide) (fun hc => ?_) (fun hc => ?_)
      · have h := iteT hc h
        obtain rfl := Option.some.inj h
        exact hK2 _ rfl ls (lv_sub hl [] rfl)
      · have h := iteF hc h
        refine lv_aload_n hx hb dX1_firstCover_8 rfl (lv_at hl 0 rfl) ?_
        refine lv_iload_n hx hb dX1_firstCover_9 rfl (lv_at hl 1 rfl) ?_
        refine lv_iload_n hx hb dX1_firstCover_10 rfl (lv_at hl 2 rfl) ?_
        obtain ⟨r12, er12, h⟩ := obind h
        refine call_R (va_runV (As := [.int a1, .int y2_2]) (rest := []) ⟨hx, hb, hml, hown, hts⟩ (c_X1_couldCover l z0 D t G μ a1 y2_2 _ er12) (kV hts qw310 qw312 qs8 qw7 qw313 ok_X1_couldCover ⟨Nat.le_of_ble_eq_true rfl, Nat.le_of_ble_eq_true rfl⟩) ⟨PR.blind, va_recv hK hP (ci := 2) (q0 := 0) rfl rfl, fun U hU hW => ⟨rfl, by rw [hU]; exact hC.warm hW, by rw [hU]; exact hP⟩⟩ rfl rfl hl.1 rfl (lv_room (Nat.le_of_ble_eq_true rfl)) dX1_firstCover_11 ⟨Nat.le_of_ble_eq_true rfl, Nat.le_of_ble_eq_true rfl⟩) ?_
        refine lv_if_eq (tgt := 34) hx hb dX1_firstCover_14 (by decide) (fun hc => ?_) (fun hc => ?_)
        · have h := iteT hc h
          obtain ⟨x13, ex13, h⟩ := jlet_some h
          refine lv_iinc (v := x13) (lv' := [(2, .int x13), (0, .ref (G 0)), (1, .int a1)]) hx hb dX1_firstCover_34 hl (k := 2) rfl (by rw [ex13]; rfl) (by decide) rfl (fun ls hl => ?_)
          refine lv_goto (tgt := 2) hx hb dX1_firstCover_37 (by decide) ?_
          exact ih _ _ h hK2 hR2 ls (lv_sub hl [1, 2, 0] rfl)
        · have h := iteF hc h
          refine lv_iload_n hx hb dX1_firstCover_17 rfl (lv_at hl 1 rfl) ?_
          refine lv_iload_n hx hb dX1_firstCover_18 rfl (lv_at hl 2 rfl) ?_
          obtain ⟨r14, er14, h⟩ := obind h
          refine call_R (va_runS (As := [.int a1, .int y2_2]) (rest := []) ⟨hx, hb, hml, hown, hts⟩ (c_X1_coverX l z0 D t a1 y2_2 _ er14) (kS hts qw314 qw315 qw7 qw316 ok_X1_coverX ⟨Nat.le_of_ble_eq_true rfl, Nat.le_of_ble_eq_true rfl⟩) ⟨PR.blind, fun U hU hW => ⟨rfl, by rw [hU]; exact hC.warm hW, by rw [hU]; exact va_P_nil⟩⟩ rfl rfl hl.1 rfl (lv_room (Nat.le_of_ble_eq_true rfl)) dX1_firstCover_19 ⟨Nat.le_of_ble_eq_true rfl, Nat.le_of_ble_eq_true rfl⟩) ?_
          refine lv_iload_n hx hb dX1_firstCover_22 rfl (lv_at hl 1 rfl) ?_
          refine lv_iload_n hx hb dX1_firstCover_23 rfl (lv_at hl 2 rfl) ?_
          obtain ⟨r15, er15, h⟩ := obind h
          refine call_R (va_runS (As := [.int a1, .int y2_2]) (rest := [.int r14]) ⟨hx, hb, hml, hown, hts⟩ (c_X1_coverY l z0 D t a1 y2_2 _ er15) (kS hts qw317 qw318 qw7 qw319 ok_X1_coverY ⟨Nat.le_of_ble_eq_true rfl, Nat.le_of_ble_eq_true rfl⟩) ⟨PR.blind, fun U hU hW => ⟨rfl, by rw [hU]; exact hC.warm hW, by rw [hU]; exact va_P_nil⟩⟩ rfl rfl hl.1 rfl (lv_room (Nat.le_of_ble_eq_true rfl)) dX1_firstCover_24 ⟨Nat.le_of_ble_eq_true rfl, Nat.le_of_ble_eq_true rfl⟩) ?_
          refine lv_iload_n hx hb dX1_firstCover_27 rfl (lv_at hl 2 rfl) ?_
          refine lv_iconst (v := (4)) hx hb dX1_firstCover_28 (by decide) ?_
          refine lv_idiv hx hb dX1_firstCover_29 (by decide) ?_
          obtain ⟨r16, er16, h⟩ := obind h
          refine call_R (va_runSN (As := [.int r14, .int r15, .int (y2_2 / (4 : Int32))]) (rest := []) ⟨hx, hb, hml, hown, hts⟩ (c_X4_nameOf l z0 D t r14 r15 (y2_2 / (4 : Int32)) _ er16) ⟨kN hts (hC.2.1 _ qw571) qw1 qw573 ok_X4_nameOf ⟨Nat.le_of_ble_eq_true rfl, Nat.le_of_ble_eq_true rfl⟩, hts _ qw572, trivial⟩ ⟨PR.blind, fun U hU hW => ⟨rfl, by rw [hU]; exact hC.warm hW, by rw [hU]; exact va_P_nil⟩⟩ rfl rfl hl.1 rfl (lv_room (Nat.le_of_ble_eq_true rfl)) dX1_firstCover_30 ⟨Nat.le_of_ble_eq_true rfl, Nat.le_of_ble_eq_true rfl⟩) ?_
          have e9 := hR2 _ (Option.some.inj h).symm
          subst e9
          exact W.iret hx hb hr (fun t ht hW => ⟨rfl, ht⟩) (fun q hq => absurd hq List.not_mem_nil) dX1_firstCover_33
  refine hL2 _ _ _ eo11 (fun o11l eq9 ls hl => ?_) (fun r9 eq9 => ?_) ls (lv_sub hl [1, 2, 0] rfl)
  · subst eq9
    replace h := sumL h
    refine lv_iconst (v := (-1)) hx hb dX1_firstCover_40 (by decide) ?_
    obtain rfl := Option.some.inj h
    exact W.iret hx hb hr (fun t ht hW => ⟨rfl, ht⟩) (fun q hq => absurd hq List.not_mem_nil) dX1_firstCover_41
  · subst eq9
    replace h := sumR h
    exact Option.some.inj h

abbrev rm_X4_shareBits : Room := { frames := 0, cells := 0, slots := 0, locals := 0 }
theorem ok_X4_shareBits : okY yX4_shareBits 1 := ⟨by decide +kernel, by decide +kernel, by decide +kernel⟩
set_option maxHeartbeats 4000000 in
set_option maxRecDepth 100000 in
theorem c_X4_shareBits (l : Launch) (z0 : Nat) (D : va_G) (t : Nat → ClassId) (a1 : UInt64) (res : Int64) (h : f_X4_shareBits a1 = some res) : Met l yX4_shareBits (ws_ yX4_shareBits cX4_shareBits 7 (some .long)) rm_X4_shareBits (PR z0 D t [.double a1] []) (QR (some (.long res))) 0 0 FN := by
  refine Met.ofW (cc := cX4_shareBits) (maxL := 7) (ret := (some .long)) (by decide) rfl ?_
  intro p e s m args below meth c s₁ Bo hml hv
  obtain ⟨rfl, hC, hP⟩ := hv
  have hx := Bo.exec
  have hb := Bo.bytes
  have hr := Bo.returns
  have hts : ∀ w ∈ LA, w.before _ s = true := fun w hw => atoms_spec (ws := ws_ yX4_shareBits cX4_shareBits 7 (some .long)) Bo.pre w (List.mem_cons_of_mem _ hw)
  have hown : s.vm.findClass RX4 = some m.cls := findClass_of_methodNamed Bo.named
  have hlocks := Bo.notSynchronized
  have hK := hC.1
  have hl := lv_entry ([.double a1]) (n := 7) (Nat.le_of_ble_eq_true rfl)
  rw [lg_entry_eq]
  generalize (lg_sl ([.double a1]) ++ List.replicate (7 - (lg_sl ([.double a1])).length) Slot.unset).toArray = ls at hl ⊢
  have hl : lv_has ls 7 [(0, .double a1)] := hl
  unfold f_X4_shareBits at h
  refine lv_dload_n hx hb dX4_shareBits_0 rfl (lv_at hl 0 rfl) ?_
  refine lv_dconst0 hx hb dX4_shareBits_1 ?_
  refine lv_dcmp hx hb dX4_shareBits_2 ?_
  refine lv_if_gt (tgt := 8) hx hb dX4_shareBits_3 (by decide) (fun hc => ?_) (fun hc => ?_)
  · have h := iteT hc h
    refine lv_dload_n hx hb dX4_shareBits_8 rfl (lv_at hl 0 rfl) ?_
    refine lv_dstore_n (lv' := [(2, .double a1), (0, .double a1)]) hx hb dX4_shareBits_9 rfl hl (by decide) rfl (fun ls hl => ?_)
    refine lv_ldc2 (v := (1023)) hx hb hown (hts _ qw579) dX4_shareBits_10 ?_
    refine lv_lstore (lv' := [(4, .long (1023 : Int64)), (2, .double a1), (0, .double a1)]) hx hb dX4_shareBits_13 hl (by decide) rfl (fun ls hl => ?_)
    refine lv_iconst (v := (0)) hx hb dX4_shareBits_15 (by decide) ?_
    refine lv_istore (lv' := [(6, .int (0 : Int32)), (4, .long (1023 : Int64)), (2, .double a1), (0, .double a1)]) hx hb dX4_shareBits_16 hl (by decide) rfl (fun ls hl => ?_)
    obtain ⟨o7, eo7, h⟩ := obind h
    have hL18 : ∀ (n : Nat) (y2_18 : UInt64) (y4_18 : Int64) (y6_18 : Int32) (o7 : UInt64 × Int64), f_X4_shareBits_L18 n y2_18 y4_18 y6_18 = some o7 → (∀ (ls : Array Slot), lv_has ls 7 [(2, .double o7.1), (4, .long o7.2)] → W p l e (headSpec (ws_ yX4_shareBits cX4_shareBits 7 (some .long)) rm_X4_shareBits).room s m ([.double a1] : List Value).toArray below meth c s.heap [] 0 0 (MQ below (QR (some (.long res))) ([.double a1] : List Value).toArray s 0 0 FN) (F0 m 50 ls [])) → ∀ (ls : Array Slot), lv_has ls 7 [(2, .double y2_18), (4, .long y4_18), (6, .int y6_18)] → W p l e (headSpec (ws_ yX4_shareBits cX4_shareBits 7 (some .long)) rm_X4_shareBits).room s m ([.double a1] : List Value).toArray below meth c s.heap [] 0 0 (MQ below (QR (some (.long res))) ([.double a1] : List Value).toArray s 0 0 FN) (F0 m 18 ls []) := by
      intro n
      induction n with
      | zero => intro y2_18 y4_18 y6_18 o7 h; exact absurd h (fun z => by cases z)
      | succ n ih =>
        intro y2_18 y4_18 y6_18 o7 h hK18 ls hl
        replace h : f_X4_shareBits_L18_b (f_X4_shareBits_L18 n) y2_18 y4_18 y6_18 = some o7 := h
        unfold f_X4_shareBits_L18_b at h
        refine lv_iload hx hb dX4_shareBits_18 (lv_at hl 2 rfl) ?_
        refine lv_sipush (v := (1022)) hx hb dX4_shareBits_20 (by decide) ?_
        refine lv_icmp_ge (tgt := 50) hx hb dX4_shareBits_23 (by decide) (fun hc => ?_) (fun hc => ?_)
        · have h := iteT hc h
          obtain rfl := Option.some.inj h
          exact hK18 ls (lv_sub hl [0, 1] rfl)
        · have h := iteF hc h
          refine lv_dload_n hx hb dX4_shareBits_26 rfl (lv_at hl 0 rfl) ?_
          refine lv_dconst1 hx hb dX4_shareBits_27 ?_
          refine lv_dcmp hx hb dX4_shareBits_28 ?_
          refine lv_if_ge (tgt := 50) hx hb dX4_shareBits_29 (by decide) (fun hc => ?_) (fun hc => ?_)
          · have h := iteT hc h
            obtain rfl := Option.some.inj h
            exact hK18 ls (lv_sub hl [0, 1] rfl)
          · have h := iteF hc h
            refine lv_dload_n hx hb dX4_shareBits_32 rfl (lv_at hl 0 rfl) ?_
            refine lv_ldc2d (v := (4611686018427387904)) hx hb hown (hts _ qw580) dX4_shareBits_33 ?_
            obtain ⟨d8, ed8, h⟩ := obind h
            refine lv_dmul hx hb dX4_shareBits_36 (dfin_some ed8).2 ?_
            refine topD (dfin_some ed8).1 ?_
            refine lv_dstore_n (lv' := [(2, .double d8), (4, .long y4_18), (6, .int y6_18)]) hx hb dX4_shareBits_37 rfl hl (by decide) rfl (fun ls hl => ?_)
            refine lv_lload hx hb dX4_shareBits_38 (lv_at hl 1 rfl) ?_
            refine lv_lconst (v := (1)) hx hb dX4_shareBits_40 (by decide) ?_
            refine lv_lsub hx hb dX4_shareBits_41 ?_
            obtain ⟨x9, ex9, h⟩ := jlet_some h
            refine topJ ex9 ?_
            refine lv_lstore (lv' := [(4, .long x9), (2, .double d8), (6, .int y6_18)]) hx hb dX4_shareBits_42 hl (by decide) rfl (fun ls hl => ?_)
            obtain ⟨x10, ex10, h⟩ := jlet_some h
            refine lv_iinc (v := x10) (lv' := [(6, .int x10), (4, .long x9), (2, .double d8)]) hx hb dX4_shareBits_44 hl (k := 2) rfl (by rw [ex10]; rfl) (by decide) rfl (fun ls hl => ?_)
            refine lv_goto (tgt := 18) hx hb dX4_shareBits_47 (by decide) ?_
            exact ih _ _ _ _ h hK18 ls (lv_sub hl [2, 1, 0] rfl)
    refine hL18 _ _ _ _ _ eo7 (fun ls hl => ?_) ls (lv_sub hl [2, 1, 0] rfl)
    refine lv_lload hx hb dX4_shareBits_50 (lv_at hl 1 rfl) ?_
    refine lv_bipush (v := (52)) hx hb dX4_shareBits_52 (by decide) ?_
    refine lv_lshl hx hb dX4_shareBits_54 rfl ?_
    refine lv_dload_n hx hb dX4_shareBits_55 rfl (lv_at hl 0 rfl) ?_
    refine lv_dconst1 hx hb dX4_shareBits_56 ?_
    obtain ⟨d11, ed11, h⟩ := obind h
    refine lv_dsub hx hb dX4_shareBits_57 (dfin_some ed11).2 ?_
    refine topD (dfin_some ed11).1 ?_
    refine lv_ldc2d (v := (4841369599423283200)) hx hb hown (hts _ qw581) dX4_shareBits_58 ?_
    obtain ⟨d12, ed12, h⟩ := obind h
    refine lv_dmul hx hb dX4_shareBits_61 (dfin_some ed12).2 ?_
    refine topD (dfin_some ed12).1 ?_
    refine lv_d2l hx hb dX4_shareBits_62 ?_
    refine lv_ladd hx hb dX4_shareBits_63 ?_
    obtain rfl := Option.some.inj h
    exact W.lret hx hb hr (fun t ht hW => ⟨rfl, ht⟩) (fun q hq => absurd hq List.not_mem_nil) dX4_shareBits_64
  · have h := iteF hc h
    refine lv_lconst (v := (0)) hx hb dX4_shareBits_6 (by decide) ?_
    obtain rfl := Option.some.inj h
    exact W.lret hx hb hr (fun t ht hW => ⟨rfl, ht⟩) (fun q hq => absurd hq List.not_mem_nil) dX4_shareBits_7

abbrev rm_X4_isSide : Room := { frames := 0, cells := 0, slots := 0, locals := 0 }
theorem ok_X4_isSide : okY yX4_isSide 1 := ⟨by decide +kernel, by decide +kernel, by decide +kernel⟩
set_option maxHeartbeats 4000000 in
set_option maxRecDepth 100000 in
theorem c_X4_isSide (l : Launch) (z0 : Nat) (D : va_G) (t : Nat → ClassId) (a1 : Int32) (res : Int32) (h : f_X4_isSide a1 = some res) : Met l yX4_isSide (ws_ yX4_isSide cX4_isSide 1 (some .boolean)) rm_X4_isSide (PR z0 D t [.int a1] []) (QR (some (.int res))) 0 0 FN := by
  refine Met.ofW (cc := cX4_isSide) (maxL := 1) (ret := (some .boolean)) (by decide) rfl ?_
  intro p e s m args below meth c s₁ Bo hml hv
  obtain ⟨rfl, hC, hP⟩ := hv
  have hx := Bo.exec
  have hb := Bo.bytes
  have hr := Bo.returns
  have hts : ∀ w ∈ LA, w.before _ s = true := fun w hw => atoms_spec (ws := ws_ yX4_isSide cX4_isSide 1 (some .boolean)) Bo.pre w (List.mem_cons_of_mem _ hw)
  have hown : s.vm.findClass RX4 = some m.cls := findClass_of_methodNamed Bo.named
  have hlocks := Bo.notSynchronized
  have hK := hC.1
  have hl := lv_entry ([.int a1]) (n := 1) (Nat.le_of_ble_eq_true rfl)
  rw [lg_entry_eq]
  generalize (lg_sl ([.int a1]) ++ List.replicate (1 - (lg_sl ([.int a1])).length) Slot.unset).toArray = ls at hl ⊢
  have hl : lv_has ls 1 [(0, .int a1)] := hl
  unfold f_X4_isSide at h
  refine lv_iload_n hx hb dX4_isSide_0 rfl (lv_at hl 0 rfl) ?_
  refine lv_iconst (v := (2)) hx hb dX4_isSide_1 (by decide) ?_
  refine lv_icmp_lt (tgt := 15) hx hb dX4_isSide_2 (by decide) (fun hc => ?_) (fun hc => ?_)
  · have h := iteT hc h
    refine lv_iconst (v := (0)) hx hb dX4_isSide_15 (by decide) ?_
    obtain rfl := Option.some.inj h
    exact W.zret hx hb hr rfl (fun t ht hW => ⟨rfl, ht⟩) (fun q hq => absurd hq List.not_mem_nil) dX4_isSide_16
  · have h := iteF hc h
    refine lv_iload_n hx hb dX4_isSide_5 rfl (lv_at hl 0 rfl) ?_
    refine lv_bipush (v := (8)) hx hb dX4_isSide_6 (by decide) ?_
    refine lv_icmp_gt (tgt := 15) hx hb dX4_isSide_8 (by decide) (fun hc => ?_) (fun hc => ?_)
    · have h := iteT hc h
      refine lv_iconst (v := (0)) hx hb dX4_isSide_15 (by decide) ?_
      obtain rfl := Option.some.inj h
      exact W.zret hx hb hr rfl (fun t ht hW => ⟨rfl, ht⟩) (fun q hq => absurd hq List.not_mem_nil) dX4_isSide_16
    · have h := iteF hc h
      refine lv_iconst (v := (1)) hx hb dX4_isSide_11 (by decide) ?_
      refine lv_goto (tgt := 16) hx hb dX4_isSide_12 (by decide) ?_
      obtain rfl := Option.some.inj h
      exact W.zret hx hb hr rfl (fun t ht hW => ⟨rfl, ht⟩) (fun q hq => absurd hq List.not_mem_nil) dX4_isSide_16

abbrev rm_X1_layOut : Room := { frames := 0, cells := 0, slots := 0, locals := 0 }
theorem ok_X1_layOut : okY yX1_layOut 4 := ⟨by decide +kernel, by decide +kernel, by decide +kernel⟩
set_option maxHeartbeats 4000000 in
set_option maxRecDepth 100000 in
theorem c_X1_layOut (l : Launch) (z0 : Nat) (D : va_G) (t : Nat → ClassId) (G : Nat → Nat) (μ : GS) (a1 : Int32) (a2 : Int32) (a3 : Int32) (a4 : Int64) (res : (Int32) × (Int32) × (Int32) × (Int64) × (Int64) × (Int32)) (sz : Nat) (h : f_X1_layOut μ a1 a2 a3 a4 = some res) : Met l yX1_layOut (ws_ yX1_layOut cX1_layOut 6 none) rm_X1_layOut (PM z0 D t [.ref (G 0), .int a1, .int a2, .int a3, .long a4] (GW G t μ) (GL G) sz) (QM none D (GW G t (g_tc' (g_paved' (g_walls' (g_pond' (g_high' (g_wide' μ res.1) res.2.1) res.2.2.1) res.2.2.2.1) res.2.2.2.2.1) res.2.2.2.2.2)) (GL G) sz) 0 0 (OA (GL G) sz) := by
  refine Met.ofW (cc := cX1_layOut) (maxL := 6) (ret := none) (by decide) rfl ?_
  intro p e s m args below meth c s₁ Bo hml hv
  obtain ⟨rfl, hC, hsz, hP, hD, hZ⟩ := hv
  have hx := Bo.exec
  have hb := Bo.bytes
  have hr := Bo.returns
  have hts : ∀ w ∈ LA, w.before _ s = true := fun w hw => atoms_spec (ws := ws_ yX1_layOut cX1_layOut 6 none) Bo.pre w (List.mem_cons_of_mem _ hw)
  have hown : s.vm.findClass RX1 = some m.cls := findClass_of_methodNamed Bo.named
  have hlocks := Bo.notSynchronized
  have hK := hC.1
  subst hsz
  have hl := lv_entry ([.ref (G 0), .int a1, .int a2, .int a3, .long a4]) (n := 6) (Nat.le_of_ble_eq_true rfl)
  rw [lg_entry_eq]
  generalize (lg_sl ([.ref (G 0), .int a1, .int a2, .int a3, .long a4]) ++ List.replicate (6 - (lg_sl ([.ref (G 0), .int a1, .int a2, .int a3, .long a4])).length) Slot.unset).toArray = ls at hl ⊢
  have hl : lv_has ls 6 [(0, .ref (G 0)), (1, .int a1), (2, .int a2), (3, .int a3), (4, .long a4)] := hl
  suffices K9 : ∀ (H : Heap) (locs : List Loc), va_P D vwCl (GW G t μ) H → va_S (OA (GL G) s.heap.size) s.heap H locs → W p l e (headSpec (ws_ yX1_layOut cX1_layOut 6 none) rm_X1_layOut).room s m ([.ref (G 0), .int a1, .int a2, .int a3, .long a4] : List Value).toArray below meth c H locs 0 0 (MQ below (QM none D (GW G t (g_tc' (g_paved' (g_walls' (g_pond' (g_high' (g_wide' μ res.1) res.2.1) res.2.2.1) res.2.2.2.1) res.2.2.2.2.1) res.2.2.2.2.2)) (GL G) s.heap.size) ([.ref (G 0), .int a1, .int a2, .int a3, .long a4] : List Value).toArray s 0 0 (OA (GL G) s.heap.size)) (F0 m 0 ls []) from K9 s.heap [] hP va_S.rf
  intro H locs hP hS
  have hSz : s.heap.size ≤ H.size := hS.1
  unfold f_X1_layOut at h
  refine lv_aload_n hx hb dX1_layOut_0 rfl (lv_at hl 0 rfl) ?_
  refine lv_iload_n hx hb dX1_layOut_1 rfl (lv_at hl 1 rfl) ?_
  refine va_put (D := D) (ci := 2) (v := .int a1) (ty := .int) hx hb hts inX1 tyX1 tyX1_ok nmX1 hown hK hP hD hS 0 rfl rfl 0 (by decide) (hts _ qw103) (fun _ h9 => h9) rfl (by decide +kernel) rfl rfl (Nat.le_of_ble_eq_true rfl) dX1_layOut_2 (fun H locs hP hD hS => ?_)
  have hP : va_P D vwCl (GW G t (g_wide' μ a1)) H := hP
  have hD : va_D (OA (GL G) s.heap.size) (GW G t (g_wide' μ a1)) := hD
  have hSz : s.heap.size ≤ H.size := hS.1
  refine lv_aload_n hx hb dX1_layOut_5 rfl (lv_at hl 0 rfl) ?_
  refine lv_iload_n hx hb dX1_layOut_6 rfl (lv_at hl 2 rfl) ?_
  refine va_put (D := D) (ci := 2) (v := .int a2) (ty := .int) hx hb hts inX1 tyX1 tyX1_ok nmX1 hown hK hP hD hS 0 rfl rfl 1 (by decide) (hts _ qw105) (fun _ h9 => h9) rfl (by decide +kernel) rfl rfl (Nat.le_of_ble_eq_true rfl) dX1_layOut_7 (fun H locs hP hD hS => ?_)
  have hP : va_P D vwCl (GW G t (g_high' (g_wide' μ a1) a2)) H := hP
  have hD : va_D (OA (GL G) s.heap.size) (GW G t (g_high' (g_wide' μ a1) a2)) := hD
  have hSz : s.heap.size ≤ H.size := hS.1
  refine lv_aload_n hx hb dX1_layOut_10 rfl (lv_at hl 0 rfl) ?_
  refine lv_iload_n hx hb dX1_layOut_11 rfl (lv_at hl 3 rfl) ?_
  refine va_put (D := D) (ci := 2) (v := .int a3) (ty := .int) hx hb hts inX1 tyX1 tyX1_ok nmX1 hown hK hP hD hS 0 rfl rfl 2 (by decide) (hts _ qw107) (fun _ h9 => h9) rfl (by decide +kernel) rfl rfl (Nat.le_of_ble_eq_true rfl) dX1_layOut_12 (fun H locs hP hD hS => ?_)
  have hP : va_P D vwCl (GW G t (g_pond' (g_high' (g_wide' μ a1) a2) a3)) H := hP
  have hD : va_D (OA (GL G) s.heap.size) (GW G t (g_pond' (g_high' (g_wide' μ a1) a2) a3)) := hD
  have hSz : s.heap.size ≤ H.size := hS.1
  refine lv_aload_n hx hb dX1_layOut_15 rfl (lv_at hl 0 rfl) ?_
  refine lv_lload hx hb dX1_layOut_16 (lv_at hl 4 rfl) ?_
  refine va_put (D := D) (ci := 2) (v := .long a4) (ty := .long) hx hb hts inX1 tyX1 tyX1_ok nmX1 hown hK hP hD hS 0 rfl rfl 3 (by decide) (hts _ qw109) (fun _ h9 => h9) rfl (by decide +kernel) rfl rfl (Nat.le_of_ble_eq_true rfl) dX1_layOut_18 (fun H locs hP hD hS => ?_)
  have hP : va_P D vwCl (GW G t (g_walls' (g_pond' (g_high' (g_wide' μ a1) a2) a3) a4)) H := hP
  have hD : va_D (OA (GL G) s.heap.size) (GW G t (g_walls' (g_pond' (g_high' (g_wide' μ a1) a2) a3) a4)) := hD
  have hSz : s.heap.size ≤ H.size := hS.1
  refine lv_aload_n hx hb dX1_layOut_21 rfl (lv_at hl 0 rfl) ?_
  refine lv_lconst (v := (0)) hx hb dX1_layOut_22 (by decide) ?_
  refine va_put (D := D) (ci := 2) (v := .long (0 : Int64)) (ty := .long) hx hb hts inX1 tyX1 tyX1_ok nmX1 hown hK hP hD hS 0 rfl rfl 4 (by decide) (hts _ qw111) (fun _ h9 => h9) rfl (by decide +kernel) rfl rfl (Nat.le_of_ble_eq_true rfl) dX1_layOut_23 (fun H locs hP hD hS => ?_)
  have hP : va_P D vwCl (GW G t (g_paved' (g_walls' (g_pond' (g_high' (g_wide' μ a1) a2) a3) a4) (0 : Int64))) H := hP
  have hD : va_D (OA (GL G) s.heap.size) (GW G t (g_paved' (g_walls' (g_pond' (g_high' (g_wide' μ a1) a2) a3) a4) (0 : Int64))) := hD
  have hSz : s.heap.size ≤ H.size := hS.1
  refine lv_aload_n hx hb dX1_layOut_26 rfl (lv_at hl 0 rfl) ?_
  refine lv_iconst (v := (0)) hx hb dX1_layOut_27 (by decide) ?_
  refine va_put (D := D) (ci := 2) (v := .int (0 : Int32)) (ty := .int) hx hb hts inX1 tyX1 tyX1_ok nmX1 hown hK hP hD hS 0 rfl rfl 5 (by decide) (hts _ qw113) (fun _ h9 => h9) rfl (by decide +kernel) rfl rfl (Nat.le_of_ble_eq_true rfl) dX1_layOut_28 (fun H locs hP hD hS => ?_)
  have hP : va_P D vwCl (GW G t (g_tc' (g_paved' (g_walls' (g_pond' (g_high' (g_wide' μ a1) a2) a3) a4) (0 : Int64)) (0 : Int32))) H := hP
  have hD : va_D (OA (GL G) s.heap.size) (GW G t (g_tc' (g_paved' (g_walls' (g_pond' (g_high' (g_wide' μ a1) a2) a3) a4) (0 : Int64)) (0 : Int32))) := hD
  have hSz : s.heap.size ≤ H.size := hS.1
  obtain rfl := Option.some.inj h
  exact W.vret hx hb hr (fun t ht hW => ⟨rfl, by rw [ht]; exact hP, hD, hS.F ht⟩) hS.2.2 dX1_layOut_31
