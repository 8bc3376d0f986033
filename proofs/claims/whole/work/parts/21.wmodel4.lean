abbrev rm_X5_halve : Room := { frames := 2, cells := 0, slots := 0, locals := 66 }
theorem ok_X5_halve : okY yX5_halve 0 := ⟨by decide +kernel, by decide +kernel, by decide +kernel⟩
set_option maxHeartbeats 4000000 in
set_option maxRecDepth 100000 in
theorem c_X5_halve (l : Launch) (z0 : Nat) (D : va_G) (t : Nat → ClassId) (A : Nat → Nat) (μ : MS) (res : Int32 × (Nat → Int32) × (Int32) × (Int32) × (Nat → Int32)) (sz : Nat) (h : f_X5_halve μ = some res) : Met l yX5_halve (ws_ yX5_halve cX5_halve 10 (some .int)) rm_X5_halve (PM z0 D t [.ref (A 0)] (MW A t μ) (ML A) sz) (QM (some (.int res.1)) D (MW A t (m_square' (m_thrown' (m_states' (m_s' μ res.2.1) res.2.2.1) res.2.2.2.1) res.2.2.2.2)) (ML A) sz) 0 0 (OA (ML A) sz) := by
  refine Met.ofW (cc := cX5_halve) (maxL := 10) (ret := (some .int)) (by decide) rfl ?_
  intro p e s m args below meth c s₁ Bo hml hv
  obtain ⟨rfl, hC, hsz, hP, hD, hZ⟩ := hv
  have hx := Bo.exec
  have hb := Bo.bytes
  have hr := Bo.returns
  have hts : ∀ w ∈ LA, w.before _ s = true := fun w hw => atoms_spec (ws := ws_ yX5_halve cX5_halve 10 (some .int)) Bo.pre w (List.mem_cons_of_mem _ hw)
  have hown : s.vm.findClass RX5 = some m.cls := findClass_of_methodNamed Bo.named
  have hlocks := Bo.notSynchronized
  have hK := hC.1
  subst hsz
  have hl := lv_entry ([.ref (A 0)]) (n := 10) (Nat.le_of_ble_eq_true rfl)
  rw [lg_entry_eq]
  generalize (lg_sl ([.ref (A 0)]) ++ List.replicate (10 - (lg_sl ([.ref (A 0)])).length) Slot.unset).toArray = ls at hl ⊢
  have hl : lv_has ls 10 [(0, .ref (A 0))] := hl
  suffices K9 : ∀ (H : Heap) (locs : List Loc), va_P D vwCl (MW A t μ) H → va_S (OA (ML A) s.heap.size) s.heap H locs → W p l e (headSpec (ws_ yX5_halve cX5_halve 10 (some .int)) rm_X5_halve).room s m ([.ref (A 0)] : List Value).toArray below meth c H locs 0 0 (MQ below (QM (some (.int res.1)) D (MW A t (m_square' (m_thrown' (m_states' (m_s' μ res.2.1) res.2.2.1) res.2.2.2.1) res.2.2.2.2)) (ML A) s.heap.size) ([.ref (A 0)] : List Value).toArray s 0 0 (OA (ML A) s.heap.size)) (F0 m 0 ls []) from K9 s.heap [] hP va_S.rf
  intro H locs hP hS
  have hSz : s.heap.size ≤ H.size := hS.1
  unfold f_X5_halve at h
  refine lv_aload_n hx hb dX5_halve_0 rfl (lv_at hl 0 rfl) ?_
  refine lv_aload_n hx hb dX5_halve_1 rfl (lv_at hl 0 rfl) ?_
  obtain ⟨r1, er1, h⟩ := obind h
  refine call_R (va_runV (As := []) (rest := [.ref (A 0)]) ⟨hx, hb, hml, hown, hts⟩ (c_X5_areSquares l z0 D t A μ _ er1) (kV hts qw1106 qw1108 qs47 qw9 qw1109 ok_X5_areSquares ⟨Nat.le_of_ble_eq_true rfl, Nat.le_of_ble_eq_true rfl⟩) ⟨PR.blind, va_recv hK hP (ci := 6) (q0 := 0) rfl rfl, fun U hU hW => ⟨rfl, by rw [hU]; exact (hC.at hS hZ).warm hW, by rw [hU]; exact hP⟩⟩ rfl rfl hl.1 rfl (lv_room (Nat.le_of_ble_eq_true rfl)) dX5_halve_2 ⟨Nat.le_of_ble_eq_true rfl, Nat.le_of_ble_eq_true rfl⟩) ?_
  refine lv_iconst (v := (1)) hx hb dX5_halve_5 (by decide) ?_
  obtain ⟨r2, er2, h⟩ := obind h
  refine call_M (va_runV (As := [.int r1, .int (1 : Int32)]) (rest := []) ⟨hx, hb, hml, hown, hts⟩ (c_X5_goes l z0 D t A μ r1 (1 : Int32) _ H.size er2) (kV hts qw1011 qw1013 qs31 qw9 qw1014 ok_X5_goes ⟨Nat.le_of_ble_eq_true rfl, Nat.le_of_ble_eq_true rfl⟩) ⟨PM.blind, va_recv hK hP (ci := 6) (q0 := 0) rfl rfl, fun U hU hW => ⟨rfl, by rw [hU]; exact (hC.at hS hZ).warm hW, by rw [hU], by rw [hU]; exact hP, ⟨hD.1, fun _ _ h9 => Or.inl (in_map (L := (ML A)) rfl h9)⟩, fun q hq => hZ q (OA.ofD hD rfl hSz q hq)⟩⟩ rfl rfl hl.1 rfl (lv_room (Nat.le_of_ble_eq_true rfl)) dX5_halve_6 ⟨Nat.le_of_ble_eq_true rfl, Nat.le_of_ble_eq_true rfl⟩) hS (OA.ofD hD rfl hSz) (fun H locs hP hD1 hS _ _ => ?_)
  have hP : va_P D vwCl (MW A t (m_thrown' μ r2.2)) H := hP
  have hD : va_D (OA (ML A) s.heap.size) (MW A t (m_thrown' μ r2.2)) := hD1.weaken (fun _ q _ h9 => OA.ofD hD rfl hSz q.1 h9)
  have hSz : s.heap.size ≤ H.size := hS.1
  refine lv_if_ne (tgt := 14) hx hb dX5_halve_9 (by decide) (fun hc => ?_) (fun hc => ?_)
  · have h := iteF hc h
    refine lv_aload_n hx hb dX5_halve_14 rfl (lv_at hl 0 rfl) ?_
    obtain ⟨r3, er3, h⟩ := obind h
    refine call_M (va_runV (As := []) (rest := []) ⟨hx, hb, hml, hown, hts⟩ (c_X5_saves l z0 D t A (m_thrown' μ r2.2) _ H.size er3) (kV hts qw1015 qw1017 qs32 qw9 qw1018 ok_X5_saves ⟨Nat.le_of_ble_eq_true rfl, Nat.le_of_ble_eq_true rfl⟩) ⟨PM.blind, va_recv hK hP (ci := 6) (q0 := 0) rfl rfl, fun U hU hW => ⟨rfl, by rw [hU]; exact (hC.at hS hZ).warm hW, by rw [hU], by rw [hU]; exact hP, ⟨hD.1, fun _ _ h9 => Or.inl (in_map (L := (ML A)) rfl h9)⟩, fun q hq => hZ q (OA.ofD hD rfl hSz q hq)⟩⟩ rfl rfl hl.1 rfl (lv_room (Nat.le_of_ble_eq_true rfl)) dX5_halve_15 ⟨Nat.le_of_ble_eq_true rfl, Nat.le_of_ble_eq_true rfl⟩) hS (OA.ofD hD rfl hSz) (fun H locs hP hD1 hS _ _ => ?_)
    have hP : va_P D vwCl (MW A t (m_thrown' (m_states' (m_s' μ r3.1) r3.2) r2.2)) H := hP
    have hD : va_D (OA (ML A) s.heap.size) (MW A t (m_thrown' (m_states' (m_s' μ r3.1) r3.2) r2.2)) := hD1.weaken (fun _ q _ h9 => OA.ofD hD rfl hSz q.1 h9)
    have hSz : s.heap.size ≤ H.size := hS.1
    refine lv_iconst (v := (1)) hx hb dX5_halve_18 (by decide) ?_
    refine lv_istore_n (lv' := [(1, .int (1 : Int32)), (0, .ref (A 0))]) hx hb dX5_halve_19 rfl hl (by decide) rfl (fun ls hl => ?_)
    refine lv_aload_n hx hb dX5_halve_20 rfl (lv_at hl 1 rfl) ?_
    refine lv_iconst (v := (0)) hx hb dX5_halve_21 (by decide) ?_
    refine lv_iconst (v := (0)) hx hb dX5_halve_22 (by decide) ?_
    refine lv_iconst (v := (0)) hx hb dX5_halve_23 (by decide) ?_
    refine lv_aload_n hx hb dX5_halve_24 rfl (lv_at hl 1 rfl) ?_
    refine va_get hx hb hts inX5 hown hK hP 0 rfl rfl 0 (by decide) (hts _ qw967) (fun _ h9 => h9) rfl dX5_halve_25 ?_
    refine lv_iconst (v := (0)) hx hb dX5_halve_28 (by decide) ?_
    obtain ⟨v4, ev4, h⟩ := obind h
    refine k_iald hx hb hK hP 1 rfl ev4 dX5_halve_29 ?_
    refine lv_aload_n hx hb dX5_halve_30 rfl (lv_at hl 1 rfl) ?_
    refine va_get hx hb hts inX5 hown hK hP 0 rfl rfl 0 (by decide) (hts _ qw967) (fun _ h9 => h9) rfl dX5_halve_31 ?_
    refine lv_iconst (v := (2)) hx hb dX5_halve_34 (by decide) ?_
    obtain ⟨v5, ev5, h⟩ := obind h
    refine k_iald hx hb hK hP 1 rfl ev5 dX5_halve_35 ?_
    obtain ⟨r6, er6, h⟩ := obind h
    refine call_M (va_runV (As := [.int (0 : Int32), .int (0 : Int32), .int (0 : Int32), .int v4, .int v5]) (rest := []) ⟨hx, hb, hml, hown, hts⟩ (c_X5_pushes l z0 D t A (m_thrown' (m_states' (m_s' μ r3.1) r3.2) r2.2) (0 : Int32) (0 : Int32) (0 : Int32) v4 v5 _ H.size er6) (kV hts qw1110 qw1112 qs48 qw9 qw1113 ok_X5_pushes ⟨Nat.le_of_ble_eq_true rfl, Nat.le_of_ble_eq_true rfl⟩) ⟨PM.blind, va_recv hK hP (ci := 6) (q0 := 0) rfl rfl, fun U hU hW => ⟨rfl, by rw [hU]; exact (hC.at hS hZ).warm hW, by rw [hU], by rw [hU]; exact hP, ⟨hD.1, fun _ _ h9 => Or.inl (in_map (L := (ML A)) rfl h9)⟩, fun q hq => hZ q (OA.ofD hD rfl hSz q hq)⟩⟩ rfl rfl hl.1 rfl (lv_room (Nat.le_of_ble_eq_true rfl)) dX5_halve_36 ⟨Nat.le_of_ble_eq_true rfl, Nat.le_of_ble_eq_true rfl⟩) hS (OA.ofD hD rfl hSz) (fun H locs hP hD1 hS _ _ => ?_)
    have hP : va_P D vwCl (MW A t (m_square' (m_thrown' (m_states' (m_s' μ r3.1) r3.2) r2.2) r6)) H := hP
    have hD : va_D (OA (ML A) s.heap.size) (MW A t (m_square' (m_thrown' (m_states' (m_s' μ r3.1) r3.2) r2.2) r6)) := hD1.weaken (fun _ q _ h9 => OA.ofD hD rfl hSz q.1 h9)
    have hSz : s.heap.size ≤ H.size := hS.1
    obtain ⟨o75, eo75, h⟩ := obind h
    have hL39 : ∀ (n : Nat) (y1_39 : Int32) (s_39 : Nat → Int32) (square_39 : Nat → Int32) (o75 : (Nat → Int32) × (Nat → Int32)), f_X5_halve_L39 μ r2 r3 n y1_39 s_39 square_39 = some o75 → (∀ (ls : Array Slot) (H : Heap) (locs : List Loc), lv_has ls 10 [(0, .ref (A 0))] → va_P D vwCl (MW A t (m_square' (m_thrown' (m_states' (m_s' μ o75.1) r3.2) r2.2) o75.2)) H → va_D (OA (ML A) s.heap.size) (MW A t (m_square' (m_thrown' (m_states' (m_s' μ o75.1) r3.2) r2.2) o75.2)) → va_S (OA (ML A) s.heap.size) s.heap H locs → W p l e (headSpec (ws_ yX5_halve cX5_halve 10 (some .int)) rm_X5_halve).room s m ([.ref (A 0)] : List Value).toArray below meth c H locs 0 0 (MQ below (QM (some (.int res.1)) D (MW A t (m_square' (m_thrown' (m_states' (m_s' μ res.2.1) res.2.2.1) res.2.2.2.1) res.2.2.2.2)) (ML A) s.heap.size) ([.ref (A 0)] : List Value).toArray s 0 0 (OA (ML A) s.heap.size)) (F0 m 295 ls [])) → ∀ (ls : Array Slot) (H : Heap) (locs : List Loc), lv_has ls 10 [(0, .ref (A 0)), (1, .int y1_39)] → va_P D vwCl (MW A t (m_square' (m_thrown' (m_states' (m_s' μ s_39) r3.2) r2.2) square_39)) H → va_D (OA (ML A) s.heap.size) (MW A t (m_square' (m_thrown' (m_states' (m_s' μ s_39) r3.2) r2.2) square_39)) → va_S (OA (ML A) s.heap.size) s.heap H locs → W p l e (headSpec (ws_ yX5_halve cX5_halve 10 (some .int)) rm_X5_halve).room s m ([.ref (A 0)] : List Value).toArray below meth c H locs 0 0 (MQ below (QM (some (.int res.1)) D (MW A t (m_square' (m_thrown' (m_states' (m_s' μ res.2.1) res.2.2.1) res.2.2.2.1) res.2.2.2.2)) (ML A) s.heap.size) ([.ref (A 0)] : List Value).toArray s 0 0 (OA (ML A) s.heap.size)) (F0 m 39 ls []) := by
      intro n
      induction n with
      | zero => intro y1_39 s_39 square_39 o75 h; exact absurd h (fun z => by cases z)
      | succ n ih =>
        intro y1_39 s_39 square_39 o75 h hK39 ls H locs hl hP hD hS
        replace h : f_X5_halve_L39_b μ r2 r3 (f_X5_halve_L39 μ r2 r3 n) y1_39 s_39 square_39 = some o75 := h
        unfold f_X5_halve_L39_b at h
        have hSz : s.heap.size ≤ H.size := hS.1
        refine lv_iload_n hx hb dX5_halve_39 rfl (lv_at hl 1 rfl) ?_
        refine lv_if_le (tgt := 295) hx hb dX5_halve_40 (by decide) (fun hc => ?_) (fun hc => ?_)
        · have h := iteT hc h
          obtain rfl := Option.some.inj h
          exact hK39 ls H locs (lv_sub hl [0] rfl) hP hD hS
        · have h := iteF hc h
          obtain ⟨x76, ex76, h⟩ := jlet_some h
          refine lv_iinc (v := x76) (lv' := [(1, .int x76), (0, .ref (A 0))]) hx hb dX5_halve_43 hl (k := 1) rfl (by rw [ex76]; rfl) (by decide) rfl (fun ls hl => ?_)
          refine lv_iconst (v := (5)) hx hb dX5_halve_46 (by decide) ?_
          refine lv_iload_n hx hb dX5_halve_47 rfl (lv_at hl 0 rfl) ?_
          refine lv_imul hx hb dX5_halve_48 ?_
          obtain ⟨x77, ex77, h⟩ := jlet_some h
          refine topI ex77 ?_
          refine lv_istore_n (lv' := [(2, .int x77), (1, .int x76), (0, .ref (A 0))]) hx hb dX5_halve_49 rfl hl (by decide) rfl (fun ls hl => ?_)
          refine lv_aload_n hx hb dX5_halve_50 rfl (lv_at hl 2 rfl) ?_
          refine va_get hx hb hts inX5 hown hK hP 0 rfl rfl 9 (by decide) (hts _ qw976) (fun _ h9 => h9) rfl dX5_halve_51 ?_
          refine lv_iload_n hx hb dX5_halve_54 rfl (lv_at hl 0 rfl) ?_
          obtain ⟨v78, ev78, h⟩ := obind h
          refine k_iald hx hb hK hP 6 rfl ev78 dX5_halve_55 ?_
          refine lv_istore_n (lv' := [(3, .int v78), (2, .int x77), (1, .int x76), (0, .ref (A 0))]) hx hb dX5_halve_56 rfl hl (by decide) rfl (fun ls hl => ?_)
          refine lv_aload_n hx hb dX5_halve_57 rfl (lv_at hl 3 rfl) ?_
          refine va_get hx hb hts inX5 hown hK hP 0 rfl rfl 9 (by decide) (hts _ qw976) (fun _ h9 => h9) rfl dX5_halve_58 ?_
          refine lv_iload_n hx hb dX5_halve_61 rfl (lv_at hl 1 rfl) ?_
          refine lv_iconst (v := (1)) hx hb dX5_halve_62 (by decide) ?_
          refine lv_iadd hx hb dX5_halve_63 ?_
          obtain ⟨v79, ev79, h⟩ := obind h
          refine k_iald hx hb hK hP 6 rfl ev79 dX5_halve_64 ?_
          refine lv_istore (lv' := [(4, .int v79), (3, .int v78), (2, .int x77), (1, .int x76), (0, .ref (A 0))]) hx hb dX5_halve_65 hl (by decide) rfl (fun ls hl => ?_)
          refine lv_aload_n hx hb dX5_halve_67 rfl (lv_at hl 4 rfl) ?_
          refine va_get hx hb hts inX5 hown hK hP 0 rfl rfl 9 (by decide) (hts _ qw976) (fun _ h9 => h9) rfl dX5_halve_68 ?_
          refine lv_iload_n hx hb dX5_halve_71 rfl (lv_at hl 2 rfl) ?_
          refine lv_iconst (v := (2)) hx hb dX5_halve_72 (by decide) ?_
          refine lv_iadd hx hb dX5_halve_73 ?_
          obtain ⟨v80, ev80, h⟩ := obind h
          refine k_iald hx hb hK hP 6 rfl ev80 dX5_halve_74 ?_
          refine lv_iconst (v := (2)) hx hb dX5_halve_75 (by decide) ?_
          refine lv_idiv hx hb dX5_halve_76 (by decide) ?_
          obtain ⟨x81, ex81, h⟩ := jlet_some h
          refine topI ex81 ?_
          refine lv_istore (lv' := [(5, .int x81), (4, .int v79), (3, .int v78), (2, .int x77), (1, .int x76), (0, .ref (A 0))]) hx hb dX5_halve_77 hl (by decide) rfl (fun ls hl => ?_)
          refine lv_bipush (v := (8)) hx hb dX5_halve_79 (by decide) ?_
          refine lv_aload_n hx hb dX5_halve_81 rfl (lv_at hl 5 rfl) ?_
          refine va_get hx hb hts inX5 hown hK hP 0 rfl rfl 9 (by decide) (hts _ qw976) (fun _ h9 => h9) rfl dX5_halve_82 ?_
          refine lv_iload_n hx hb dX5_halve_85 rfl (lv_at hl 3 rfl) ?_
          refine lv_iconst (v := (4)) hx hb dX5_halve_86 (by decide) ?_
          refine lv_iadd hx hb dX5_halve_87 ?_
          obtain ⟨v82, ev82, h⟩ := obind h
          refine k_iald hx hb hK hP 6 rfl ev82 dX5_halve_88 ?_
          refine lv_imul hx hb dX5_halve_89 ?_
          refine lv_aload_n hx hb dX5_halve_90 rfl (lv_at hl 5 rfl) ?_
          refine va_get hx hb hts inX5 hown hK hP 0 rfl rfl 9 (by decide) (hts _ qw976) (fun _ h9 => h9) rfl dX5_halve_91 ?_
          refine lv_iload_n hx hb dX5_halve_94 rfl (lv_at hl 3 rfl) ?_
          refine lv_iconst (v := (3)) hx hb dX5_halve_95 (by decide) ?_
          refine lv_iadd hx hb dX5_halve_96 ?_
          obtain ⟨v83, ev83, h⟩ := obind h
          refine k_iald hx hb hK hP 6 rfl ev83 dX5_halve_97 ?_
          refine lv_iadd hx hb dX5_halve_98 ?_
          obtain ⟨x84, ex84, h⟩ := jlet_some h
          refine topI ex84 ?_
          refine lv_istore (lv' := [(6, .int x84), (5, .int x81), (4, .int v79), (3, .int v78), (2, .int x77), (1, .int x76), (0, .ref (A 0))]) hx hb dX5_halve_99 hl (by decide) rfl (fun ls hl => ?_)
          refine lv_aload_n hx hb dX5_halve_101 rfl (lv_at hl 6 rfl) ?_
          refine lv_iload_n hx hb dX5_halve_102 rfl (lv_at hl 4 rfl) ?_
          obtain ⟨r85, er85, h⟩ := obind h
          refine call_R (va_runV (As := [.int x77]) (rest := []) ⟨hx, hb, hml, hown, hts⟩ (c_X5_quarter l z0 D t A (m_square' (m_thrown' (m_states' (m_s' μ s_39) r3.2) r2.2) square_39) x77 _ er85) (kV hts qw1114 qw1116 qs49 qw9 qw1117 ok_X5_quarter ⟨Nat.le_of_ble_eq_true rfl, Nat.le_of_ble_eq_true rfl⟩) ⟨PR.blind, va_recv hK hP (ci := 6) (q0 := 0) rfl rfl, fun U hU hW => ⟨rfl, by rw [hU]; exact (hC.at hS hZ).warm hW, by rw [hU]; exact hP⟩⟩ rfl rfl hl.1 rfl (lv_room (Nat.le_of_ble_eq_true rfl)) dX5_halve_103 ⟨Nat.le_of_ble_eq_true rfl, Nat.le_of_ble_eq_true rfl⟩) ?_
          refine lv_istore (lv' := [(7, .int r85), (6, .int x84), (5, .int x81), (4, .int v79), (3, .int v78), (2, .int x77), (1, .int x76), (0, .ref (A 0))]) hx hb dX5_halve_106 hl (by decide) rfl (fun ls hl => ?_)
          refine lv_aload_n hx hb dX5_halve_108 rfl (lv_at hl 7 rfl) ?_
          refine lv_iconst (v := (0)) hx hb dX5_halve_109 (by decide) ?_
          refine lv_iload_n hx hb dX5_halve_110 rfl (lv_at hl 4 rfl) ?_
          refine lv_iload hx hb dX5_halve_111 (lv_at hl 2 rfl) ?_
          refine lv_iadd hx hb dX5_halve_113 ?_
          refine lv_iconst (v := (1)) hx hb dX5_halve_114 (by decide) ?_
          refine lv_isub hx hb dX5_halve_115 ?_
          refine lv_iload hx hb dX5_halve_116 (lv_at hl 3 rfl) ?_
          refine lv_iload hx hb dX5_halve_118 (lv_at hl 2 rfl) ?_
          refine lv_iadd hx hb dX5_halve_120 ?_
          refine lv_iconst (v := (1)) hx hb dX5_halve_121 (by decide) ?_
          refine lv_isub hx hb dX5_halve_122 ?_
          refine lv_iload hx hb dX5_halve_123 (lv_at hl 0 rfl) ?_
          obtain ⟨r86, er86, h⟩ := obind h
          refine call_M (va_runV (As := [.int (0 : Int32), .int ((v78 + x81) - (1 : Int32)), .int ((v79 + x81) - (1 : Int32)), .int r85]) (rest := []) ⟨hx, hb, hml, hown, hts⟩ (c_X5_lays l z0 D t A (m_square' (m_thrown' (m_states' (m_s' μ s_39) r3.2) r2.2) square_39) (0 : Int32) ((v78 + x81) - (1 : Int32)) ((v79 + x81) - (1 : Int32)) r85 _ H.size er86) (kV hts qw1050 qw1052 qs37 qw9 qw1053 ok_X5_lays ⟨Nat.le_of_ble_eq_true rfl, Nat.le_of_ble_eq_true rfl⟩) ⟨PM.blind, va_recv hK hP (ci := 6) (q0 := 0) rfl rfl, fun U hU hW => ⟨rfl, by rw [hU]; exact (hC.at hS hZ).warm hW, by rw [hU], by rw [hU]; exact hP, ⟨hD.1, fun _ _ h9 => Or.inl (in_map (L := (ML A)) rfl h9)⟩, fun q hq => hZ q (OA.ofD hD rfl hSz q hq)⟩⟩ rfl rfl hl.1 rfl (lv_room (Nat.le_of_ble_eq_true rfl)) dX5_halve_125 ⟨Nat.le_of_ble_eq_true rfl, Nat.le_of_ble_eq_true rfl⟩) hS (OA.ofD hD rfl hSz) (fun H locs hP hD1 hS _ _ => ?_)
          have hP : va_P D vwCl (MW A t (m_square' (m_thrown' (m_states' (m_s' μ r86) r3.2) r2.2) square_39)) H := hP
          have hD : va_D (OA (ML A) s.heap.size) (MW A t (m_square' (m_thrown' (m_states' (m_s' μ r86) r3.2) r2.2) square_39)) := hD1.weaken (fun _ q _ h9 => OA.ofD hD rfl hSz q.1 h9)
          have hSz : s.heap.size ≤ H.size := hS.1
          refine lv_iload hx hb dX5_halve_128 (lv_at hl 2 rfl) ?_
          refine lv_iconst (v := (1)) hx hb dX5_halve_130 (by decide) ?_
          obtain ⟨o98, eo98, h⟩ := obind h
          have hJ292_o98 : ∀ (ls : Array Slot) (H : Heap) (locs : List Loc), lv_has ls 10 [(0, .ref (A 0)), (1, .int o98.1)] → va_P D vwCl (MW A t (m_square' (m_thrown' (m_states' (m_s' μ r86) r3.2) r2.2) o98.2)) H → va_D (OA (ML A) s.heap.size) (MW A t (m_square' (m_thrown' (m_states' (m_s' μ r86) r3.2) r2.2) o98.2)) → va_S (OA (ML A) s.heap.size) s.heap H locs → W p l e (headSpec (ws_ yX5_halve cX5_halve 10 (some .int)) rm_X5_halve).room s m ([.ref (A 0)] : List Value).toArray below meth c H locs 0 0 (MQ below (QM (some (.int res.1)) D (MW A t (m_square' (m_thrown' (m_states' (m_s' μ res.2.1) res.2.2.1) res.2.2.2.1) res.2.2.2.2)) (ML A) s.heap.size) ([.ref (A 0)] : List Value).toArray s 0 0 (OA (ML A) s.heap.size)) (F0 m 292 ls []) := by
            intro ls H locs hl hP hD hS
            have hSz : s.heap.size ≤ H.size := hS.1
            refine lv_goto (tgt := 39) hx hb dX5_halve_292 (by decide) ?_
            exact ih _ _ _ _ h hK39 ls H locs (lv_sub hl [0, 1] rfl) hP hD hS
          have h := eo98
          clear eo98
          refine lv_icmp_le (tgt := 292) hx hb dX5_halve_131 (by decide) (fun hc => ?_) (fun hc => ?_)
          · have h := iteT hc h
            obtain rfl := Option.some.inj h
            exact hJ292_o98 ls H locs (lv_sub hl [7, 6] rfl) hP hD hS
          · have h := iteF hc h
            refine lv_bipush (v := (8)) hx hb dX5_halve_134 (by decide) ?_
            refine lv_iload hx hb dX5_halve_136 (lv_at hl 3 rfl) ?_
            refine lv_iload hx hb dX5_halve_138 (lv_at hl 2 rfl) ?_
            refine lv_iadd hx hb dX5_halve_140 ?_
            refine lv_imul hx hb dX5_halve_141 ?_
            obtain ⟨x99, ex99, h⟩ := jlet_some h
            refine topI ex99 ?_
            refine lv_istore (lv' := [(8, .int x99), (7, .int r85), (6, .int x84), (5, .int x81), (4, .int v79), (3, .int v78), (2, .int x77), (1, .int x76), (0, .ref (A 0))]) hx hb dX5_halve_142 hl (by decide) rfl (fun ls hl => ?_)
            refine lv_bipush (v := (8)) hx hb dX5_halve_144 (by decide) ?_
            refine lv_iload hx hb dX5_halve_146 (lv_at hl 4 rfl) ?_
            refine lv_iload hx hb dX5_halve_148 (lv_at hl 3 rfl) ?_
            refine lv_iadd hx hb dX5_halve_150 ?_
            refine lv_iconst (v := (1)) hx hb dX5_halve_151 (by decide) ?_
            refine lv_isub hx hb dX5_halve_152 ?_
            refine lv_imul hx hb dX5_halve_153 ?_
            obtain ⟨x100, ex100, h⟩ := jlet_some h
            refine topI ex100 ?_
            refine lv_istore (lv' := [(9, .int x100), (8, .int x99), (7, .int r85), (6, .int x84), (5, .int x81), (4, .int v79), (3, .int v78), (2, .int x77), (1, .int x76), (0, .ref (A 0))]) hx hb dX5_halve_154 hl (by decide) rfl (fun ls hl => ?_)
            refine lv_aload_n hx hb dX5_halve_156 rfl (lv_at hl 9 rfl) ?_
            refine lv_iload_n hx hb dX5_halve_157 rfl (lv_at hl 8 rfl) ?_
            refine lv_iload_n hx hb dX5_halve_158 rfl (lv_at hl 6 rfl) ?_
            refine lv_iload hx hb dX5_halve_159 (lv_at hl 4 rfl) ?_
            refine lv_iadd hx hb dX5_halve_161 ?_
            refine lv_iload hx hb dX5_halve_162 (lv_at hl 5 rfl) ?_
            refine lv_iload hx hb dX5_halve_164 (lv_at hl 4 rfl) ?_
            refine lv_iadd hx hb dX5_halve_166 ?_
            refine lv_iload hx hb dX5_halve_167 (lv_at hl 4 rfl) ?_
            refine lv_iload hx hb dX5_halve_169 (lv_at hl 2 rfl) ?_
            refine lv_iconst (v := (2)) hx hb dX5_halve_171 (by decide) ?_
            obtain ⟨o101, eo101, h⟩ := obind h
            have hJ187_o101 : ∀ (ls : Array Slot) (H : Heap) (locs : List Loc), lv_has ls 10 [(0, .ref (A 0)), (1, .int x76), (3, .int v78), (4, .int v79), (5, .int x81), (6, .int x84), (7, .int r85), (8, .int x99), (9, .int x100)] → va_P D vwCl (MW A t (m_square' (m_thrown' (m_states' (m_s' μ r86) r3.2) r2.2) square_39)) H → va_D (OA (ML A) s.heap.size) (MW A t (m_square' (m_thrown' (m_states' (m_s' μ r86) r3.2) r2.2) square_39)) → va_S (OA (ML A) s.heap.size) s.heap H locs → W p l e (headSpec (ws_ yX5_halve cX5_halve 10 (some .int)) rm_X5_halve).room s m ([.ref (A 0)] : List Value).toArray below meth c H locs 0 0 (MQ below (QM (some (.int res.1)) D (MW A t (m_square' (m_thrown' (m_states' (m_s' μ res.2.1) res.2.2.1) res.2.2.2.1) res.2.2.2.2)) (ML A) s.heap.size) ([.ref (A 0)] : List Value).toArray s 0 0 (OA (ML A) s.heap.size)) (F0 m 187 ls [.int o101, .int x81, .int (v79 + x81), .int (v78 + x81), .int x76, .ref (A 0)]) := by
              intro ls H locs hl hP hD hS
              have hSz : s.heap.size ≤ H.size := hS.1
              obtain ⟨r102, er102, h⟩ := obind h
              refine call_M (va_runV (As := [.int x76, .int (v78 + x81), .int (v79 + x81), .int x81, .int o101]) (rest := []) ⟨hx, hb, hml, hown, hts⟩ (c_X5_pushes l z0 D t A (m_square' (m_thrown' (m_states' (m_s' μ r86) r3.2) r2.2) square_39) x76 (v78 + x81) (v79 + x81) x81 o101 _ H.size er102) (kV hts qw1110 qw1112 qs48 qw9 qw1113 ok_X5_pushes ⟨Nat.le_of_ble_eq_true rfl, Nat.le_of_ble_eq_true rfl⟩) ⟨PM.blind, va_recv hK hP (ci := 6) (q0 := 0) rfl rfl, fun U hU hW => ⟨rfl, by rw [hU]; exact (hC.at hS hZ).warm hW, by rw [hU], by rw [hU]; exact hP, ⟨hD.1, fun _ _ h9 => Or.inl (in_map (L := (ML A)) rfl h9)⟩, fun q hq => hZ q (OA.ofD hD rfl hSz q hq)⟩⟩ rfl rfl hl.1 rfl (lv_room (Nat.le_of_ble_eq_true rfl)) dX5_halve_187 ⟨Nat.le_of_ble_eq_true rfl, Nat.le_of_ble_eq_true rfl⟩) hS (OA.ofD hD rfl hSz) (fun H locs hP hD1 hS _ _ => ?_)
              have hP : va_P D vwCl (MW A t (m_square' (m_thrown' (m_states' (m_s' μ r86) r3.2) r2.2) r102)) H := hP
              have hD : va_D (OA (ML A) s.heap.size) (MW A t (m_square' (m_thrown' (m_states' (m_s' μ r86) r3.2) r2.2) r102)) := hD1.weaken (fun _ q _ h9 => OA.ofD hD rfl hSz q.1 h9)
              have hSz : s.heap.size ≤ H.size := hS.1
              refine lv_aload_n hx hb dX5_halve_190 rfl (lv_at hl 0 rfl) ?_
              refine lv_iload_n hx hb dX5_halve_191 rfl (lv_at hl 1 rfl) ?_
              refine lv_iconst (v := (1)) hx hb dX5_halve_192 (by decide) ?_
              refine lv_iadd hx hb dX5_halve_193 ?_
              refine lv_iload_n hx hb dX5_halve_194 rfl (lv_at hl 2 rfl) ?_
              refine lv_iload hx hb dX5_halve_195 (lv_at hl 3 rfl) ?_
              refine lv_iload hx hb dX5_halve_197 (lv_at hl 4 rfl) ?_
              refine lv_iadd hx hb dX5_halve_199 ?_
              refine lv_iload hx hb dX5_halve_200 (lv_at hl 4 rfl) ?_
              refine lv_iload hx hb dX5_halve_202 (lv_at hl 6 rfl) ?_
              refine lv_iconst (v := (3)) hx hb dX5_halve_204 (by decide) ?_
              obtain ⟨o103, eo103, h⟩ := obind h
              have hJ222_o103 : ∀ (ls : Array Slot) (H : Heap) (locs : List Loc), lv_has ls 10 [(0, .ref (A 0)), (1, .int x76), (3, .int v78), (4, .int v79), (5, .int x81), (6, .int x84), (7, .int r85), (9, .int x100)] → va_P D vwCl (MW A t (m_square' (m_thrown' (m_states' (m_s' μ r86) r3.2) r2.2) r102)) H → va_D (OA (ML A) s.heap.size) (MW A t (m_square' (m_thrown' (m_states' (m_s' μ r86) r3.2) r2.2) r102)) → va_S (OA (ML A) s.heap.size) s.heap H locs → W p l e (headSpec (ws_ yX5_halve cX5_halve 10 (some .int)) rm_X5_halve).room s m ([.ref (A 0)] : List Value).toArray below meth c H locs 0 0 (MQ below (QM (some (.int res.1)) D (MW A t (m_square' (m_thrown' (m_states' (m_s' μ res.2.1) res.2.2.1) res.2.2.2.1) res.2.2.2.2)) (ML A) s.heap.size) ([.ref (A 0)] : List Value).toArray s 0 0 (OA (ML A) s.heap.size)) (F0 m 222 ls [.int o103, .int x81, .int (v79 + x81), .int v78, .int (x76 + (1 : Int32)), .ref (A 0)]) := by
                intro ls H locs hl hP hD hS
                have hSz : s.heap.size ≤ H.size := hS.1
                obtain ⟨r104, er104, h⟩ := obind h
                refine call_M (va_runV (As := [.int (x76 + (1 : Int32)), .int v78, .int (v79 + x81), .int x81, .int o103]) (rest := []) ⟨hx, hb, hml, hown, hts⟩ (c_X5_pushes l z0 D t A (m_square' (m_thrown' (m_states' (m_s' μ r86) r3.2) r2.2) r102) (x76 + (1 : Int32)) v78 (v79 + x81) x81 o103 _ H.size er104) (kV hts qw1110 qw1112 qs48 qw9 qw1113 ok_X5_pushes ⟨Nat.le_of_ble_eq_true rfl, Nat.le_of_ble_eq_true rfl⟩) ⟨PM.blind, va_recv hK hP (ci := 6) (q0 := 0) rfl rfl, fun U hU hW => ⟨rfl, by rw [hU]; exact (hC.at hS hZ).warm hW, by rw [hU], by rw [hU]; exact hP, ⟨hD.1, fun _ _ h9 => Or.inl (in_map (L := (ML A)) rfl h9)⟩, fun q hq => hZ q (OA.ofD hD rfl hSz q hq)⟩⟩ rfl rfl hl.1 rfl (lv_room (Nat.le_of_ble_eq_true rfl)) dX5_halve_222 ⟨Nat.le_of_ble_eq_true rfl, Nat.le_of_ble_eq_true rfl⟩) hS (OA.ofD hD rfl hSz) (fun H locs hP hD1 hS _ _ => ?_)
                have hP : va_P D vwCl (MW A t (m_square' (m_thrown' (m_states' (m_s' μ r86) r3.2) r2.2) r104)) H := hP
                have hD : va_D (OA (ML A) s.heap.size) (MW A t (m_square' (m_thrown' (m_states' (m_s' μ r86) r3.2) r2.2) r104)) := hD1.weaken (fun _ q _ h9 => OA.ofD hD rfl hSz q.1 h9)
                have hSz : s.heap.size ≤ H.size := hS.1
                refine lv_aload_n hx hb dX5_halve_225 rfl (lv_at hl 0 rfl) ?_
                refine lv_iload_n hx hb dX5_halve_226 rfl (lv_at hl 1 rfl) ?_
                refine lv_iconst (v := (2)) hx hb dX5_halve_227 (by decide) ?_
                refine lv_iadd hx hb dX5_halve_228 ?_
                refine lv_iload_n hx hb dX5_halve_229 rfl (lv_at hl 2 rfl) ?_
                refine lv_iload hx hb dX5_halve_230 (lv_at hl 4 rfl) ?_
                refine lv_iadd hx hb dX5_halve_232 ?_
                refine lv_iload hx hb dX5_halve_233 (lv_at hl 3 rfl) ?_
                refine lv_iload hx hb dX5_halve_235 (lv_at hl 4 rfl) ?_
                refine lv_iload hx hb dX5_halve_237 (lv_at hl 6 rfl) ?_
                refine lv_iconst (v := (1)) hx hb dX5_halve_239 (by decide) ?_
                obtain ⟨o105, eo105, h⟩ := obind h
                have hJ255_o105 : ∀ (ls : Array Slot) (H : Heap) (locs : List Loc), lv_has ls 10 [(0, .ref (A 0)), (1, .int x76), (3, .int v78), (4, .int v79), (5, .int x81), (6, .int x84), (7, .int r85), (9, .int x100)] → va_P D vwCl (MW A t (m_square' (m_thrown' (m_states' (m_s' μ r86) r3.2) r2.2) r104)) H → va_D (OA (ML A) s.heap.size) (MW A t (m_square' (m_thrown' (m_states' (m_s' μ r86) r3.2) r2.2) r104)) → va_S (OA (ML A) s.heap.size) s.heap H locs → W p l e (headSpec (ws_ yX5_halve cX5_halve 10 (some .int)) rm_X5_halve).room s m ([.ref (A 0)] : List Value).toArray below meth c H locs 0 0 (MQ below (QM (some (.int res.1)) D (MW A t (m_square' (m_thrown' (m_states' (m_s' μ res.2.1) res.2.2.1) res.2.2.2.1) res.2.2.2.2)) (ML A) s.heap.size) ([.ref (A 0)] : List Value).toArray s 0 0 (OA (ML A) s.heap.size)) (F0 m 255 ls [.int o105, .int x81, .int v79, .int (v78 + x81), .int (x76 + (2 : Int32)), .ref (A 0)]) := by
                  intro ls H locs hl hP hD hS
                  have hSz : s.heap.size ≤ H.size := hS.1
                  obtain ⟨r106, er106, h⟩ := obind h
                  refine call_M (va_runV (As := [.int (x76 + (2 : Int32)), .int (v78 + x81), .int v79, .int x81, .int o105]) (rest := []) ⟨hx, hb, hml, hown, hts⟩ (c_X5_pushes l z0 D t A (m_square' (m_thrown' (m_states' (m_s' μ r86) r3.2) r2.2) r104) (x76 + (2 : Int32)) (v78 + x81) v79 x81 o105 _ H.size er106) (kV hts qw1110 qw1112 qs48 qw9 qw1113 ok_X5_pushes ⟨Nat.le_of_ble_eq_true rfl, Nat.le_of_ble_eq_true rfl⟩) ⟨PM.blind, va_recv hK hP (ci := 6) (q0 := 0) rfl rfl, fun U hU hW => ⟨rfl, by rw [hU]; exact (hC.at hS hZ).warm hW, by rw [hU], by rw [hU]; exact hP, ⟨hD.1, fun _ _ h9 => Or.inl (in_map (L := (ML A)) rfl h9)⟩, fun q hq => hZ q (OA.ofD hD rfl hSz q hq)⟩⟩ rfl rfl hl.1 rfl (lv_room (Nat.le_of_ble_eq_true rfl)) dX5_halve_255 ⟨Nat.le_of_ble_eq_true rfl, Nat.le_of_ble_eq_true rfl⟩) hS (OA.ofD hD rfl hSz) (fun H locs hP hD1 hS _ _ => ?_)
                  have hP : va_P D vwCl (MW A t (m_square' (m_thrown' (m_states' (m_s' μ r86) r3.2) r2.2) r106)) H := hP
                  have hD : va_D (OA (ML A) s.heap.size) (MW A t (m_square' (m_thrown' (m_states' (m_s' μ r86) r3.2) r2.2) r106)) := hD1.weaken (fun _ q _ h9 => OA.ofD hD rfl hSz q.1 h9)
                  have hSz : s.heap.size ≤ H.size := hS.1
                  refine lv_aload_n hx hb dX5_halve_258 rfl (lv_at hl 0 rfl) ?_
                  refine lv_iload_n hx hb dX5_halve_259 rfl (lv_at hl 1 rfl) ?_
                  refine lv_iconst (v := (3)) hx hb dX5_halve_260 (by decide) ?_
                  refine lv_iadd hx hb dX5_halve_261 ?_
                  refine lv_iload_n hx hb dX5_halve_262 rfl (lv_at hl 2 rfl) ?_
                  refine lv_iload hx hb dX5_halve_263 (lv_at hl 3 rfl) ?_
                  refine lv_iload hx hb dX5_halve_265 (lv_at hl 4 rfl) ?_
                  refine lv_iload hx hb dX5_halve_267 (lv_at hl 6 rfl) ?_
                  obtain ⟨o107, eo107, h⟩ := obind h
                  have hJ286_o107 : ∀ (ls : Array Slot) (H : Heap) (locs : List Loc), lv_has ls 10 [(0, .ref (A 0)), (1, .int x76)] → va_P D vwCl (MW A t (m_square' (m_thrown' (m_states' (m_s' μ r86) r3.2) r2.2) r106)) H → va_D (OA (ML A) s.heap.size) (MW A t (m_square' (m_thrown' (m_states' (m_s' μ r86) r3.2) r2.2) r106)) → va_S (OA (ML A) s.heap.size) s.heap H locs → W p l e (headSpec (ws_ yX5_halve cX5_halve 10 (some .int)) rm_X5_halve).room s m ([.ref (A 0)] : List Value).toArray below meth c H locs 0 0 (MQ below (QM (some (.int res.1)) D (MW A t (m_square' (m_thrown' (m_states' (m_s' μ res.2.1) res.2.2.1) res.2.2.2.1) res.2.2.2.2)) (ML A) s.heap.size) ([.ref (A 0)] : List Value).toArray s 0 0 (OA (ML A) s.heap.size)) (F0 m 286 ls [.int o107, .int x81, .int v79, .int v78, .int (x76 + (3 : Int32)), .ref (A 0)]) := by
                    intro ls H locs hl hP hD hS
                    have hSz : s.heap.size ≤ H.size := hS.1
                    obtain ⟨r108, er108, h⟩ := obind h
                    refine call_M (va_runV (As := [.int (x76 + (3 : Int32)), .int v78, .int v79, .int x81, .int o107]) (rest := []) ⟨hx, hb, hml, hown, hts⟩ (c_X5_pushes l z0 D t A (m_square' (m_thrown' (m_states' (m_s' μ r86) r3.2) r2.2) r106) (x76 + (3 : Int32)) v78 v79 x81 o107 _ H.size er108) (kV hts qw1110 qw1112 qs48 qw9 qw1113 ok_X5_pushes ⟨Nat.le_of_ble_eq_true rfl, Nat.le_of_ble_eq_true rfl⟩) ⟨PM.blind, va_recv hK hP (ci := 6) (q0 := 0) rfl rfl, fun U hU hW => ⟨rfl, by rw [hU]; exact (hC.at hS hZ).warm hW, by rw [hU], by rw [hU]; exact hP, ⟨hD.1, fun _ _ h9 => Or.inl (in_map (L := (ML A)) rfl h9)⟩, fun q hq => hZ q (OA.ofD hD rfl hSz q hq)⟩⟩ rfl rfl hl.1 rfl (lv_room (Nat.le_of_ble_eq_true rfl)) dX5_halve_286 ⟨Nat.le_of_ble_eq_true rfl, Nat.le_of_ble_eq_true rfl⟩) hS (OA.ofD hD rfl hSz) (fun H locs hP hD1 hS _ _ => ?_)
                    have hP : va_P D vwCl (MW A t (m_square' (m_thrown' (m_states' (m_s' μ r86) r3.2) r2.2) r108)) H := hP
                    have hD : va_D (OA (ML A) s.heap.size) (MW A t (m_square' (m_thrown' (m_states' (m_s' μ r86) r3.2) r2.2) r108)) := hD1.weaken (fun _ q _ h9 => OA.ofD hD rfl hSz q.1 h9)
                    have hSz : s.heap.size ≤ H.size := hS.1
                    obtain ⟨x109, ex109, h⟩ := jlet_some h
                    refine lv_iinc (v := x109) (lv' := [(1, .int x109), (0, .ref (A 0))]) hx hb dX5_halve_289 hl (k := 1) rfl (by rw [ex109]; rfl) (by decide) rfl (fun ls hl => ?_)
                    obtain rfl := Option.some.inj h
                    exact hJ292_o98 ls H locs (lv_sub hl [1, 0] rfl) hP hD hS
                  have h := eo107
                  clear eo107
                  refine lv_if_ne (tgt := 277) hx hb dX5_halve_269 (by decide) (fun hc => ?_) (fun hc => ?_)
                  · have h := iteF hc h
                    refine lv_iload hx hb dX5_halve_277 (lv_at hl 7 rfl) ?_
                    refine lv_iload_n hx hb dX5_halve_279 rfl (lv_at hl 2 rfl) ?_
                    refine lv_iadd hx hb dX5_halve_280 ?_
                    refine lv_iload hx hb dX5_halve_281 (lv_at hl 4 rfl) ?_
                    refine lv_iadd hx hb dX5_halve_283 ?_
                    refine lv_iconst (v := (1)) hx hb dX5_halve_284 (by decide) ?_
                    refine lv_isub hx hb dX5_halve_285 ?_
                    obtain rfl := Option.some.inj h
                    exact hJ286_o107 ls H locs (lv_sub hl [0, 1] rfl) hP hD hS
                  · have h := iteT hc h
                    refine lv_iload hx hb dX5_halve_272 (lv_at hl 5 rfl) ?_
                    refine lv_goto (tgt := 286) hx hb dX5_halve_274 (by decide) ?_
                    obtain rfl := Option.some.inj h
                    exact hJ286_o107 ls H locs (lv_sub hl [0, 1] rfl) hP hD hS
                have h := eo105
                clear eo105
                refine lv_icmp_ne (tgt := 248) hx hb dX5_halve_240 (by decide) (fun hc => ?_) (fun hc => ?_)
                · have h := iteF hc h
                  refine lv_iload hx hb dX5_halve_248 (lv_at hl 7 rfl) ?_
                  refine lv_iload_n hx hb dX5_halve_250 rfl (lv_at hl 2 rfl) ?_
                  refine lv_iadd hx hb dX5_halve_251 ?_
                  refine lv_iload hx hb dX5_halve_252 (lv_at hl 4 rfl) ?_
                  refine lv_iadd hx hb dX5_halve_254 ?_
                  obtain rfl := Option.some.inj h
                  exact hJ255_o105 ls H locs (lv_sub hl [0, 1, 2, 3, 4, 5, 6, 7] rfl) hP hD hS
                · have h := iteT hc h
                  refine lv_iload hx hb dX5_halve_243 (lv_at hl 5 rfl) ?_
                  refine lv_goto (tgt := 255) hx hb dX5_halve_245 (by decide) ?_
                  obtain rfl := Option.some.inj h
                  exact hJ255_o105 ls H locs (lv_sub hl [0, 1, 2, 3, 4, 5, 6, 7] rfl) hP hD hS
              have h := eo103
              clear eo103
              refine lv_icmp_ne (tgt := 213) hx hb dX5_halve_205 (by decide) (fun hc => ?_) (fun hc => ?_)
              · have h := iteF hc h
                refine lv_iload hx hb dX5_halve_213 (lv_at hl 7 rfl) ?_
                refine lv_iload_n hx hb dX5_halve_215 rfl (lv_at hl 2 rfl) ?_
                refine lv_iadd hx hb dX5_halve_216 ?_
                refine lv_iload hx hb dX5_halve_217 (lv_at hl 4 rfl) ?_
                refine lv_iadd hx hb dX5_halve_219 ?_
                refine lv_iconst (v := (1)) hx hb dX5_halve_220 (by decide) ?_
                refine lv_isub hx hb dX5_halve_221 ?_
                obtain rfl := Option.some.inj h
                exact hJ222_o103 ls H locs (lv_sub hl [0, 1, 2, 3, 4, 5, 6, 8] rfl) hP hD hS
              · have h := iteT hc h
                refine lv_iload hx hb dX5_halve_208 (lv_at hl 5 rfl) ?_
                refine lv_goto (tgt := 222) hx hb dX5_halve_210 (by decide) ?_
                obtain rfl := Option.some.inj h
                exact hJ222_o103 ls H locs (lv_sub hl [0, 1, 2, 3, 4, 5, 6, 8] rfl) hP hD hS
            have h := eo101
            clear eo101
            refine lv_icmp_ne (tgt := 180) hx hb dX5_halve_172 (by decide) (fun hc => ?_) (fun hc => ?_)
            · have h := iteF hc h
              refine lv_iload hx hb dX5_halve_180 (lv_at hl 1 rfl) ?_
              refine lv_iload_n hx hb dX5_halve_182 rfl (lv_at hl 6 rfl) ?_
              refine lv_iadd hx hb dX5_halve_183 ?_
              refine lv_iload hx hb dX5_halve_184 (lv_at hl 4 rfl) ?_
              refine lv_iadd hx hb dX5_halve_186 ?_
              obtain rfl := Option.some.inj h
              exact hJ187_o101 ls H locs (lv_sub hl [9, 8, 6, 5, 4, 3, 2, 1, 0] rfl) hP hD hS
            · have h := iteT hc h
              refine lv_iload hx hb dX5_halve_175 (lv_at hl 3 rfl) ?_
              refine lv_goto (tgt := 187) hx hb dX5_halve_177 (by decide) ?_
              obtain rfl := Option.some.inj h
              exact hJ187_o101 ls H locs (lv_sub hl [9, 8, 6, 5, 4, 3, 2, 1, 0] rfl) hP hD hS
    refine hL39 _ _ _ _ _ eo75 (fun ls H locs hl hP hD hS => ?_) ls H locs (lv_sub hl [1, 0] rfl) hP hD hS
    have hSz : s.heap.size ≤ H.size := hS.1
    refine lv_aload_n hx hb dX5_halve_295 rfl (lv_at hl 0 rfl) ?_
    refine va_get hx hb hts inX5 hown hK hP 0 rfl rfl 0 (by decide) (hts _ qw967) (fun _ h9 => h9) rfl dX5_halve_296 ?_
    refine lv_sipush (v := (131)) hx hb dX5_halve_299 (by decide) ?_
    obtain ⟨v110, ev110, h⟩ := obind h
    refine k_iald hx hb hK hP 1 rfl ev110 dX5_halve_302 ?_
    obtain rfl := Option.some.inj h
    exact W.iret hx hb hr (fun t ht hW => ⟨rfl, by rw [ht]; exact hP, hD, hS.F ht⟩) hS.2.2 dX5_halve_303
  · have h := iteT hc h
    refine lv_iconst (v := (0)) hx hb dX5_halve_12 (by decide) ?_
    obtain rfl := Option.some.inj h
    exact W.iret hx hb hr (fun t ht hW => ⟨rfl, by rw [ht]; exact hP, hD, hS.F ht⟩) hS.2.2 dX5_halve_13

abbrev rm_X5_append : Room := { frames := 1, cells := 0, slots := 0, locals := 40 }
theorem ok_X5_append : okY yX5_append 1 := ⟨by decide +kernel, by decide +kernel, by decide +kernel⟩
set_option maxHeartbeats 4000000 in
set_option maxRecDepth 100000 in
theorem c_X5_append (l : Launch) (z0 : Nat) (D : va_G) (t : Nat → ClassId) (A : Nat → Nat) (μ : MS) (a1 : Int32) (res : Int32 × (Int32) × (Nat → Int32) × (Int32)) (sz : Nat) (h : f_X5_append μ a1 = some res) : Met l yX5_append (ws_ yX5_append cX5_append 2 (some .int)) rm_X5_append (PM z0 D t [.ref (A 0), .int a1] (MW A t μ) (ML A) sz) (QM (some (.int res.1)) D (MW A t (m_typed' (m_text' (m_thrown' μ res.2.1) res.2.2.1) res.2.2.2)) (ML A) sz) 0 0 (OA (ML A) sz) := by
  refine Met.ofW (cc := cX5_append) (maxL := 2) (ret := (some .int)) (by decide) rfl ?_
  intro p e s m args below meth c s₁ Bo hml hv
  obtain ⟨rfl, hC, hsz, hP, hD, hZ⟩ := hv
  have hx := Bo.exec
  have hb := Bo.bytes
  have hr := Bo.returns
  have hts : ∀ w ∈ LA, w.before _ s = true := fun w hw => atoms_spec (ws := ws_ yX5_append cX5_append 2 (some .int)) Bo.pre w (List.mem_cons_of_mem _ hw)
  have hown : s.vm.findClass RX5 = some m.cls := findClass_of_methodNamed Bo.named
  have hlocks := Bo.notSynchronized
  have hK := hC.1
  subst hsz
  have hl := lv_entry ([.ref (A 0), .int a1]) (n := 2) (Nat.le_of_ble_eq_true rfl)
  rw [lg_entry_eq]
  generalize (lg_sl ([.ref (A 0), .int a1]) ++ List.replicate (2 - (lg_sl ([.ref (A 0), .int a1])).length) Slot.unset).toArray = ls at hl ⊢
  have hl : lv_has ls 2 [(0, .ref (A 0)), (1, .int a1)] := hl
  suffices K9 : ∀ (H : Heap) (locs : List Loc), va_P D vwCl (MW A t μ) H → va_S (OA (ML A) s.heap.size) s.heap H locs → W p l e (headSpec (ws_ yX5_append cX5_append 2 (some .int)) rm_X5_append).room s m ([.ref (A 0), .int a1] : List Value).toArray below meth c H locs 0 0 (MQ below (QM (some (.int res.1)) D (MW A t (m_typed' (m_text' (m_thrown' μ res.2.1) res.2.2.1) res.2.2.2)) (ML A) s.heap.size) ([.ref (A 0), .int a1] : List Value).toArray s 0 0 (OA (ML A) s.heap.size)) (F0 m 0 ls []) from K9 s.heap [] hP va_S.rf
  intro H locs hP hS
  have hSz : s.heap.size ≤ H.size := hS.1
  unfold f_X5_append at h
  refine lv_aload_n hx hb dX5_append_0 rfl (lv_at hl 0 rfl) ?_
  refine lv_iload_n hx hb dX5_append_1 rfl (lv_at hl 1 rfl) ?_
  refine lv_bipush (v := (33)) hx hb dX5_append_2 (by decide) ?_
  refine lv_bipush (v := (126)) hx hb dX5_append_4 (by decide) ?_
  obtain ⟨r1, er1, h⟩ := obind h
  refine call_R (va_runS (As := [.int a1, .int (33 : Int32), .int (126 : Int32)]) (rest := [.ref (A 0)]) ⟨hx, hb, hml, hown, hts⟩ (c_X5_in l z0 D t a1 (33 : Int32) (126 : Int32) _ er1) (kS hts qw1008 qw1009 qw9 qw1010 ok_X5_in ⟨Nat.le_of_ble_eq_true rfl, Nat.le_of_ble_eq_true rfl⟩) ⟨PR.blind, fun U hU hW => ⟨rfl, by rw [hU]; exact (hC.at hS hZ).warm hW, by rw [hU]; exact va_P_nil⟩⟩ rfl rfl hl.1 rfl (lv_room (Nat.le_of_ble_eq_true rfl)) dX5_append_6 ⟨Nat.le_of_ble_eq_true rfl, Nat.le_of_ble_eq_true rfl⟩) ?_
  refine lv_aload_n hx hb dX5_append_9 rfl (lv_at hl 0 rfl) ?_
  refine va_get hx hb hts inX5 hown hK hP 0 rfl rfl 5 (by decide) (hts _ qw972) (fun _ h9 => h9) rfl dX5_append_10 ?_
  refine lv_bipush (v := (71)) hx hb dX5_append_13 (by decide) ?_
  obtain ⟨o2, eo2, h⟩ := obind h
  have hJ23_o2 : ∀ (ls : Array Slot) (H : Heap) (locs : List Loc), lv_has ls 2 [(0, .ref (A 0)), (1, .int a1)] → va_P D vwCl (MW A t μ) H → va_D (OA (ML A) s.heap.size) (MW A t μ) → va_S (OA (ML A) s.heap.size) s.heap H locs → W p l e (headSpec (ws_ yX5_append cX5_append 2 (some .int)) rm_X5_append).room s m ([.ref (A 0), .int a1] : List Value).toArray below meth c H locs 0 0 (MQ below (QM (some (.int res.1)) D (MW A t (m_typed' (m_text' (m_thrown' μ res.2.1) res.2.2.1) res.2.2.2)) (ML A) s.heap.size) ([.ref (A 0), .int a1] : List Value).toArray s 0 0 (OA (ML A) s.heap.size)) (F0 m 23 ls [.int o2, .int r1, .ref (A 0)]) := by
    intro ls H locs hl hP hD hS
    have hSz : s.heap.size ≤ H.size := hS.1
    obtain ⟨r3, er3, h⟩ := obind h
    refine call_M (va_runV (As := [.int r1, .int o2]) (rest := []) ⟨hx, hb, hml, hown, hts⟩ (c_X5_goes l z0 D t A μ r1 o2 _ H.size er3) (kV hts qw1011 qw1013 qs31 qw9 qw1014 ok_X5_goes ⟨Nat.le_of_ble_eq_true rfl, Nat.le_of_ble_eq_true rfl⟩) ⟨PM.blind, va_recv hK hP (ci := 6) (q0 := 0) rfl rfl, fun U hU hW => ⟨rfl, by rw [hU]; exact (hC.at hS hZ).warm hW, by rw [hU], by rw [hU]; exact hP, ⟨hD.1, fun _ _ h9 => Or.inl (in_map (L := (ML A)) rfl h9)⟩, fun q hq => hZ q (OA.ofD hD rfl hSz q hq)⟩⟩ rfl rfl hl.1 rfl (lv_room (Nat.le_of_ble_eq_true rfl)) dX5_append_23 ⟨Nat.le_of_ble_eq_true rfl, Nat.le_of_ble_eq_true rfl⟩) hS (OA.ofD hD rfl hSz) (fun H locs hP hD1 hS _ _ => ?_)
    have hP : va_P D vwCl (MW A t (m_thrown' μ r3.2)) H := hP
    have hD : va_D (OA (ML A) s.heap.size) (MW A t (m_thrown' μ r3.2)) := hD1.weaken (fun _ q _ h9 => OA.ofD hD rfl hSz q.1 h9)
    have hSz : s.heap.size ≤ H.size := hS.1
    refine lv_if_ne (tgt := 31) hx hb dX5_append_26 (by decide) (fun hc => ?_) (fun hc => ?_)
    · have h := iteF hc h
      refine lv_aload_n hx hb dX5_append_31 rfl (lv_at hl 0 rfl) ?_
      refine va_get hx hb hts inX5 hown hK hP 0 rfl rfl 4 (by decide) (hts _ qw971) (fun _ h9 => h9) rfl dX5_append_32 ?_
      refine lv_aload_n hx hb dX5_append_35 rfl (lv_at hl 0 rfl) ?_
      refine va_get hx hb hts inX5 hown hK hP 0 rfl rfl 5 (by decide) (hts _ qw972) (fun _ h9 => h9) rfl dX5_append_36 ?_
      refine lv_iload_n hx hb dX5_append_39 rfl (lv_at hl 1 rfl) ?_
      refine lv_i2c hx hb dX5_append_40 rfl ?_
      obtain ⟨f4, ef4, h⟩ := obind h
      refine k_cast (ws' := (MW A t (m_text' (m_thrown' μ r3.2) f4))) hx hb hK hP hD hS 3 rfl ef4 rfl dX5_append_41 (fun H locs hP hD hS => ?_)
      have hSz : s.heap.size ≤ H.size := hS.1
      refine lv_aload_n hx hb dX5_append_42 rfl (lv_at hl 0 rfl) ?_
      refine lv_dup hx hb dX5_append_43 rfl ?_
      refine va_get hx hb hts inX5 hown hK hP 0 rfl rfl 5 (by decide) (hts _ qw972) (fun _ h9 => h9) rfl dX5_append_44 ?_
      refine lv_iconst (v := (1)) hx hb dX5_append_47 (by decide) ?_
      refine lv_iadd hx hb dX5_append_48 ?_
      obtain ⟨x5, ex5, h⟩ := jlet_some h
      refine topI ex5 ?_
      refine va_put (D := D) (ci := 6) (v := .int x5) (ty := .int) hx hb hts inX5 tyX5 tyX5_ok nmX5 hown hK hP hD hS 0 rfl rfl 5 (by decide) (hts _ qw972) (fun _ h9 => h9) rfl (by decide +kernel) rfl rfl (Nat.le_of_ble_eq_true rfl) dX5_append_49 (fun H locs hP hD hS => ?_)
      have hP : va_P D vwCl (MW A t (m_typed' (m_text' (m_thrown' μ r3.2) f4) x5)) H := hP
      have hD : va_D (OA (ML A) s.heap.size) (MW A t (m_typed' (m_text' (m_thrown' μ r3.2) f4) x5)) := hD
      have hSz : s.heap.size ≤ H.size := hS.1
      refine lv_aload_n hx hb dX5_append_52 rfl (lv_at hl 0 rfl) ?_
      refine va_get hx hb hts inX5 hown hK hP 0 rfl rfl 5 (by decide) (hts _ qw972) (fun _ h9 => h9) rfl dX5_append_53 ?_
      obtain rfl := Option.some.inj h
      exact W.iret hx hb hr (fun t ht hW => ⟨rfl, by rw [ht]; exact hP, hD, hS.F ht⟩) hS.2.2 dX5_append_56
    · have h := iteT hc h
      refine lv_iconst (v := (0)) hx hb dX5_append_29 (by decide) ?_
      obtain rfl := Option.some.inj h
      exact W.iret hx hb hr (fun t ht hW => ⟨rfl, by rw [ht]; exact hP, hD, hS.F ht⟩) hS.2.2 dX5_append_30
  have h := eo2
  clear eo2
  refine lv_icmp_ge (tgt := 22) hx hb dX5_append_15 (by decide) (fun hc => ?_) (fun hc => ?_)
  · have h := iteT hc h
    refine lv_iconst (v := (0)) hx hb dX5_append_22 (by decide) ?_
    obtain rfl := Option.some.inj h
    exact hJ23_o2 ls H locs (lv_sub hl [0, 1] rfl) hP hD hS
  · have h := iteF hc h
    refine lv_iconst (v := (1)) hx hb dX5_append_18 (by decide) ?_
    refine lv_goto (tgt := 23) hx hb dX5_append_19 (by decide) ?_
    obtain rfl := Option.some.inj h
    exact hJ23_o2 ls H locs (lv_sub hl [0, 1] rfl) hP hD hS

abbrev rm_X5_clearBuffer : Room := { frames := 0, cells := 0, slots := 0, locals := 0 }
theorem ok_X5_clearBuffer : okY yX5_clearBuffer 0 := ⟨by decide +kernel, by decide +kernel, by decide +kernel⟩
set_option maxHeartbeats 4000000 in
set_option maxRecDepth 100000 in
theorem c_X5_clearBuffer (l : Launch) (z0 : Nat) (D : va_G) (t : Nat → ClassId) (A : Nat → Nat) (μ : MS) (res : Int32 × (Int32) × (Int32)) (sz : Nat) (h : f_X5_clearBuffer μ = some res) : Met l yX5_clearBuffer (ws_ yX5_clearBuffer cX5_clearBuffer 2 (some .int)) rm_X5_clearBuffer (PM z0 D t [.ref (A 0)] (MW A t μ) (ML A) sz) (QM (some (.int res.1)) D (MW A t (m_typed' (m_thrown' μ res.2.1) res.2.2)) (ML A) sz) 0 0 (OA (ML A) sz) := by
  refine Met.ofW (cc := cX5_clearBuffer) (maxL := 2) (ret := (some .int)) (by decide) rfl ?_
  intro p e s m args below meth c s₁ Bo hml hv
  obtain ⟨rfl, hC, hsz, hP, hD, hZ⟩ := hv
  have hx := Bo.exec
  have hb := Bo.bytes
  have hr := Bo.returns
  have hts : ∀ w ∈ LA, w.before _ s = true := fun w hw => atoms_spec (ws := ws_ yX5_clearBuffer cX5_clearBuffer 2 (some .int)) Bo.pre w (List.mem_cons_of_mem _ hw)
  have hown : s.vm.findClass RX5 = some m.cls := findClass_of_methodNamed Bo.named
  have hlocks := Bo.notSynchronized
  have hK := hC.1
  subst hsz
  have hl := lv_entry ([.ref (A 0)]) (n := 2) (Nat.le_of_ble_eq_true rfl)
  rw [lg_entry_eq]
  generalize (lg_sl ([.ref (A 0)]) ++ List.replicate (2 - (lg_sl ([.ref (A 0)])).length) Slot.unset).toArray = ls at hl ⊢
  have hl : lv_has ls 2 [(0, .ref (A 0))] := hl
  suffices K9 : ∀ (H : Heap) (locs : List Loc), va_P D vwCl (MW A t μ) H → va_S (OA (ML A) s.heap.size) s.heap H locs → W p l e (headSpec (ws_ yX5_clearBuffer cX5_clearBuffer 2 (some .int)) rm_X5_clearBuffer).room s m ([.ref (A 0)] : List Value).toArray below meth c H locs 0 0 (MQ below (QM (some (.int res.1)) D (MW A t (m_typed' (m_thrown' μ res.2.1) res.2.2)) (ML A) s.heap.size) ([.ref (A 0)] : List Value).toArray s 0 0 (OA (ML A) s.heap.size)) (F0 m 0 ls []) from K9 s.heap [] hP va_S.rf
  intro H locs hP hS
  have hSz : s.heap.size ≤ H.size := hS.1
  unfold f_X5_clearBuffer at h
  refine lv_aload_n hx hb dX5_clearBuffer_0 rfl (lv_at hl 0 rfl) ?_
  refine lv_iconst (v := (0)) hx hb dX5_clearBuffer_1 (by decide) ?_
  refine va_put (D := D) (ci := 6) (v := .int (0 : Int32)) (ty := .int) hx hb hts inX5 tyX5 tyX5_ok nmX5 hown hK hP hD hS 0 rfl rfl 3 (by decide) (hts _ qw970) (fun _ h9 => h9) rfl (by decide +kernel) rfl rfl (Nat.le_of_ble_eq_true rfl) dX5_clearBuffer_2 (fun H locs hP hD hS => ?_)
  have hP : va_P D vwCl (MW A t (m_thrown' μ (0 : Int32))) H := hP
  have hD : va_D (OA (ML A) s.heap.size) (MW A t (m_thrown' μ (0 : Int32))) := hD
  have hSz : s.heap.size ≤ H.size := hS.1
  refine lv_aload_n hx hb dX5_clearBuffer_5 rfl (lv_at hl 0 rfl) ?_
  refine va_get hx hb hts inX5 hown hK hP 0 rfl rfl 5 (by decide) (hts _ qw972) (fun _ h9 => h9) rfl dX5_clearBuffer_6 ?_
  obtain ⟨x1, ex1, h⟩ := jlet_some h
  refine topI ex1 ?_
  refine lv_istore_n (lv' := [(1, .int x1), (0, .ref (A 0))]) hx hb dX5_clearBuffer_9 rfl hl (by decide) rfl (fun ls hl => ?_)
  refine lv_aload_n hx hb dX5_clearBuffer_10 rfl (lv_at hl 1 rfl) ?_
  refine lv_iconst (v := (0)) hx hb dX5_clearBuffer_11 (by decide) ?_
  refine va_put (D := D) (ci := 6) (v := .int (0 : Int32)) (ty := .int) hx hb hts inX5 tyX5 tyX5_ok nmX5 hown hK hP hD hS 0 rfl rfl 5 (by decide) (hts _ qw972) (fun _ h9 => h9) rfl (by decide +kernel) rfl rfl (Nat.le_of_ble_eq_true rfl) dX5_clearBuffer_12 (fun H locs hP hD hS => ?_)
  have hP : va_P D vwCl (MW A t (m_typed' (m_thrown' μ (0 : Int32)) (0 : Int32))) H := hP
  have hD : va_D (OA (ML A) s.heap.size) (MW A t (m_typed' (m_thrown' μ (0 : Int32)) (0 : Int32))) := hD
  have hSz : s.heap.size ≤ H.size := hS.1
  refine lv_iload_n hx hb dX5_clearBuffer_15 rfl (lv_at hl 0 rfl) ?_
  obtain rfl := Option.some.inj h
  exact W.iret hx hb hr (fun t ht hW => ⟨rfl, by rw [ht]; exact hP, hD, hS.F ht⟩) hS.2.2 dX5_clearBuffer_16

abbrev rm_X5_error : Room := { frames := 0, cells := 0, slots := 0, locals := 0 }
theorem ok_X5_error : okY yX5_error 0 := ⟨by decide +kernel, by decide +kernel, by decide +kernel⟩
set_option maxHeartbeats 4000000 in
set_option maxRecDepth 100000 in
theorem c_X5_error (l : Launch) (z0 : Nat) (D : va_G) (t : Nat → ClassId) (A : Nat → Nat) (μ : MS) (res : Int32 × (Int32)) (sz : Nat) (h : f_X5_error μ = some res) : Met l yX5_error (ws_ yX5_error cX5_error 10 (some .int)) rm_X5_error (PM z0 D t [.ref (A 0)] (MW A t μ) (ML A) sz) (QM (some (.int res.1)) D (MW A t (m_told' μ res.2)) (ML A) sz) 0 0 (OA (ML A) sz) := by
  refine Met.ofW (cc := cX5_error) (maxL := 10) (ret := (some .int)) (by decide) rfl ?_
  intro p e s m args below meth c s₁ Bo hml hv
  obtain ⟨rfl, hC, hsz, hP, hD, hZ⟩ := hv
  have hx := Bo.exec
  have hb := Bo.bytes
  have hr := Bo.returns
  have hts : ∀ w ∈ LA, w.before _ s = true := fun w hw => atoms_spec (ws := ws_ yX5_error cX5_error 10 (some .int)) Bo.pre w (List.mem_cons_of_mem _ hw)
  have hown : s.vm.findClass RX5 = some m.cls := findClass_of_methodNamed Bo.named
  have hlocks := Bo.notSynchronized
  have hK := hC.1
  subst hsz
  have hl := lv_entry ([.ref (A 0)]) (n := 10) (Nat.le_of_ble_eq_true rfl)
  rw [lg_entry_eq]
  generalize (lg_sl ([.ref (A 0)]) ++ List.replicate (10 - (lg_sl ([.ref (A 0)])).length) Slot.unset).toArray = ls at hl ⊢
  have hl : lv_has ls 10 [(0, .ref (A 0))] := hl
  suffices K9 : ∀ (H : Heap) (locs : List Loc), va_P D vwCl (MW A t μ) H → va_S (OA (ML A) s.heap.size) s.heap H locs → W p l e (headSpec (ws_ yX5_error cX5_error 10 (some .int)) rm_X5_error).room s m ([.ref (A 0)] : List Value).toArray below meth c H locs 0 0 (MQ below (QM (some (.int res.1)) D (MW A t (m_told' μ res.2)) (ML A) s.heap.size) ([.ref (A 0)] : List Value).toArray s 0 0 (OA (ML A) s.heap.size)) (F0 m 0 ls []) from K9 s.heap [] hP va_S.rf
  intro H locs hP hS
  have hSz : s.heap.size ≤ H.size := hS.1
  unfold f_X5_error at h
  refine lv_iconst (v := (0)) hx hb dX5_error_0 (by decide) ?_
  refine lv_istore_n (lv' := [(1, .int (0 : Int32)), (0, .ref (A 0))]) hx hb dX5_error_1 rfl hl (by decide) rfl (fun ls hl => ?_)
  refine lv_iconst (v := (0)) hx hb dX5_error_2 (by decide) ?_
  refine lv_istore_n (lv' := [(2, .int (0 : Int32)), (1, .int (0 : Int32)), (0, .ref (A 0))]) hx hb dX5_error_3 rfl hl (by decide) rfl (fun ls hl => ?_)
  refine lv_aload_n hx hb dX5_error_4 rfl (lv_at hl 2 rfl) ?_
  refine lv_iconst (v := (1)) hx hb dX5_error_5 (by decide) ?_
  refine va_put (D := D) (ci := 6) (v := .int (1 : Int32)) (ty := .int) hx hb hts inX5 tyX5 tyX5_ok nmX5 hown hK hP hD hS 0 rfl rfl 6 (by decide) (hts _ qw973) (fun _ h9 => h9) rfl (by decide +kernel) rfl rfl (Nat.le_of_ble_eq_true rfl) dX5_error_6 (fun H locs hP hD hS => ?_)
  have hP : va_P D vwCl (MW A t (m_told' μ (1 : Int32))) H := hP
  have hD : va_D (OA (ML A) s.heap.size) (MW A t (m_told' μ (1 : Int32))) := hD
  have hSz : s.heap.size ≤ H.size := hS.1
  refine lv_iconst (v := (0)) hx hb dX5_error_9 (by decide) ?_
  refine lv_istore_n (lv' := [(3, .int (0 : Int32)), (2, .int (0 : Int32)), (1, .int (0 : Int32)), (0, .ref (A 0))]) hx hb dX5_error_10 rfl hl (by decide) rfl (fun ls hl => ?_)
  refine lv_iconst (v := (0)) hx hb dX5_error_11 (by decide) ?_
  refine lv_istore (lv' := [(4, .int (0 : Int32)), (3, .int (0 : Int32)), (2, .int (0 : Int32)), (1, .int (0 : Int32)), (0, .ref (A 0))]) hx hb dX5_error_12 hl (by decide) rfl (fun ls hl => ?_)
  obtain ⟨o23, eo23, h⟩ := obind h
  have hL14 : ∀ (n : Nat) (y1_14 : Int32) (y2_14 : Int32) (y3_14 : Int32) (y4_14 : Int32) (told_14 : Int32) (o23 : (Int32 × Int32 × Int32 × (Int32)) ⊕ (Int32 × (Int32))), f_X5_error_L14 μ n y1_14 y2_14 y3_14 y4_14 told_14 = some o23 → (∀ o23l, o23 = .inl o23l → ∀ (ls : Array Slot) (H : Heap) (locs : List Loc), lv_has ls 10 [(0, .ref (A 0)), (1, .int o23l.1), (2, .int o23l.2.1), (3, .int o23l.2.2.1)] → va_P D vwCl (MW A t (m_told' μ o23l.2.2.2)) H → va_D (OA (ML A) s.heap.size) (MW A t (m_told' μ o23l.2.2.2)) → va_S (OA (ML A) s.heap.size) s.heap H locs → W p l e (headSpec (ws_ yX5_error cX5_error 10 (some .int)) rm_X5_error).room s m ([.ref (A 0)] : List Value).toArray below meth c H locs 0 0 (MQ below (QM (some (.int res.1)) D (MW A t (m_told' μ res.2)) (ML A) s.heap.size) ([.ref (A 0)] : List Value).toArray s 0 0 (OA (ML A) s.heap.size)) (F0 m 250 ls [])) → (∀ r9, o23 = .inr r9 → r9 = res) → ∀ (ls : Array Slot) (H : Heap) (locs : List Loc), lv_has ls 10 [(0, .ref (A 0)), (1, .int y1_14), (2, .int y2_14), (3, .int y3_14), (4, .int y4_14)] → va_P D vwCl (MW A t (m_told' μ told_14)) H → va_D (OA (ML A) s.heap.size) (MW A t (m_told' μ told_14)) → va_S (OA (ML A) s.heap.size) s.heap H locs → W p l e (headSpec (ws_ yX5_error cX5_error 10 (some .int)) rm_X5_error).room s m ([.ref (A 0)] : List Value).toArray below meth c H locs 0 0 (MQ below (QM (some (.int res.1)) D (MW A t (m_told' μ res.2)) (ML A) s.heap.size) ([.ref (A 0)] : List Value).toArray s 0 0 (OA (ML A) s.heap.size)) (F0 m 14 ls []) := by
    intro n
    induction n with
    | zero => intro y1_14 y2_14 y3_14 y4_14 told_14 o23 h; exact absurd h (fun z => by cases z)
    | succ n ih =>
      intro y1_14 y2_14 y3_14 y4_14 told_14 o23 h hK14 hR14 ls H locs hl hP hD hS
      replace h : f_X5_error_L14_b μ (f_X5_error_L14 μ n) y1_14 y2_14 y3_14 y4_14 told_14 = some o23 := h
      unfold f_X5_error_L14_b at h
      have hSz : s.heap.size ≤ H.size := hS.1
      refine lv_iload hx hb dX5_error_14 (lv_at hl 4 rfl) ?_
      refine lv_aload_n hx hb dX5_error_16 rfl (lv_at hl 0 rfl) ?_
      refine va_get hx hb hts inX5 hown hK hP 0 rfl rfl 5 (by decide) (hts _ qw972) (fun _ h9 => h9) rfl dX5_error_17 ?_
      refine lv_icmp_ge (tgt := 250) hx hb dX5_error_20 (by decide) (fun hc => ?_) (fun hc => ?_)
      · have h := iteT hc h
        obtain rfl := Option.some.inj h
        exact hK14 _ rfl ls H locs (lv_sub hl [0, 1, 2, 3] rfl) hP hD hS
      · have h := iteF hc h
        refine lv_aload_n hx hb dX5_error_23 rfl (lv_at hl 0 rfl) ?_
        refine va_get hx hb hts inX5 hown hK hP 0 rfl rfl 4 (by decide) (hts _ qw971) (fun _ h9 => h9) rfl dX5_error_24 ?_
        refine lv_iload hx hb dX5_error_27 (lv_at hl 4 rfl) ?_
        obtain ⟨v24, ev24, h⟩ := obind h
        refine k_cald hx hb hK hP 3 rfl ev24 dX5_error_29 ?_
        refine lv_istore (lv' := [(5, .int v24), (0, .ref (A 0)), (1, .int y1_14), (2, .int y2_14), (3, .int y3_14), (4, .int y4_14)]) hx hb dX5_error_30 hl (by decide) rfl (fun ls hl => ?_)
        refine lv_aload_n hx hb dX5_error_32 rfl (lv_at hl 1 rfl) ?_
        refine va_get hx hb hts inX5 hown hK hP 0 rfl rfl 6 (by decide) (hts _ qw973) (fun _ h9 => h9) rfl dX5_error_33 ?_
        refine lv_bipush (v := (8)) hx hb dX5_error_36 (by decide) ?_
        obtain ⟨o25, eo25, h⟩ := obind h
        have hJ53_o25 : ∀ (ls : Array Slot) (H : Heap) (locs : List Loc), lv_has ls 10 [(0, .ref (A 0)), (1, .int y1_14), (2, .int y2_14), (3, .int y3_14), (4, .int y4_14), (5, .int v24)] → va_P D vwCl (MW A t (m_told' μ told_14)) H → va_D (OA (ML A) s.heap.size) (MW A t (m_told' μ told_14)) → va_S (OA (ML A) s.heap.size) s.heap H locs → W p l e (headSpec (ws_ yX5_error cX5_error 10 (some .int)) rm_X5_error).room s m ([.ref (A 0)] : List Value).toArray below meth c H locs 0 0 (MQ below (QM (some (.int res.1)) D (MW A t (m_told' μ res.2)) (ML A) s.heap.size) ([.ref (A 0)] : List Value).toArray s 0 0 (OA (ML A) s.heap.size)) (F0 m 53 ls [.int o25]) := by
          intro ls H locs hl hP hD hS
          have hSz : s.heap.size ≤ H.size := hS.1
          refine lv_istore (lv' := [(6, .int o25), (0, .ref (A 0)), (1, .int y1_14), (2, .int y2_14), (3, .int y3_14), (4, .int y4_14), (5, .int v24)]) hx hb dX5_error_53 hl (by decide) rfl (fun ls hl => ?_)
          refine lv_aload_n hx hb dX5_error_55 rfl (lv_at hl 1 rfl) ?_
          refine va_get hx hb hts inX5 hown hK hP 0 rfl rfl 6 (by decide) (hts _ qw973) (fun _ h9 => h9) rfl dX5_error_56 ?_
          refine lv_iconst (v := (1)) hx hb dX5_error_59 (by decide) ?_
          obtain ⟨o26, eo26, h⟩ := obind h
          have hJ86_o26 : ∀ (ls : Array Slot) (H : Heap) (locs : List Loc), lv_has ls 10 [(0, .ref (A 0)), (1, .int y1_14), (2, .int y2_14), (3, .int y3_14), (4, .int y4_14), (5, .int v24), (6, .int o25)] → va_P D vwCl (MW A t (m_told' μ told_14)) H → va_D (OA (ML A) s.heap.size) (MW A t (m_told' μ told_14)) → va_S (OA (ML A) s.heap.size) s.heap H locs → W p l e (headSpec (ws_ yX5_error cX5_error 10 (some .int)) rm_X5_error).room s m ([.ref (A 0)] : List Value).toArray below meth c H locs 0 0 (MQ below (QM (some (.int res.1)) D (MW A t (m_told' μ res.2)) (ML A) s.heap.size) ([.ref (A 0)] : List Value).toArray s 0 0 (OA (ML A) s.heap.size)) (F0 m 86 ls [.int o26]) := by
            intro ls H locs hl hP hD hS
            have hSz : s.heap.size ≤ H.size := hS.1
            refine lv_istore (lv' := [(7, .int o26), (0, .ref (A 0)), (1, .int y1_14), (2, .int y2_14), (3, .int y3_14), (4, .int y4_14), (5, .int v24), (6, .int o25)]) hx hb dX5_error_86 hl (by decide) rfl (fun ls hl => ?_)
            refine lv_iload hx hb dX5_error_88 (lv_at hl 6 rfl) ?_
            refine lv_bipush (v := (47)) hx hb dX5_error_90 (by decide) ?_
            refine lv_icmp_ne (tgt := 129) hx hb dX5_error_92 (by decide) (fun hc => ?_) (fun hc => ?_)
            · have h := iteF hc h
              refine lv_aload_n hx hb dX5_error_129 rfl (lv_at hl 1 rfl) ?_
              refine va_get hx hb hts inX5 hown hK hP 0 rfl rfl 6 (by decide) (hts _ qw973) (fun _ h9 => h9) rfl dX5_error_130 ?_
              refine lv_iconst (v := (1)) hx hb dX5_error_133 (by decide) ?_
              obtain ⟨o27, eo27, h⟩ := obind h
              have hJ161_o27 : ∀ (ls : Array Slot) (H : Heap) (locs : List Loc), lv_has ls 10 [(0, .ref (A 0)), (1, .int y1_14), (2, .int y2_14), (3, .int y3_14), (4, .int y4_14), (5, .int v24), (6, .int o25)] → va_P D vwCl (MW A t (m_told' μ told_14)) H → va_D (OA (ML A) s.heap.size) (MW A t (m_told' μ told_14)) → va_S (OA (ML A) s.heap.size) s.heap H locs → W p l e (headSpec (ws_ yX5_error cX5_error 10 (some .int)) rm_X5_error).room s m ([.ref (A 0)] : List Value).toArray below meth c H locs 0 0 (MQ below (QM (some (.int res.1)) D (MW A t (m_told' μ res.2)) (ML A) s.heap.size) ([.ref (A 0)] : List Value).toArray s 0 0 (OA (ML A) s.heap.size)) (F0 m 161 ls [.int o27]) := by
                intro ls H locs hl hP hD hS
                have hSz : s.heap.size ≤ H.size := hS.1
                refine lv_istore (lv' := [(8, .int o27), (0, .ref (A 0)), (1, .int y1_14), (2, .int y2_14), (3, .int y3_14), (4, .int y4_14), (5, .int v24), (6, .int o25)]) hx hb dX5_error_161 hl (by decide) rfl (fun ls hl => ?_)
                refine lv_iload hx hb dX5_error_163 (lv_at hl 6 rfl) ?_
                refine lv_bipush (v := (111)) hx hb dX5_error_165 (by decide) ?_
                obtain ⟨o28, eo28, h⟩ := obind h
                have hJ211_o28 : ∀ (ls : Array Slot) (H : Heap) (locs : List Loc), lv_has ls 10 [(0, .ref (A 0)), (1, .int y1_14), (2, .int y2_14), (3, .int y3_14), (4, .int y4_14), (5, .int v24), (8, .int o27)] → va_P D vwCl (MW A t (m_told' μ told_14)) H → va_D (OA (ML A) s.heap.size) (MW A t (m_told' μ told_14)) → va_S (OA (ML A) s.heap.size) s.heap H locs → W p l e (headSpec (ws_ yX5_error cX5_error 10 (some .int)) rm_X5_error).room s m ([.ref (A 0)] : List Value).toArray below meth c H locs 0 0 (MQ below (QM (some (.int res.1)) D (MW A t (m_told' μ res.2)) (ML A) s.heap.size) ([.ref (A 0)] : List Value).toArray s 0 0 (OA (ML A) s.heap.size)) (F0 m 211 ls [.int o28]) := by
                  intro ls H locs hl hP hD hS
                  have hSz : s.heap.size ≤ H.size := hS.1
                  refine lv_istore (lv' := [(9, .int o28), (0, .ref (A 0)), (1, .int y1_14), (2, .int y2_14), (3, .int y3_14), (4, .int y4_14), (5, .int v24), (8, .int o27)]) hx hb dX5_error_211 hl (by decide) rfl (fun ls hl => ?_)
                  refine lv_iload hx hb dX5_error_213 (lv_at hl 7 rfl) ?_
                  refine lv_if_eq (tgt := 223) hx hb dX5_error_215 (by decide) (fun hc => ?_) (fun hc => ?_)
                  · have h := iteT hc h
                    refine lv_iload hx hb dX5_error_223 (lv_at hl 5 rfl) ?_
                    have e9 := hR14 _ (Option.some.inj h).symm
                    subst e9
                    exact W.iret hx hb hr (fun t ht hW => ⟨rfl, by rw [ht]; exact hP, hD, hS.F ht⟩) hS.2.2 dX5_error_225
                  · have h := iteF hc h
                    refine lv_iload hx hb dX5_error_218 (lv_at hl 0 rfl) ?_
                    refine lv_if_ne (tgt := 226) hx hb dX5_error_220 (by decide) (fun hc => ?_) (fun hc => ?_)
                    · have h := iteF hc h
                      refine lv_iload_n hx hb dX5_error_226 rfl (lv_at hl 4 rfl) ?_
                      refine lv_iload hx hb dX5_error_227 (lv_at hl 6 rfl) ?_
                      refine lv_bipush (v := (111)) hx hb dX5_error_229 (by decide) ?_
                      obtain ⟨o29, eo29, h⟩ := obind h
                      have hJ239_o29 : ∀ (ls : Array Slot) (H : Heap) (locs : List Loc), lv_has ls 10 [(0, .ref (A 0)), (1, .int y1_14), (2, .int y2_14), (4, .int y4_14)] → va_P D vwCl (MW A t (m_told' μ told_14)) H → va_D (OA (ML A) s.heap.size) (MW A t (m_told' μ told_14)) → va_S (OA (ML A) s.heap.size) s.heap H locs → W p l e (headSpec (ws_ yX5_error cX5_error 10 (some .int)) rm_X5_error).room s m ([.ref (A 0)] : List Value).toArray below meth c H locs 0 0 (MQ below (QM (some (.int res.1)) D (MW A t (m_told' μ res.2)) (ML A) s.heap.size) ([.ref (A 0)] : List Value).toArray s 0 0 (OA (ML A) s.heap.size)) (F0 m 239 ls [.int o29, .int y3_14]) := by
                        intro ls H locs hl hP hD hS
                        have hSz : s.heap.size ≤ H.size := hS.1
                        refine lv_iadd hx hb dX5_error_239 ?_
                        obtain ⟨x30, ex30, h⟩ := jlet_some h
                        refine topI ex30 ?_
                        refine lv_istore_n (lv' := [(3, .int x30), (0, .ref (A 0)), (1, .int y1_14), (2, .int y2_14), (4, .int y4_14)]) hx hb dX5_error_240 rfl hl (by decide) rfl (fun ls hl => ?_)
                        obtain ⟨x31, ex31, h⟩ := jlet_some h
                        refine lv_iinc (v := x31) (lv' := [(2, .int x31), (3, .int x30), (0, .ref (A 0)), (1, .int y1_14), (4, .int y4_14)]) hx hb dX5_error_241 hl (k := 3) rfl (by rw [ex31]; rfl) (by decide) rfl (fun ls hl => ?_)
                        obtain ⟨x32, ex32, h⟩ := jlet_some h
                        refine lv_iinc (v := x32) (lv' := [(4, .int x32), (2, .int x31), (3, .int x30), (0, .ref (A 0)), (1, .int y1_14)]) hx hb dX5_error_244 hl (k := 4) rfl (by rw [ex32]; rfl) (by decide) rfl (fun ls hl => ?_)
                        refine lv_goto (tgt := 14) hx hb dX5_error_247 (by decide) ?_
                        exact ih _ _ _ _ _ _ h hK14 hR14 ls H locs (lv_sub hl [3, 4, 1, 2, 0] rfl) hP hD hS
                      have h := eo29
                      clear eo29
                      refine lv_icmp_ne (tgt := 238) hx hb dX5_error_231 (by decide) (fun hc => ?_) (fun hc => ?_)
                      · have h := iteF hc h
                        refine lv_iconst (v := (0)) hx hb dX5_error_238 (by decide) ?_
                        obtain rfl := Option.some.inj h
                        exact hJ239_o29 ls H locs (lv_sub hl [1, 2, 3, 5] rfl) hP hD hS
                      · have h := iteT hc h
                        refine lv_iconst (v := (1)) hx hb dX5_error_234 (by decide) ?_
                        refine lv_goto (tgt := 239) hx hb dX5_error_235 (by decide) ?_
                        obtain rfl := Option.some.inj h
                        exact hJ239_o29 ls H locs (lv_sub hl [1, 2, 3, 5] rfl) hP hD hS
                    · have h := iteT hc h
                      refine lv_iload hx hb dX5_error_223 (lv_at hl 5 rfl) ?_
                      have e9 := hR14 _ (Option.some.inj h).symm
                      subst e9
                      exact W.iret hx hb hr (fun t ht hW => ⟨rfl, by rw [ht]; exact hP, hD, hS.F ht⟩) hS.2.2 dX5_error_225
                have h := eo28
                clear eo28
                refine lv_icmp_ne (tgt := 182) hx hb dX5_error_167 (by decide) (fun hc => ?_) (fun hc => ?_)
                · have h := iteF hc h
                  refine lv_iload hx hb dX5_error_182 (lv_at hl 6 rfl) ?_
                  refine lv_bipush (v := (46)) hx hb dX5_error_184 (by decide) ?_
                  refine lv_icmp_eq (tgt := 196) hx hb dX5_error_186 (by decide) (fun hc => ?_) (fun hc => ?_)
                  · have h := iteT hc h
                    refine lv_iload hx hb dX5_error_196 (lv_at hl 7 rfl) ?_
                    refine lv_if_eq (tgt := 206) hx hb dX5_error_198 (by decide) (fun hc => ?_) (fun hc => ?_)
                    · have h := iteT hc h
                      refine lv_iconst (v := (1)) hx hb dX5_error_206 (by decide) ?_
                      refine lv_goto (tgt := 211) hx hb dX5_error_207 (by decide) ?_
                      obtain rfl := Option.some.inj h
                      exact hJ211_o28 ls H locs (lv_sub hl [1, 2, 3, 4, 5, 6, 0] rfl) hP hD hS
                    · have h := iteF hc h
                      refine lv_iload_n hx hb dX5_error_201 rfl (lv_at hl 4 rfl) ?_
                      refine lv_iconst (v := (1)) hx hb dX5_error_202 (by decide) ?_
                      refine lv_icmp_ne (tgt := 210) hx hb dX5_error_203 (by decide) (fun hc => ?_) (fun hc => ?_)
                      · have h := iteF hc h
                        refine lv_iconst (v := (0)) hx hb dX5_error_210 (by decide) ?_
                        obtain rfl := Option.some.inj h
                        exact hJ211_o28 ls H locs (lv_sub hl [1, 2, 3, 4, 5, 6, 0] rfl) hP hD hS
                      · have h := iteT hc h
                        refine lv_iconst (v := (1)) hx hb dX5_error_206 (by decide) ?_
                        refine lv_goto (tgt := 211) hx hb dX5_error_207 (by decide) ?_
                        obtain rfl := Option.some.inj h
                        exact hJ211_o28 ls H locs (lv_sub hl [1, 2, 3, 4, 5, 6, 0] rfl) hP hD hS
                  · have h := iteF hc h
                    refine lv_iload hx hb dX5_error_189 (lv_at hl 6 rfl) ?_
                    refine lv_bipush (v := (35)) hx hb dX5_error_191 (by decide) ?_
                    refine lv_icmp_ne (tgt := 210) hx hb dX5_error_193 (by decide) (fun hc => ?_) (fun hc => ?_)
                    · have h := iteF hc h
                      refine lv_iconst (v := (0)) hx hb dX5_error_210 (by decide) ?_
                      obtain rfl := Option.some.inj h
                      exact hJ211_o28 ls H locs (lv_sub hl [1, 2, 3, 4, 5, 6, 0] rfl) hP hD hS
                    · have h := iteT hc h
                      refine lv_iload hx hb dX5_error_196 (lv_at hl 7 rfl) ?_
                      refine lv_if_eq (tgt := 206) hx hb dX5_error_198 (by decide) (fun hc => ?_) (fun hc => ?_)
                      · have h := iteT hc h
                        refine lv_iconst (v := (1)) hx hb dX5_error_206 (by decide) ?_
                        refine lv_goto (tgt := 211) hx hb dX5_error_207 (by decide) ?_
                        obtain rfl := Option.some.inj h
                        exact hJ211_o28 ls H locs (lv_sub hl [1, 2, 3, 4, 5, 6, 0] rfl) hP hD hS
                      · have h := iteF hc h
                        refine lv_iload_n hx hb dX5_error_201 rfl (lv_at hl 4 rfl) ?_
                        refine lv_iconst (v := (1)) hx hb dX5_error_202 (by decide) ?_
                        refine lv_icmp_ne (tgt := 210) hx hb dX5_error_203 (by decide) (fun hc => ?_) (fun hc => ?_)
                        · have h := iteF hc h
                          refine lv_iconst (v := (0)) hx hb dX5_error_210 (by decide) ?_
                          obtain rfl := Option.some.inj h
                          exact hJ211_o28 ls H locs (lv_sub hl [1, 2, 3, 4, 5, 6, 0] rfl) hP hD hS
                        · have h := iteT hc h
                          refine lv_iconst (v := (1)) hx hb dX5_error_206 (by decide) ?_
                          refine lv_goto (tgt := 211) hx hb dX5_error_207 (by decide) ?_
                          obtain rfl := Option.some.inj h
                          exact hJ211_o28 ls H locs (lv_sub hl [1, 2, 3, 4, 5, 6, 0] rfl) hP hD hS
                · have h := iteT hc h
                  refine lv_iload_n hx hb dX5_error_170 rfl (lv_at hl 4 rfl) ?_
                  refine lv_if_ne (tgt := 178) hx hb dX5_error_171 (by decide) (fun hc => ?_) (fun hc => ?_)
                  · have h := iteF hc h
                    refine lv_iconst (v := (0)) hx hb dX5_error_178 (by decide) ?_
                    refine lv_goto (tgt := 211) hx hb dX5_error_179 (by decide) ?_
                    obtain rfl := Option.some.inj h
                    exact hJ211_o28 ls H locs (lv_sub hl [1, 2, 3, 4, 5, 6, 0] rfl) hP hD hS
                  · have h := iteT hc h
                    refine lv_iconst (v := (1)) hx hb dX5_error_174 (by decide) ?_
                    refine lv_goto (tgt := 211) hx hb dX5_error_175 (by decide) ?_
                    obtain rfl := Option.some.inj h
                    exact hJ211_o28 ls H locs (lv_sub hl [1, 2, 3, 4, 5, 6, 0] rfl) hP hD hS
              have h := eo27
              clear eo27
              refine lv_icmp_ne (tgt := 151) hx hb dX5_error_134 (by decide) (fun hc => ?_) (fun hc => ?_)
              · have h := iteF hc h
                refine lv_iload_n hx hb dX5_error_151 rfl (lv_at hl 3 rfl) ?_
                refine lv_iload_n hx hb dX5_error_152 rfl (lv_at hl 2 rfl) ?_
                refine lv_icmp_ge (tgt := 160) hx hb dX5_error_153 (by decide) (fun hc => ?_) (fun hc => ?_)
                · have h := iteT hc h
                  refine lv_iconst (v := (0)) hx hb dX5_error_160 (by decide) ?_
                  obtain rfl := Option.some.inj h
                  exact hJ161_o27 ls H locs (lv_sub hl [1, 2, 3, 4, 5, 6, 7] rfl) hP hD hS
                · have h := iteF hc h
                  refine lv_iconst (v := (1)) hx hb dX5_error_156 (by decide) ?_
                  refine lv_goto (tgt := 161) hx hb dX5_error_157 (by decide) ?_
                  obtain rfl := Option.some.inj h
                  exact hJ161_o27 ls H locs (lv_sub hl [1, 2, 3, 4, 5, 6, 7] rfl) hP hD hS
              · have h := iteT hc h
                refine lv_iload_n hx hb dX5_error_137 rfl (lv_at hl 3 rfl) ?_
                refine lv_bipush (v := (8)) hx hb dX5_error_138 (by decide) ?_
                refine lv_icmp_ge (tgt := 147) hx hb dX5_error_140 (by decide) (fun hc => ?_) (fun hc => ?_)
                · have h := iteT hc h
                  refine lv_iconst (v := (0)) hx hb dX5_error_147 (by decide) ?_
                  refine lv_goto (tgt := 161) hx hb dX5_error_148 (by decide) ?_
                  obtain rfl := Option.some.inj h
                  exact hJ161_o27 ls H locs (lv_sub hl [1, 2, 3, 4, 5, 6, 7] rfl) hP hD hS
                · have h := iteF hc h
                  refine lv_iconst (v := (1)) hx hb dX5_error_143 (by decide) ?_
                  refine lv_goto (tgt := 161) hx hb dX5_error_144 (by decide) ?_
                  obtain rfl := Option.some.inj h
                  exact hJ161_o27 ls H locs (lv_sub hl [1, 2, 3, 4, 5, 6, 7] rfl) hP hD hS
            · have h := iteT hc h
              refine lv_iload hx hb dX5_error_95 (lv_at hl 0 rfl) ?_
              refine lv_if_eq (tgt := 109) hx hb dX5_error_97 (by decide) (fun hc => ?_) (fun hc => ?_)
              · have h := iteT hc h
                refine lv_iload hx hb dX5_error_109 (lv_at hl 5 rfl) ?_
                have e9 := hR14 _ (Option.some.inj h).symm
                subst e9
                exact W.iret hx hb hr (fun t ht hW => ⟨rfl, by rw [ht]; exact hP, hD, hS.F ht⟩) hS.2.2 dX5_error_111
              · have h := iteF hc h
                refine lv_aload_n hx hb dX5_error_100 rfl (lv_at hl 1 rfl) ?_
                refine va_get hx hb hts inX5 hown hK hP 0 rfl rfl 6 (by decide) (hts _ qw973) (fun _ h9 => h9) rfl dX5_error_101 ?_
                refine lv_bipush (v := (8)) hx hb dX5_error_104 (by decide) ?_
                refine lv_icmp_ne (tgt := 112) hx hb dX5_error_106 (by decide) (fun hc => ?_) (fun hc => ?_)
                · have h := iteF hc h
                  refine lv_iload_n hx hb dX5_error_112 rfl (lv_at hl 3 rfl) ?_
                  refine lv_istore_n (lv' := [(1, .int y2_14), (7, .int o26), (0, .ref (A 0)), (2, .int y2_14), (3, .int y3_14), (4, .int y4_14), (5, .int v24), (6, .int o25)]) hx hb dX5_error_113 rfl hl (by decide) rfl (fun ls hl => ?_)
                  refine lv_iconst (v := (0)) hx hb dX5_error_114 (by decide) ?_
                  refine lv_istore_n (lv' := [(2, .int (0 : Int32)), (1, .int y2_14), (7, .int o26), (0, .ref (A 0)), (3, .int y3_14), (4, .int y4_14), (5, .int v24), (6, .int o25)]) hx hb dX5_error_115 rfl hl (by decide) rfl (fun ls hl => ?_)
                  refine lv_aload_n hx hb dX5_error_116 rfl (lv_at hl 3 rfl) ?_
                  refine lv_dup hx hb dX5_error_117 rfl ?_
                  refine va_get hx hb hts inX5 hown hK hP 0 rfl rfl 6 (by decide) (hts _ qw973) (fun _ h9 => h9) rfl dX5_error_118 ?_
                  refine lv_iconst (v := (1)) hx hb dX5_error_121 (by decide) ?_
                  refine lv_iadd hx hb dX5_error_122 ?_
                  obtain ⟨x33, ex33, h⟩ := jlet_some h
                  refine topI ex33 ?_
                  refine va_put (D := D) (ci := 6) (v := .int x33) (ty := .int) hx hb hts inX5 tyX5 tyX5_ok nmX5 hown hK hP hD hS 0 rfl rfl 6 (by decide) (hts _ qw973) (fun _ h9 => h9) rfl (by decide +kernel) rfl rfl (Nat.le_of_ble_eq_true rfl) dX5_error_123 (fun H locs hP hD hS => ?_)
                  have hP : va_P D vwCl (MW A t (m_told' μ x33)) H := hP
                  have hD : va_D (OA (ML A) s.heap.size) (MW A t (m_told' μ x33)) := hD
                  have hSz : s.heap.size ≤ H.size := hS.1
                  refine lv_goto (tgt := 244) hx hb dX5_error_126 (by decide) ?_
                  obtain ⟨x34, ex34, h⟩ := jlet_some h
                  refine lv_iinc (v := x34) (lv' := [(4, .int x34), (2, .int (0 : Int32)), (1, .int y2_14), (7, .int o26), (0, .ref (A 0)), (3, .int y3_14), (5, .int v24), (6, .int o25)]) hx hb dX5_error_244 hl (k := 5) rfl (by rw [ex34]; rfl) (by decide) rfl (fun ls hl => ?_)
                  refine lv_goto (tgt := 14) hx hb dX5_error_247 (by decide) ?_
                  exact ih _ _ _ _ _ _ h hK14 hR14 ls H locs (lv_sub hl [4, 2, 1, 5, 0] rfl) hP hD hS
                · have h := iteT hc h
                  refine lv_iload hx hb dX5_error_109 (lv_at hl 5 rfl) ?_
                  have e9 := hR14 _ (Option.some.inj h).symm
                  subst e9
                  exact W.iret hx hb hr (fun t ht hW => ⟨rfl, by rw [ht]; exact hP, hD, hS.F ht⟩) hS.2.2 dX5_error_111
          have h := eo26
          clear eo26
          refine lv_icmp_ne (tgt := 76) hx hb dX5_error_60 (by decide) (fun hc => ?_) (fun hc => ?_)
          · have h := iteF hc h
            refine lv_iload_n hx hb dX5_error_76 rfl (lv_at hl 3 rfl) ?_
            refine lv_iload_n hx hb dX5_error_77 rfl (lv_at hl 2 rfl) ?_
            refine lv_icmp_ne (tgt := 85) hx hb dX5_error_78 (by decide) (fun hc => ?_) (fun hc => ?_)
            · have h := iteF hc h
              refine lv_iconst (v := (0)) hx hb dX5_error_85 (by decide) ?_
              obtain rfl := Option.some.inj h
              exact hJ86_o26 ls H locs (lv_sub hl [1, 2, 3, 4, 5, 6, 0] rfl) hP hD hS
            · have h := iteT hc h
              refine lv_iconst (v := (1)) hx hb dX5_error_81 (by decide) ?_
              refine lv_goto (tgt := 86) hx hb dX5_error_82 (by decide) ?_
              obtain rfl := Option.some.inj h
              exact hJ86_o26 ls H locs (lv_sub hl [1, 2, 3, 4, 5, 6, 0] rfl) hP hD hS
          · have h := iteT hc h
            refine lv_iload_n hx hb dX5_error_63 rfl (lv_at hl 3 rfl) ?_
            refine lv_iconst (v := (2)) hx hb dX5_error_64 (by decide) ?_
            refine lv_icmp_lt (tgt := 72) hx hb dX5_error_65 (by decide) (fun hc => ?_) (fun hc => ?_)
            · have h := iteT hc h
              refine lv_iconst (v := (0)) hx hb dX5_error_72 (by decide) ?_
              refine lv_goto (tgt := 86) hx hb dX5_error_73 (by decide) ?_
              obtain rfl := Option.some.inj h
              exact hJ86_o26 ls H locs (lv_sub hl [1, 2, 3, 4, 5, 6, 0] rfl) hP hD hS
            · have h := iteF hc h
              refine lv_iconst (v := (1)) hx hb dX5_error_68 (by decide) ?_
              refine lv_goto (tgt := 86) hx hb dX5_error_69 (by decide) ?_
              obtain rfl := Option.some.inj h
              exact hJ86_o26 ls H locs (lv_sub hl [1, 2, 3, 4, 5, 6, 0] rfl) hP hD hS
        have h := eo25
        clear eo25
        refine lv_icmp_ne (tgt := 52) hx hb dX5_error_38 (by decide) (fun hc => ?_) (fun hc => ?_)
        · have h := iteF hc h
          refine lv_iconst (v := (0)) hx hb dX5_error_52 (by decide) ?_
          obtain rfl := Option.some.inj h
          exact hJ53_o25 ls H locs (lv_sub hl [1, 2, 3, 4, 5, 0] rfl) hP hD hS
        · have h := iteT hc h
          refine lv_iload_n hx hb dX5_error_41 rfl (lv_at hl 3 rfl) ?_
          refine lv_iload_n hx hb dX5_error_42 rfl (lv_at hl 2 rfl) ?_
          refine lv_iconst (v := (1)) hx hb dX5_error_43 (by decide) ?_
          refine lv_isub hx hb dX5_error_44 ?_
          refine lv_icmp_ne (tgt := 52) hx hb dX5_error_45 (by decide) (fun hc => ?_) (fun hc => ?_)
          · have h := iteF hc h
            refine lv_iconst (v := (0)) hx hb dX5_error_52 (by decide) ?_
            obtain rfl := Option.some.inj h
            exact hJ53_o25 ls H locs (lv_sub hl [1, 2, 3, 4, 5, 0] rfl) hP hD hS
          · have h := iteT hc h
            refine lv_iconst (v := (1)) hx hb dX5_error_48 (by decide) ?_
            refine lv_goto (tgt := 53) hx hb dX5_error_49 (by decide) ?_
            obtain rfl := Option.some.inj h
            exact hJ53_o25 ls H locs (lv_sub hl [1, 2, 3, 4, 5, 0] rfl) hP hD hS
  refine hL14 _ _ _ _ _ _ _ eo23 (fun o23l eq9 ls H locs hl hP hD hS => ?_) (fun r9 eq9 => ?_) ls H locs (lv_sub hl [4, 3, 2, 1, 0] rfl) hP hD hS
  · subst eq9
    replace h := sumL h
    have hSz : s.heap.size ≤ H.size := hS.1
    refine lv_aload_n hx hb dX5_error_250 rfl (lv_at hl 0 rfl) ?_
    refine va_get hx hb hts inX5 hown hK hP 0 rfl rfl 6 (by decide) (hts _ qw973) (fun _ h9 => h9) rfl dX5_error_251 ?_
    refine lv_iconst (v := (1)) hx hb dX5_error_254 (by decide) ?_
    refine lv_icmp_le (tgt := 272) hx hb dX5_error_255 (by decide) (fun hc => ?_) (fun hc => ?_)
    · have h := iteT hc h
      refine lv_aload_n hx hb dX5_error_272 rfl (lv_at hl 0 rfl) ?_
      refine va_get hx hb hts inX5 hown hK hP 0 rfl rfl 5 (by decide) (hts _ qw972) (fun _ h9 => h9) rfl dX5_error_273 ?_
      obtain rfl := Option.some.inj h
      exact W.iret hx hb hr (fun t ht hW => ⟨rfl, by rw [ht]; exact hP, hD, hS.F ht⟩) hS.2.2 dX5_error_276
    · have h := iteF hc h
      refine lv_iload_n hx hb dX5_error_258 rfl (lv_at hl 2 rfl) ?_
      refine lv_iload_n hx hb dX5_error_259 rfl (lv_at hl 1 rfl) ?_
      refine lv_icmp_ne (tgt := 272) hx hb dX5_error_260 (by decide) (fun hc => ?_) (fun hc => ?_)
      · have h := iteF hc h
        refine lv_aload_n hx hb dX5_error_272 rfl (lv_at hl 0 rfl) ?_
        refine va_get hx hb hts inX5 hown hK hP 0 rfl rfl 5 (by decide) (hts _ qw972) (fun _ h9 => h9) rfl dX5_error_273 ?_
        obtain rfl := Option.some.inj h
        exact W.iret hx hb hr (fun t ht hW => ⟨rfl, by rw [ht]; exact hP, hD, hS.F ht⟩) hS.2.2 dX5_error_276
      · have h := iteT hc h
        refine lv_iload_n hx hb dX5_error_263 rfl (lv_at hl 3 rfl) ?_
        refine lv_iconst (v := (1)) hx hb dX5_error_264 (by decide) ?_
        refine lv_icmp_ne (tgt := 272) hx hb dX5_error_265 (by decide) (fun hc => ?_) (fun hc => ?_)
        · have h := iteF hc h
          refine lv_aload_n hx hb dX5_error_272 rfl (lv_at hl 0 rfl) ?_
          refine va_get hx hb hts inX5 hown hK hP 0 rfl rfl 5 (by decide) (hts _ qw972) (fun _ h9 => h9) rfl dX5_error_273 ?_
          obtain rfl := Option.some.inj h
          exact W.iret hx hb hr (fun t ht hW => ⟨rfl, by rw [ht]; exact hP, hD, hS.F ht⟩) hS.2.2 dX5_error_276
        · have h := iteT hc h
          refine lv_iconst (v := (-1)) hx hb dX5_error_268 (by decide) ?_
          refine lv_goto (tgt := 276) hx hb dX5_error_269 (by decide) ?_
          obtain rfl := Option.some.inj h
          exact W.iret hx hb hr (fun t ht hW => ⟨rfl, by rw [ht]; exact hP, hD, hS.F ht⟩) hS.2.2 dX5_error_276
  · subst eq9
    replace h := sumR h
    exact Option.some.inj h

abbrev rm_X5_firstError : Room := { frames := 1, cells := 0, slots := 0, locals := 29 }
theorem ok_X5_firstError : okY yX5_firstError 0 := ⟨by decide +kernel, by decide +kernel, by decide +kernel⟩
set_option maxHeartbeats 4000000 in
set_option maxRecDepth 100000 in
theorem c_X5_firstError (l : Launch) (z0 : Nat) (D : va_G) (t : Nat → ClassId) (A : Nat → Nat) (μ : MS) (res : Int32 × (Int32) × (Int32)) (sz : Nat) (h : f_X5_firstError μ = some res) : Met l yX5_firstError (ws_ yX5_firstError cX5_firstError 2 (some .int)) rm_X5_firstError (PM z0 D t [.ref (A 0)] (MW A t μ) (ML A) sz) (QM (some (.int res.1)) D (MW A t (m_told' (m_thrown' μ res.2.1) res.2.2)) (ML A) sz) 0 0 (OA (ML A) sz) := by
  refine Met.ofW (cc := cX5_firstError) (maxL := 2) (ret := (some .int)) (by decide) rfl ?_
  intro p e s m args below meth c s₁ Bo hml hv
  obtain ⟨rfl, hC, hsz, hP, hD, hZ⟩ := hv
  have hx := Bo.exec
  have hb := Bo.bytes
  have hr := Bo.returns
  have hts : ∀ w ∈ LA, w.before _ s = true := fun w hw => atoms_spec (ws := ws_ yX5_firstError cX5_firstError 2 (some .int)) Bo.pre w (List.mem_cons_of_mem _ hw)
  have hown : s.vm.findClass RX5 = some m.cls := findClass_of_methodNamed Bo.named
  have hlocks := Bo.notSynchronized
  have hK := hC.1
  subst hsz
  have hl := lv_entry ([.ref (A 0)]) (n := 2) (Nat.le_of_ble_eq_true rfl)
  rw [lg_entry_eq]
  generalize (lg_sl ([.ref (A 0)]) ++ List.replicate (2 - (lg_sl ([.ref (A 0)])).length) Slot.unset).toArray = ls at hl ⊢
  have hl : lv_has ls 2 [(0, .ref (A 0))] := hl
  suffices K9 : ∀ (H : Heap) (locs : List Loc), va_P D vwCl (MW A t μ) H → va_S (OA (ML A) s.heap.size) s.heap H locs → W p l e (headSpec (ws_ yX5_firstError cX5_firstError 2 (some .int)) rm_X5_firstError).room s m ([.ref (A 0)] : List Value).toArray below meth c H locs 0 0 (MQ below (QM (some (.int res.1)) D (MW A t (m_told' (m_thrown' μ res.2.1) res.2.2)) (ML A) s.heap.size) ([.ref (A 0)] : List Value).toArray s 0 0 (OA (ML A) s.heap.size)) (F0 m 0 ls []) from K9 s.heap [] hP va_S.rf
  intro H locs hP hS
  have hSz : s.heap.size ≤ H.size := hS.1
  unfold f_X5_firstError at h
  refine lv_aload_n hx hb dX5_firstError_0 rfl (lv_at hl 0 rfl) ?_
  refine lv_iconst (v := (0)) hx hb dX5_firstError_1 (by decide) ?_
  refine va_put (D := D) (ci := 6) (v := .int (0 : Int32)) (ty := .int) hx hb hts inX5 tyX5 tyX5_ok nmX5 hown hK hP hD hS 0 rfl rfl 3 (by decide) (hts _ qw970) (fun _ h9 => h9) rfl (by decide +kernel) rfl rfl (Nat.le_of_ble_eq_true rfl) dX5_firstError_2 (fun H locs hP hD hS => ?_)
  have hP : va_P D vwCl (MW A t (m_thrown' μ (0 : Int32))) H := hP
  have hD : va_D (OA (ML A) s.heap.size) (MW A t (m_thrown' μ (0 : Int32))) := hD
  have hSz : s.heap.size ≤ H.size := hS.1
  refine lv_aload_n hx hb dX5_firstError_5 rfl (lv_at hl 0 rfl) ?_
  obtain ⟨r1, er1, h⟩ := obind h
  refine call_M (va_runV (As := []) (rest := []) ⟨hx, hb, hml, hown, hts⟩ (c_X5_error l z0 D t A (m_thrown' μ (0 : Int32)) _ H.size er1) (kV hts qw1130 qw1132 qs50 qw9 qw1133 ok_X5_error ⟨Nat.le_of_ble_eq_true rfl, Nat.le_of_ble_eq_true rfl⟩) ⟨PM.blind, va_recv hK hP (ci := 6) (q0 := 0) rfl rfl, fun U hU hW => ⟨rfl, by rw [hU]; exact (hC.at hS hZ).warm hW, by rw [hU], by rw [hU]; exact hP, ⟨hD.1, fun _ _ h9 => Or.inl (in_map (L := (ML A)) rfl h9)⟩, fun q hq => hZ q (OA.ofD hD rfl hSz q hq)⟩⟩ rfl rfl hl.1 rfl (lv_room (Nat.le_of_ble_eq_true rfl)) dX5_firstError_6 ⟨Nat.le_of_ble_eq_true rfl, Nat.le_of_ble_eq_true rfl⟩) hS (OA.ofD hD rfl hSz) (fun H locs hP hD1 hS _ _ => ?_)
  have hP : va_P D vwCl (MW A t (m_told' (m_thrown' μ (0 : Int32)) r1.2)) H := hP
  have hD : va_D (OA (ML A) s.heap.size) (MW A t (m_told' (m_thrown' μ (0 : Int32)) r1.2)) := hD1.weaken (fun _ q _ h9 => OA.ofD hD rfl hSz q.1 h9)
  have hSz : s.heap.size ≤ H.size := hS.1
  refine lv_istore_n (lv' := [(1, .int r1.1), (0, .ref (A 0))]) hx hb dX5_firstError_9 rfl hl (by decide) rfl (fun ls hl => ?_)
  refine lv_iload_n hx hb dX5_firstError_10 rfl (lv_at hl 0 rfl) ?_
  refine lv_if_ge (tgt := 21) hx hb dX5_firstError_11 (by decide) (fun hc => ?_) (fun hc => ?_)
  · have h := iteT hc h
    refine lv_iload_n hx hb dX5_firstError_21 rfl (lv_at hl 0 rfl) ?_
    obtain rfl := Option.some.inj h
    exact W.iret hx hb hr (fun t ht hW => ⟨rfl, by rw [ht]; exact hP, hD, hS.F ht⟩) hS.2.2 dX5_firstError_22
  · have h := iteF hc h
    refine lv_aload_n hx hb dX5_firstError_14 rfl (lv_at hl 1 rfl) ?_
    refine va_get hx hb hts inX5 hown hK hP 0 rfl rfl 5 (by decide) (hts _ qw972) (fun _ h9 => h9) rfl dX5_firstError_15 ?_
    refine lv_goto (tgt := 22) hx hb dX5_firstError_18 (by decide) ?_
    obtain rfl := Option.some.inj h
    exact W.iret hx hb hr (fun t ht hW => ⟨rfl, by rw [ht]; exact hP, hD, hS.F ht⟩) hS.2.2 dX5_firstError_22

abbrev rm_X5_free : Room := { frames := 2, cells := 0, slots := 0, locals := 62 }
theorem ok_X5_free : okY yX5_free 0 := ⟨by decide +kernel, by decide +kernel, by decide +kernel⟩
set_option maxHeartbeats 4000000 in
set_option maxRecDepth 100000 in
theorem c_X5_free (l : Launch) (z0 : Nat) (D : va_G) (t : Nat → ClassId) (A : Nat → Nat) (μ : MS) (res : Int32) (h : f_X5_free μ = some res) : Met l yX5_free (ws_ yX5_free cX5_free 3 (some .int)) rm_X5_free (PR z0 D t [.ref (A 0)] (MW A t μ)) (QR (some (.int res))) 0 0 FN := by
  refine Met.ofW (cc := cX5_free) (maxL := 3) (ret := (some .int)) (by decide) rfl ?_
  intro p e s m args below meth c s₁ Bo hml hv
  obtain ⟨rfl, hC, hP⟩ := hv
  have hx := Bo.exec
  have hb := Bo.bytes
  have hr := Bo.returns
  have hts : ∀ w ∈ LA, w.before _ s = true := fun w hw => atoms_spec (ws := ws_ yX5_free cX5_free 3 (some .int)) Bo.pre w (List.mem_cons_of_mem _ hw)
  have hown : s.vm.findClass RX5 = some m.cls := findClass_of_methodNamed Bo.named
  have hlocks := Bo.notSynchronized
  have hK := hC.1
  have hl := lv_entry ([.ref (A 0)]) (n := 3) (Nat.le_of_ble_eq_true rfl)
  rw [lg_entry_eq]
  generalize (lg_sl ([.ref (A 0)]) ++ List.replicate (3 - (lg_sl ([.ref (A 0)])).length) Slot.unset).toArray = ls at hl ⊢
  have hl : lv_has ls 3 [(0, .ref (A 0))] := hl
  unfold f_X5_free at h
  refine lv_iconst (v := (0)) hx hb dX5_free_0 (by decide) ?_
  refine lv_istore_n (lv' := [(1, .int (0 : Int32)), (0, .ref (A 0))]) hx hb dX5_free_1 rfl hl (by decide) rfl (fun ls hl => ?_)
  refine lv_iconst (v := (0)) hx hb dX5_free_2 (by decide) ?_
  refine lv_istore_n (lv' := [(2, .int (0 : Int32)), (1, .int (0 : Int32)), (0, .ref (A 0))]) hx hb dX5_free_3 rfl hl (by decide) rfl (fun ls hl => ?_)
  obtain ⟨o13, eo13, h⟩ := obind h
  have hL4 : ∀ (n : Nat) (y1_4 : Int32) (y2_4 : Int32) (o13 : Int32), f_X5_free_L4 μ n y1_4 y2_4 = some o13 → (∀ (ls : Array Slot), lv_has ls 3 [(1, .int o13)] → W p l e (headSpec (ws_ yX5_free cX5_free 3 (some .int)) rm_X5_free).room s m ([.ref (A 0)] : List Value).toArray below meth c s.heap [] 0 0 (MQ below (QR (some (.int res))) ([.ref (A 0)] : List Value).toArray s 0 0 FN) (F0 m 48 ls [])) → ∀ (ls : Array Slot), lv_has ls 3 [(0, .ref (A 0)), (1, .int y1_4), (2, .int y2_4)] → W p l e (headSpec (ws_ yX5_free cX5_free 3 (some .int)) rm_X5_free).room s m ([.ref (A 0)] : List Value).toArray below meth c s.heap [] 0 0 (MQ below (QR (some (.int res))) ([.ref (A 0)] : List Value).toArray s 0 0 FN) (F0 m 4 ls []) := by
    intro n
    induction n with
    | zero => intro y1_4 y2_4 o13 h; exact absurd h (fun z => by cases z)
    | succ n ih =>
      intro y1_4 y2_4 o13 h hK4 ls hl
      replace h : f_X5_free_L4_b μ (f_X5_free_L4 μ n) y1_4 y2_4 = some o13 := h
      unfold f_X5_free_L4_b at h
      refine lv_iload_n hx hb dX5_free_4 rfl (lv_at hl 2 rfl) ?_
      refine lv_bipush (v := (64)) hx hb dX5_free_5 (by decide) ?_
      refine lv_icmp_ge (tgt := 48) hx hb dX5_free_7 (by decide) (fun hc => ?_) (fun hc => ?_)
      · have h := iteT hc h
        obtain rfl := Option.some.inj h
        exact hK4 ls (lv_sub hl [1] rfl)
      · have h := iteF hc h
        refine lv_iload_n hx hb dX5_free_10 rfl (lv_at hl 1 rfl) ?_
        refine lv_aload_n hx hb dX5_free_11 rfl (lv_at hl 0 rfl) ?_
        refine lv_iload_n hx hb dX5_free_12 rfl (lv_at hl 2 rfl) ?_
        refine lv_bipush (v := (8)) hx hb dX5_free_13 (by decide) ?_
        refine lv_irem hx hb dX5_free_15 (by decide) ?_
        refine lv_iload_n hx hb dX5_free_16 rfl (lv_at hl 2 rfl) ?_
        refine lv_bipush (v := (8)) hx hb dX5_free_17 (by decide) ?_
        refine lv_idiv hx hb dX5_free_19 (by decide) ?_
        obtain ⟨r14, er14, h⟩ := obind h
        refine call_R (va_runV (As := [.int (y2_4 - y2_4 / (8 : Int32) * (8 : Int32)), .int (y2_4 / (8 : Int32))]) (rest := [.int y1_4]) ⟨hx, hb, hml, hown, hts⟩ (c_X5_isIn l z0 D t A μ (y2_4 - y2_4 / (8 : Int32) * (8 : Int32)) (y2_4 / (8 : Int32)) _ er14) (kV hts qw1027 qw1029 qs34 qw9 qw1030 ok_X5_isIn ⟨Nat.le_of_ble_eq_true rfl, Nat.le_of_ble_eq_true rfl⟩) ⟨PR.blind, va_recv hK hP (ci := 6) (q0 := 0) rfl rfl, fun U hU hW => ⟨rfl, by rw [hU]; exact hC.warm hW, by rw [hU]; exact hP⟩⟩ rfl rfl hl.1 rfl (lv_room (Nat.le_of_ble_eq_true rfl)) dX5_free_20 ⟨Nat.le_of_ble_eq_true rfl, Nat.le_of_ble_eq_true rfl⟩) ?_
        obtain ⟨o16, eo16, h⟩ := obind h
        have hJ40_o16 : ∀ ls : Array Slot, lv_has ls 3 [(0, .ref (A 0)), (2, .int y2_4)] → W p l e (headSpec (ws_ yX5_free cX5_free 3 (some .int)) rm_X5_free).room s m ([.ref (A 0)] : List Value).toArray below meth c s.heap [] 0 0 (MQ below (QR (some (.int res))) ([.ref (A 0)] : List Value).toArray s 0 0 FN) (F0 m 40 ls [.int o16, .int y1_4]) := by
          intro ls hl
          refine lv_iadd hx hb dX5_free_40 ?_
          obtain ⟨x18, ex18, h⟩ := jlet_some h
          refine topI ex18 ?_
          refine lv_istore_n (lv' := [(1, .int x18), (0, .ref (A 0)), (2, .int y2_4)]) hx hb dX5_free_41 rfl hl (by decide) rfl (fun ls hl => ?_)
          obtain ⟨x19, ex19, h⟩ := jlet_some h
          refine lv_iinc (v := x19) (lv' := [(2, .int x19), (1, .int x18), (0, .ref (A 0))]) hx hb dX5_free_42 hl (k := 2) rfl (by rw [ex19]; rfl) (by decide) rfl (fun ls hl => ?_)
          refine lv_goto (tgt := 4) hx hb dX5_free_45 (by decide) ?_
          exact ih _ _ _ h hK4 ls (lv_sub hl [2, 1, 0] rfl)
        have h := eo16
        clear eo16
        refine lv_if_eq (tgt := 39) hx hb dX5_free_23 (by decide) (fun hc => ?_) (fun hc => ?_)
        · have h := iteT hc h
          refine lv_iconst (v := (0)) hx hb dX5_free_39 (by decide) ?_
          obtain rfl := Option.some.inj h
          exact hJ40_o16 ls (lv_sub hl [0, 2] rfl)
        · have h := iteF hc h
          refine lv_aload_n hx hb dX5_free_26 rfl (lv_at hl 0 rfl) ?_
          refine lv_iconst (v := (0)) hx hb dX5_free_27 (by decide) ?_
          refine lv_iload_n hx hb dX5_free_28 rfl (lv_at hl 2 rfl) ?_
          obtain ⟨r17, er17, h⟩ := obind h
          refine call_R (va_runV (As := [.int (0 : Int32), .int y2_4]) (rest := [.int y1_4]) ⟨hx, hb, hml, hown, hts⟩ (c_X5_isFree l z0 D t A μ (0 : Int32) y2_4 _ er17) (kV hts qw1090 qw1092 qs44 qw9 qw1093 ok_X5_isFree ⟨Nat.le_of_ble_eq_true rfl, Nat.le_of_ble_eq_true rfl⟩) ⟨PR.blind, va_recv hK hP (ci := 6) (q0 := 0) rfl rfl, fun U hU hW => ⟨rfl, by rw [hU]; exact hC.warm hW, by rw [hU]; exact hP⟩⟩ rfl rfl hl.1 rfl (lv_room (Nat.le_of_ble_eq_true rfl)) dX5_free_29 ⟨Nat.le_of_ble_eq_true rfl, Nat.le_of_ble_eq_true rfl⟩) ?_
          refine lv_if_eq (tgt := 39) hx hb dX5_free_32 (by decide) (fun hc => ?_) (fun hc => ?_)
          · have h := iteT hc h
            refine lv_iconst (v := (0)) hx hb dX5_free_39 (by decide) ?_
            obtain rfl := Option.some.inj h
            exact hJ40_o16 ls (lv_sub hl [0, 2] rfl)
          · have h := iteF hc h
            refine lv_iconst (v := (1)) hx hb dX5_free_35 (by decide) ?_
            refine lv_goto (tgt := 40) hx hb dX5_free_36 (by decide) ?_
            obtain rfl := Option.some.inj h
            exact hJ40_o16 ls (lv_sub hl [0, 2] rfl)
  refine hL4 _ _ _ _ eo13 (fun ls hl => ?_) ls (lv_sub hl [2, 1, 0] rfl)
  refine lv_iload_n hx hb dX5_free_48 rfl (lv_at hl 0 rfl) ?_
  obtain rfl := Option.some.inj h
  exact W.iret hx hb hr (fun t ht hW => ⟨rfl, ht⟩) (fun q hq => absurd hq List.not_mem_nil) dX5_free_49

abbrev rm_X5_load : Room := { frames := 3, cells := 0, slots := 0, locals := 84 }
theorem ok_X5_load : okY yX5_load 0 := ⟨by decide +kernel, by decide +kernel, by decide +kernel⟩
set_option maxHeartbeats 4000000 in
set_option maxRecDepth 100000 in
theorem c_X5_load (l : Launch) (z0 : Nat) (D : va_G) (t : Nat → ClassId) (A : Nat → Nat) (μ : MS) (res : Int32 × (Nat → Int32) × (Int32) × (Int32) × (Int32) × (Int32)) (sz : Nat) (h : f_X5_load μ = some res) : Met l yX5_load (ws_ yX5_load cX5_load 4 (some .int)) rm_X5_load (PM z0 D t [.ref (A 0)] (MW A t μ) (ML A) sz) (QM (some (.int res.1)) D (MW A t (m_told' (m_typed' (m_thrown' (m_states' (m_s' μ res.2.1) res.2.2.1) res.2.2.2.1) res.2.2.2.2.1) res.2.2.2.2.2)) (ML A) sz) 0 0 (OA (ML A) sz) := by
  refine Met.ofW (cc := cX5_load) (maxL := 4) (ret := (some .int)) (by decide) rfl ?_
  intro p e s m args below meth c s₁ Bo hml hv
  obtain ⟨rfl, hC, hsz, hP, hD, hZ⟩ := hv
  have hx := Bo.exec
  have hb := Bo.bytes
  have hr := Bo.returns
  have hts : ∀ w ∈ LA, w.before _ s = true := fun w hw => atoms_spec (ws := ws_ yX5_load cX5_load 4 (some .int)) Bo.pre w (List.mem_cons_of_mem _ hw)
  have hown : s.vm.findClass RX5 = some m.cls := findClass_of_methodNamed Bo.named
  have hlocks := Bo.notSynchronized
  have hK := hC.1
  subst hsz
  have hl := lv_entry ([.ref (A 0)]) (n := 4) (Nat.le_of_ble_eq_true rfl)
  rw [lg_entry_eq]
  generalize (lg_sl ([.ref (A 0)]) ++ List.replicate (4 - (lg_sl ([.ref (A 0)])).length) Slot.unset).toArray = ls at hl ⊢
  have hl : lv_has ls 4 [(0, .ref (A 0))] := hl
  suffices K9 : ∀ (H : Heap) (locs : List Loc), va_P D vwCl (MW A t μ) H → va_S (OA (ML A) s.heap.size) s.heap H locs → W p l e (headSpec (ws_ yX5_load cX5_load 4 (some .int)) rm_X5_load).room s m ([.ref (A 0)] : List Value).toArray below meth c H locs 0 0 (MQ below (QM (some (.int res.1)) D (MW A t (m_told' (m_typed' (m_thrown' (m_states' (m_s' μ res.2.1) res.2.2.1) res.2.2.2.1) res.2.2.2.2.1) res.2.2.2.2.2)) (ML A) s.heap.size) ([.ref (A 0)] : List Value).toArray s 0 0 (OA (ML A) s.heap.size)) (F0 m 0 ls []) from K9 s.heap [] hP va_S.rf
  intro H locs hP hS
  have hSz : s.heap.size ≤ H.size := hS.1
  unfold f_X5_load at h
  refine lv_aload_n hx hb dX5_load_0 rfl (lv_at hl 0 rfl) ?_
  refine lv_aload_n hx hb dX5_load_1 rfl (lv_at hl 0 rfl) ?_
  obtain ⟨r1, er1, h⟩ := obind h
  refine call_M (va_runV (As := []) (rest := [.ref (A 0)]) ⟨hx, hb, hml, hown, hts⟩ (c_X5_error l z0 D t A μ _ H.size er1) (kV hts qw1130 qw1132 qs50 qw9 qw1133 ok_X5_error ⟨Nat.le_of_ble_eq_true rfl, Nat.le_of_ble_eq_true rfl⟩) ⟨PM.blind, va_recv hK hP (ci := 6) (q0 := 0) rfl rfl, fun U hU hW => ⟨rfl, by rw [hU]; exact (hC.at hS hZ).warm hW, by rw [hU], by rw [hU]; exact hP, ⟨hD.1, fun _ _ h9 => Or.inl (in_map (L := (ML A)) rfl h9)⟩, fun q hq => hZ q (OA.ofD hD rfl hSz q hq)⟩⟩ rfl rfl hl.1 rfl (lv_room (Nat.le_of_ble_eq_true rfl)) dX5_load_2 ⟨Nat.le_of_ble_eq_true rfl, Nat.le_of_ble_eq_true rfl⟩) hS (OA.ofD hD rfl hSz) (fun H locs hP hD1 hS _ _ => ?_)
  have hP : va_P D vwCl (MW A t (m_told' μ r1.2)) H := hP
  have hD : va_D (OA (ML A) s.heap.size) (MW A t (m_told' μ r1.2)) := hD1.weaken (fun _ q _ h9 => OA.ofD hD rfl hSz q.1 h9)
  have hSz : s.heap.size ≤ H.size := hS.1
  obtain ⟨o2, eo2, h⟩ := obind h
  have hJ13_o2 : ∀ (ls : Array Slot) (H : Heap) (locs : List Loc), lv_has ls 4 [(0, .ref (A 0))] → va_P D vwCl (MW A t (m_told' μ r1.2)) H → va_D (OA (ML A) s.heap.size) (MW A t (m_told' μ r1.2)) → va_S (OA (ML A) s.heap.size) s.heap H locs → W p l e (headSpec (ws_ yX5_load cX5_load 4 (some .int)) rm_X5_load).room s m ([.ref (A 0)] : List Value).toArray below meth c H locs 0 0 (MQ below (QM (some (.int res.1)) D (MW A t (m_told' (m_typed' (m_thrown' (m_states' (m_s' μ res.2.1) res.2.2.1) res.2.2.2.1) res.2.2.2.2.1) res.2.2.2.2.2)) (ML A) s.heap.size) ([.ref (A 0)] : List Value).toArray s 0 0 (OA (ML A) s.heap.size)) (F0 m 13 ls [.int o2, .ref (A 0)]) := by
    intro ls H locs hl hP hD hS
    have hSz : s.heap.size ≤ H.size := hS.1
    refine lv_iconst (v := (1)) hx hb dX5_load_13 (by decide) ?_
    obtain ⟨r3, er3, h⟩ := obind h
    refine call_M (va_runV (As := [.int o2, .int (1 : Int32)]) (rest := []) ⟨hx, hb, hml, hown, hts⟩ (c_X5_goes l z0 D t A (m_told' μ r1.2) o2 (1 : Int32) _ H.size er3) (kV hts qw1011 qw1013 qs31 qw9 qw1014 ok_X5_goes ⟨Nat.le_of_ble_eq_true rfl, Nat.le_of_ble_eq_true rfl⟩) ⟨PM.blind, va_recv hK hP (ci := 6) (q0 := 0) rfl rfl, fun U hU hW => ⟨rfl, by rw [hU]; exact (hC.at hS hZ).warm hW, by rw [hU], by rw [hU]; exact hP, ⟨hD.1, fun _ _ h9 => Or.inl (in_map (L := (ML A)) rfl h9)⟩, fun q hq => hZ q (OA.ofD hD rfl hSz q hq)⟩⟩ rfl rfl hl.1 rfl (lv_room (Nat.le_of_ble_eq_true rfl)) dX5_load_14 ⟨Nat.le_of_ble_eq_true rfl, Nat.le_of_ble_eq_true rfl⟩) hS (OA.ofD hD rfl hSz) (fun H locs hP hD1 hS _ _ => ?_)
    have hP : va_P D vwCl (MW A t (m_told' (m_thrown' μ r3.2) r1.2)) H := hP
    have hD : va_D (OA (ML A) s.heap.size) (MW A t (m_told' (m_thrown' μ r3.2) r1.2)) := hD1.weaken (fun _ q _ h9 => OA.ofD hD rfl hSz q.1 h9)
    have hSz : s.heap.size ≤ H.size := hS.1
    refine lv_if_ne (tgt := 22) hx hb dX5_load_17 (by decide) (fun hc => ?_) (fun hc => ?_)
    · have h := iteF hc h
      refine lv_aload_n hx hb dX5_load_22 rfl (lv_at hl 0 rfl) ?_
      obtain ⟨r4, er4, h⟩ := obind h
      refine call_M (va_runV (As := []) (rest := []) ⟨hx, hb, hml, hown, hts⟩ (c_X5_saves l z0 D t A (m_told' (m_thrown' μ r3.2) r1.2) _ H.size er4) (kV hts qw1015 qw1017 qs32 qw9 qw1018 ok_X5_saves ⟨Nat.le_of_ble_eq_true rfl, Nat.le_of_ble_eq_true rfl⟩) ⟨PM.blind, va_recv hK hP (ci := 6) (q0 := 0) rfl rfl, fun U hU hW => ⟨rfl, by rw [hU]; exact (hC.at hS hZ).warm hW, by rw [hU], by rw [hU]; exact hP, ⟨hD.1, fun _ _ h9 => Or.inl (in_map (L := (ML A)) rfl h9)⟩, fun q hq => hZ q (OA.ofD hD rfl hSz q hq)⟩⟩ rfl rfl hl.1 rfl (lv_room (Nat.le_of_ble_eq_true rfl)) dX5_load_23 ⟨Nat.le_of_ble_eq_true rfl, Nat.le_of_ble_eq_true rfl⟩) hS (OA.ofD hD rfl hSz) (fun H locs hP hD1 hS _ _ => ?_)
      have hP : va_P D vwCl (MW A t (m_told' (m_thrown' (m_states' (m_s' μ r4.1) r4.2) r3.2) r1.2)) H := hP
      have hD : va_D (OA (ML A) s.heap.size) (MW A t (m_told' (m_thrown' (m_states' (m_s' μ r4.1) r4.2) r3.2) r1.2)) := hD1.weaken (fun _ q _ h9 => OA.ofD hD rfl hSz q.1 h9)
      have hSz : s.heap.size ≤ H.size := hS.1
      refine lv_aload_n hx hb dX5_load_26 rfl (lv_at hl 0 rfl) ?_
      refine lv_iconst (v := (0)) hx hb dX5_load_27 (by decide) ?_
      refine lv_aload_n hx hb dX5_load_28 rfl (lv_at hl 0 rfl) ?_
      refine va_get hx hb hts inX5 hown hK hP 0 rfl rfl 5 (by decide) (hts _ qw972) (fun _ h9 => h9) rfl dX5_load_29 ?_
      refine lv_aload_n hx hb dX5_load_32 rfl (lv_at hl 0 rfl) ?_
      refine va_get hx hb hts inX5 hown hK hP 0 rfl rfl 6 (by decide) (hts _ qw973) (fun _ h9 => h9) rfl dX5_load_33 ?_
      have h5 : ¬ r1.2 = 0 := fun z => absurd (iteT z h) (fun z => by cases z)
      have h := iteF h5 h
      refine lv_idiv hx hb dX5_load_36 h5 ?_
      refine lv_aload_n hx hb dX5_load_37 rfl (lv_at hl 0 rfl) ?_
      refine va_get hx hb hts inX5 hown hK hP 0 rfl rfl 6 (by decide) (hts _ qw973) (fun _ h9 => h9) rfl dX5_load_38 ?_
      obtain ⟨r6, er6, h⟩ := obind h
      refine call_M (va_runV (As := [.int (0 : Int32), .int ((m_typed μ) / r1.2), .int r1.2]) (rest := []) ⟨hx, hb, hml, hown, hts⟩ (c_X5_laysOut l z0 D t A (m_told' (m_thrown' (m_states' (m_s' μ r4.1) r4.2) r3.2) r1.2) (0 : Int32) ((m_typed μ) / r1.2) r1.2 _ H.size er6) (kV hts qw963 qw965 qs30 qw9 qw966 ok_X5_laysOut ⟨Nat.le_of_ble_eq_true rfl, Nat.le_of_ble_eq_true rfl⟩) ⟨PM.blind, va_recv hK hP (ci := 6) (q0 := 0) rfl rfl, fun U hU hW => ⟨rfl, by rw [hU]; exact (hC.at hS hZ).warm hW, by rw [hU], by rw [hU]; exact hP, ⟨hD.1, fun _ _ h9 => Or.inl (in_map (L := (ML A)) rfl h9)⟩, fun q hq => hZ q (OA.ofD hD rfl hSz q hq)⟩⟩ rfl rfl hl.1 rfl (lv_room (Nat.le_of_ble_eq_true rfl)) dX5_load_41 ⟨Nat.le_of_ble_eq_true rfl, Nat.le_of_ble_eq_true rfl⟩) hS (OA.ofD hD rfl hSz) (fun H locs hP hD1 hS _ _ => ?_)
      have hP : va_P D vwCl (MW A t (m_told' (m_thrown' (m_states' (m_s' μ r6) r4.2) r3.2) r1.2)) H := hP
      have hD : va_D (OA (ML A) s.heap.size) (MW A t (m_told' (m_thrown' (m_states' (m_s' μ r6) r4.2) r3.2) r1.2)) := hD1.weaken (fun _ q _ h9 => OA.ofD hD rfl hSz q.1 h9)
      have hSz : s.heap.size ≤ H.size := hS.1
      refine lv_aload_n hx hb dX5_load_44 rfl (lv_at hl 0 rfl) ?_
      refine va_get hx hb hts inX5 hown hK hP 0 rfl rfl 0 (by decide) (hts _ qw967) (fun _ h9 => h9) rfl dX5_load_45 ?_
      refine lv_iconst (v := (0)) hx hb dX5_load_48 (by decide) ?_
      obtain ⟨v7, ev7, h⟩ := obind h
      refine k_iald hx hb hK hP 1 rfl ev7 dX5_load_49 ?_
      refine lv_istore_n (lv' := [(1, .int v7), (0, .ref (A 0))]) hx hb dX5_load_50 rfl hl (by decide) rfl (fun ls hl => ?_)
      refine lv_iconst (v := (0)) hx hb dX5_load_51 (by decide) ?_
      refine lv_istore_n (lv' := [(2, .int (0 : Int32)), (1, .int v7), (0, .ref (A 0))]) hx hb dX5_load_52 rfl hl (by decide) rfl (fun ls hl => ?_)
      obtain ⟨o32, eo32, h⟩ := obind h
      have hL53 : ∀ (n : Nat) (y2_53 : Int32) (s_53 : Nat → Int32) (o32 : (Nat → Int32)), f_X5_load_L53 μ v7 n y2_53 s_53 = some o32 → (∀ (ls : Array Slot) (H : Heap) (locs : List Loc), lv_has ls 4 [(0, .ref (A 0))] → va_P D vwCl (MW A t (m_told' (m_thrown' (m_states' (m_s' μ o32) r4.2) r3.2) r1.2)) H → va_D (OA (ML A) s.heap.size) (MW A t (m_told' (m_thrown' (m_states' (m_s' μ o32) r4.2) r3.2) r1.2)) → va_S (OA (ML A) s.heap.size) s.heap H locs → W p l e (headSpec (ws_ yX5_load cX5_load 4 (some .int)) rm_X5_load).room s m ([.ref (A 0)] : List Value).toArray below meth c H locs 0 0 (MQ below (QM (some (.int res.1)) D (MW A t (m_told' (m_typed' (m_thrown' (m_states' (m_s' μ res.2.1) res.2.2.1) res.2.2.2.1) res.2.2.2.2.1) res.2.2.2.2.2)) (ML A) s.heap.size) ([.ref (A 0)] : List Value).toArray s 0 0 (OA (ML A) s.heap.size)) (F0 m 123 ls [])) → ∀ (ls : Array Slot) (H : Heap) (locs : List Loc), lv_has ls 4 [(0, .ref (A 0)), (1, .int v7), (2, .int y2_53)] → va_P D vwCl (MW A t (m_told' (m_thrown' (m_states' (m_s' μ s_53) r4.2) r3.2) r1.2)) H → va_D (OA (ML A) s.heap.size) (MW A t (m_told' (m_thrown' (m_states' (m_s' μ s_53) r4.2) r3.2) r1.2)) → va_S (OA (ML A) s.heap.size) s.heap H locs → W p l e (headSpec (ws_ yX5_load cX5_load 4 (some .int)) rm_X5_load).room s m ([.ref (A 0)] : List Value).toArray below meth c H locs 0 0 (MQ below (QM (some (.int res.1)) D (MW A t (m_told' (m_typed' (m_thrown' (m_states' (m_s' μ res.2.1) res.2.2.1) res.2.2.2.1) res.2.2.2.2.1) res.2.2.2.2.2)) (ML A) s.heap.size) ([.ref (A 0)] : List Value).toArray s 0 0 (OA (ML A) s.heap.size)) (F0 m 53 ls []) := by
        intro n
        induction n with
        | zero => intro y2_53 s_53 o32 h; exact absurd h (fun z => by cases z)
        | succ n ih =>
          intro y2_53 s_53 o32 h hK53 ls H locs hl hP hD hS
          replace h : f_X5_load_L53_b μ v7 (f_X5_load_L53 μ v7 n) y2_53 s_53 = some o32 := h
          unfold f_X5_load_L53_b at h
          have hSz : s.heap.size ≤ H.size := hS.1
          refine lv_iload_n hx hb dX5_load_53 rfl (lv_at hl 2 rfl) ?_
          refine lv_aload_n hx hb dX5_load_54 rfl (lv_at hl 0 rfl) ?_
          refine va_get hx hb hts inX5 hown hK hP 0 rfl rfl 5 (by decide) (hts _ qw972) (fun _ h9 => h9) rfl dX5_load_55 ?_
          refine lv_icmp_ge (tgt := 123) hx hb dX5_load_58 (by decide) (fun hc => ?_) (fun hc => ?_)
          · have h := iteT hc h
            obtain rfl := Option.some.inj h
            exact hK53 ls H locs (lv_sub hl [0] rfl) hP hD hS
          · have h := iteF hc h
            refine lv_bipush (v := (8)) hx hb dX5_load_61 (by decide) ?_
            refine lv_iload_n hx hb dX5_load_63 rfl (lv_at hl 2 rfl) ?_
            refine lv_iload_n hx hb dX5_load_64 rfl (lv_at hl 1 rfl) ?_
            refine lv_iconst (v := (1)) hx hb dX5_load_65 (by decide) ?_
            refine lv_iadd hx hb dX5_load_66 ?_
            have h33 : ¬ (v7 + (1 : Int32)) = 0 := fun z => absurd (iteT z h) (fun z => by cases z)
            have h := iteF h33 h
            refine lv_idiv hx hb dX5_load_67 h33 ?_
            refine lv_imul hx hb dX5_load_68 ?_
            refine lv_iload_n hx hb dX5_load_69 rfl (lv_at hl 2 rfl) ?_
            refine lv_iload_n hx hb dX5_load_70 rfl (lv_at hl 1 rfl) ?_
            refine lv_iconst (v := (1)) hx hb dX5_load_71 (by decide) ?_
            refine lv_iadd hx hb dX5_load_72 ?_
            have h34 : ¬ (v7 + (1 : Int32)) = 0 := fun z => absurd (iteT z h) (fun z => by cases z)
            have h := iteF h34 h
            refine lv_irem hx hb dX5_load_73 h34 ?_
            refine lv_iadd hx hb dX5_load_74 ?_
            obtain ⟨x35, ex35, h⟩ := jlet_some h
            refine topI ex35 ?_
            refine lv_istore_n (lv' := [(3, .int x35), (0, .ref (A 0)), (1, .int v7), (2, .int y2_53)]) hx hb dX5_load_75 rfl hl (by decide) rfl (fun ls hl => ?_)
            refine lv_aload_n hx hb dX5_load_76 rfl (lv_at hl 1 rfl) ?_
            refine va_get hx hb hts inX5 hown hK hP 0 rfl rfl 4 (by decide) (hts _ qw971) (fun _ h9 => h9) rfl dX5_load_77 ?_
            refine lv_iload_n hx hb dX5_load_80 rfl (lv_at hl 3 rfl) ?_
            obtain ⟨v36, ev36, h⟩ := obind h
            refine k_cald hx hb hK hP 3 rfl ev36 dX5_load_81 ?_
            refine lv_bipush (v := (35)) hx hb dX5_load_82 (by decide) ?_
            obtain ⟨o40, eo40, h⟩ := obind h
            have hJ117_o40 : ∀ (ls : Array Slot) (H : Heap) (locs : List Loc), lv_has ls 4 [(0, .ref (A 0)), (1, .int v7), (2, .int y2_53)] → va_P D vwCl (MW A t (m_told' (m_thrown' (m_states' (m_s' μ o40) r4.2) r3.2) r1.2)) H → va_D (OA (ML A) s.heap.size) (MW A t (m_told' (m_thrown' (m_states' (m_s' μ o40) r4.2) r3.2) r1.2)) → va_S (OA (ML A) s.heap.size) s.heap H locs → W p l e (headSpec (ws_ yX5_load cX5_load 4 (some .int)) rm_X5_load).room s m ([.ref (A 0)] : List Value).toArray below meth c H locs 0 0 (MQ below (QM (some (.int res.1)) D (MW A t (m_told' (m_typed' (m_thrown' (m_states' (m_s' μ res.2.1) res.2.2.1) res.2.2.2.1) res.2.2.2.2.1) res.2.2.2.2.2)) (ML A) s.heap.size) ([.ref (A 0)] : List Value).toArray s 0 0 (OA (ML A) s.heap.size)) (F0 m 117 ls []) := by
              intro ls H locs hl hP hD hS
              have hSz : s.heap.size ≤ H.size := hS.1
              obtain ⟨x44, ex44, h⟩ := jlet_some h
              refine lv_iinc (v := x44) (lv' := [(2, .int x44), (0, .ref (A 0)), (1, .int v7)]) hx hb dX5_load_117 hl (k := 2) rfl (by rw [ex44]; rfl) (by decide) rfl (fun ls hl => ?_)
              refine lv_goto (tgt := 53) hx hb dX5_load_120 (by decide) ?_
              exact ih _ _ _ h hK53 ls H locs (lv_sub hl [1, 2, 0] rfl) hP hD hS
            have h := eo40
            clear eo40
            refine lv_icmp_ne (tgt := 99) hx hb dX5_load_84 (by decide) (fun hc => ?_) (fun hc => ?_)
            · have h := iteF hc h
              refine lv_aload_n hx hb dX5_load_99 rfl (lv_at hl 1 rfl) ?_
              refine va_get hx hb hts inX5 hown hK hP 0 rfl rfl 4 (by decide) (hts _ qw971) (fun _ h9 => h9) rfl dX5_load_100 ?_
              refine lv_iload_n hx hb dX5_load_103 rfl (lv_at hl 3 rfl) ?_
              obtain ⟨v41, ev41, h⟩ := obind h
              refine k_cald hx hb hK hP 3 rfl ev41 dX5_load_104 ?_
              refine lv_bipush (v := (111)) hx hb dX5_load_105 (by decide) ?_
              refine lv_icmp_ne (tgt := 117) hx hb dX5_load_107 (by decide) (fun hc => ?_) (fun hc => ?_)
              · have h := iteF hc h
                obtain rfl := Option.some.inj h
                exact hJ117_o40 ls H locs (lv_sub hl [1, 2, 3] rfl) hP hD hS
              · have h := iteT hc h
                refine lv_aload_n hx hb dX5_load_110 rfl (lv_at hl 1 rfl) ?_
                refine va_get hx hb hts inX5 hown hK hP 0 rfl rfl 0 (by decide) (hts _ qw967) (fun _ h9 => h9) rfl dX5_load_111 ?_
                refine lv_iconst (v := (2)) hx hb dX5_load_114 (by decide) ?_
                refine lv_iload_n hx hb dX5_load_115 rfl (lv_at hl 0 rfl) ?_
                obtain ⟨f42, ef42, h⟩ := obind h
                refine k_iast (ws' := (MW A t (m_told' (m_thrown' (m_states' (m_s' μ f42) r4.2) r3.2) r1.2))) hx hb hK hP hD hS 1 rfl ef42 rfl dX5_load_116 (fun H locs hP hD hS => ?_)
                have hSz : s.heap.size ≤ H.size := hS.1
                obtain rfl := Option.some.inj h
                exact hJ117_o40 ls H locs (lv_sub hl [1, 2, 3] rfl) hP hD hS
            · have h := iteT hc h
              refine lv_aload_n hx hb dX5_load_87 rfl (lv_at hl 1 rfl) ?_
              refine va_get hx hb hts inX5 hown hK hP 0 rfl rfl 0 (by decide) (hts _ qw967) (fun _ h9 => h9) rfl dX5_load_88 ?_
              refine lv_iconst (v := (3)) hx hb dX5_load_91 (by decide) ?_
              refine lv_iload_n hx hb dX5_load_92 rfl (lv_at hl 0 rfl) ?_
              refine lv_iadd hx hb dX5_load_93 ?_
              refine lv_iconst (v := (1)) hx hb dX5_load_94 (by decide) ?_
              obtain ⟨f43, ef43, h⟩ := obind h
              refine k_iast (ws' := (MW A t (m_told' (m_thrown' (m_states' (m_s' μ f43) r4.2) r3.2) r1.2))) hx hb hK hP hD hS 1 rfl ef43 rfl dX5_load_95 (fun H locs hP hD hS => ?_)
              have hSz : s.heap.size ≤ H.size := hS.1
              refine lv_goto (tgt := 117) hx hb dX5_load_96 (by decide) ?_
              obtain rfl := Option.some.inj h
              exact hJ117_o40 ls H locs (lv_sub hl [1, 2, 3] rfl) hP hD hS
      refine hL53 _ _ _ _ eo32 (fun ls H locs hl hP hD hS => ?_) ls H locs (lv_sub hl [2, 1, 0] rfl) hP hD hS
      have hSz : s.heap.size ≤ H.size := hS.1
      refine lv_aload_n hx hb dX5_load_123 rfl (lv_at hl 0 rfl) ?_
      refine lv_iconst (v := (0)) hx hb dX5_load_124 (by decide) ?_
      refine va_put (D := D) (ci := 6) (v := .int (0 : Int32)) (ty := .int) hx hb hts inX5 tyX5 tyX5_ok nmX5 hown hK hP hD hS 0 rfl rfl 5 (by decide) (hts _ qw972) (fun _ h9 => h9) rfl (by decide +kernel) rfl rfl (Nat.le_of_ble_eq_true rfl) dX5_load_125 (fun H locs hP hD hS => ?_)
      have hP : va_P D vwCl (MW A t (m_told' (m_typed' (m_thrown' (m_states' (m_s' μ o32) r4.2) r3.2) (0 : Int32)) r1.2)) H := hP
      have hD : va_D (OA (ML A) s.heap.size) (MW A t (m_told' (m_typed' (m_thrown' (m_states' (m_s' μ o32) r4.2) r3.2) (0 : Int32)) r1.2)) := hD
      have hSz : s.heap.size ≤ H.size := hS.1
      refine lv_aload_n hx hb dX5_load_128 rfl (lv_at hl 0 rfl) ?_
      obtain ⟨r45, er45, h⟩ := obind h
      refine call_R (va_runV (As := []) (rest := []) ⟨hx, hb, hml, hown, hts⟩ (c_X5_free l z0 D t A (m_told' (m_typed' (m_thrown' (m_states' (m_s' μ o32) r4.2) r3.2) (0 : Int32)) r1.2) _ er45) (kV hts qw1138 qw1140 qs51 qw9 qw1141 ok_X5_free ⟨Nat.le_of_ble_eq_true rfl, Nat.le_of_ble_eq_true rfl⟩) ⟨PR.blind, va_recv hK hP (ci := 6) (q0 := 0) rfl rfl, fun U hU hW => ⟨rfl, by rw [hU]; exact (hC.at hS hZ).warm hW, by rw [hU]; exact hP⟩⟩ rfl rfl hl.1 rfl (lv_room (Nat.le_of_ble_eq_true rfl)) dX5_load_129 ⟨Nat.le_of_ble_eq_true rfl, Nat.le_of_ble_eq_true rfl⟩) ?_
      obtain rfl := Option.some.inj h
      exact W.iret hx hb hr (fun t ht hW => ⟨rfl, by rw [ht]; exact hP, hD, hS.F ht⟩) hS.2.2 dX5_load_132
    · have h := iteT hc h
      refine lv_iconst (v := (0)) hx hb dX5_load_20 (by decide) ?_
      obtain rfl := Option.some.inj h
      exact W.iret hx hb hr (fun t ht hW => ⟨rfl, by rw [ht]; exact hP, hD, hS.F ht⟩) hS.2.2 dX5_load_21
  have h := eo2
  clear eo2
  refine lv_if_ge (tgt := 12) hx hb dX5_load_5 (by decide) (fun hc => ?_) (fun hc => ?_)
  · have h := iteT hc h
    refine lv_iconst (v := (0)) hx hb dX5_load_12 (by decide) ?_
    obtain rfl := Option.some.inj h
    exact hJ13_o2 ls H locs (lv_sub hl [0] rfl) hP hD hS
  · have h := iteF hc h
    refine lv_iconst (v := (1)) hx hb dX5_load_8 (by decide) ?_
    refine lv_goto (tgt := 13) hx hb dX5_load_9 (by decide) ?_
    obtain rfl := Option.some.inj h
    exact hJ13_o2 ls H locs (lv_sub hl [0] rfl) hP hD hS
