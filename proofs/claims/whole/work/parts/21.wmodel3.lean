abbrev rm_X5_covers : Room := { frames := 2, cells := 0, slots := 0, locals := 68 }
theorem ok_X5_covers : okY yX5_covers 4 := ⟨by decide +kernel, by decide +kernel, by decide +kernel⟩
set_option maxHeartbeats 4000000 in
set_option maxRecDepth 100000 in
theorem c_X5_covers (l : Launch) (z0 : Nat) (D : va_G) (t : Nat → ClassId) (A : Nat → Nat) (μ : MS) (a1 : Int32) (a2 : Int32) (a3 : Int32) (a4 : Int32) (res : Int32) (h : f_X5_covers μ a1 a2 a3 a4 = some res) : Met l yX5_covers (ws_ yX5_covers cX5_covers 7 (some .int)) rm_X5_covers (PR z0 D t [.ref (A 0), .int a1, .int a2, .int a3, .int a4] (MW A t μ)) (QR (some (.int res))) 0 0 FN := by
  refine Met.ofW (cc := cX5_covers) (maxL := 7) (ret := (some .int)) (by decide) rfl ?_
  intro p e s m args below meth c s₁ Bo hml hv
  obtain ⟨rfl, hC, hP⟩ := hv
  have hx := Bo.exec
  have hb := Bo.bytes
  have hr := Bo.returns
  have hts : ∀ w ∈ LA, w.before _ s = true := fun w hw => atoms_spec (ws := ws_ yX5_covers cX5_covers 7 (some .int)) Bo.pre w (List.mem_cons_of_mem _ hw)
  have hown : s.vm.findClass RX5 = some m.cls := findClass_of_methodNamed Bo.named
  have hlocks := Bo.notSynchronized
  have hK := hC.1
  have hl := lv_entry ([.ref (A 0), .int a1, .int a2, .int a3, .int a4]) (n := 7) (Nat.le_of_ble_eq_true rfl)
  rw [lg_entry_eq]
  generalize (lg_sl ([.ref (A 0), .int a1, .int a2, .int a3, .int a4]) ++ List.replicate (7 - (lg_sl ([.ref (A 0), .int a1, .int a2, .int a3, .int a4])).length) Slot.unset).toArray = ls at hl ⊢
  have hl : lv_has ls 7 [(0, .ref (A 0)), (1, .int a1), (2, .int a2), (3, .int a3), (4, .int a4)] := hl
  unfold f_X5_covers at h
  refine lv_iload hx hb dX5_covers_0 (lv_at hl 4 rfl) ?_
  obtain ⟨o1, eo1, h⟩ := obind h
  have hJ12_o1 : ∀ ls : Array Slot, lv_has ls 7 [(0, .ref (A 0)), (1, .int a1), (3, .int a3), (4, .int a4)] → W p l e (headSpec (ws_ yX5_covers cX5_covers 7 (some .int)) rm_X5_covers).room s m ([.ref (A 0), .int a1, .int a2, .int a3, .int a4] : List Value).toArray below meth c s.heap [] 0 0 (MQ below (QR (some (.int res))) ([.ref (A 0), .int a1, .int a2, .int a3, .int a4] : List Value).toArray s 0 0 FN) (F0 m 12 ls [.int o1]) := by
    intro ls hl
    refine lv_istore (lv' := [(5, .int o1), (0, .ref (A 0)), (1, .int a1), (3, .int a3), (4, .int a4)]) hx hb dX5_covers_12 hl (by decide) rfl (fun ls hl => ?_)
    refine lv_aload_n hx hb dX5_covers_14 rfl (lv_at hl 1 rfl) ?_
    refine lv_iload_n hx hb dX5_covers_15 rfl (lv_at hl 2 rfl) ?_
    refine lv_iload hx hb dX5_covers_16 (lv_at hl 0 rfl) ?_
    refine lv_iload_n hx hb dX5_covers_18 rfl (lv_at hl 3 rfl) ?_
    refine lv_iload hx hb dX5_covers_19 (lv_at hl 4 rfl) ?_
    obtain ⟨r2, er2, h⟩ := obind h
    refine call_R (va_runV (As := [.int a1, .int o1, .int a3, .int a4]) (rest := []) ⟨hx, hb, hml, hown, hts⟩ (c_X5_wrong l z0 D t A μ a1 o1 a3 a4 _ er2) (kV hts qw1043 qw1045 qs36 qw9 qw1046 ok_X5_wrong ⟨Nat.le_of_ble_eq_true rfl, Nat.le_of_ble_eq_true rfl⟩) ⟨PR.blind, va_recv hK hP (ci := 6) (q0 := 0) rfl rfl, fun U hU hW => ⟨rfl, by rw [hU]; exact hC.warm hW, by rw [hU]; exact hP⟩⟩ rfl rfl hl.1 rfl (lv_room (Nat.le_of_ble_eq_true rfl)) dX5_covers_21 ⟨Nat.le_of_ble_eq_true rfl, Nat.le_of_ble_eq_true rfl⟩) ?_
    refine lv_if_le (tgt := 29) hx hb dX5_covers_24 (by decide) (fun hc => ?_) (fun hc => ?_)
    · have h := iteT hc h
      refine lv_aload_n hx hb dX5_covers_29 rfl (lv_at hl 1 rfl) ?_
      refine va_get hx hb hts inX5 hown hK hP 0 rfl rfl 0 (by decide) (hts _ qw967) (fun _ h9 => h9) rfl dX5_covers_30 ?_
      refine lv_iload_n hx hb dX5_covers_33 rfl (lv_at hl 2 rfl) ?_
      obtain ⟨v3, ev3, h⟩ := obind h
      refine k_iald hx hb hK hP 1 rfl ev3 dX5_covers_34 ?_
      refine lv_istore (lv' := [(6, .int v3), (5, .int o1), (0, .ref (A 0)), (1, .int a1), (3, .int a3), (4, .int a4)]) hx hb dX5_covers_35 hl (by decide) rfl (fun ls hl => ?_)
      refine lv_iload hx hb dX5_covers_37 (lv_at hl 5 rfl) ?_
      refine lv_if_ne (tgt := 58) hx hb dX5_covers_39 (by decide) (fun hc => ?_) (fun hc => ?_)
      · have h := iteF hc h
        refine lv_iload hx hb dX5_covers_58 (lv_at hl 5 rfl) ?_
        refine lv_iconst (v := (1)) hx hb dX5_covers_60 (by decide) ?_
        refine lv_icmp_ne (tgt := 80) hx hb dX5_covers_61 (by decide) (fun hc => ?_) (fun hc => ?_)
        · have h := iteF hc h
          refine lv_iload hx hb dX5_covers_80 (lv_at hl 5 rfl) ?_
          refine lv_iconst (v := (2)) hx hb dX5_covers_82 (by decide) ?_
          refine lv_icmp_ne (tgt := 95) hx hb dX5_covers_83 (by decide) (fun hc => ?_) (fun hc => ?_)
          · have h := iteF hc h
            refine lv_iconst (v := (3)) hx hb dX5_covers_95 (by decide) ?_
            refine lv_iconst (v := (1)) hx hb dX5_covers_96 (by decide) ?_
            refine lv_iload hx hb dX5_covers_97 (lv_at hl 0 rfl) ?_
            refine lv_iconst (v := (1)) hx hb dX5_covers_99 (by decide) ?_
            refine lv_iadd hx hb dX5_covers_100 ?_
            refine lv_ishl hx hb dX5_covers_101 ?_
            refine lv_ior hx hb dX5_covers_102 ?_
            obtain rfl := Option.some.inj h
            exact W.iret hx hb hr (fun t ht hW => ⟨rfl, ht⟩) (fun q hq => absurd hq List.not_mem_nil) dX5_covers_103
          · have h := iteT hc h
            refine lv_iconst (v := (3)) hx hb dX5_covers_86 (by decide) ?_
            refine lv_iconst (v := (1)) hx hb dX5_covers_87 (by decide) ?_
            refine lv_iload hx hb dX5_covers_88 (lv_at hl 0 rfl) ?_
            refine lv_ishl hx hb dX5_covers_90 ?_
            refine lv_ior hx hb dX5_covers_91 ?_
            refine lv_goto (tgt := 103) hx hb dX5_covers_92 (by decide) ?_
            obtain rfl := Option.some.inj h
            exact W.iret hx hb hr (fun t ht hW => ⟨rfl, ht⟩) (fun q hq => absurd hq List.not_mem_nil) dX5_covers_103
        · have h := iteT hc h
          refine lv_iconst (v := (1)) hx hb dX5_covers_64 (by decide) ?_
          refine lv_iconst (v := (1)) hx hb dX5_covers_65 (by decide) ?_
          refine lv_iload hx hb dX5_covers_66 (lv_at hl 0 rfl) ?_
          refine lv_ishl hx hb dX5_covers_68 ?_
          refine lv_ior hx hb dX5_covers_69 ?_
          refine lv_iconst (v := (1)) hx hb dX5_covers_70 (by decide) ?_
          refine lv_iload hx hb dX5_covers_71 (lv_at hl 0 rfl) ?_
          refine lv_iconst (v := (1)) hx hb dX5_covers_73 (by decide) ?_
          refine lv_iadd hx hb dX5_covers_74 ?_
          refine lv_ishl hx hb dX5_covers_75 ?_
          refine lv_ior hx hb dX5_covers_76 ?_
          refine lv_goto (tgt := 103) hx hb dX5_covers_77 (by decide) ?_
          obtain rfl := Option.some.inj h
          exact W.iret hx hb hr (fun t ht hW => ⟨rfl, ht⟩) (fun q hq => absurd hq List.not_mem_nil) dX5_covers_103
      · have h := iteT hc h
        refine lv_iconst (v := (1)) hx hb dX5_covers_42 (by decide) ?_
        refine lv_iconst (v := (1)) hx hb dX5_covers_43 (by decide) ?_
        refine lv_iload hx hb dX5_covers_44 (lv_at hl 0 rfl) ?_
        refine lv_iconst (v := (1)) hx hb dX5_covers_46 (by decide) ?_
        refine lv_isub hx hb dX5_covers_47 ?_
        refine lv_ishl hx hb dX5_covers_48 ?_
        refine lv_ior hx hb dX5_covers_49 ?_
        refine lv_iconst (v := (1)) hx hb dX5_covers_50 (by decide) ?_
        refine lv_iload hx hb dX5_covers_51 (lv_at hl 0 rfl) ?_
        refine lv_ishl hx hb dX5_covers_53 ?_
        refine lv_ior hx hb dX5_covers_54 ?_
        refine lv_goto (tgt := 103) hx hb dX5_covers_55 (by decide) ?_
        obtain rfl := Option.some.inj h
        exact W.iret hx hb hr (fun t ht hW => ⟨rfl, ht⟩) (fun q hq => absurd hq List.not_mem_nil) dX5_covers_103
    · have h := iteF hc h
      refine lv_iconst (v := (0)) hx hb dX5_covers_27 (by decide) ?_
      obtain rfl := Option.some.inj h
      exact W.iret hx hb hr (fun t ht hW => ⟨rfl, ht⟩) (fun q hq => absurd hq List.not_mem_nil) dX5_covers_28
  have h := eo1
  clear eo1
  refine lv_if_ne (tgt := 11) hx hb dX5_covers_2 (by decide) (fun hc => ?_) (fun hc => ?_)
  · have h := iteF hc h
    refine lv_iload_n hx hb dX5_covers_11 rfl (lv_at hl 2 rfl) ?_
    obtain rfl := Option.some.inj h
    exact hJ12_o1 ls (lv_sub hl [0, 1, 3, 4] rfl)
  · have h := iteT hc h
    refine lv_iload_n hx hb dX5_covers_5 rfl (lv_at hl 2 rfl) ?_
    refine lv_iconst (v := (1)) hx hb dX5_covers_6 (by decide) ?_
    refine lv_isub hx hb dX5_covers_7 ?_
    refine lv_goto (tgt := 12) hx hb dX5_covers_8 (by decide) ?_
    obtain rfl := Option.some.inj h
    exact hJ12_o1 ls (lv_sub hl [0, 1, 3, 4] rfl)

abbrev rm_X5_paves : Room := { frames := 3, cells := 0, slots := 0, locals := 94 }
theorem ok_X5_paves : okY yX5_paves 1 := ⟨by decide +kernel, by decide +kernel, by decide +kernel⟩
set_option maxHeartbeats 4000000 in
set_option maxRecDepth 100000 in
theorem c_X5_paves (l : Launch) (z0 : Nat) (D : va_G) (t : Nat → ClassId) (A : Nat → Nat) (μ : MS) (a1 : Int32) (res : Int32 × (Nat → Int32) × (Nat → Int32)) (sz : Nat) (h : f_X5_paves μ a1 = some res) : Met l yX5_paves (ws_ yX5_paves cX5_paves 10 (some .int)) rm_X5_paves (PM z0 D t [.ref (A 0), .int a1] (MW A t μ) (ML A) sz) (QM (some (.int res.1)) D (MW A t (m_next' (m_ways' μ res.2.1) res.2.2)) (ML A) sz) 0 0 (OA (ML A) sz) := by
  refine Met.ofW (cc := cX5_paves) (maxL := 10) (ret := (some .int)) (by decide) rfl ?_
  intro p e s m args below meth c s₁ Bo hml hv
  obtain ⟨rfl, hC, hsz, hP, hD, hZ⟩ := hv
  have hx := Bo.exec
  have hb := Bo.bytes
  have hr := Bo.returns
  have hts : ∀ w ∈ LA, w.before _ s = true := fun w hw => atoms_spec (ws := ws_ yX5_paves cX5_paves 10 (some .int)) Bo.pre w (List.mem_cons_of_mem _ hw)
  have hown : s.vm.findClass RX5 = some m.cls := findClass_of_methodNamed Bo.named
  have hlocks := Bo.notSynchronized
  have hK := hC.1
  subst hsz
  have hl := lv_entry ([.ref (A 0), .int a1]) (n := 10) (Nat.le_of_ble_eq_true rfl)
  rw [lg_entry_eq]
  generalize (lg_sl ([.ref (A 0), .int a1]) ++ List.replicate (10 - (lg_sl ([.ref (A 0), .int a1])).length) Slot.unset).toArray = ls at hl ⊢
  have hl : lv_has ls 10 [(0, .ref (A 0)), (1, .int a1)] := hl
  suffices K9 : ∀ (H : Heap) (locs : List Loc), va_P D vwCl (MW A t μ) H → va_S (OA (ML A) s.heap.size) s.heap H locs → W p l e (headSpec (ws_ yX5_paves cX5_paves 10 (some .int)) rm_X5_paves).room s m ([.ref (A 0), .int a1] : List Value).toArray below meth c H locs 0 0 (MQ below (QM (some (.int res.1)) D (MW A t (m_next' (m_ways' μ res.2.1) res.2.2)) (ML A) s.heap.size) ([.ref (A 0), .int a1] : List Value).toArray s 0 0 (OA (ML A) s.heap.size)) (F0 m 0 ls []) from K9 s.heap [] hP va_S.rf
  intro H locs hP hS
  have hSz : s.heap.size ≤ H.size := hS.1
  unfold f_X5_paves at h
  refine lv_aload_n hx hb dX5_paves_0 rfl (lv_at hl 0 rfl) ?_
  refine va_get hx hb hts inX5 hown hK hP 0 rfl rfl 0 (by decide) (hts _ qw967) (fun _ h9 => h9) rfl dX5_paves_1 ?_
  refine lv_iload_n hx hb dX5_paves_4 rfl (lv_at hl 1 rfl) ?_
  obtain ⟨v1, ev1, h⟩ := obind h
  refine k_iald hx hb hK hP 1 rfl ev1 dX5_paves_5 ?_
  refine lv_istore_n (lv' := [(2, .int v1), (0, .ref (A 0)), (1, .int a1)]) hx hb dX5_paves_6 rfl hl (by decide) rfl (fun ls hl => ?_)
  refine lv_aload_n hx hb dX5_paves_7 rfl (lv_at hl 1 rfl) ?_
  obtain ⟨r2, er2, h⟩ := obind h
  refine call_M (va_runV (As := []) (rest := []) ⟨hx, hb, hml, hown, hts⟩ (c_X5_clears l z0 D t A μ _ H.size er2) (kV hts qw1082 qw1084 qs42 qw9 qw1085 ok_X5_clears ⟨Nat.le_of_ble_eq_true rfl, Nat.le_of_ble_eq_true rfl⟩) ⟨PM.blind, va_recv hK hP (ci := 6) (q0 := 0) rfl rfl, fun U hU hW => ⟨rfl, by rw [hU]; exact (hC.at hS hZ).warm hW, by rw [hU], by rw [hU]; exact hP, ⟨hD.1, fun _ _ h9 => Or.inl (in_map (L := (ML A)) rfl h9)⟩, fun q hq => hZ q (OA.ofD hD rfl hSz q hq)⟩⟩ rfl rfl hl.1 rfl (lv_room (Nat.le_of_ble_eq_true rfl)) dX5_paves_8 ⟨Nat.le_of_ble_eq_true rfl, Nat.le_of_ble_eq_true rfl⟩) hS (OA.ofD hD rfl hSz) (fun H locs hP hD1 hS _ _ => ?_)
  have hP : va_P D vwCl (MW A t (m_next' μ r2)) H := hP
  have hD : va_D (OA (ML A) s.heap.size) (MW A t (m_next' μ r2)) := hD1.weaken (fun _ q _ h9 => OA.ofD hD rfl hSz q.1 h9)
  have hSz : s.heap.size ≤ H.size := hS.1
  refine lv_aload_n hx hb dX5_paves_11 rfl (lv_at hl 1 rfl) ?_
  refine va_get hx hb hts inX5 hown hK hP 0 rfl rfl 8 (by decide) (hts _ qw975) (fun _ h9 => h9) rfl dX5_paves_12 ?_
  refine lv_iconst (v := (0)) hx hb dX5_paves_15 (by decide) ?_
  refine lv_iconst (v := (1)) hx hb dX5_paves_16 (by decide) ?_
  obtain ⟨f3, ef3, h⟩ := obind h
  refine k_iast (ws' := (MW A t (m_next' μ f3))) hx hb hK hP hD hS 5 rfl ef3 rfl dX5_paves_17 (fun H locs hP hD hS => ?_)
  have hSz : s.heap.size ≤ H.size := hS.1
  refine lv_aload_n hx hb dX5_paves_18 rfl (lv_at hl 1 rfl) ?_
  obtain ⟨r4, er4, h⟩ := obind h
  refine call_M (va_runV (As := []) (rest := []) ⟨hx, hb, hml, hown, hts⟩ (c_X5_takes l z0 D t A (m_next' μ f3) _ H.size er4) (kV hts qw1086 qw1088 qs43 qw9 qw1089 ok_X5_takes ⟨Nat.le_of_ble_eq_true rfl, Nat.le_of_ble_eq_true rfl⟩) ⟨PM.blind, va_recv hK hP (ci := 6) (q0 := 0) rfl rfl, fun U hU hW => ⟨rfl, by rw [hU]; exact (hC.at hS hZ).warm hW, by rw [hU], by rw [hU]; exact hP, ⟨hD.1, fun _ _ h9 => Or.inl (in_map (L := (ML A)) rfl h9)⟩, fun q hq => hZ q (OA.ofD hD rfl hSz q hq)⟩⟩ rfl rfl hl.1 rfl (lv_room (Nat.le_of_ble_eq_true rfl)) dX5_paves_19 ⟨Nat.le_of_ble_eq_true rfl, Nat.le_of_ble_eq_true rfl⟩) hS (OA.ofD hD rfl hSz) (fun H locs hP hD1 hS _ _ => ?_)
  have hP : va_P D vwCl (MW A t (m_next' (m_ways' μ r4) f3)) H := hP
  have hD : va_D (OA (ML A) s.heap.size) (MW A t (m_next' (m_ways' μ r4) f3)) := hD1.weaken (fun _ q _ h9 => OA.ofD hD rfl hSz q.1 h9)
  have hSz : s.heap.size ≤ H.size := hS.1
  refine lv_iconst (v := (0)) hx hb dX5_paves_22 (by decide) ?_
  refine lv_istore_n (lv' := [(3, .int (0 : Int32)), (2, .int v1), (0, .ref (A 0)), (1, .int a1)]) hx hb dX5_paves_23 rfl hl (by decide) rfl (fun ls hl => ?_)
  obtain ⟨o811, eo811, h⟩ := obind h
  have hL24 : ∀ (n : Nat) (y3_24 : Int32) (ways_24 : Nat → Int32) (next_24 : Nat → Int32) (o811 : (Nat → Int32) × (Nat → Int32)), f_X5_paves_L24 a1 μ v1 n y3_24 ways_24 next_24 = some o811 → (∀ (ls : Array Slot) (H : Heap) (locs : List Loc), lv_has ls 10 [(0, .ref (A 0))] → va_P D vwCl (MW A t (m_next' (m_ways' μ o811.1) o811.2)) H → va_D (OA (ML A) s.heap.size) (MW A t (m_next' (m_ways' μ o811.1) o811.2)) → va_S (OA (ML A) s.heap.size) s.heap H locs → W p l e (headSpec (ws_ yX5_paves cX5_paves 10 (some .int)) rm_X5_paves).room s m ([.ref (A 0), .int a1] : List Value).toArray below meth c H locs 0 0 (MQ below (QM (some (.int res.1)) D (MW A t (m_next' (m_ways' μ res.2.1) res.2.2)) (ML A) s.heap.size) ([.ref (A 0), .int a1] : List Value).toArray s 0 0 (OA (ML A) s.heap.size)) (F0 m 212 ls [])) → ∀ (ls : Array Slot) (H : Heap) (locs : List Loc), lv_has ls 10 [(0, .ref (A 0)), (1, .int a1), (2, .int v1), (3, .int y3_24)] → va_P D vwCl (MW A t (m_next' (m_ways' μ ways_24) next_24)) H → va_D (OA (ML A) s.heap.size) (MW A t (m_next' (m_ways' μ ways_24) next_24)) → va_S (OA (ML A) s.heap.size) s.heap H locs → W p l e (headSpec (ws_ yX5_paves cX5_paves 10 (some .int)) rm_X5_paves).room s m ([.ref (A 0), .int a1] : List Value).toArray below meth c H locs 0 0 (MQ below (QM (some (.int res.1)) D (MW A t (m_next' (m_ways' μ res.2.1) res.2.2)) (ML A) s.heap.size) ([.ref (A 0), .int a1] : List Value).toArray s 0 0 (OA (ML A) s.heap.size)) (F0 m 24 ls []) := by
    intro n
    induction n with
    | zero => intro y3_24 ways_24 next_24 o811 h; exact absurd h (fun z => by cases z)
    | succ n ih =>
      intro y3_24 ways_24 next_24 o811 h hK24 ls H locs hl hP hD hS
      replace h : f_X5_paves_L24_b a1 μ v1 (f_X5_paves_L24 a1 μ v1 n) y3_24 ways_24 next_24 = some o811 := h
      unfold f_X5_paves_L24_b at h
      have hSz : s.heap.size ≤ H.size := hS.1
      refine lv_iload_n hx hb dX5_paves_24 rfl (lv_at hl 3 rfl) ?_
      refine lv_iload_n hx hb dX5_paves_25 rfl (lv_at hl 2 rfl) ?_
      refine lv_aload_n hx hb dX5_paves_26 rfl (lv_at hl 0 rfl) ?_
      refine va_get hx hb hts inX5 hown hK hP 0 rfl rfl 0 (by decide) (hts _ qw967) (fun _ h9 => h9) rfl dX5_paves_27 ?_
      refine lv_iload_n hx hb dX5_paves_30 rfl (lv_at hl 1 rfl) ?_
      refine lv_iconst (v := (1)) hx hb dX5_paves_31 (by decide) ?_
      refine lv_iadd hx hb dX5_paves_32 ?_
      obtain ⟨v812, ev812, h⟩ := obind h
      refine k_iald hx hb hK hP 1 rfl ev812 dX5_paves_33 ?_
      refine lv_imul hx hb dX5_paves_34 ?_
      refine lv_icmp_ge (tgt := 212) hx hb dX5_paves_35 (by decide) (fun hc => ?_) (fun hc => ?_)
      · have h := iteT hc h
        obtain rfl := Option.some.inj h
        exact hK24 ls H locs (lv_sub hl [0] rfl) hP hD hS
      · have h := iteF hc h
        refine lv_iload_n hx hb dX5_paves_38 rfl (lv_at hl 3 rfl) ?_
        refine lv_iload_n hx hb dX5_paves_39 rfl (lv_at hl 2 rfl) ?_
        have h813 : ¬ v1 = 0 := fun z => absurd (iteT z h) (fun z => by cases z)
        have h := iteF h813 h
        refine lv_irem hx hb dX5_paves_40 h813 ?_
        obtain ⟨x814, ex814, h⟩ := jlet_some h
        refine topI ex814 ?_
        refine lv_istore (lv' := [(4, .int x814), (0, .ref (A 0)), (1, .int a1), (2, .int v1), (3, .int y3_24)]) hx hb dX5_paves_41 hl (by decide) rfl (fun ls hl => ?_)
        refine lv_iload_n hx hb dX5_paves_43 rfl (lv_at hl 4 rfl) ?_
        refine lv_iload_n hx hb dX5_paves_44 rfl (lv_at hl 3 rfl) ?_
        have h815 : ¬ v1 = 0 := fun z => absurd (iteT z h) (fun z => by cases z)
        have h := iteF h815 h
        refine lv_idiv hx hb dX5_paves_45 h815 ?_
        obtain ⟨x816, ex816, h⟩ := jlet_some h
        refine topI ex816 ?_
        refine lv_istore (lv' := [(5, .int x816), (4, .int x814), (0, .ref (A 0)), (1, .int a1), (2, .int v1), (3, .int y3_24)]) hx hb dX5_paves_46 hl (by decide) rfl (fun ls hl => ?_)
        refine lv_aload_n hx hb dX5_paves_48 rfl (lv_at hl 2 rfl) ?_
        refine lv_iload_n hx hb dX5_paves_49 rfl (lv_at hl 3 rfl) ?_
        refine lv_bipush (v := (8)) hx hb dX5_paves_50 (by decide) ?_
        refine lv_iload hx hb dX5_paves_52 (lv_at hl 0 rfl) ?_
        refine lv_imul hx hb dX5_paves_54 ?_
        refine lv_iload hx hb dX5_paves_55 (lv_at hl 1 rfl) ?_
        refine lv_iadd hx hb dX5_paves_57 ?_
        obtain ⟨r817, er817, h⟩ := obind h
        refine call_R (va_runV (As := [.int a1, .int (((8 : Int32) * x816) + x814)]) (rest := []) ⟨hx, hb, hml, hown, hts⟩ (c_X5_isFree l z0 D t A (m_next' (m_ways' μ ways_24) next_24) a1 (((8 : Int32) * x816) + x814) _ er817) (kV hts qw1090 qw1092 qs44 qw9 qw1093 ok_X5_isFree ⟨Nat.le_of_ble_eq_true rfl, Nat.le_of_ble_eq_true rfl⟩) ⟨PR.blind, va_recv hK hP (ci := 6) (q0 := 0) rfl rfl, fun U hU hW => ⟨rfl, by rw [hU]; exact (hC.at hS hZ).warm hW, by rw [hU]; exact hP⟩⟩ rfl rfl hl.1 rfl (lv_room (Nat.le_of_ble_eq_true rfl)) dX5_paves_58 ⟨Nat.le_of_ble_eq_true rfl, Nat.le_of_ble_eq_true rfl⟩) ?_
        refine lv_istore (lv' := [(6, .int r817), (5, .int x816), (4, .int x814), (0, .ref (A 0)), (1, .int a1), (2, .int v1), (3, .int y3_24)]) hx hb dX5_paves_61 hl (by decide) rfl (fun ls hl => ?_)
        refine lv_aload_n hx hb dX5_paves_63 rfl (lv_at hl 3 rfl) ?_
        obtain ⟨r818, er818, h⟩ := obind h
        refine call_M (va_runV (As := []) (rest := []) ⟨hx, hb, hml, hown, hts⟩ (c_X5_clears l z0 D t A (m_next' (m_ways' μ ways_24) next_24) _ H.size er818) (kV hts qw1082 qw1084 qs42 qw9 qw1085 ok_X5_clears ⟨Nat.le_of_ble_eq_true rfl, Nat.le_of_ble_eq_true rfl⟩) ⟨PM.blind, va_recv hK hP (ci := 6) (q0 := 0) rfl rfl, fun U hU hW => ⟨rfl, by rw [hU]; exact (hC.at hS hZ).warm hW, by rw [hU], by rw [hU]; exact hP, ⟨hD.1, fun _ _ h9 => Or.inl (in_map (L := (ML A)) rfl h9)⟩, fun q hq => hZ q (OA.ofD hD rfl hSz q hq)⟩⟩ rfl rfl hl.1 rfl (lv_room (Nat.le_of_ble_eq_true rfl)) dX5_paves_64 ⟨Nat.le_of_ble_eq_true rfl, Nat.le_of_ble_eq_true rfl⟩) hS (OA.ofD hD rfl hSz) (fun H locs hP hD1 hS _ _ => ?_)
        have hP : va_P D vwCl (MW A t (m_next' (m_ways' μ ways_24) r818)) H := hP
        have hD : va_D (OA (ML A) s.heap.size) (MW A t (m_next' (m_ways' μ ways_24) r818)) := hD1.weaken (fun _ q _ h9 => OA.ofD hD rfl hSz q.1 h9)
        have hSz : s.heap.size ≤ H.size := hS.1
        refine lv_iconst (v := (0)) hx hb dX5_paves_67 (by decide) ?_
        refine lv_istore (lv' := [(7, .int (0 : Int32)), (6, .int r817), (5, .int x816), (4, .int x814), (0, .ref (A 0)), (1, .int a1), (2, .int v1), (3, .int y3_24)]) hx hb dX5_paves_68 hl (by decide) rfl (fun ls hl => ?_)
        obtain ⟨o1081, eo1081, h⟩ := obind h
        have hL70 : ∀ (n : Nat) (y7_70 : Int32) (next_70 : Nat → Int32) (o1081 : (Nat → Int32)), f_X5_paves_L70 a1 μ v1 ways_24 x814 x816 r817 n y7_70 next_70 = some o1081 → (∀ (ls : Array Slot) (H : Heap) (locs : List Loc), lv_has ls 10 [(0, .ref (A 0)), (1, .int a1), (2, .int v1), (3, .int y3_24)] → va_P D vwCl (MW A t (m_next' (m_ways' μ ways_24) o1081)) H → va_D (OA (ML A) s.heap.size) (MW A t (m_next' (m_ways' μ ways_24) o1081)) → va_S (OA (ML A) s.heap.size) s.heap H locs → W p l e (headSpec (ws_ yX5_paves cX5_paves 10 (some .int)) rm_X5_paves).room s m ([.ref (A 0), .int a1] : List Value).toArray below meth c H locs 0 0 (MQ below (QM (some (.int res.1)) D (MW A t (m_next' (m_ways' μ res.2.1) res.2.2)) (ML A) s.heap.size) ([.ref (A 0), .int a1] : List Value).toArray s 0 0 (OA (ML A) s.heap.size)) (F0 m 202 ls [])) → ∀ (ls : Array Slot) (H : Heap) (locs : List Loc), lv_has ls 10 [(0, .ref (A 0)), (1, .int a1), (2, .int v1), (3, .int y3_24), (4, .int x814), (5, .int x816), (6, .int r817), (7, .int y7_70)] → va_P D vwCl (MW A t (m_next' (m_ways' μ ways_24) next_70)) H → va_D (OA (ML A) s.heap.size) (MW A t (m_next' (m_ways' μ ways_24) next_70)) → va_S (OA (ML A) s.heap.size) s.heap H locs → W p l e (headSpec (ws_ yX5_paves cX5_paves 10 (some .int)) rm_X5_paves).room s m ([.ref (A 0), .int a1] : List Value).toArray below meth c H locs 0 0 (MQ below (QM (some (.int res.1)) D (MW A t (m_next' (m_ways' μ res.2.1) res.2.2)) (ML A) s.heap.size) ([.ref (A 0), .int a1] : List Value).toArray s 0 0 (OA (ML A) s.heap.size)) (F0 m 70 ls []) := by
          intro n
          induction n with
          | zero => intro y7_70 next_70 o1081 h; exact absurd h (fun z => by cases z)
          | succ n ih =>
            intro y7_70 next_70 o1081 h hK70 ls H locs hl hP hD hS
            replace h : f_X5_paves_L70_b a1 μ v1 ways_24 x814 x816 r817 (f_X5_paves_L70 a1 μ v1 ways_24 x814 x816 r817 n) y7_70 next_70 = some o1081 := h
            unfold f_X5_paves_L70_b at h
            have hSz : s.heap.size ≤ H.size := hS.1
            refine lv_iload hx hb dX5_paves_70 (lv_at hl 7 rfl) ?_
            refine lv_iconst (v := (4)) hx hb dX5_paves_72 (by decide) ?_
            refine lv_iload_n hx hb dX5_paves_73 rfl (lv_at hl 2 rfl) ?_
            refine lv_ishl hx hb dX5_paves_74 ?_
            refine lv_icmp_ge (tgt := 202) hx hb dX5_paves_75 (by decide) (fun hc => ?_) (fun hc => ?_)
            · have h := iteT hc h
              obtain rfl := Option.some.inj h
              exact hK70 ls H locs (lv_sub hl [0, 1, 2, 3] rfl) hP hD hS
            · have h := iteF hc h
              refine lv_aload_n hx hb dX5_paves_78 rfl (lv_at hl 0 rfl) ?_
              refine va_get hx hb hts inX5 hown hK hP 0 rfl rfl 7 (by decide) (hts _ qw974) (fun _ h9 => h9) rfl dX5_paves_79 ?_
              refine lv_iload hx hb dX5_paves_82 (lv_at hl 7 rfl) ?_
              obtain ⟨v1082, ev1082, h⟩ := obind h
              refine k_iald hx hb hK hP 4 rfl ev1082 dX5_paves_84 ?_
              obtain ⟨o1147, eo1147, h⟩ := obind h
              have hJ196_o1147 : ∀ (ls : Array Slot) (H : Heap) (locs : List Loc), lv_has ls 10 [(0, .ref (A 0)), (1, .int a1), (2, .int v1), (3, .int y3_24), (4, .int x814), (5, .int x816), (6, .int r817), (7, .int y7_70)] → va_P D vwCl (MW A t (m_next' (m_ways' μ ways_24) o1147)) H → va_D (OA (ML A) s.heap.size) (MW A t (m_next' (m_ways' μ ways_24) o1147)) → va_S (OA (ML A) s.heap.size) s.heap H locs → W p l e (headSpec (ws_ yX5_paves cX5_paves 10 (some .int)) rm_X5_paves).room s m ([.ref (A 0), .int a1] : List Value).toArray below meth c H locs 0 0 (MQ below (QM (some (.int res.1)) D (MW A t (m_next' (m_ways' μ res.2.1) res.2.2)) (ML A) s.heap.size) ([.ref (A 0), .int a1] : List Value).toArray s 0 0 (OA (ML A) s.heap.size)) (F0 m 196 ls []) := by
                intro ls H locs hl hP hD hS
                have hSz : s.heap.size ≤ H.size := hS.1
                obtain ⟨x1212, ex1212, h⟩ := jlet_some h
                refine lv_iinc (v := x1212) (lv' := [(7, .int x1212), (0, .ref (A 0)), (1, .int a1), (2, .int v1), (3, .int y3_24), (4, .int x814), (5, .int x816), (6, .int r817)]) hx hb dX5_paves_196 hl (k := 7) rfl (by rw [ex1212]; rfl) (by decide) rfl (fun ls hl => ?_)
                refine lv_goto (tgt := 70) hx hb dX5_paves_199 (by decide) ?_
                exact ih _ _ _ h hK70 ls H locs (lv_sub hl [1, 2, 3, 4, 5, 6, 7, 0] rfl) hP hD hS
              have h := eo1147
              clear eo1147
              refine lv_if_le (tgt := 123) hx hb dX5_paves_85 (by decide) (fun hc => ?_) (fun hc => ?_)
              · have h := iteT hc h
                refine lv_aload_n hx hb dX5_paves_123 rfl (lv_at hl 0 rfl) ?_
                refine va_get hx hb hts inX5 hown hK hP 0 rfl rfl 7 (by decide) (hts _ qw974) (fun _ h9 => h9) rfl dX5_paves_124 ?_
                refine lv_iload hx hb dX5_paves_127 (lv_at hl 7 rfl) ?_
                obtain ⟨v1148, ev1148, h⟩ := obind h
                refine k_iald hx hb hK hP 4 rfl ev1148 dX5_paves_129 ?_
                refine lv_if_le (tgt := 196) hx hb dX5_paves_130 (by decide) (fun hc => ?_) (fun hc => ?_)
                · have h := iteT hc h
                  obtain rfl := Option.some.inj h
                  exact hJ196_o1147 ls H locs (lv_sub hl [0, 1, 2, 3, 4, 5, 6, 7] rfl) hP hD hS
                · have h := iteF hc h
                  refine lv_iconst (v := (0)) hx hb dX5_paves_133 (by decide) ?_
                  refine lv_istore (lv' := [(8, .int (0 : Int32)), (0, .ref (A 0)), (1, .int a1), (2, .int v1), (3, .int y3_24), (4, .int x814), (5, .int x816), (6, .int r817), (7, .int y7_70)]) hx hb dX5_paves_134 hl (by decide) rfl (fun ls hl => ?_)
                  obtain ⟨o1167, eo1167, h⟩ := obind h
                  have hL136 : ∀ (n : Nat) (y8_136 : Int32) (next_136 : Nat → Int32) (o1167 : (Nat → Int32)), f_X5_paves_L136 a1 μ y7_70 ways_24 x814 x816 n y8_136 next_136 = some o1167 → (∀ (ls : Array Slot) (H : Heap) (locs : List Loc), lv_has ls 10 [(0, .ref (A 0)), (1, .int a1), (2, .int v1), (3, .int y3_24), (4, .int x814), (5, .int x816), (6, .int r817), (7, .int y7_70)] → va_P D vwCl (MW A t (m_next' (m_ways' μ ways_24) o1167)) H → va_D (OA (ML A) s.heap.size) (MW A t (m_next' (m_ways' μ ways_24) o1167)) → va_S (OA (ML A) s.heap.size) s.heap H locs → W p l e (headSpec (ws_ yX5_paves cX5_paves 10 (some .int)) rm_X5_paves).room s m ([.ref (A 0), .int a1] : List Value).toArray below meth c H locs 0 0 (MQ below (QM (some (.int res.1)) D (MW A t (m_next' (m_ways' μ res.2.1) res.2.2)) (ML A) s.heap.size) ([.ref (A 0), .int a1] : List Value).toArray s 0 0 (OA (ML A) s.heap.size)) (F0 m 196 ls [])) → ∀ (ls : Array Slot) (H : Heap) (locs : List Loc), lv_has ls 10 [(0, .ref (A 0)), (1, .int a1), (2, .int v1), (3, .int y3_24), (4, .int x814), (5, .int x816), (6, .int r817), (7, .int y7_70), (8, .int y8_136)] → va_P D vwCl (MW A t (m_next' (m_ways' μ ways_24) next_136)) H → va_D (OA (ML A) s.heap.size) (MW A t (m_next' (m_ways' μ ways_24) next_136)) → va_S (OA (ML A) s.heap.size) s.heap H locs → W p l e (headSpec (ws_ yX5_paves cX5_paves 10 (some .int)) rm_X5_paves).room s m ([.ref (A 0), .int a1] : List Value).toArray below meth c H locs 0 0 (MQ below (QM (some (.int res.1)) D (MW A t (m_next' (m_ways' μ res.2.1) res.2.2)) (ML A) s.heap.size) ([.ref (A 0), .int a1] : List Value).toArray s 0 0 (OA (ML A) s.heap.size)) (F0 m 136 ls []) := by
                    intro n
                    induction n with
                    | zero => intro y8_136 next_136 o1167 h; exact absurd h (fun z => by cases z)
                    | succ n ih =>
                      intro y8_136 next_136 o1167 h hK136 ls H locs hl hP hD hS
                      replace h : f_X5_paves_L136_b a1 μ y7_70 ways_24 x814 x816 (f_X5_paves_L136 a1 μ y7_70 ways_24 x814 x816 n) y8_136 next_136 = some o1167 := h
                      unfold f_X5_paves_L136_b at h
                      have hSz : s.heap.size ≤ H.size := hS.1
                      refine lv_iload hx hb dX5_paves_136 (lv_at hl 8 rfl) ?_
                      refine lv_iconst (v := (4)) hx hb dX5_paves_138 (by decide) ?_
                      refine lv_icmp_ge (tgt := 196) hx hb dX5_paves_139 (by decide) (fun hc => ?_) (fun hc => ?_)
                      · have h := iteT hc h
                        obtain rfl := Option.some.inj h
                        exact hK136 ls H locs (lv_sub hl [0, 1, 2, 3, 4, 5, 6, 7] rfl) hP hD hS
                      · have h := iteF hc h
                        refine lv_aload_n hx hb dX5_paves_142 rfl (lv_at hl 0 rfl) ?_
                        refine lv_iload_n hx hb dX5_paves_143 rfl (lv_at hl 1 rfl) ?_
                        refine lv_iload hx hb dX5_paves_144 (lv_at hl 4 rfl) ?_
                        refine lv_iload hx hb dX5_paves_146 (lv_at hl 5 rfl) ?_
                        refine lv_iload hx hb dX5_paves_148 (lv_at hl 8 rfl) ?_
                        obtain ⟨r1168, er1168, h⟩ := obind h
                        refine call_R (va_runV (As := [.int a1, .int x814, .int x816, .int y8_136]) (rest := []) ⟨hx, hb, hml, hown, hts⟩ (c_X5_covers l z0 D t A (m_next' (m_ways' μ ways_24) next_136) a1 x814 x816 y8_136 _ er1168) (kV hts qw1094 qw1096 qs45 qw9 qw1097 ok_X5_covers ⟨Nat.le_of_ble_eq_true rfl, Nat.le_of_ble_eq_true rfl⟩) ⟨PR.blind, va_recv hK hP (ci := 6) (q0 := 0) rfl rfl, fun U hU hW => ⟨rfl, by rw [hU]; exact (hC.at hS hZ).warm hW, by rw [hU]; exact hP⟩⟩ rfl rfl hl.1 rfl (lv_room (Nat.le_of_ble_eq_true rfl)) dX5_paves_150 ⟨Nat.le_of_ble_eq_true rfl, Nat.le_of_ble_eq_true rfl⟩) ?_
                        refine lv_istore (lv' := [(9, .int r1168), (0, .ref (A 0)), (1, .int a1), (2, .int v1), (3, .int y3_24), (4, .int x814), (5, .int x816), (6, .int r817), (7, .int y7_70), (8, .int y8_136)]) hx hb dX5_paves_153 hl (by decide) rfl (fun ls hl => ?_)
                        refine lv_iload hx hb dX5_paves_155 (lv_at hl 0 rfl) ?_
                        obtain ⟨o1172, eo1172, h⟩ := obind h
                        have hJ190_o1172 : ∀ (ls : Array Slot) (H : Heap) (locs : List Loc), lv_has ls 10 [(0, .ref (A 0)), (1, .int a1), (2, .int v1), (3, .int y3_24), (4, .int x814), (5, .int x816), (6, .int r817), (7, .int y7_70), (8, .int y8_136)] → va_P D vwCl (MW A t (m_next' (m_ways' μ ways_24) o1172)) H → va_D (OA (ML A) s.heap.size) (MW A t (m_next' (m_ways' μ ways_24) o1172)) → va_S (OA (ML A) s.heap.size) s.heap H locs → W p l e (headSpec (ws_ yX5_paves cX5_paves 10 (some .int)) rm_X5_paves).room s m ([.ref (A 0), .int a1] : List Value).toArray below meth c H locs 0 0 (MQ below (QM (some (.int res.1)) D (MW A t (m_next' (m_ways' μ res.2.1) res.2.2)) (ML A) s.heap.size) ([.ref (A 0), .int a1] : List Value).toArray s 0 0 (OA (ML A) s.heap.size)) (F0 m 190 ls []) := by
                          intro ls H locs hl hP hD hS
                          have hSz : s.heap.size ≤ H.size := hS.1
                          obtain ⟨x1176, ex1176, h⟩ := jlet_some h
                          refine lv_iinc (v := x1176) (lv' := [(8, .int x1176), (0, .ref (A 0)), (1, .int a1), (2, .int v1), (3, .int y3_24), (4, .int x814), (5, .int x816), (6, .int r817), (7, .int y7_70)]) hx hb dX5_paves_190 hl (k := 8) rfl (by rw [ex1176]; rfl) (by decide) rfl (fun ls hl => ?_)
                          refine lv_goto (tgt := 136) hx hb dX5_paves_193 (by decide) ?_
                          exact ih _ _ _ h hK136 ls H locs (lv_sub hl [1, 2, 3, 4, 5, 6, 7, 8, 0] rfl) hP hD hS
                        have h := eo1172
                        clear eo1172
                        refine lv_if_le (tgt := 190) hx hb dX5_paves_157 (by decide) (fun hc => ?_) (fun hc => ?_)
                        · have h := iteT hc h
                          obtain rfl := Option.some.inj h
                          exact hJ190_o1172 ls H locs (lv_sub hl [1, 2, 3, 4, 5, 6, 7, 8, 9] rfl) hP hD hS
                        · have h := iteF hc h
                          refine lv_iload hx hb dX5_paves_160 (lv_at hl 0 rfl) ?_
                          refine lv_iload hx hb dX5_paves_162 (lv_at hl 8 rfl) ?_
                          refine lv_iand hx hb dX5_paves_164 ?_
                          refine lv_if_ne (tgt := 190) hx hb dX5_paves_165 (by decide) (fun hc => ?_) (fun hc => ?_)
                          · have h := iteF hc h
                            obtain rfl := Option.some.inj h
                            exact hJ190_o1172 ls H locs (lv_sub hl [1, 2, 3, 4, 5, 6, 7, 8, 9] rfl) hP hD hS
                          · have h := iteT hc h
                            refine lv_aload_n hx hb dX5_paves_168 rfl (lv_at hl 1 rfl) ?_
                            refine va_get hx hb hts inX5 hown hK hP 0 rfl rfl 8 (by decide) (hts _ qw975) (fun _ h9 => h9) rfl dX5_paves_169 ?_
                            refine lv_iload hx hb dX5_paves_172 (lv_at hl 8 rfl) ?_
                            refine lv_iload hx hb dX5_paves_174 (lv_at hl 0 rfl) ?_
                            refine lv_ior hx hb dX5_paves_176 ?_
                            refine lv_iconst (v := (1)) hx hb dX5_paves_177 (by decide) ?_
                            refine lv_ishr hx hb dX5_paves_178 ?_
                            refine lv_dup2_11 hx hb dX5_paves_179 rfl rfl ?_
                            obtain ⟨v1173, ev1173, h⟩ := obind h
                            refine k_iald hx hb hK hP 5 rfl ev1173 dX5_paves_180 ?_
                            refine lv_aload_n hx hb dX5_paves_181 rfl (lv_at hl 1 rfl) ?_
                            refine va_get hx hb hts inX5 hown hK hP 0 rfl rfl 7 (by decide) (hts _ qw974) (fun _ h9 => h9) rfl dX5_paves_182 ?_
                            refine lv_iload hx hb dX5_paves_185 (lv_at hl 8 rfl) ?_
                            obtain ⟨v1174, ev1174, h⟩ := obind h
                            refine k_iald hx hb hK hP 4 rfl ev1174 dX5_paves_187 ?_
                            refine lv_iadd hx hb dX5_paves_188 ?_
                            obtain ⟨f1175, ef1175, h⟩ := obind h
                            refine k_iast (ws' := (MW A t (m_next' (m_ways' μ ways_24) f1175))) hx hb hK hP hD hS 5 rfl ef1175 rfl dX5_paves_189 (fun H locs hP hD hS => ?_)
                            have hSz : s.heap.size ≤ H.size := hS.1
                            obtain rfl := Option.some.inj h
                            exact hJ190_o1172 ls H locs (lv_sub hl [1, 2, 3, 4, 5, 6, 7, 8, 9] rfl) hP hD hS
                  refine hL136 _ _ _ _ eo1167 (fun ls H locs hl hP hD hS => ?_) ls H locs (lv_sub hl [1, 2, 3, 4, 5, 6, 7, 8, 0] rfl) hP hD hS
                  have hSz : s.heap.size ≤ H.size := hS.1
                  obtain rfl := Option.some.inj h
                  exact hJ196_o1147 ls H locs (lv_sub hl [0, 1, 2, 3, 4, 5, 6, 7] rfl) hP hD hS
              · have h := iteF hc h
                refine lv_iload hx hb dX5_paves_88 (lv_at hl 6 rfl) ?_
                refine lv_if_eq (tgt := 101) hx hb dX5_paves_90 (by decide) (fun hc => ?_) (fun hc => ?_)
                · have h := iteT hc h
                  refine lv_aload_n hx hb dX5_paves_101 rfl (lv_at hl 0 rfl) ?_
                  refine va_get hx hb hts inX5 hown hK hP 0 rfl rfl 8 (by decide) (hts _ qw975) (fun _ h9 => h9) rfl dX5_paves_102 ?_
                  refine lv_iload hx hb dX5_paves_105 (lv_at hl 7 rfl) ?_
                  refine lv_iconst (v := (1)) hx hb dX5_paves_107 (by decide) ?_
                  refine lv_ishr hx hb dX5_paves_108 ?_
                  refine lv_dup2_11 hx hb dX5_paves_109 rfl rfl ?_
                  obtain ⟨v1177, ev1177, h⟩ := obind h
                  refine k_iald hx hb hK hP 5 rfl ev1177 dX5_paves_110 ?_
                  refine lv_aload_n hx hb dX5_paves_111 rfl (lv_at hl 0 rfl) ?_
                  refine va_get hx hb hts inX5 hown hK hP 0 rfl rfl 7 (by decide) (hts _ qw974) (fun _ h9 => h9) rfl dX5_paves_112 ?_
                  refine lv_iload hx hb dX5_paves_115 (lv_at hl 7 rfl) ?_
                  obtain ⟨v1178, ev1178, h⟩ := obind h
                  refine k_iald hx hb hK hP 4 rfl ev1178 dX5_paves_117 ?_
                  refine lv_iadd hx hb dX5_paves_118 ?_
                  obtain ⟨f1179, ef1179, h⟩ := obind h
                  refine k_iast (ws' := (MW A t (m_next' (m_ways' μ ways_24) f1179))) hx hb hK hP hD hS 5 rfl ef1179 rfl dX5_paves_119 (fun H locs hP hD hS => ?_)
                  have hSz : s.heap.size ≤ H.size := hS.1
                  refine lv_goto (tgt := 196) hx hb dX5_paves_120 (by decide) ?_
                  obtain rfl := Option.some.inj h
                  exact hJ196_o1147 ls H locs (lv_sub hl [0, 1, 2, 3, 4, 5, 6, 7] rfl) hP hD hS
                · have h := iteF hc h
                  refine lv_iload hx hb dX5_paves_93 (lv_at hl 7 rfl) ?_
                  refine lv_iconst (v := (1)) hx hb dX5_paves_95 (by decide) ?_
                  refine lv_iand hx hb dX5_paves_96 ?_
                  refine lv_iconst (v := (1)) hx hb dX5_paves_97 (by decide) ?_
                  refine lv_icmp_ne (tgt := 123) hx hb dX5_paves_98 (by decide) (fun hc => ?_) (fun hc => ?_)
                  · have h := iteF hc h
                    refine lv_aload_n hx hb dX5_paves_123 rfl (lv_at hl 0 rfl) ?_
                    refine va_get hx hb hts inX5 hown hK hP 0 rfl rfl 7 (by decide) (hts _ qw974) (fun _ h9 => h9) rfl dX5_paves_124 ?_
                    refine lv_iload hx hb dX5_paves_127 (lv_at hl 7 rfl) ?_
                    obtain ⟨v1180, ev1180, h⟩ := obind h
                    refine k_iald hx hb hK hP 4 rfl ev1180 dX5_paves_129 ?_
                    refine lv_if_le (tgt := 196) hx hb dX5_paves_130 (by decide) (fun hc => ?_) (fun hc => ?_)
                    · have h := iteT hc h
                      obtain rfl := Option.some.inj h
                      exact hJ196_o1147 ls H locs (lv_sub hl [0, 1, 2, 3, 4, 5, 6, 7] rfl) hP hD hS
                    · have h := iteF hc h
                      refine lv_iconst (v := (0)) hx hb dX5_paves_133 (by decide) ?_
                      refine lv_istore (lv' := [(8, .int (0 : Int32)), (0, .ref (A 0)), (1, .int a1), (2, .int v1), (3, .int y3_24), (4, .int x814), (5, .int x816), (6, .int r817), (7, .int y7_70)]) hx hb dX5_paves_134 hl (by decide) rfl (fun ls hl => ?_)
                      obtain ⟨o1199, eo1199, h⟩ := obind h
                      have hL136 : ∀ (n : Nat) (y8_136 : Int32) (next_136 : Nat → Int32) (o1199 : (Nat → Int32)), f_X5_paves_L136v a1 μ y7_70 ways_24 x814 x816 n y8_136 next_136 = some o1199 → (∀ (ls : Array Slot) (H : Heap) (locs : List Loc), lv_has ls 10 [(0, .ref (A 0)), (1, .int a1), (2, .int v1), (3, .int y3_24), (4, .int x814), (5, .int x816), (6, .int r817), (7, .int y7_70)] → va_P D vwCl (MW A t (m_next' (m_ways' μ ways_24) o1199)) H → va_D (OA (ML A) s.heap.size) (MW A t (m_next' (m_ways' μ ways_24) o1199)) → va_S (OA (ML A) s.heap.size) s.heap H locs → W p l e (headSpec (ws_ yX5_paves cX5_paves 10 (some .int)) rm_X5_paves).room s m ([.ref (A 0), .int a1] : List Value).toArray below meth c H locs 0 0 (MQ below (QM (some (.int res.1)) D (MW A t (m_next' (m_ways' μ res.2.1) res.2.2)) (ML A) s.heap.size) ([.ref (A 0), .int a1] : List Value).toArray s 0 0 (OA (ML A) s.heap.size)) (F0 m 196 ls [])) → ∀ (ls : Array Slot) (H : Heap) (locs : List Loc), lv_has ls 10 [(0, .ref (A 0)), (1, .int a1), (2, .int v1), (3, .int y3_24), (4, .int x814), (5, .int x816), (6, .int r817), (7, .int y7_70), (8, .int y8_136)] → va_P D vwCl (MW A t (m_next' (m_ways' μ ways_24) next_136)) H → va_D (OA (ML A) s.heap.size) (MW A t (m_next' (m_ways' μ ways_24) next_136)) → va_S (OA (ML A) s.heap.size) s.heap H locs → W p l e (headSpec (ws_ yX5_paves cX5_paves 10 (some .int)) rm_X5_paves).room s m ([.ref (A 0), .int a1] : List Value).toArray below meth c H locs 0 0 (MQ below (QM (some (.int res.1)) D (MW A t (m_next' (m_ways' μ res.2.1) res.2.2)) (ML A) s.heap.size) ([.ref (A 0), .int a1] : List Value).toArray s 0 0 (OA (ML A) s.heap.size)) (F0 m 136 ls []) := by
                        intro n
                        induction n with
                        | zero => intro y8_136 next_136 o1199 h; exact absurd h (fun z => by cases z)
                        | succ n ih =>
                          intro y8_136 next_136 o1199 h hK136 ls H locs hl hP hD hS
                          replace h : f_X5_paves_L136v_b a1 μ y7_70 ways_24 x814 x816 (f_X5_paves_L136v a1 μ y7_70 ways_24 x814 x816 n) y8_136 next_136 = some o1199 := h
                          unfold f_X5_paves_L136v_b at h
                          have hSz : s.heap.size ≤ H.size := hS.1
                          refine lv_iload hx hb dX5_paves_136 (lv_at hl 8 rfl) ?_
                          refine lv_iconst (v := (4)) hx hb dX5_paves_138 (by decide) ?_
                          refine lv_icmp_ge (tgt := 196) hx hb dX5_paves_139 (by decide) (fun hc => ?_) (fun hc => ?_)
                          · have h := iteT hc h
                            obtain rfl := Option.some.inj h
                            exact hK136 ls H locs (lv_sub hl [0, 1, 2, 3, 4, 5, 6, 7] rfl) hP hD hS
                          · have h := iteF hc h
                            refine lv_aload_n hx hb dX5_paves_142 rfl (lv_at hl 0 rfl) ?_
                            refine lv_iload_n hx hb dX5_paves_143 rfl (lv_at hl 1 rfl) ?_
                            refine lv_iload hx hb dX5_paves_144 (lv_at hl 4 rfl) ?_
                            refine lv_iload hx hb dX5_paves_146 (lv_at hl 5 rfl) ?_
                            refine lv_iload hx hb dX5_paves_148 (lv_at hl 8 rfl) ?_
                            obtain ⟨r1200, er1200, h⟩ := obind h
                            refine call_R (va_runV (As := [.int a1, .int x814, .int x816, .int y8_136]) (rest := []) ⟨hx, hb, hml, hown, hts⟩ (c_X5_covers l z0 D t A (m_next' (m_ways' μ ways_24) next_136) a1 x814 x816 y8_136 _ er1200) (kV hts qw1094 qw1096 qs45 qw9 qw1097 ok_X5_covers ⟨Nat.le_of_ble_eq_true rfl, Nat.le_of_ble_eq_true rfl⟩) ⟨PR.blind, va_recv hK hP (ci := 6) (q0 := 0) rfl rfl, fun U hU hW => ⟨rfl, by rw [hU]; exact (hC.at hS hZ).warm hW, by rw [hU]; exact hP⟩⟩ rfl rfl hl.1 rfl (lv_room (Nat.le_of_ble_eq_true rfl)) dX5_paves_150 ⟨Nat.le_of_ble_eq_true rfl, Nat.le_of_ble_eq_true rfl⟩) ?_
                            refine lv_istore (lv' := [(9, .int r1200), (0, .ref (A 0)), (1, .int a1), (2, .int v1), (3, .int y3_24), (4, .int x814), (5, .int x816), (6, .int r817), (7, .int y7_70), (8, .int y8_136)]) hx hb dX5_paves_153 hl (by decide) rfl (fun ls hl => ?_)
                            refine lv_iload hx hb dX5_paves_155 (lv_at hl 0 rfl) ?_
                            obtain ⟨o1204, eo1204, h⟩ := obind h
                            have hJ190_o1204 : ∀ (ls : Array Slot) (H : Heap) (locs : List Loc), lv_has ls 10 [(0, .ref (A 0)), (1, .int a1), (2, .int v1), (3, .int y3_24), (4, .int x814), (5, .int x816), (6, .int r817), (7, .int y7_70), (8, .int y8_136)] → va_P D vwCl (MW A t (m_next' (m_ways' μ ways_24) o1204)) H → va_D (OA (ML A) s.heap.size) (MW A t (m_next' (m_ways' μ ways_24) o1204)) → va_S (OA (ML A) s.heap.size) s.heap H locs → W p l e (headSpec (ws_ yX5_paves cX5_paves 10 (some .int)) rm_X5_paves).room s m ([.ref (A 0), .int a1] : List Value).toArray below meth c H locs 0 0 (MQ below (QM (some (.int res.1)) D (MW A t (m_next' (m_ways' μ res.2.1) res.2.2)) (ML A) s.heap.size) ([.ref (A 0), .int a1] : List Value).toArray s 0 0 (OA (ML A) s.heap.size)) (F0 m 190 ls []) := by
                              intro ls H locs hl hP hD hS
                              have hSz : s.heap.size ≤ H.size := hS.1
                              obtain ⟨x1208, ex1208, h⟩ := jlet_some h
                              refine lv_iinc (v := x1208) (lv' := [(8, .int x1208), (0, .ref (A 0)), (1, .int a1), (2, .int v1), (3, .int y3_24), (4, .int x814), (5, .int x816), (6, .int r817), (7, .int y7_70)]) hx hb dX5_paves_190 hl (k := 8) rfl (by rw [ex1208]; rfl) (by decide) rfl (fun ls hl => ?_)
                              refine lv_goto (tgt := 136) hx hb dX5_paves_193 (by decide) ?_
                              exact ih _ _ _ h hK136 ls H locs (lv_sub hl [1, 2, 3, 4, 5, 6, 7, 8, 0] rfl) hP hD hS
                            have h := eo1204
                            clear eo1204
                            refine lv_if_le (tgt := 190) hx hb dX5_paves_157 (by decide) (fun hc => ?_) (fun hc => ?_)
                            · have h := iteT hc h
                              obtain rfl := Option.some.inj h
                              exact hJ190_o1204 ls H locs (lv_sub hl [1, 2, 3, 4, 5, 6, 7, 8, 9] rfl) hP hD hS
                            · have h := iteF hc h
                              refine lv_iload hx hb dX5_paves_160 (lv_at hl 0 rfl) ?_
                              refine lv_iload hx hb dX5_paves_162 (lv_at hl 8 rfl) ?_
                              refine lv_iand hx hb dX5_paves_164 ?_
                              refine lv_if_ne (tgt := 190) hx hb dX5_paves_165 (by decide) (fun hc => ?_) (fun hc => ?_)
                              · have h := iteF hc h
                                obtain rfl := Option.some.inj h
                                exact hJ190_o1204 ls H locs (lv_sub hl [1, 2, 3, 4, 5, 6, 7, 8, 9] rfl) hP hD hS
                              · have h := iteT hc h
                                refine lv_aload_n hx hb dX5_paves_168 rfl (lv_at hl 1 rfl) ?_
                                refine va_get hx hb hts inX5 hown hK hP 0 rfl rfl 8 (by decide) (hts _ qw975) (fun _ h9 => h9) rfl dX5_paves_169 ?_
                                refine lv_iload hx hb dX5_paves_172 (lv_at hl 8 rfl) ?_
                                refine lv_iload hx hb dX5_paves_174 (lv_at hl 0 rfl) ?_
                                refine lv_ior hx hb dX5_paves_176 ?_
                                refine lv_iconst (v := (1)) hx hb dX5_paves_177 (by decide) ?_
                                refine lv_ishr hx hb dX5_paves_178 ?_
                                refine lv_dup2_11 hx hb dX5_paves_179 rfl rfl ?_
                                obtain ⟨v1205, ev1205, h⟩ := obind h
                                refine k_iald hx hb hK hP 5 rfl ev1205 dX5_paves_180 ?_
                                refine lv_aload_n hx hb dX5_paves_181 rfl (lv_at hl 1 rfl) ?_
                                refine va_get hx hb hts inX5 hown hK hP 0 rfl rfl 7 (by decide) (hts _ qw974) (fun _ h9 => h9) rfl dX5_paves_182 ?_
                                refine lv_iload hx hb dX5_paves_185 (lv_at hl 8 rfl) ?_
                                obtain ⟨v1206, ev1206, h⟩ := obind h
                                refine k_iald hx hb hK hP 4 rfl ev1206 dX5_paves_187 ?_
                                refine lv_iadd hx hb dX5_paves_188 ?_
                                obtain ⟨f1207, ef1207, h⟩ := obind h
                                refine k_iast (ws' := (MW A t (m_next' (m_ways' μ ways_24) f1207))) hx hb hK hP hD hS 5 rfl ef1207 rfl dX5_paves_189 (fun H locs hP hD hS => ?_)
                                have hSz : s.heap.size ≤ H.size := hS.1
                                obtain rfl := Option.some.inj h
                                exact hJ190_o1204 ls H locs (lv_sub hl [1, 2, 3, 4, 5, 6, 7, 8, 9] rfl) hP hD hS
                      refine hL136 _ _ _ _ eo1199 (fun ls H locs hl hP hD hS => ?_) ls H locs (lv_sub hl [1, 2, 3, 4, 5, 6, 7, 8, 0] rfl) hP hD hS
                      have hSz : s.heap.size ≤ H.size := hS.1
                      obtain rfl := Option.some.inj h
                      exact hJ196_o1147 ls H locs (lv_sub hl [0, 1, 2, 3, 4, 5, 6, 7] rfl) hP hD hS
                  · have h := iteT hc h
                    refine lv_aload_n hx hb dX5_paves_101 rfl (lv_at hl 0 rfl) ?_
                    refine va_get hx hb hts inX5 hown hK hP 0 rfl rfl 8 (by decide) (hts _ qw975) (fun _ h9 => h9) rfl dX5_paves_102 ?_
                    refine lv_iload hx hb dX5_paves_105 (lv_at hl 7 rfl) ?_
                    refine lv_iconst (v := (1)) hx hb dX5_paves_107 (by decide) ?_
                    refine lv_ishr hx hb dX5_paves_108 ?_
                    refine lv_dup2_11 hx hb dX5_paves_109 rfl rfl ?_
                    obtain ⟨v1209, ev1209, h⟩ := obind h
                    refine k_iald hx hb hK hP 5 rfl ev1209 dX5_paves_110 ?_
                    refine lv_aload_n hx hb dX5_paves_111 rfl (lv_at hl 0 rfl) ?_
                    refine va_get hx hb hts inX5 hown hK hP 0 rfl rfl 7 (by decide) (hts _ qw974) (fun _ h9 => h9) rfl dX5_paves_112 ?_
                    refine lv_iload hx hb dX5_paves_115 (lv_at hl 7 rfl) ?_
                    obtain ⟨v1210, ev1210, h⟩ := obind h
                    refine k_iald hx hb hK hP 4 rfl ev1210 dX5_paves_117 ?_
                    refine lv_iadd hx hb dX5_paves_118 ?_
                    obtain ⟨f1211, ef1211, h⟩ := obind h
                    refine k_iast (ws' := (MW A t (m_next' (m_ways' μ ways_24) f1211))) hx hb hK hP hD hS 5 rfl ef1211 rfl dX5_paves_119 (fun H locs hP hD hS => ?_)
                    have hSz : s.heap.size ≤ H.size := hS.1
                    refine lv_goto (tgt := 196) hx hb dX5_paves_120 (by decide) ?_
                    obtain rfl := Option.some.inj h
                    exact hJ196_o1147 ls H locs (lv_sub hl [0, 1, 2, 3, 4, 5, 6, 7] rfl) hP hD hS
        refine hL70 _ _ _ _ eo1081 (fun ls H locs hl hP hD hS => ?_) ls H locs (lv_sub hl [4, 5, 6, 7, 3, 2, 1, 0] rfl) hP hD hS
        have hSz : s.heap.size ≤ H.size := hS.1
        refine lv_aload_n hx hb dX5_paves_202 rfl (lv_at hl 0 rfl) ?_
        obtain ⟨r1213, er1213, h⟩ := obind h
        refine call_M (va_runV (As := []) (rest := []) ⟨hx, hb, hml, hown, hts⟩ (c_X5_takes l z0 D t A (m_next' (m_ways' μ ways_24) o1081) _ H.size er1213) (kV hts qw1086 qw1088 qs43 qw9 qw1089 ok_X5_takes ⟨Nat.le_of_ble_eq_true rfl, Nat.le_of_ble_eq_true rfl⟩) ⟨PM.blind, va_recv hK hP (ci := 6) (q0 := 0) rfl rfl, fun U hU hW => ⟨rfl, by rw [hU]; exact (hC.at hS hZ).warm hW, by rw [hU], by rw [hU]; exact hP, ⟨hD.1, fun _ _ h9 => Or.inl (in_map (L := (ML A)) rfl h9)⟩, fun q hq => hZ q (OA.ofD hD rfl hSz q hq)⟩⟩ rfl rfl hl.1 rfl (lv_room (Nat.le_of_ble_eq_true rfl)) dX5_paves_203 ⟨Nat.le_of_ble_eq_true rfl, Nat.le_of_ble_eq_true rfl⟩) hS (OA.ofD hD rfl hSz) (fun H locs hP hD1 hS _ _ => ?_)
        have hP : va_P D vwCl (MW A t (m_next' (m_ways' μ r1213) o1081)) H := hP
        have hD : va_D (OA (ML A) s.heap.size) (MW A t (m_next' (m_ways' μ r1213) o1081)) := hD1.weaken (fun _ q _ h9 => OA.ofD hD rfl hSz q.1 h9)
        have hSz : s.heap.size ≤ H.size := hS.1
        obtain ⟨x1214, ex1214, h⟩ := jlet_some h
        refine lv_iinc (v := x1214) (lv' := [(3, .int x1214), (0, .ref (A 0)), (1, .int a1), (2, .int v1)]) hx hb dX5_paves_206 hl (k := 3) rfl (by rw [ex1214]; rfl) (by decide) rfl (fun ls hl => ?_)
        refine lv_goto (tgt := 24) hx hb dX5_paves_209 (by decide) ?_
        exact ih _ _ _ _ h hK24 ls H locs (lv_sub hl [1, 2, 3, 0] rfl) hP hD hS
  refine hL24 _ _ _ _ _ eo811 (fun ls H locs hl hP hD hS => ?_) ls H locs (lv_sub hl [2, 3, 1, 0] rfl) hP hD hS
  have hSz : s.heap.size ≤ H.size := hS.1
  refine lv_aload_n hx hb dX5_paves_212 rfl (lv_at hl 0 rfl) ?_
  refine va_get hx hb hts inX5 hown hK hP 0 rfl rfl 7 (by decide) (hts _ qw974) (fun _ h9 => h9) rfl dX5_paves_213 ?_
  refine lv_iconst (v := (0)) hx hb dX5_paves_216 (by decide) ?_
  obtain ⟨v1215, ev1215, h⟩ := obind h
  refine k_iald hx hb hK hP 4 rfl ev1215 dX5_paves_217 ?_
  obtain rfl := Option.some.inj h
  exact W.iret hx hb hr (fun t ht hW => ⟨rfl, by rw [ht]; exact hP, hD, hS.F ht⟩) hS.2.2 dX5_paves_218

abbrev rm_X5_fills : Room := { frames := 4, cells := 0, slots := 0, locals := 123 }
theorem ok_X5_fills : okY yX5_fills 1 := ⟨by decide +kernel, by decide +kernel, by decide +kernel⟩
set_option maxHeartbeats 4000000 in
set_option maxRecDepth 100000 in
theorem c_X5_fills (l : Launch) (z0 : Nat) (D : va_G) (t : Nat → ClassId) (A : Nat → Nat) (μ : MS) (a1 : Int32) (res : Int32 × (Nat → Int32) × (Nat → Int32) × (Nat → Int32)) (sz : Nat) (h : f_X5_fills μ a1 = some res) : Met l yX5_fills (ws_ yX5_fills cX5_fills 8 (some .int)) rm_X5_fills (PM z0 D t [.ref (A 0), .int a1] (MW A t μ) (ML A) sz) (QM (some (.int res.1)) D (MW A t (m_next' (m_ways' (m_s' μ res.2.1) res.2.2.1) res.2.2.2)) (ML A) sz) 0 0 (OA (ML A) sz) := by
  refine Met.ofW (cc := cX5_fills) (maxL := 8) (ret := (some .int)) (by decide) rfl ?_
  intro p e s m args below meth c s₁ Bo hml hv
  obtain ⟨rfl, hC, hsz, hP, hD, hZ⟩ := hv
  have hx := Bo.exec
  have hb := Bo.bytes
  have hr := Bo.returns
  have hts : ∀ w ∈ LA, w.before _ s = true := fun w hw => atoms_spec (ws := ws_ yX5_fills cX5_fills 8 (some .int)) Bo.pre w (List.mem_cons_of_mem _ hw)
  have hown : s.vm.findClass RX5 = some m.cls := findClass_of_methodNamed Bo.named
  have hlocks := Bo.notSynchronized
  have hK := hC.1
  subst hsz
  have hl := lv_entry ([.ref (A 0), .int a1]) (n := 8) (Nat.le_of_ble_eq_true rfl)
  rw [lg_entry_eq]
  generalize (lg_sl ([.ref (A 0), .int a1]) ++ List.replicate (8 - (lg_sl ([.ref (A 0), .int a1])).length) Slot.unset).toArray = ls at hl ⊢
  have hl : lv_has ls 8 [(0, .ref (A 0)), (1, .int a1)] := hl
  suffices K9 : ∀ (H : Heap) (locs : List Loc), va_P D vwCl (MW A t μ) H → va_S (OA (ML A) s.heap.size) s.heap H locs → W p l e (headSpec (ws_ yX5_fills cX5_fills 8 (some .int)) rm_X5_fills).room s m ([.ref (A 0), .int a1] : List Value).toArray below meth c H locs 0 0 (MQ below (QM (some (.int res.1)) D (MW A t (m_next' (m_ways' (m_s' μ res.2.1) res.2.2.1) res.2.2.2)) (ML A) s.heap.size) ([.ref (A 0), .int a1] : List Value).toArray s 0 0 (OA (ML A) s.heap.size)) (F0 m 0 ls []) from K9 s.heap [] hP va_S.rf
  intro H locs hP hS
  have hSz : s.heap.size ≤ H.size := hS.1
  unfold f_X5_fills at h
  refine lv_aload_n hx hb dX5_fills_0 rfl (lv_at hl 0 rfl) ?_
  refine va_get hx hb hts inX5 hown hK hP 0 rfl rfl 0 (by decide) (hts _ qw967) (fun _ h9 => h9) rfl dX5_fills_1 ?_
  refine lv_iload_n hx hb dX5_fills_4 rfl (lv_at hl 1 rfl) ?_
  refine lv_sipush (v := (131)) hx hb dX5_fills_5 (by decide) ?_
  refine lv_iadd hx hb dX5_fills_8 ?_
  obtain ⟨v1, ev1, h⟩ := obind h
  refine k_iald hx hb hK hP 1 rfl ev1 dX5_fills_9 ?_
  refine lv_istore_n (lv' := [(2, .int v1), (0, .ref (A 0)), (1, .int a1)]) hx hb dX5_fills_10 rfl hl (by decide) rfl (fun ls hl => ?_)
  refine lv_iconst (v := (0)) hx hb dX5_fills_11 (by decide) ?_
  refine lv_istore_n (lv' := [(3, .int (0 : Int32)), (2, .int v1), (0, .ref (A 0)), (1, .int a1)]) hx hb dX5_fills_12 rfl hl (by decide) rfl (fun ls hl => ?_)
  obtain ⟨o290, eo290, h⟩ := obind h
  have hL13 : ∀ (n : Nat) (y3_13 : Int32) (s_13 : Nat → Int32) (ways_13 : Nat → Int32) (next_13 : Nat → Int32) (o290 : (Nat → Int32) × (Nat → Int32) × (Nat → Int32)), f_X5_fills_L13 a1 μ n y3_13 s_13 ways_13 next_13 = some o290 → (∀ (ls : Array Slot) (H : Heap) (locs : List Loc), lv_has ls 8 [(0, .ref (A 0)), (1, .int a1), (2, .int v1)] → va_P D vwCl (MW A t (m_next' (m_ways' (m_s' μ o290.1) o290.2.1) o290.2.2)) H → va_D (OA (ML A) s.heap.size) (MW A t (m_next' (m_ways' (m_s' μ o290.1) o290.2.1) o290.2.2)) → va_S (OA (ML A) s.heap.size) s.heap H locs → W p l e (headSpec (ws_ yX5_fills cX5_fills 8 (some .int)) rm_X5_fills).room s m ([.ref (A 0), .int a1] : List Value).toArray below meth c H locs 0 0 (MQ below (QM (some (.int res.1)) D (MW A t (m_next' (m_ways' (m_s' μ res.2.1) res.2.2.1) res.2.2.2)) (ML A) s.heap.size) ([.ref (A 0), .int a1] : List Value).toArray s 0 0 (OA (ML A) s.heap.size)) (F0 m 169 ls [])) → ∀ (ls : Array Slot) (H : Heap) (locs : List Loc), lv_has ls 8 [(0, .ref (A 0)), (1, .int a1), (2, .int v1), (3, .int y3_13)] → va_P D vwCl (MW A t (m_next' (m_ways' (m_s' μ s_13) ways_13) next_13)) H → va_D (OA (ML A) s.heap.size) (MW A t (m_next' (m_ways' (m_s' μ s_13) ways_13) next_13)) → va_S (OA (ML A) s.heap.size) s.heap H locs → W p l e (headSpec (ws_ yX5_fills cX5_fills 8 (some .int)) rm_X5_fills).room s m ([.ref (A 0), .int a1] : List Value).toArray below meth c H locs 0 0 (MQ below (QM (some (.int res.1)) D (MW A t (m_next' (m_ways' (m_s' μ res.2.1) res.2.2.1) res.2.2.2)) (ML A) s.heap.size) ([.ref (A 0), .int a1] : List Value).toArray s 0 0 (OA (ML A) s.heap.size)) (F0 m 13 ls []) := by
    intro n
    induction n with
    | zero => intro y3_13 s_13 ways_13 next_13 o290 h; exact absurd h (fun z => by cases z)
    | succ n ih =>
      intro y3_13 s_13 ways_13 next_13 o290 h hK13 ls H locs hl hP hD hS
      replace h : f_X5_fills_L13_b a1 μ (f_X5_fills_L13 a1 μ n) y3_13 s_13 ways_13 next_13 = some o290 := h
      unfold f_X5_fills_L13_b at h
      have hSz : s.heap.size ≤ H.size := hS.1
      refine lv_iload_n hx hb dX5_fills_13 rfl (lv_at hl 3 rfl) ?_
      refine lv_aload_n hx hb dX5_fills_14 rfl (lv_at hl 0 rfl) ?_
      refine va_get hx hb hts inX5 hown hK hP 0 rfl rfl 0 (by decide) (hts _ qw967) (fun _ h9 => h9) rfl dX5_fills_15 ?_
      refine lv_iload_n hx hb dX5_fills_18 rfl (lv_at hl 1 rfl) ?_
      refine lv_iconst (v := (1)) hx hb dX5_fills_19 (by decide) ?_
      refine lv_iadd hx hb dX5_fills_20 ?_
      obtain ⟨v291, ev291, h⟩ := obind h
      refine k_iald hx hb hK hP 1 rfl ev291 dX5_fills_21 ?_
      refine lv_icmp_ge (tgt := 169) hx hb dX5_fills_22 (by decide) (fun hc => ?_) (fun hc => ?_)
      · have h := iteT hc h
        obtain rfl := Option.some.inj h
        exact hK13 ls H locs (lv_sub hl [0, 1, 2] rfl) hP hD hS
      · have h := iteF hc h
        refine lv_iconst (v := (0)) hx hb dX5_fills_25 (by decide) ?_
        refine lv_istore (lv' := [(4, .int (0 : Int32)), (0, .ref (A 0)), (1, .int a1), (2, .int v1), (3, .int y3_13)]) hx hb dX5_fills_26 hl (by decide) rfl (fun ls hl => ?_)
        obtain ⟨o386, eo386, h⟩ := obind h
        have hL28 : ∀ (n : Nat) (y4_28 : Int32) (s_28 : Nat → Int32) (ways_28 : Nat → Int32) (next_28 : Nat → Int32) (o386 : (Nat → Int32) × (Nat → Int32) × (Nat → Int32)), f_X5_fills_L28 a1 μ y3_13 n y4_28 s_28 ways_28 next_28 = some o386 → (∀ (ls : Array Slot) (H : Heap) (locs : List Loc), lv_has ls 8 [(0, .ref (A 0)), (1, .int a1), (2, .int v1), (3, .int y3_13)] → va_P D vwCl (MW A t (m_next' (m_ways' (m_s' μ o386.1) o386.2.1) o386.2.2)) H → va_D (OA (ML A) s.heap.size) (MW A t (m_next' (m_ways' (m_s' μ o386.1) o386.2.1) o386.2.2)) → va_S (OA (ML A) s.heap.size) s.heap H locs → W p l e (headSpec (ws_ yX5_fills cX5_fills 8 (some .int)) rm_X5_fills).room s m ([.ref (A 0), .int a1] : List Value).toArray below meth c H locs 0 0 (MQ below (QM (some (.int res.1)) D (MW A t (m_next' (m_ways' (m_s' μ res.2.1) res.2.2.1) res.2.2.2)) (ML A) s.heap.size) ([.ref (A 0), .int a1] : List Value).toArray s 0 0 (OA (ML A) s.heap.size)) (F0 m 163 ls [])) → ∀ (ls : Array Slot) (H : Heap) (locs : List Loc), lv_has ls 8 [(0, .ref (A 0)), (1, .int a1), (2, .int v1), (3, .int y3_13), (4, .int y4_28)] → va_P D vwCl (MW A t (m_next' (m_ways' (m_s' μ s_28) ways_28) next_28)) H → va_D (OA (ML A) s.heap.size) (MW A t (m_next' (m_ways' (m_s' μ s_28) ways_28) next_28)) → va_S (OA (ML A) s.heap.size) s.heap H locs → W p l e (headSpec (ws_ yX5_fills cX5_fills 8 (some .int)) rm_X5_fills).room s m ([.ref (A 0), .int a1] : List Value).toArray below meth c H locs 0 0 (MQ below (QM (some (.int res.1)) D (MW A t (m_next' (m_ways' (m_s' μ res.2.1) res.2.2.1) res.2.2.2)) (ML A) s.heap.size) ([.ref (A 0), .int a1] : List Value).toArray s 0 0 (OA (ML A) s.heap.size)) (F0 m 28 ls []) := by
          intro n
          induction n with
          | zero => intro y4_28 s_28 ways_28 next_28 o386 h; exact absurd h (fun z => by cases z)
          | succ n ih =>
            intro y4_28 s_28 ways_28 next_28 o386 h hK28 ls H locs hl hP hD hS
            replace h : f_X5_fills_L28_b a1 μ y3_13 (f_X5_fills_L28 a1 μ y3_13 n) y4_28 s_28 ways_28 next_28 = some o386 := h
            unfold f_X5_fills_L28_b at h
            have hSz : s.heap.size ≤ H.size := hS.1
            refine lv_iload hx hb dX5_fills_28 (lv_at hl 4 rfl) ?_
            refine lv_aload_n hx hb dX5_fills_30 rfl (lv_at hl 0 rfl) ?_
            refine va_get hx hb hts inX5 hown hK hP 0 rfl rfl 0 (by decide) (hts _ qw967) (fun _ h9 => h9) rfl dX5_fills_31 ?_
            refine lv_iload_n hx hb dX5_fills_34 rfl (lv_at hl 1 rfl) ?_
            obtain ⟨v387, ev387, h⟩ := obind h
            refine k_iald hx hb hK hP 1 rfl ev387 dX5_fills_35 ?_
            refine lv_icmp_ge (tgt := 163) hx hb dX5_fills_36 (by decide) (fun hc => ?_) (fun hc => ?_)
            · have h := iteT hc h
              obtain rfl := Option.some.inj h
              exact hK28 ls H locs (lv_sub hl [0, 1, 2, 3] rfl) hP hD hS
            · have h := iteF hc h
              refine lv_aload_n hx hb dX5_fills_39 rfl (lv_at hl 0 rfl) ?_
              refine lv_iload_n hx hb dX5_fills_40 rfl (lv_at hl 1 rfl) ?_
              refine lv_bipush (v := (8)) hx hb dX5_fills_41 (by decide) ?_
              refine lv_iload_n hx hb dX5_fills_43 rfl (lv_at hl 3 rfl) ?_
              refine lv_imul hx hb dX5_fills_44 ?_
              refine lv_iload hx hb dX5_fills_45 (lv_at hl 4 rfl) ?_
              refine lv_iadd hx hb dX5_fills_47 ?_
              obtain ⟨r388, er388, h⟩ := obind h
              refine call_R (va_runV (As := [.int a1, .int (((8 : Int32) * y3_13) + y4_28)]) (rest := []) ⟨hx, hb, hml, hown, hts⟩ (c_X5_isFree l z0 D t A (m_next' (m_ways' (m_s' μ s_28) ways_28) next_28) a1 (((8 : Int32) * y3_13) + y4_28) _ er388) (kV hts qw1090 qw1092 qs44 qw9 qw1093 ok_X5_isFree ⟨Nat.le_of_ble_eq_true rfl, Nat.le_of_ble_eq_true rfl⟩) ⟨PR.blind, va_recv hK hP (ci := 6) (q0 := 0) rfl rfl, fun U hU hW => ⟨rfl, by rw [hU]; exact (hC.at hS hZ).warm hW, by rw [hU]; exact hP⟩⟩ rfl rfl hl.1 rfl (lv_room (Nat.le_of_ble_eq_true rfl)) dX5_fills_48 ⟨Nat.le_of_ble_eq_true rfl, Nat.le_of_ble_eq_true rfl⟩) ?_
              obtain ⟨o389, eo389, h⟩ := obind h
              have hJ59_o389 : ∀ (ls : Array Slot) (H : Heap) (locs : List Loc), lv_has ls 8 [(0, .ref (A 0)), (1, .int a1), (2, .int v1), (3, .int y3_13), (4, .int y4_28)] → va_P D vwCl (MW A t (m_next' (m_ways' (m_s' μ s_28) ways_28) next_28)) H → va_D (OA (ML A) s.heap.size) (MW A t (m_next' (m_ways' (m_s' μ s_28) ways_28) next_28)) → va_S (OA (ML A) s.heap.size) s.heap H locs → W p l e (headSpec (ws_ yX5_fills cX5_fills 8 (some .int)) rm_X5_fills).room s m ([.ref (A 0), .int a1] : List Value).toArray below meth c H locs 0 0 (MQ below (QM (some (.int res.1)) D (MW A t (m_next' (m_ways' (m_s' μ res.2.1) res.2.2.1) res.2.2.2)) (ML A) s.heap.size) ([.ref (A 0), .int a1] : List Value).toArray s 0 0 (OA (ML A) s.heap.size)) (F0 m 59 ls [.int o389]) := by
                intro ls H locs hl hP hD hS
                have hSz : s.heap.size ≤ H.size := hS.1
                refine lv_istore (lv' := [(5, .int o389), (0, .ref (A 0)), (1, .int a1), (2, .int v1), (3, .int y3_13), (4, .int y4_28)]) hx hb dX5_fills_59 hl (by decide) rfl (fun ls hl => ?_)
                refine lv_iconst (v := (0)) hx hb dX5_fills_61 (by decide) ?_
                refine lv_istore (lv' := [(6, .int (0 : Int32)), (5, .int o389), (0, .ref (A 0)), (1, .int a1), (2, .int v1), (3, .int y3_13), (4, .int y4_28)]) hx hb dX5_fills_62 hl (by decide) rfl (fun ls hl => ?_)
                obtain ⟨o418, eo418, h⟩ := obind h
                have hL64 : ∀ (n : Nat) (y5_64 : Int32) (y6_64 : Int32) (s_64 : Nat → Int32) (ways_64 : Nat → Int32) (next_64 : Nat → Int32) (o418 : (Nat → Int32) × (Nat → Int32) × (Nat → Int32)), f_X5_fills_L64 a1 μ y4_28 y3_13 n y5_64 y6_64 s_64 ways_64 next_64 = some o418 → (∀ (ls : Array Slot) (H : Heap) (locs : List Loc), lv_has ls 8 [(0, .ref (A 0)), (1, .int a1), (2, .int v1), (3, .int y3_13), (4, .int y4_28)] → va_P D vwCl (MW A t (m_next' (m_ways' (m_s' μ o418.1) o418.2.1) o418.2.2)) H → va_D (OA (ML A) s.heap.size) (MW A t (m_next' (m_ways' (m_s' μ o418.1) o418.2.1) o418.2.2)) → va_S (OA (ML A) s.heap.size) s.heap H locs → W p l e (headSpec (ws_ yX5_fills cX5_fills 8 (some .int)) rm_X5_fills).room s m ([.ref (A 0), .int a1] : List Value).toArray below meth c H locs 0 0 (MQ below (QM (some (.int res.1)) D (MW A t (m_next' (m_ways' (m_s' μ res.2.1) res.2.2.1) res.2.2.2)) (ML A) s.heap.size) ([.ref (A 0), .int a1] : List Value).toArray s 0 0 (OA (ML A) s.heap.size)) (F0 m 157 ls [])) → ∀ (ls : Array Slot) (H : Heap) (locs : List Loc), lv_has ls 8 [(0, .ref (A 0)), (1, .int a1), (2, .int v1), (3, .int y3_13), (4, .int y4_28), (5, .int y5_64), (6, .int y6_64)] → va_P D vwCl (MW A t (m_next' (m_ways' (m_s' μ s_64) ways_64) next_64)) H → va_D (OA (ML A) s.heap.size) (MW A t (m_next' (m_ways' (m_s' μ s_64) ways_64) next_64)) → va_S (OA (ML A) s.heap.size) s.heap H locs → W p l e (headSpec (ws_ yX5_fills cX5_fills 8 (some .int)) rm_X5_fills).room s m ([.ref (A 0), .int a1] : List Value).toArray below meth c H locs 0 0 (MQ below (QM (some (.int res.1)) D (MW A t (m_next' (m_ways' (m_s' μ res.2.1) res.2.2.1) res.2.2.2)) (ML A) s.heap.size) ([.ref (A 0), .int a1] : List Value).toArray s 0 0 (OA (ML A) s.heap.size)) (F0 m 64 ls []) := by
                  intro n
                  induction n with
                  | zero => intro y5_64 y6_64 s_64 ways_64 next_64 o418 h; exact absurd h (fun z => by cases z)
                  | succ n ih =>
                    intro y5_64 y6_64 s_64 ways_64 next_64 o418 h hK64 ls H locs hl hP hD hS
                    replace h : f_X5_fills_L64_b a1 μ y4_28 y3_13 (f_X5_fills_L64 a1 μ y4_28 y3_13 n) y5_64 y6_64 s_64 ways_64 next_64 = some o418 := h
                    unfold f_X5_fills_L64_b at h
                    have hSz : s.heap.size ≤ H.size := hS.1
                    refine lv_iload hx hb dX5_fills_64 (lv_at hl 6 rfl) ?_
                    refine lv_iconst (v := (4)) hx hb dX5_fills_66 (by decide) ?_
                    refine lv_icmp_ge (tgt := 157) hx hb dX5_fills_67 (by decide) (fun hc => ?_) (fun hc => ?_)
                    · have h := iteT hc h
                      obtain rfl := Option.some.inj h
                      exact hK64 ls H locs (lv_sub hl [0, 1, 2, 3, 4] rfl) hP hD hS
                    · have h := iteF hc h
                      refine lv_iload hx hb dX5_fills_70 (lv_at hl 5 rfl) ?_
                      refine lv_if_ne (tgt := 157) hx hb dX5_fills_72 (by decide) (fun hc => ?_) (fun hc => ?_)
                      · have h := iteF hc h
                        obtain rfl := Option.some.inj h
                        exact hK64 ls H locs (lv_sub hl [0, 1, 2, 3, 4] rfl) hP hD hS
                      · have h := iteT hc h
                        refine lv_iload hx hb dX5_fills_75 (lv_at hl 6 rfl) ?_
                        obtain ⟨o419, eo419, h⟩ := obind h
                        have hJ89_o419 : ∀ (ls : Array Slot) (H : Heap) (locs : List Loc), lv_has ls 8 [(0, .ref (A 0)), (1, .int a1), (2, .int v1), (3, .int y3_13), (4, .int y4_28), (5, .int y5_64), (6, .int y6_64)] → va_P D vwCl (MW A t (m_next' (m_ways' (m_s' μ s_64) ways_64) next_64)) H → va_D (OA (ML A) s.heap.size) (MW A t (m_next' (m_ways' (m_s' μ s_64) ways_64) next_64)) → va_S (OA (ML A) s.heap.size) s.heap H locs → W p l e (headSpec (ws_ yX5_fills cX5_fills 8 (some .int)) rm_X5_fills).room s m ([.ref (A 0), .int a1] : List Value).toArray below meth c H locs 0 0 (MQ below (QM (some (.int res.1)) D (MW A t (m_next' (m_ways' (m_s' μ res.2.1) res.2.2.1) res.2.2.2)) (ML A) s.heap.size) ([.ref (A 0), .int a1] : List Value).toArray s 0 0 (OA (ML A) s.heap.size)) (F0 m 89 ls [.int o419]) := by
                          intro ls H locs hl hP hD hS
                          have hSz : s.heap.size ≤ H.size := hS.1
                          refine lv_istore (lv' := [(7, .int o419), (0, .ref (A 0)), (1, .int a1), (2, .int v1), (3, .int y3_13), (4, .int y4_28), (5, .int y5_64), (6, .int y6_64)]) hx hb dX5_fills_89 hl (by decide) rfl (fun ls hl => ?_)
                          refine lv_aload_n hx hb dX5_fills_91 rfl (lv_at hl 1 rfl) ?_
                          refine lv_iload_n hx hb dX5_fills_92 rfl (lv_at hl 2 rfl) ?_
                          refine lv_iload hx hb dX5_fills_93 (lv_at hl 0 rfl) ?_
                          refine lv_iload_n hx hb dX5_fills_95 rfl (lv_at hl 4 rfl) ?_
                          refine lv_iload hx hb dX5_fills_96 (lv_at hl 7 rfl) ?_
                          obtain ⟨r420, er420, h⟩ := obind h
                          refine call_R (va_runV (As := [.int a1, .int o419, .int y3_13, .int y6_64]) (rest := []) ⟨hx, hb, hml, hown, hts⟩ (c_X5_wrong l z0 D t A (m_next' (m_ways' (m_s' μ s_64) ways_64) next_64) a1 o419 y3_13 y6_64 _ er420) (kV hts qw1043 qw1045 qs36 qw9 qw1046 ok_X5_wrong ⟨Nat.le_of_ble_eq_true rfl, Nat.le_of_ble_eq_true rfl⟩) ⟨PR.blind, va_recv hK hP (ci := 6) (q0 := 0) rfl rfl, fun U hU hW => ⟨rfl, by rw [hU]; exact (hC.at hS hZ).warm hW, by rw [hU]; exact hP⟩⟩ rfl rfl hl.1 rfl (lv_room (Nat.le_of_ble_eq_true rfl)) dX5_fills_98 ⟨Nat.le_of_ble_eq_true rfl, Nat.le_of_ble_eq_true rfl⟩) ?_
                          obtain ⟨o426, eo426, h⟩ := obind h
                          have hJ151_o426 : ∀ (ls : Array Slot) (H : Heap) (locs : List Loc), lv_has ls 8 [(0, .ref (A 0)), (1, .int a1), (2, .int v1), (3, .int y3_13), (4, .int y4_28), (5, .int o426.1), (6, .int y6_64)] → va_P D vwCl (MW A t (m_next' (m_ways' (m_s' μ o426.2.1) o426.2.2.1) o426.2.2.2)) H → va_D (OA (ML A) s.heap.size) (MW A t (m_next' (m_ways' (m_s' μ o426.2.1) o426.2.2.1) o426.2.2.2)) → va_S (OA (ML A) s.heap.size) s.heap H locs → W p l e (headSpec (ws_ yX5_fills cX5_fills 8 (some .int)) rm_X5_fills).room s m ([.ref (A 0), .int a1] : List Value).toArray below meth c H locs 0 0 (MQ below (QM (some (.int res.1)) D (MW A t (m_next' (m_ways' (m_s' μ res.2.1) res.2.2.1) res.2.2.2)) (ML A) s.heap.size) ([.ref (A 0), .int a1] : List Value).toArray s 0 0 (OA (ML A) s.heap.size)) (F0 m 151 ls []) := by
                            intro ls H locs hl hP hD hS
                            have hSz : s.heap.size ≤ H.size := hS.1
                            obtain ⟨x432, ex432, h⟩ := jlet_some h
                            refine lv_iinc (v := x432) (lv' := [(6, .int x432), (0, .ref (A 0)), (1, .int a1), (2, .int v1), (3, .int y3_13), (4, .int y4_28), (5, .int o426.1)]) hx hb dX5_fills_151 hl (k := 6) rfl (by rw [ex432]; rfl) (by decide) rfl (fun ls hl => ?_)
                            refine lv_goto (tgt := 64) hx hb dX5_fills_154 (by decide) ?_
                            exact ih _ _ _ _ _ _ h hK64 ls H locs (lv_sub hl [1, 2, 3, 4, 5, 6, 0] rfl) hP hD hS
                          have h := eo426
                          clear eo426
                          refine lv_if_ne (tgt := 151) hx hb dX5_fills_101 (by decide) (fun hc => ?_) (fun hc => ?_)
                          · have h := iteF hc h
                            obtain rfl := Option.some.inj h
                            exact hJ151_o426 ls H locs (lv_sub hl [1, 2, 3, 4, 5, 6, 7] rfl) hP hD hS
                          · have h := iteT hc h
                            refine lv_aload_n hx hb dX5_fills_104 rfl (lv_at hl 1 rfl) ?_
                            refine lv_iload_n hx hb dX5_fills_105 rfl (lv_at hl 2 rfl) ?_
                            refine lv_iload hx hb dX5_fills_106 (lv_at hl 0 rfl) ?_
                            refine lv_iload_n hx hb dX5_fills_108 rfl (lv_at hl 4 rfl) ?_
                            refine lv_iload hx hb dX5_fills_109 (lv_at hl 7 rfl) ?_
                            obtain ⟨r427, er427, h⟩ := obind h
                            refine call_M (va_runV (As := [.int a1, .int o419, .int y3_13, .int y6_64]) (rest := []) ⟨hx, hb, hml, hown, hts⟩ (c_X5_lays l z0 D t A (m_next' (m_ways' (m_s' μ s_64) ways_64) next_64) a1 o419 y3_13 y6_64 _ H.size er427) (kV hts qw1050 qw1052 qs37 qw9 qw1053 ok_X5_lays ⟨Nat.le_of_ble_eq_true rfl, Nat.le_of_ble_eq_true rfl⟩) ⟨PM.blind, va_recv hK hP (ci := 6) (q0 := 0) rfl rfl, fun U hU hW => ⟨rfl, by rw [hU]; exact (hC.at hS hZ).warm hW, by rw [hU], by rw [hU]; exact hP, ⟨hD.1, fun _ _ h9 => Or.inl (in_map (L := (ML A)) rfl h9)⟩, fun q hq => hZ q (OA.ofD hD rfl hSz q hq)⟩⟩ rfl rfl hl.1 rfl (lv_room (Nat.le_of_ble_eq_true rfl)) dX5_fills_111 ⟨Nat.le_of_ble_eq_true rfl, Nat.le_of_ble_eq_true rfl⟩) hS (OA.ofD hD rfl hSz) (fun H locs hP hD1 hS _ _ => ?_)
                            have hP : va_P D vwCl (MW A t (m_next' (m_ways' (m_s' μ r427) ways_64) next_64)) H := hP
                            have hD : va_D (OA (ML A) s.heap.size) (MW A t (m_next' (m_ways' (m_s' μ r427) ways_64) next_64)) := hD1.weaken (fun _ q _ h9 => OA.ofD hD rfl hSz q.1 h9)
                            have hSz : s.heap.size ≤ H.size := hS.1
                            refine lv_aload_n hx hb dX5_fills_114 rfl (lv_at hl 1 rfl) ?_
                            refine lv_iload_n hx hb dX5_fills_115 rfl (lv_at hl 2 rfl) ?_
                            obtain ⟨r428, er428, h⟩ := obind h
                            refine call_M (va_runV (As := [.int a1]) (rest := []) ⟨hx, hb, hml, hown, hts⟩ (c_X5_paves l z0 D t A (m_next' (m_ways' (m_s' μ r427) ways_64) next_64) a1 _ H.size er428) (kV hts qw1078 qw1080 qs41 qw9 qw1081 ok_X5_paves ⟨Nat.le_of_ble_eq_true rfl, Nat.le_of_ble_eq_true rfl⟩) ⟨PM.blind, va_recv hK hP (ci := 6) (q0 := 0) rfl rfl, fun U hU hW => ⟨rfl, by rw [hU]; exact (hC.at hS hZ).warm hW, by rw [hU], by rw [hU]; exact hP, ⟨hD.1, fun _ _ h9 => Or.inl (in_map (L := (ML A)) rfl h9)⟩, fun q hq => hZ q (OA.ofD hD rfl hSz q hq)⟩⟩ rfl rfl hl.1 rfl (lv_room (Nat.le_of_ble_eq_true rfl)) dX5_fills_116 ⟨Nat.le_of_ble_eq_true rfl, Nat.le_of_ble_eq_true rfl⟩) hS (OA.ofD hD rfl hSz) (fun H locs hP hD1 hS _ _ => ?_)
                            have hP : va_P D vwCl (MW A t (m_next' (m_ways' (m_s' μ r427) r428.2.1) r428.2.2)) H := hP
                            have hD : va_D (OA (ML A) s.heap.size) (MW A t (m_next' (m_ways' (m_s' μ r427) r428.2.1) r428.2.2)) := hD1.weaken (fun _ q _ h9 => OA.ofD hD rfl hSz q.1 h9)
                            have hSz : s.heap.size ≤ H.size := hS.1
                            obtain ⟨o429, eo429, h⟩ := obind h
                            have hJ127_o429 : ∀ (ls : Array Slot) (H : Heap) (locs : List Loc), lv_has ls 8 [(0, .ref (A 0)), (1, .int a1), (2, .int v1), (3, .int y3_13), (4, .int y4_28), (6, .int y6_64)] → va_P D vwCl (MW A t (m_next' (m_ways' (m_s' μ r427) r428.2.1) r428.2.2)) H → va_D (OA (ML A) s.heap.size) (MW A t (m_next' (m_ways' (m_s' μ r427) r428.2.1) r428.2.2)) → va_S (OA (ML A) s.heap.size) s.heap H locs → W p l e (headSpec (ws_ yX5_fills cX5_fills 8 (some .int)) rm_X5_fills).room s m ([.ref (A 0), .int a1] : List Value).toArray below meth c H locs 0 0 (MQ below (QM (some (.int res.1)) D (MW A t (m_next' (m_ways' (m_s' μ res.2.1) res.2.2.1) res.2.2.2)) (ML A) s.heap.size) ([.ref (A 0), .int a1] : List Value).toArray s 0 0 (OA (ML A) s.heap.size)) (F0 m 127 ls [.int o429]) := by
                              intro ls H locs hl hP hD hS
                              have hSz : s.heap.size ≤ H.size := hS.1
                              refine lv_istore (lv' := [(5, .int o429), (0, .ref (A 0)), (1, .int a1), (2, .int v1), (3, .int y3_13), (4, .int y4_28), (6, .int y6_64)]) hx hb dX5_fills_127 hl (by decide) rfl (fun ls hl => ?_)
                              refine lv_iload hx hb dX5_fills_129 (lv_at hl 0 rfl) ?_
                              refine lv_if_ne (tgt := 151) hx hb dX5_fills_131 (by decide) (fun hc => ?_) (fun hc => ?_)
                              · have h := iteF hc h
                                obtain rfl := Option.some.inj h
                                exact hJ151_o426 ls H locs (lv_sub hl [1, 2, 3, 4, 5, 0, 6] rfl) hP hD hS
                              · have h := iteT hc h
                                refine lv_aload_n hx hb dX5_fills_134 rfl (lv_at hl 1 rfl) ?_
                                refine lv_iload_n hx hb dX5_fills_135 rfl (lv_at hl 2 rfl) ?_
                                refine lv_aload_n hx hb dX5_fills_136 rfl (lv_at hl 1 rfl) ?_
                                refine va_get hx hb hts inX5 hown hK hP 0 rfl rfl 0 (by decide) (hts _ qw967) (fun _ h9 => h9) rfl dX5_fills_137 ?_
                                refine lv_iload_n hx hb dX5_fills_140 rfl (lv_at hl 2 rfl) ?_
                                refine lv_sipush (v := (131)) hx hb dX5_fills_141 (by decide) ?_
                                refine lv_iadd hx hb dX5_fills_144 ?_
                                obtain ⟨v430, ev430, h⟩ := obind h
                                refine k_iald hx hb hK hP 1 rfl ev430 dX5_fills_145 ?_
                                refine lv_iconst (v := (1)) hx hb dX5_fills_146 (by decide) ?_
                                refine lv_isub hx hb dX5_fills_147 ?_
                                obtain ⟨r431, er431, h⟩ := obind h
                                refine call_M (va_runV (As := [.int a1, .int (v430 - (1 : Int32))]) (rest := []) ⟨hx, hb, hml, hown, hts⟩ (c_X5_lifts l z0 D t A (m_next' (m_ways' (m_s' μ r427) r428.2.1) r428.2.2) a1 (v430 - (1 : Int32)) _ H.size er431) (kV hts qw1058 qw1060 qs38 qw9 qw1061 ok_X5_lifts ⟨Nat.le_of_ble_eq_true rfl, Nat.le_of_ble_eq_true rfl⟩) ⟨PM.blind, va_recv hK hP (ci := 6) (q0 := 0) rfl rfl, fun U hU hW => ⟨rfl, by rw [hU]; exact (hC.at hS hZ).warm hW, by rw [hU], by rw [hU]; exact hP, ⟨hD.1, fun _ _ h9 => Or.inl (in_map (L := (ML A)) rfl h9)⟩, fun q hq => hZ q (OA.ofD hD rfl hSz q hq)⟩⟩ rfl rfl hl.1 rfl (lv_room (Nat.le_of_ble_eq_true rfl)) dX5_fills_148 ⟨Nat.le_of_ble_eq_true rfl, Nat.le_of_ble_eq_true rfl⟩) hS (OA.ofD hD rfl hSz) (fun H locs hP hD1 hS _ _ => ?_)
                                have hP : va_P D vwCl (MW A t (m_next' (m_ways' (m_s' μ r431) r428.2.1) r428.2.2)) H := hP
                                have hD : va_D (OA (ML A) s.heap.size) (MW A t (m_next' (m_ways' (m_s' μ r431) r428.2.1) r428.2.2)) := hD1.weaken (fun _ q _ h9 => OA.ofD hD rfl hSz q.1 h9)
                                have hSz : s.heap.size ≤ H.size := hS.1
                                obtain rfl := Option.some.inj h
                                exact hJ151_o426 ls H locs (lv_sub hl [1, 2, 3, 4, 5, 0, 6] rfl) hP hD hS
                            have h := eo429
                            clear eo429
                            refine lv_if_le (tgt := 126) hx hb dX5_fills_119 (by decide) (fun hc => ?_) (fun hc => ?_)
                            · have h := iteT hc h
                              refine lv_iconst (v := (0)) hx hb dX5_fills_126 (by decide) ?_
                              obtain rfl := Option.some.inj h
                              exact hJ127_o429 ls H locs (lv_sub hl [1, 2, 3, 4, 5, 7] rfl) hP hD hS
                            · have h := iteF hc h
                              refine lv_iconst (v := (1)) hx hb dX5_fills_122 (by decide) ?_
                              refine lv_goto (tgt := 127) hx hb dX5_fills_123 (by decide) ?_
                              obtain rfl := Option.some.inj h
                              exact hJ127_o429 ls H locs (lv_sub hl [1, 2, 3, 4, 5, 7] rfl) hP hD hS
                        have h := eo419
                        clear eo419
                        refine lv_if_ne (tgt := 87) hx hb dX5_fills_77 (by decide) (fun hc => ?_) (fun hc => ?_)
                        · have h := iteF hc h
                          refine lv_iload hx hb dX5_fills_87 (lv_at hl 4 rfl) ?_
                          obtain rfl := Option.some.inj h
                          exact hJ89_o419 ls H locs (lv_sub hl [0, 1, 2, 3, 4, 5, 6] rfl) hP hD hS
                        · have h := iteT hc h
                          refine lv_iload hx hb dX5_fills_80 (lv_at hl 4 rfl) ?_
                          refine lv_iconst (v := (1)) hx hb dX5_fills_82 (by decide) ?_
                          refine lv_isub hx hb dX5_fills_83 ?_
                          refine lv_goto (tgt := 89) hx hb dX5_fills_84 (by decide) ?_
                          obtain rfl := Option.some.inj h
                          exact hJ89_o419 ls H locs (lv_sub hl [0, 1, 2, 3, 4, 5, 6] rfl) hP hD hS
                refine hL64 _ _ _ _ _ _ _ eo418 (fun ls H locs hl hP hD hS => ?_) ls H locs (lv_sub hl [2, 3, 4, 5, 6, 1, 0] rfl) hP hD hS
                have hSz : s.heap.size ≤ H.size := hS.1
                obtain ⟨x433, ex433, h⟩ := jlet_some h
                refine lv_iinc (v := x433) (lv' := [(4, .int x433), (0, .ref (A 0)), (1, .int a1), (2, .int v1), (3, .int y3_13)]) hx hb dX5_fills_157 hl (k := 4) rfl (by rw [ex433]; rfl) (by decide) rfl (fun ls hl => ?_)
                refine lv_goto (tgt := 28) hx hb dX5_fills_160 (by decide) ?_
                exact ih _ _ _ _ _ h hK28 ls H locs (lv_sub hl [1, 2, 3, 4, 0] rfl) hP hD hS
              have h := eo389
              clear eo389
              refine lv_if_ne (tgt := 58) hx hb dX5_fills_51 (by decide) (fun hc => ?_) (fun hc => ?_)
              · have h := iteF hc h
                refine lv_iconst (v := (0)) hx hb dX5_fills_58 (by decide) ?_
                obtain rfl := Option.some.inj h
                exact hJ59_o389 ls H locs (lv_sub hl [0, 1, 2, 3, 4] rfl) hP hD hS
              · have h := iteT hc h
                refine lv_iconst (v := (1)) hx hb dX5_fills_54 (by decide) ?_
                refine lv_goto (tgt := 59) hx hb dX5_fills_55 (by decide) ?_
                obtain rfl := Option.some.inj h
                exact hJ59_o389 ls H locs (lv_sub hl [0, 1, 2, 3, 4] rfl) hP hD hS
        refine hL28 _ _ _ _ _ _ eo386 (fun ls H locs hl hP hD hS => ?_) ls H locs (lv_sub hl [1, 2, 3, 4, 0] rfl) hP hD hS
        have hSz : s.heap.size ≤ H.size := hS.1
        obtain ⟨x434, ex434, h⟩ := jlet_some h
        refine lv_iinc (v := x434) (lv' := [(3, .int x434), (0, .ref (A 0)), (1, .int a1), (2, .int v1)]) hx hb dX5_fills_163 hl (k := 3) rfl (by rw [ex434]; rfl) (by decide) rfl (fun ls hl => ?_)
        refine lv_goto (tgt := 13) hx hb dX5_fills_166 (by decide) ?_
        exact ih _ _ _ _ _ h hK13 ls H locs (lv_sub hl [1, 2, 3, 0] rfl) hP hD hS
  refine hL13 _ _ _ _ _ _ eo290 (fun ls H locs hl hP hD hS => ?_) ls H locs (lv_sub hl [2, 3, 1, 0] rfl) hP hD hS
  have hSz : s.heap.size ≤ H.size := hS.1
  refine lv_aload_n hx hb dX5_fills_169 rfl (lv_at hl 0 rfl) ?_
  refine va_get hx hb hts inX5 hown hK hP 0 rfl rfl 0 (by decide) (hts _ qw967) (fun _ h9 => h9) rfl dX5_fills_170 ?_
  refine lv_iload_n hx hb dX5_fills_173 rfl (lv_at hl 1 rfl) ?_
  refine lv_sipush (v := (131)) hx hb dX5_fills_174 (by decide) ?_
  refine lv_iadd hx hb dX5_fills_177 ?_
  obtain ⟨v435, ev435, h⟩ := obind h
  refine k_iald hx hb hK hP 1 rfl ev435 dX5_fills_178 ?_
  refine lv_iload_n hx hb dX5_fills_179 rfl (lv_at hl 2 rfl) ?_
  refine lv_isub hx hb dX5_fills_180 ?_
  obtain rfl := Option.some.inj h
  exact W.iret hx hb hr (fun t ht hW => ⟨rfl, by rw [ht]; exact hP, hD, hS.F ht⟩) hS.2.2 dX5_fills_181

abbrev rm_X5_fill : Room := { frames := 5, cells := 0, slots := 0, locals := 150 }
theorem ok_X5_fill : okY yX5_fill 0 := ⟨by decide +kernel, by decide +kernel, by decide +kernel⟩
set_option maxHeartbeats 4000000 in
set_option maxRecDepth 100000 in
theorem c_X5_fill (l : Launch) (z0 : Nat) (D : va_G) (t : Nat → ClassId) (A : Nat → Nat) (μ : MS) (res : Int32 × (Nat → Int32) × (Int32) × (Int32) × (Nat → Int32) × (Nat → Int32)) (sz : Nat) (h : f_X5_fill μ = some res) : Met l yX5_fill (ws_ yX5_fill cX5_fill 1 (some .int)) rm_X5_fill (PM z0 D t [.ref (A 0)] (MW A t μ) (ML A) sz) (QM (some (.int res.1)) D (MW A t (m_next' (m_ways' (m_thrown' (m_states' (m_s' μ res.2.1) res.2.2.1) res.2.2.2.1) res.2.2.2.2.1) res.2.2.2.2.2)) (ML A) sz) 0 0 (OA (ML A) sz) := by
  refine Met.ofW (cc := cX5_fill) (maxL := 1) (ret := (some .int)) (by decide) rfl ?_
  intro p e s m args below meth c s₁ Bo hml hv
  obtain ⟨rfl, hC, hsz, hP, hD, hZ⟩ := hv
  have hx := Bo.exec
  have hb := Bo.bytes
  have hr := Bo.returns
  have hts : ∀ w ∈ LA, w.before _ s = true := fun w hw => atoms_spec (ws := ws_ yX5_fill cX5_fill 1 (some .int)) Bo.pre w (List.mem_cons_of_mem _ hw)
  have hown : s.vm.findClass RX5 = some m.cls := findClass_of_methodNamed Bo.named
  have hlocks := Bo.notSynchronized
  have hK := hC.1
  subst hsz
  have hl := lv_entry ([.ref (A 0)]) (n := 1) (Nat.le_of_ble_eq_true rfl)
  rw [lg_entry_eq]
  generalize (lg_sl ([.ref (A 0)]) ++ List.replicate (1 - (lg_sl ([.ref (A 0)])).length) Slot.unset).toArray = ls at hl ⊢
  have hl : lv_has ls 1 [(0, .ref (A 0))] := hl
  suffices K9 : ∀ (H : Heap) (locs : List Loc), va_P D vwCl (MW A t μ) H → va_S (OA (ML A) s.heap.size) s.heap H locs → W p l e (headSpec (ws_ yX5_fill cX5_fill 1 (some .int)) rm_X5_fill).room s m ([.ref (A 0)] : List Value).toArray below meth c H locs 0 0 (MQ below (QM (some (.int res.1)) D (MW A t (m_next' (m_ways' (m_thrown' (m_states' (m_s' μ res.2.1) res.2.2.1) res.2.2.2.1) res.2.2.2.2.1) res.2.2.2.2.2)) (ML A) s.heap.size) ([.ref (A 0)] : List Value).toArray s 0 0 (OA (ML A) s.heap.size)) (F0 m 0 ls []) from K9 s.heap [] hP va_S.rf
  intro H locs hP hS
  have hSz : s.heap.size ≤ H.size := hS.1
  unfold f_X5_fill at h
  refine lv_aload_n hx hb dX5_fill_0 rfl (lv_at hl 0 rfl) ?_
  refine lv_aload_n hx hb dX5_fill_1 rfl (lv_at hl 0 rfl) ?_
  refine lv_iconst (v := (0)) hx hb dX5_fill_2 (by decide) ?_
  obtain ⟨r1, er1, h⟩ := obind h
  refine call_M (va_runV (As := [.int (0 : Int32)]) (rest := [.ref (A 0)]) ⟨hx, hb, hml, hown, hts⟩ (c_X5_paves l z0 D t A μ (0 : Int32) _ H.size er1) (kV hts qw1078 qw1080 qs41 qw9 qw1081 ok_X5_paves ⟨Nat.le_of_ble_eq_true rfl, Nat.le_of_ble_eq_true rfl⟩) ⟨PM.blind, va_recv hK hP (ci := 6) (q0 := 0) rfl rfl, fun U hU hW => ⟨rfl, by rw [hU]; exact (hC.at hS hZ).warm hW, by rw [hU], by rw [hU]; exact hP, ⟨hD.1, fun _ _ h9 => Or.inl (in_map (L := (ML A)) rfl h9)⟩, fun q hq => hZ q (OA.ofD hD rfl hSz q hq)⟩⟩ rfl rfl hl.1 rfl (lv_room (Nat.le_of_ble_eq_true rfl)) dX5_fill_3 ⟨Nat.le_of_ble_eq_true rfl, Nat.le_of_ble_eq_true rfl⟩) hS (OA.ofD hD rfl hSz) (fun H locs hP hD1 hS _ _ => ?_)
  have hP : va_P D vwCl (MW A t (m_next' (m_ways' μ r1.2.1) r1.2.2)) H := hP
  have hD : va_D (OA (ML A) s.heap.size) (MW A t (m_next' (m_ways' μ r1.2.1) r1.2.2)) := hD1.weaken (fun _ q _ h9 => OA.ofD hD rfl hSz q.1 h9)
  have hSz : s.heap.size ≤ H.size := hS.1
  obtain ⟨o2, eo2, h⟩ := obind h
  have hJ14_o2 : ∀ (ls : Array Slot) (H : Heap) (locs : List Loc), lv_has ls 1 [(0, .ref (A 0))] → va_P D vwCl (MW A t (m_next' (m_ways' μ r1.2.1) r1.2.2)) H → va_D (OA (ML A) s.heap.size) (MW A t (m_next' (m_ways' μ r1.2.1) r1.2.2)) → va_S (OA (ML A) s.heap.size) s.heap H locs → W p l e (headSpec (ws_ yX5_fill cX5_fill 1 (some .int)) rm_X5_fill).room s m ([.ref (A 0)] : List Value).toArray below meth c H locs 0 0 (MQ below (QM (some (.int res.1)) D (MW A t (m_next' (m_ways' (m_thrown' (m_states' (m_s' μ res.2.1) res.2.2.1) res.2.2.2.1) res.2.2.2.2.1) res.2.2.2.2.2)) (ML A) s.heap.size) ([.ref (A 0)] : List Value).toArray s 0 0 (OA (ML A) s.heap.size)) (F0 m 14 ls [.int o2, .ref (A 0)]) := by
    intro ls H locs hl hP hD hS
    have hSz : s.heap.size ≤ H.size := hS.1
    refine lv_iconst (v := (1)) hx hb dX5_fill_14 (by decide) ?_
    obtain ⟨r3, er3, h⟩ := obind h
    refine call_M (va_runV (As := [.int o2, .int (1 : Int32)]) (rest := []) ⟨hx, hb, hml, hown, hts⟩ (c_X5_goes l z0 D t A (m_next' (m_ways' μ r1.2.1) r1.2.2) o2 (1 : Int32) _ H.size er3) (kV hts qw1011 qw1013 qs31 qw9 qw1014 ok_X5_goes ⟨Nat.le_of_ble_eq_true rfl, Nat.le_of_ble_eq_true rfl⟩) ⟨PM.blind, va_recv hK hP (ci := 6) (q0 := 0) rfl rfl, fun U hU hW => ⟨rfl, by rw [hU]; exact (hC.at hS hZ).warm hW, by rw [hU], by rw [hU]; exact hP, ⟨hD.1, fun _ _ h9 => Or.inl (in_map (L := (ML A)) rfl h9)⟩, fun q hq => hZ q (OA.ofD hD rfl hSz q hq)⟩⟩ rfl rfl hl.1 rfl (lv_room (Nat.le_of_ble_eq_true rfl)) dX5_fill_15 ⟨Nat.le_of_ble_eq_true rfl, Nat.le_of_ble_eq_true rfl⟩) hS (OA.ofD hD rfl hSz) (fun H locs hP hD1 hS _ _ => ?_)
    have hP : va_P D vwCl (MW A t (m_next' (m_ways' (m_thrown' μ r3.2) r1.2.1) r1.2.2)) H := hP
    have hD : va_D (OA (ML A) s.heap.size) (MW A t (m_next' (m_ways' (m_thrown' μ r3.2) r1.2.1) r1.2.2)) := hD1.weaken (fun _ q _ h9 => OA.ofD hD rfl hSz q.1 h9)
    have hSz : s.heap.size ≤ H.size := hS.1
    refine lv_if_ne (tgt := 23) hx hb dX5_fill_18 (by decide) (fun hc => ?_) (fun hc => ?_)
    · have h := iteF hc h
      refine lv_aload_n hx hb dX5_fill_23 rfl (lv_at hl 0 rfl) ?_
      obtain ⟨r4, er4, h⟩ := obind h
      refine call_M (va_runV (As := []) (rest := []) ⟨hx, hb, hml, hown, hts⟩ (c_X5_saves l z0 D t A (m_next' (m_ways' (m_thrown' μ r3.2) r1.2.1) r1.2.2) _ H.size er4) (kV hts qw1015 qw1017 qs32 qw9 qw1018 ok_X5_saves ⟨Nat.le_of_ble_eq_true rfl, Nat.le_of_ble_eq_true rfl⟩) ⟨PM.blind, va_recv hK hP (ci := 6) (q0 := 0) rfl rfl, fun U hU hW => ⟨rfl, by rw [hU]; exact (hC.at hS hZ).warm hW, by rw [hU], by rw [hU]; exact hP, ⟨hD.1, fun _ _ h9 => Or.inl (in_map (L := (ML A)) rfl h9)⟩, fun q hq => hZ q (OA.ofD hD rfl hSz q hq)⟩⟩ rfl rfl hl.1 rfl (lv_room (Nat.le_of_ble_eq_true rfl)) dX5_fill_24 ⟨Nat.le_of_ble_eq_true rfl, Nat.le_of_ble_eq_true rfl⟩) hS (OA.ofD hD rfl hSz) (fun H locs hP hD1 hS _ _ => ?_)
      have hP : va_P D vwCl (MW A t (m_next' (m_ways' (m_thrown' (m_states' (m_s' μ r4.1) r4.2) r3.2) r1.2.1) r1.2.2)) H := hP
      have hD : va_D (OA (ML A) s.heap.size) (MW A t (m_next' (m_ways' (m_thrown' (m_states' (m_s' μ r4.1) r4.2) r3.2) r1.2.1) r1.2.2)) := hD1.weaken (fun _ q _ h9 => OA.ofD hD rfl hSz q.1 h9)
      have hSz : s.heap.size ≤ H.size := hS.1
      refine lv_aload_n hx hb dX5_fill_27 rfl (lv_at hl 0 rfl) ?_
      refine lv_iconst (v := (0)) hx hb dX5_fill_28 (by decide) ?_
      obtain ⟨r5, er5, h⟩ := obind h
      refine call_M (va_runV (As := [.int (0 : Int32)]) (rest := []) ⟨hx, hb, hml, hown, hts⟩ (c_X5_fills l z0 D t A (m_next' (m_ways' (m_thrown' (m_states' (m_s' μ r4.1) r4.2) r3.2) r1.2.1) r1.2.2) (0 : Int32) _ H.size er5) (kV hts qw1098 qw1100 qs46 qw9 qw1101 ok_X5_fills ⟨Nat.le_of_ble_eq_true rfl, Nat.le_of_ble_eq_true rfl⟩) ⟨PM.blind, va_recv hK hP (ci := 6) (q0 := 0) rfl rfl, fun U hU hW => ⟨rfl, by rw [hU]; exact (hC.at hS hZ).warm hW, by rw [hU], by rw [hU]; exact hP, ⟨hD.1, fun _ _ h9 => Or.inl (in_map (L := (ML A)) rfl h9)⟩, fun q hq => hZ q (OA.ofD hD rfl hSz q hq)⟩⟩ rfl rfl hl.1 rfl (lv_room (Nat.le_of_ble_eq_true rfl)) dX5_fill_29 ⟨Nat.le_of_ble_eq_true rfl, Nat.le_of_ble_eq_true rfl⟩) hS (OA.ofD hD rfl hSz) (fun H locs hP hD1 hS _ _ => ?_)
      have hP : va_P D vwCl (MW A t (m_next' (m_ways' (m_thrown' (m_states' (m_s' μ r5.2.1) r4.2) r3.2) r5.2.2.1) r5.2.2.2)) H := hP
      have hD : va_D (OA (ML A) s.heap.size) (MW A t (m_next' (m_ways' (m_thrown' (m_states' (m_s' μ r5.2.1) r4.2) r3.2) r5.2.2.1) r5.2.2.2)) := hD1.weaken (fun _ q _ h9 => OA.ofD hD rfl hSz q.1 h9)
      have hSz : s.heap.size ≤ H.size := hS.1
      obtain rfl := Option.some.inj h
      exact W.iret hx hb hr (fun t ht hW => ⟨rfl, by rw [ht]; exact hP, hD, hS.F ht⟩) hS.2.2 dX5_fill_32
    · have h := iteT hc h
      refine lv_iconst (v := (0)) hx hb dX5_fill_21 (by decide) ?_
      obtain rfl := Option.some.inj h
      exact W.iret hx hb hr (fun t ht hW => ⟨rfl, by rw [ht]; exact hP, hD, hS.F ht⟩) hS.2.2 dX5_fill_22
  have h := eo2
  clear eo2
  refine lv_if_le (tgt := 13) hx hb dX5_fill_6 (by decide) (fun hc => ?_) (fun hc => ?_)
  · have h := iteT hc h
    refine lv_iconst (v := (0)) hx hb dX5_fill_13 (by decide) ?_
    obtain rfl := Option.some.inj h
    exact hJ14_o2 ls H locs (lv_sub hl [0] rfl) hP hD hS
  · have h := iteF hc h
    refine lv_iconst (v := (1)) hx hb dX5_fill_9 (by decide) ?_
    refine lv_goto (tgt := 14) hx hb dX5_fill_10 (by decide) ?_
    obtain rfl := Option.some.inj h
    exact hJ14_o2 ls H locs (lv_sub hl [0] rfl) hP hD hS

abbrev rm_X5_areSquares : Room := { frames := 1, cells := 0, slots := 0, locals := 22 }
theorem ok_X5_areSquares : okY yX5_areSquares 0 := ⟨by decide +kernel, by decide +kernel, by decide +kernel⟩
set_option maxHeartbeats 4000000 in
set_option maxRecDepth 100000 in
theorem c_X5_areSquares (l : Launch) (z0 : Nat) (D : va_G) (t : Nat → ClassId) (A : Nat → Nat) (μ : MS) (res : Int32) (h : f_X5_areSquares μ = some res) : Met l yX5_areSquares (ws_ yX5_areSquares cX5_areSquares 2 (some .boolean)) rm_X5_areSquares (PR z0 D t [.ref (A 0)] (MW A t μ)) (QR (some (.int res))) 0 0 FN := by
  refine Met.ofW (cc := cX5_areSquares) (maxL := 2) (ret := (some .boolean)) (by decide) rfl ?_
  intro p e s m args below meth c s₁ Bo hml hv
  obtain ⟨rfl, hC, hP⟩ := hv
  have hx := Bo.exec
  have hb := Bo.bytes
  have hr := Bo.returns
  have hts : ∀ w ∈ LA, w.before _ s = true := fun w hw => atoms_spec (ws := ws_ yX5_areSquares cX5_areSquares 2 (some .boolean)) Bo.pre w (List.mem_cons_of_mem _ hw)
  have hown : s.vm.findClass RX5 = some m.cls := findClass_of_methodNamed Bo.named
  have hlocks := Bo.notSynchronized
  have hK := hC.1
  have hl := lv_entry ([.ref (A 0)]) (n := 2) (Nat.le_of_ble_eq_true rfl)
  rw [lg_entry_eq]
  generalize (lg_sl ([.ref (A 0)]) ++ List.replicate (2 - (lg_sl ([.ref (A 0)])).length) Slot.unset).toArray = ls at hl ⊢
  have hl : lv_has ls 2 [(0, .ref (A 0))] := hl
  unfold f_X5_areSquares at h
  refine lv_aload_n hx hb dX5_areSquares_0 rfl (lv_at hl 0 rfl) ?_
  refine va_get hx hb hts inX5 hown hK hP 0 rfl rfl 0 (by decide) (hts _ qw967) (fun _ h9 => h9) rfl dX5_areSquares_1 ?_
  refine lv_iconst (v := (0)) hx hb dX5_areSquares_4 (by decide) ?_
  obtain ⟨v1, ev1, h⟩ := obind h
  refine k_iald hx hb hK hP 1 rfl ev1 dX5_areSquares_5 ?_
  refine lv_istore_n (lv' := [(1, .int v1), (0, .ref (A 0))]) hx hb dX5_areSquares_6 rfl hl (by decide) rfl (fun ls hl => ?_)
  refine lv_iload_n hx hb dX5_areSquares_7 rfl (lv_at hl 0 rfl) ?_
  refine lv_aload_n hx hb dX5_areSquares_8 rfl (lv_at hl 1 rfl) ?_
  refine va_get hx hb hts inX5 hown hK hP 0 rfl rfl 0 (by decide) (hts _ qw967) (fun _ h9 => h9) rfl dX5_areSquares_9 ?_
  refine lv_iconst (v := (1)) hx hb dX5_areSquares_12 (by decide) ?_
  obtain ⟨v2, ev2, h⟩ := obind h
  refine k_iald hx hb hK hP 1 rfl ev2 dX5_areSquares_13 ?_
  refine lv_icmp_ne (tgt := 55) hx hb dX5_areSquares_14 (by decide) (fun hc => ?_) (fun hc => ?_)
  · have h := iteF hc h
    refine lv_iconst (v := (0)) hx hb dX5_areSquares_55 (by decide) ?_
    obtain rfl := Option.some.inj h
    exact W.zret hx hb hr rfl (fun t ht hW => ⟨rfl, ht⟩) (fun q hq => absurd hq List.not_mem_nil) dX5_areSquares_56
  · have h := iteT hc h
    refine lv_iload_n hx hb dX5_areSquares_17 rfl (lv_at hl 0 rfl) ?_
    refine lv_iconst (v := (2)) hx hb dX5_areSquares_18 (by decide) ?_
    refine lv_icmp_eq (tgt := 33) hx hb dX5_areSquares_19 (by decide) (fun hc => ?_) (fun hc => ?_)
    · have h := iteT hc h
      refine lv_aload_n hx hb dX5_areSquares_33 rfl (lv_at hl 1 rfl) ?_
      obtain ⟨r3, er3, h⟩ := obind h
      refine call_R (va_runV (As := []) (rest := []) ⟨hx, hb, hml, hown, hts⟩ (c_X5_walls l z0 D t A μ _ er3) (kV hts qw1035 qw1037 qs35 qw9 qw1038 ok_X5_walls ⟨Nat.le_of_ble_eq_true rfl, Nat.le_of_ble_eq_true rfl⟩) ⟨PR.blind, va_recv hK hP (ci := 6) (q0 := 0) rfl rfl, fun U hU hW => ⟨rfl, by rw [hU]; exact hC.warm hW, by rw [hU]; exact hP⟩⟩ rfl rfl hl.1 rfl (lv_room (Nat.le_of_ble_eq_true rfl)) dX5_areSquares_34 ⟨Nat.le_of_ble_eq_true rfl, Nat.le_of_ble_eq_true rfl⟩) ?_
      refine lv_if_ne (tgt := 55) hx hb dX5_areSquares_37 (by decide) (fun hc => ?_) (fun hc => ?_)
      · have h := iteF hc h
        refine lv_iconst (v := (0)) hx hb dX5_areSquares_55 (by decide) ?_
        obtain rfl := Option.some.inj h
        exact W.zret hx hb hr rfl (fun t ht hW => ⟨rfl, ht⟩) (fun q hq => absurd hq List.not_mem_nil) dX5_areSquares_56
      · have h := iteT hc h
        refine lv_aload_n hx hb dX5_areSquares_40 rfl (lv_at hl 1 rfl) ?_
        refine va_get hx hb hts inX5 hown hK hP 0 rfl rfl 0 (by decide) (hts _ qw967) (fun _ h9 => h9) rfl dX5_areSquares_41 ?_
        refine lv_sipush (v := (131)) hx hb dX5_areSquares_44 (by decide) ?_
        obtain ⟨v4, ev4, h⟩ := obind h
        refine k_iald hx hb hK hP 1 rfl ev4 dX5_areSquares_47 ?_
        refine lv_if_ne (tgt := 55) hx hb dX5_areSquares_48 (by decide) (fun hc => ?_) (fun hc => ?_)
        · have h := iteF hc h
          refine lv_iconst (v := (0)) hx hb dX5_areSquares_55 (by decide) ?_
          obtain rfl := Option.some.inj h
          exact W.zret hx hb hr rfl (fun t ht hW => ⟨rfl, ht⟩) (fun q hq => absurd hq List.not_mem_nil) dX5_areSquares_56
        · have h := iteT hc h
          refine lv_iconst (v := (1)) hx hb dX5_areSquares_51 (by decide) ?_
          refine lv_goto (tgt := 56) hx hb dX5_areSquares_52 (by decide) ?_
          obtain rfl := Option.some.inj h
          exact W.zret hx hb hr rfl (fun t ht hW => ⟨rfl, ht⟩) (fun q hq => absurd hq List.not_mem_nil) dX5_areSquares_56
    · have h := iteF hc h
      refine lv_iload_n hx hb dX5_areSquares_22 rfl (lv_at hl 0 rfl) ?_
      refine lv_iconst (v := (4)) hx hb dX5_areSquares_23 (by decide) ?_
      refine lv_icmp_eq (tgt := 33) hx hb dX5_areSquares_24 (by decide) (fun hc => ?_) (fun hc => ?_)
      · have h := iteT hc h
        refine lv_aload_n hx hb dX5_areSquares_33 rfl (lv_at hl 1 rfl) ?_
        obtain ⟨r5, er5, h⟩ := obind h
        refine call_R (va_runV (As := []) (rest := []) ⟨hx, hb, hml, hown, hts⟩ (c_X5_walls l z0 D t A μ _ er5) (kV hts qw1035 qw1037 qs35 qw9 qw1038 ok_X5_walls ⟨Nat.le_of_ble_eq_true rfl, Nat.le_of_ble_eq_true rfl⟩) ⟨PR.blind, va_recv hK hP (ci := 6) (q0 := 0) rfl rfl, fun U hU hW => ⟨rfl, by rw [hU]; exact hC.warm hW, by rw [hU]; exact hP⟩⟩ rfl rfl hl.1 rfl (lv_room (Nat.le_of_ble_eq_true rfl)) dX5_areSquares_34 ⟨Nat.le_of_ble_eq_true rfl, Nat.le_of_ble_eq_true rfl⟩) ?_
        refine lv_if_ne (tgt := 55) hx hb dX5_areSquares_37 (by decide) (fun hc => ?_) (fun hc => ?_)
        · have h := iteF hc h
          refine lv_iconst (v := (0)) hx hb dX5_areSquares_55 (by decide) ?_
          obtain rfl := Option.some.inj h
          exact W.zret hx hb hr rfl (fun t ht hW => ⟨rfl, ht⟩) (fun q hq => absurd hq List.not_mem_nil) dX5_areSquares_56
        · have h := iteT hc h
          refine lv_aload_n hx hb dX5_areSquares_40 rfl (lv_at hl 1 rfl) ?_
          refine va_get hx hb hts inX5 hown hK hP 0 rfl rfl 0 (by decide) (hts _ qw967) (fun _ h9 => h9) rfl dX5_areSquares_41 ?_
          refine lv_sipush (v := (131)) hx hb dX5_areSquares_44 (by decide) ?_
          obtain ⟨v6, ev6, h⟩ := obind h
          refine k_iald hx hb hK hP 1 rfl ev6 dX5_areSquares_47 ?_
          refine lv_if_ne (tgt := 55) hx hb dX5_areSquares_48 (by decide) (fun hc => ?_) (fun hc => ?_)
          · have h := iteF hc h
            refine lv_iconst (v := (0)) hx hb dX5_areSquares_55 (by decide) ?_
            obtain rfl := Option.some.inj h
            exact W.zret hx hb hr rfl (fun t ht hW => ⟨rfl, ht⟩) (fun q hq => absurd hq List.not_mem_nil) dX5_areSquares_56
          · have h := iteT hc h
            refine lv_iconst (v := (1)) hx hb dX5_areSquares_51 (by decide) ?_
            refine lv_goto (tgt := 56) hx hb dX5_areSquares_52 (by decide) ?_
            obtain rfl := Option.some.inj h
            exact W.zret hx hb hr rfl (fun t ht hW => ⟨rfl, ht⟩) (fun q hq => absurd hq List.not_mem_nil) dX5_areSquares_56
      · have h := iteF hc h
        refine lv_iload_n hx hb dX5_areSquares_27 rfl (lv_at hl 0 rfl) ?_
        refine lv_bipush (v := (8)) hx hb dX5_areSquares_28 (by decide) ?_
        refine lv_icmp_ne (tgt := 55) hx hb dX5_areSquares_30 (by decide) (fun hc => ?_) (fun hc => ?_)
        · have h := iteF hc h
          refine lv_iconst (v := (0)) hx hb dX5_areSquares_55 (by decide) ?_
          obtain rfl := Option.some.inj h
          exact W.zret hx hb hr rfl (fun t ht hW => ⟨rfl, ht⟩) (fun q hq => absurd hq List.not_mem_nil) dX5_areSquares_56
        · have h := iteT hc h
          refine lv_aload_n hx hb dX5_areSquares_33 rfl (lv_at hl 1 rfl) ?_
          obtain ⟨r7, er7, h⟩ := obind h
          refine call_R (va_runV (As := []) (rest := []) ⟨hx, hb, hml, hown, hts⟩ (c_X5_walls l z0 D t A μ _ er7) (kV hts qw1035 qw1037 qs35 qw9 qw1038 ok_X5_walls ⟨Nat.le_of_ble_eq_true rfl, Nat.le_of_ble_eq_true rfl⟩) ⟨PR.blind, va_recv hK hP (ci := 6) (q0 := 0) rfl rfl, fun U hU hW => ⟨rfl, by rw [hU]; exact hC.warm hW, by rw [hU]; exact hP⟩⟩ rfl rfl hl.1 rfl (lv_room (Nat.le_of_ble_eq_true rfl)) dX5_areSquares_34 ⟨Nat.le_of_ble_eq_true rfl, Nat.le_of_ble_eq_true rfl⟩) ?_
          refine lv_if_ne (tgt := 55) hx hb dX5_areSquares_37 (by decide) (fun hc => ?_) (fun hc => ?_)
          · have h := iteF hc h
            refine lv_iconst (v := (0)) hx hb dX5_areSquares_55 (by decide) ?_
            obtain rfl := Option.some.inj h
            exact W.zret hx hb hr rfl (fun t ht hW => ⟨rfl, ht⟩) (fun q hq => absurd hq List.not_mem_nil) dX5_areSquares_56
          · have h := iteT hc h
            refine lv_aload_n hx hb dX5_areSquares_40 rfl (lv_at hl 1 rfl) ?_
            refine va_get hx hb hts inX5 hown hK hP 0 rfl rfl 0 (by decide) (hts _ qw967) (fun _ h9 => h9) rfl dX5_areSquares_41 ?_
            refine lv_sipush (v := (131)) hx hb dX5_areSquares_44 (by decide) ?_
            obtain ⟨v8, ev8, h⟩ := obind h
            refine k_iald hx hb hK hP 1 rfl ev8 dX5_areSquares_47 ?_
            refine lv_if_ne (tgt := 55) hx hb dX5_areSquares_48 (by decide) (fun hc => ?_) (fun hc => ?_)
            · have h := iteF hc h
              refine lv_iconst (v := (0)) hx hb dX5_areSquares_55 (by decide) ?_
              obtain rfl := Option.some.inj h
              exact W.zret hx hb hr rfl (fun t ht hW => ⟨rfl, ht⟩) (fun q hq => absurd hq List.not_mem_nil) dX5_areSquares_56
            · have h := iteT hc h
              refine lv_iconst (v := (1)) hx hb dX5_areSquares_51 (by decide) ?_
              refine lv_goto (tgt := 56) hx hb dX5_areSquares_52 (by decide) ?_
              obtain rfl := Option.some.inj h
              exact W.zret hx hb hr rfl (fun t ht hW => ⟨rfl, ht⟩) (fun q hq => absurd hq List.not_mem_nil) dX5_areSquares_56

abbrev rm_X5_pushes : Room := { frames := 0, cells := 0, slots := 0, locals := 0 }
theorem ok_X5_pushes : okY yX5_pushes 5 := ⟨by decide +kernel, by decide +kernel, by decide +kernel⟩
set_option maxHeartbeats 4000000 in
set_option maxRecDepth 100000 in
theorem c_X5_pushes (l : Launch) (z0 : Nat) (D : va_G) (t : Nat → ClassId) (A : Nat → Nat) (μ : MS) (a1 : Int32) (a2 : Int32) (a3 : Int32) (a4 : Int32) (a5 : Int32) (res : (Nat → Int32)) (sz : Nat) (h : f_X5_pushes μ a1 a2 a3 a4 a5 = some res) : Met l yX5_pushes (ws_ yX5_pushes cX5_pushes 6 none) rm_X5_pushes (PM z0 D t [.ref (A 0), .int a1, .int a2, .int a3, .int a4, .int a5] (MW A t μ) (ML A) sz) (QM none D (MW A t (m_square' μ res)) (ML A) sz) 0 0 (OA (ML A) sz) := by
  refine Met.ofW (cc := cX5_pushes) (maxL := 6) (ret := none) (by decide) rfl ?_
  intro p e s m args below meth c s₁ Bo hml hv
  obtain ⟨rfl, hC, hsz, hP, hD, hZ⟩ := hv
  have hx := Bo.exec
  have hb := Bo.bytes
  have hr := Bo.returns
  have hts : ∀ w ∈ LA, w.before _ s = true := fun w hw => atoms_spec (ws := ws_ yX5_pushes cX5_pushes 6 none) Bo.pre w (List.mem_cons_of_mem _ hw)
  have hown : s.vm.findClass RX5 = some m.cls := findClass_of_methodNamed Bo.named
  have hlocks := Bo.notSynchronized
  have hK := hC.1
  subst hsz
  have hl := lv_entry ([.ref (A 0), .int a1, .int a2, .int a3, .int a4, .int a5]) (n := 6) (Nat.le_of_ble_eq_true rfl)
  rw [lg_entry_eq]
  generalize (lg_sl ([.ref (A 0), .int a1, .int a2, .int a3, .int a4, .int a5]) ++ List.replicate (6 - (lg_sl ([.ref (A 0), .int a1, .int a2, .int a3, .int a4, .int a5])).length) Slot.unset).toArray = ls at hl ⊢
  have hl : lv_has ls 6 [(0, .ref (A 0)), (1, .int a1), (2, .int a2), (3, .int a3), (4, .int a4), (5, .int a5)] := hl
  suffices K9 : ∀ (H : Heap) (locs : List Loc), va_P D vwCl (MW A t μ) H → va_S (OA (ML A) s.heap.size) s.heap H locs → W p l e (headSpec (ws_ yX5_pushes cX5_pushes 6 none) rm_X5_pushes).room s m ([.ref (A 0), .int a1, .int a2, .int a3, .int a4, .int a5] : List Value).toArray below meth c H locs 0 0 (MQ below (QM none D (MW A t (m_square' μ res)) (ML A) s.heap.size) ([.ref (A 0), .int a1, .int a2, .int a3, .int a4, .int a5] : List Value).toArray s 0 0 (OA (ML A) s.heap.size)) (F0 m 0 ls []) from K9 s.heap [] hP va_S.rf
  intro H locs hP hS
  have hSz : s.heap.size ≤ H.size := hS.1
  unfold f_X5_pushes at h
  refine lv_aload_n hx hb dX5_pushes_0 rfl (lv_at hl 0 rfl) ?_
  refine va_get hx hb hts inX5 hown hK hP 0 rfl rfl 9 (by decide) (hts _ qw976) (fun _ h9 => h9) rfl dX5_pushes_1 ?_
  refine lv_iconst (v := (5)) hx hb dX5_pushes_4 (by decide) ?_
  refine lv_iload_n hx hb dX5_pushes_5 rfl (lv_at hl 1 rfl) ?_
  refine lv_imul hx hb dX5_pushes_6 ?_
  refine lv_iload_n hx hb dX5_pushes_7 rfl (lv_at hl 2 rfl) ?_
  obtain ⟨f1, ef1, h⟩ := obind h
  refine k_iast (ws' := (MW A t (m_square' μ f1))) hx hb hK hP hD hS 6 rfl ef1 rfl dX5_pushes_8 (fun H locs hP hD hS => ?_)
  have hSz : s.heap.size ≤ H.size := hS.1
  refine lv_aload_n hx hb dX5_pushes_9 rfl (lv_at hl 0 rfl) ?_
  refine va_get hx hb hts inX5 hown hK hP 0 rfl rfl 9 (by decide) (hts _ qw976) (fun _ h9 => h9) rfl dX5_pushes_10 ?_
  refine lv_iconst (v := (5)) hx hb dX5_pushes_13 (by decide) ?_
  refine lv_iload_n hx hb dX5_pushes_14 rfl (lv_at hl 1 rfl) ?_
  refine lv_imul hx hb dX5_pushes_15 ?_
  refine lv_iconst (v := (1)) hx hb dX5_pushes_16 (by decide) ?_
  refine lv_iadd hx hb dX5_pushes_17 ?_
  refine lv_iload_n hx hb dX5_pushes_18 rfl (lv_at hl 3 rfl) ?_
  obtain ⟨f2, ef2, h⟩ := obind h
  refine k_iast (ws' := (MW A t (m_square' μ f2))) hx hb hK hP hD hS 6 rfl ef2 rfl dX5_pushes_19 (fun H locs hP hD hS => ?_)
  have hSz : s.heap.size ≤ H.size := hS.1
  refine lv_aload_n hx hb dX5_pushes_20 rfl (lv_at hl 0 rfl) ?_
  refine va_get hx hb hts inX5 hown hK hP 0 rfl rfl 9 (by decide) (hts _ qw976) (fun _ h9 => h9) rfl dX5_pushes_21 ?_
  refine lv_iconst (v := (5)) hx hb dX5_pushes_24 (by decide) ?_
  refine lv_iload_n hx hb dX5_pushes_25 rfl (lv_at hl 1 rfl) ?_
  refine lv_imul hx hb dX5_pushes_26 ?_
  refine lv_iconst (v := (2)) hx hb dX5_pushes_27 (by decide) ?_
  refine lv_iadd hx hb dX5_pushes_28 ?_
  refine lv_iload hx hb dX5_pushes_29 (lv_at hl 4 rfl) ?_
  obtain ⟨f3, ef3, h⟩ := obind h
  refine k_iast (ws' := (MW A t (m_square' μ f3))) hx hb hK hP hD hS 6 rfl ef3 rfl dX5_pushes_31 (fun H locs hP hD hS => ?_)
  have hSz : s.heap.size ≤ H.size := hS.1
  refine lv_aload_n hx hb dX5_pushes_32 rfl (lv_at hl 0 rfl) ?_
  refine va_get hx hb hts inX5 hown hK hP 0 rfl rfl 9 (by decide) (hts _ qw976) (fun _ h9 => h9) rfl dX5_pushes_33 ?_
  refine lv_iconst (v := (5)) hx hb dX5_pushes_36 (by decide) ?_
  refine lv_iload_n hx hb dX5_pushes_37 rfl (lv_at hl 1 rfl) ?_
  refine lv_imul hx hb dX5_pushes_38 ?_
  refine lv_iconst (v := (3)) hx hb dX5_pushes_39 (by decide) ?_
  refine lv_iadd hx hb dX5_pushes_40 ?_
  refine lv_iload hx hb dX5_pushes_41 (lv_at hl 5 rfl) ?_
  refine lv_bipush (v := (8)) hx hb dX5_pushes_43 (by decide) ?_
  refine lv_irem hx hb dX5_pushes_45 (by decide) ?_
  obtain ⟨f4, ef4, h⟩ := obind h
  refine k_iast (ws' := (MW A t (m_square' μ f4))) hx hb hK hP hD hS 6 rfl ef4 rfl dX5_pushes_46 (fun H locs hP hD hS => ?_)
  have hSz : s.heap.size ≤ H.size := hS.1
  refine lv_aload_n hx hb dX5_pushes_47 rfl (lv_at hl 0 rfl) ?_
  refine va_get hx hb hts inX5 hown hK hP 0 rfl rfl 9 (by decide) (hts _ qw976) (fun _ h9 => h9) rfl dX5_pushes_48 ?_
  refine lv_iconst (v := (5)) hx hb dX5_pushes_51 (by decide) ?_
  refine lv_iload_n hx hb dX5_pushes_52 rfl (lv_at hl 1 rfl) ?_
  refine lv_imul hx hb dX5_pushes_53 ?_
  refine lv_iconst (v := (4)) hx hb dX5_pushes_54 (by decide) ?_
  refine lv_iadd hx hb dX5_pushes_55 ?_
  refine lv_iload hx hb dX5_pushes_56 (lv_at hl 5 rfl) ?_
  refine lv_bipush (v := (8)) hx hb dX5_pushes_58 (by decide) ?_
  refine lv_idiv hx hb dX5_pushes_60 (by decide) ?_
  obtain ⟨f5, ef5, h⟩ := obind h
  refine k_iast (ws' := (MW A t (m_square' μ f5))) hx hb hK hP hD hS 6 rfl ef5 rfl dX5_pushes_61 (fun H locs hP hD hS => ?_)
  have hSz : s.heap.size ≤ H.size := hS.1
  obtain rfl := Option.some.inj h
  exact W.vret hx hb hr (fun t ht hW => ⟨rfl, by rw [ht]; exact hP, hD, hS.F ht⟩) hS.2.2 dX5_pushes_62

abbrev rm_X5_quarter : Room := { frames := 0, cells := 0, slots := 0, locals := 0 }
theorem ok_X5_quarter : okY yX5_quarter 1 := ⟨by decide +kernel, by decide +kernel, by decide +kernel⟩
set_option maxHeartbeats 4000000 in
set_option maxRecDepth 100000 in
theorem c_X5_quarter (l : Launch) (z0 : Nat) (D : va_G) (t : Nat → ClassId) (A : Nat → Nat) (μ : MS) (a1 : Int32) (res : Int32) (h : f_X5_quarter μ a1 = some res) : Met l yX5_quarter (ws_ yX5_quarter cX5_quarter 5 (some .int)) rm_X5_quarter (PR z0 D t [.ref (A 0), .int a1] (MW A t μ)) (QR (some (.int res))) 0 0 FN := by
  refine Met.ofW (cc := cX5_quarter) (maxL := 5) (ret := (some .int)) (by decide) rfl ?_
  intro p e s m args below meth c s₁ Bo hml hv
  obtain ⟨rfl, hC, hP⟩ := hv
  have hx := Bo.exec
  have hb := Bo.bytes
  have hr := Bo.returns
  have hts : ∀ w ∈ LA, w.before _ s = true := fun w hw => atoms_spec (ws := ws_ yX5_quarter cX5_quarter 5 (some .int)) Bo.pre w (List.mem_cons_of_mem _ hw)
  have hown : s.vm.findClass RX5 = some m.cls := findClass_of_methodNamed Bo.named
  have hlocks := Bo.notSynchronized
  have hK := hC.1
  have hl := lv_entry ([.ref (A 0), .int a1]) (n := 5) (Nat.le_of_ble_eq_true rfl)
  rw [lg_entry_eq]
  generalize (lg_sl ([.ref (A 0), .int a1]) ++ List.replicate (5 - (lg_sl ([.ref (A 0), .int a1])).length) Slot.unset).toArray = ls at hl ⊢
  have hl : lv_has ls 5 [(0, .ref (A 0)), (1, .int a1)] := hl
  unfold f_X5_quarter at h
  refine lv_aload_n hx hb dX5_quarter_0 rfl (lv_at hl 0 rfl) ?_
  refine va_get hx hb hts inX5 hown hK hP 0 rfl rfl 9 (by decide) (hts _ qw976) (fun _ h9 => h9) rfl dX5_quarter_1 ?_
  refine lv_iload_n hx hb dX5_quarter_4 rfl (lv_at hl 1 rfl) ?_
  refine lv_iconst (v := (2)) hx hb dX5_quarter_5 (by decide) ?_
  refine lv_iadd hx hb dX5_quarter_6 ?_
  obtain ⟨v1, ev1, h⟩ := obind h
  refine k_iald hx hb hK hP 6 rfl ev1 dX5_quarter_7 ?_
  refine lv_iconst (v := (2)) hx hb dX5_quarter_8 (by decide) ?_
  refine lv_idiv hx hb dX5_quarter_9 (by decide) ?_
  obtain ⟨x2, ex2, h⟩ := jlet_some h
  refine topI ex2 ?_
  refine lv_istore_n (lv' := [(2, .int x2), (0, .ref (A 0)), (1, .int a1)]) hx hb dX5_quarter_10 rfl hl (by decide) rfl (fun ls hl => ?_)
  refine lv_aload_n hx hb dX5_quarter_11 rfl (lv_at hl 1 rfl) ?_
  refine va_get hx hb hts inX5 hown hK hP 0 rfl rfl 9 (by decide) (hts _ qw976) (fun _ h9 => h9) rfl dX5_quarter_12 ?_
  refine lv_iload_n hx hb dX5_quarter_15 rfl (lv_at hl 2 rfl) ?_
  refine lv_iconst (v := (3)) hx hb dX5_quarter_16 (by decide) ?_
  refine lv_iadd hx hb dX5_quarter_17 ?_
  obtain ⟨v3, ev3, h⟩ := obind h
  refine k_iald hx hb hK hP 6 rfl ev3 dX5_quarter_18 ?_
  refine lv_aload_n hx hb dX5_quarter_19 rfl (lv_at hl 1 rfl) ?_
  refine va_get hx hb hts inX5 hown hK hP 0 rfl rfl 9 (by decide) (hts _ qw976) (fun _ h9 => h9) rfl dX5_quarter_20 ?_
  refine lv_iload_n hx hb dX5_quarter_23 rfl (lv_at hl 2 rfl) ?_
  obtain ⟨v4, ev4, h⟩ := obind h
  refine k_iald hx hb hK hP 6 rfl ev4 dX5_quarter_24 ?_
  refine lv_iload_n hx hb dX5_quarter_25 rfl (lv_at hl 0 rfl) ?_
  refine lv_iadd hx hb dX5_quarter_26 ?_
  obtain ⟨o5, eo5, h⟩ := obind h
  have hJ35_o5 : ∀ ls : Array Slot, lv_has ls 5 [(0, .ref (A 0)), (1, .int a1), (2, .int x2)] → W p l e (headSpec (ws_ yX5_quarter cX5_quarter 5 (some .int)) rm_X5_quarter).room s m ([.ref (A 0), .int a1] : List Value).toArray below meth c s.heap [] 0 0 (MQ below (QR (some (.int res))) ([.ref (A 0), .int a1] : List Value).toArray s 0 0 FN) (F0 m 35 ls [.int o5]) := by
    intro ls hl
    refine lv_istore_n (lv' := [(3, .int o5), (0, .ref (A 0)), (1, .int a1), (2, .int x2)]) hx hb dX5_quarter_35 rfl hl (by decide) rfl (fun ls hl => ?_)
    refine lv_aload_n hx hb dX5_quarter_36 rfl (lv_at hl 1 rfl) ?_
    refine va_get hx hb hts inX5 hown hK hP 0 rfl rfl 9 (by decide) (hts _ qw976) (fun _ h9 => h9) rfl dX5_quarter_37 ?_
    refine lv_iload_n hx hb dX5_quarter_40 rfl (lv_at hl 2 rfl) ?_
    refine lv_iconst (v := (4)) hx hb dX5_quarter_41 (by decide) ?_
    refine lv_iadd hx hb dX5_quarter_42 ?_
    obtain ⟨v6, ev6, h⟩ := obind h
    refine k_iald hx hb hK hP 6 rfl ev6 dX5_quarter_43 ?_
    refine lv_aload_n hx hb dX5_quarter_44 rfl (lv_at hl 1 rfl) ?_
    refine va_get hx hb hts inX5 hown hK hP 0 rfl rfl 9 (by decide) (hts _ qw976) (fun _ h9 => h9) rfl dX5_quarter_45 ?_
    refine lv_iload_n hx hb dX5_quarter_48 rfl (lv_at hl 2 rfl) ?_
    refine lv_iconst (v := (1)) hx hb dX5_quarter_49 (by decide) ?_
    refine lv_iadd hx hb dX5_quarter_50 ?_
    obtain ⟨v7, ev7, h⟩ := obind h
    refine k_iald hx hb hK hP 6 rfl ev7 dX5_quarter_51 ?_
    refine lv_iload_n hx hb dX5_quarter_52 rfl (lv_at hl 3 rfl) ?_
    refine lv_iadd hx hb dX5_quarter_53 ?_
    obtain ⟨o8, eo8, h⟩ := obind h
    have hJ62_o8 : ∀ ls : Array Slot, lv_has ls 5 [(3, .int o5)] → W p l e (headSpec (ws_ yX5_quarter cX5_quarter 5 (some .int)) rm_X5_quarter).room s m ([.ref (A 0), .int a1] : List Value).toArray below meth c s.heap [] 0 0 (MQ below (QR (some (.int res))) ([.ref (A 0), .int a1] : List Value).toArray s 0 0 FN) (F0 m 62 ls [.int o8]) := by
      intro ls hl
      refine lv_istore (lv' := [(4, .int o8), (3, .int o5)]) hx hb dX5_quarter_62 hl (by decide) rfl (fun ls hl => ?_)
      refine lv_iload hx hb dX5_quarter_64 (lv_at hl 0 rfl) ?_
      refine lv_if_eq (tgt := 81) hx hb dX5_quarter_66 (by decide) (fun hc => ?_) (fun hc => ?_)
      · have h := iteT hc h
        refine lv_iload_n hx hb dX5_quarter_81 rfl (lv_at hl 1 rfl) ?_
        refine lv_if_eq (tgt := 89) hx hb dX5_quarter_82 (by decide) (fun hc => ?_) (fun hc => ?_)
        · have h := iteT hc h
          refine lv_iconst (v := (0)) hx hb dX5_quarter_89 (by decide) ?_
          obtain rfl := Option.some.inj h
          exact W.iret hx hb hr (fun t ht hW => ⟨rfl, ht⟩) (fun q hq => absurd hq List.not_mem_nil) dX5_quarter_90
        · have h := iteF hc h
          refine lv_iconst (v := (1)) hx hb dX5_quarter_85 (by decide) ?_
          refine lv_goto (tgt := 90) hx hb dX5_quarter_86 (by decide) ?_
          obtain rfl := Option.some.inj h
          exact W.iret hx hb hr (fun t ht hW => ⟨rfl, ht⟩) (fun q hq => absurd hq List.not_mem_nil) dX5_quarter_90
      · have h := iteF hc h
        refine lv_iload_n hx hb dX5_quarter_69 rfl (lv_at hl 1 rfl) ?_
        refine lv_if_eq (tgt := 77) hx hb dX5_quarter_70 (by decide) (fun hc => ?_) (fun hc => ?_)
        · have h := iteT hc h
          refine lv_iconst (v := (3)) hx hb dX5_quarter_77 (by decide) ?_
          refine lv_goto (tgt := 90) hx hb dX5_quarter_78 (by decide) ?_
          obtain rfl := Option.some.inj h
          exact W.iret hx hb hr (fun t ht hW => ⟨rfl, ht⟩) (fun q hq => absurd hq List.not_mem_nil) dX5_quarter_90
        · have h := iteF hc h
          refine lv_iconst (v := (2)) hx hb dX5_quarter_73 (by decide) ?_
          refine lv_goto (tgt := 90) hx hb dX5_quarter_74 (by decide) ?_
          obtain rfl := Option.some.inj h
          exact W.iret hx hb hr (fun t ht hW => ⟨rfl, ht⟩) (fun q hq => absurd hq List.not_mem_nil) dX5_quarter_90
    have h := eo8
    clear eo8
    refine lv_icmp_lt (tgt := 61) hx hb dX5_quarter_54 (by decide) (fun hc => ?_) (fun hc => ?_)
    · have h := iteT hc h
      refine lv_iconst (v := (0)) hx hb dX5_quarter_61 (by decide) ?_
      obtain rfl := Option.some.inj h
      exact hJ62_o8 ls (lv_sub hl [0] rfl)
    · have h := iteF hc h
      refine lv_iconst (v := (1)) hx hb dX5_quarter_57 (by decide) ?_
      refine lv_goto (tgt := 62) hx hb dX5_quarter_58 (by decide) ?_
      obtain rfl := Option.some.inj h
      exact hJ62_o8 ls (lv_sub hl [0] rfl)
  have h := eo5
  clear eo5
  refine lv_icmp_lt (tgt := 34) hx hb dX5_quarter_27 (by decide) (fun hc => ?_) (fun hc => ?_)
  · have h := iteT hc h
    refine lv_iconst (v := (0)) hx hb dX5_quarter_34 (by decide) ?_
    obtain rfl := Option.some.inj h
    exact hJ35_o5 ls (lv_sub hl [1, 2, 0] rfl)
  · have h := iteF hc h
    refine lv_iconst (v := (1)) hx hb dX5_quarter_30 (by decide) ?_
    refine lv_goto (tgt := 35) hx hb dX5_quarter_31 (by decide) ?_
    obtain rfl := Option.some.inj h
    exact hJ35_o5 ls (lv_sub hl [1, 2, 0] rfl)
