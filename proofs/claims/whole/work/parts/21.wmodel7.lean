abbrev rm_X5_digest : Room := { frames := 5, cells := 0, slots := 0, locals := 146 }
theorem ok_X5_digest : okY yX5_digest 0 := ⟨by decide +kernel, by decide +kernel, by decide +kernel⟩
set_option maxHeartbeats 4000000 in
set_option maxRecDepth 100000 in
theorem c_X5_digest (l : Launch) (z0 : Nat) (D : va_G) (t : Nat → ClassId) (A : Nat → Nat) (μ : MS) (res : Int64 × (Nat → Int32) × (Int32) × (Nat → Int32) × (Nat → Int32)) (sz : Nat) (h : f_X5_digest μ = some res) : Met l yX5_digest (ws_ yX5_digest cX5_digest 5 (some .long)) rm_X5_digest (PM z0 D t [.ref (A 0)] (MW A t μ) (ML A) sz) (QM (some (.long res.1)) D (MW A t (m_next' (m_ways' (m_thrown' (m_s' μ res.2.1) res.2.2.1) res.2.2.2.1) res.2.2.2.2)) (ML A) sz) 0 0 (OA (ML A) sz) := by
  refine Met.ofW (cc := cX5_digest) (maxL := 5) (ret := (some .long)) (by decide) rfl ?_
  intro p e s m args below meth c s₁ Bo hml hv
  obtain ⟨rfl, hC, hsz, hP, hD, hZ⟩ := hv
  have hx := Bo.exec
  have hb := Bo.bytes
  have hr := Bo.returns
  have hts : ∀ w ∈ LA, w.before _ s = true := fun w hw => atoms_spec (ws := ws_ yX5_digest cX5_digest 5 (some .long)) Bo.pre w (List.mem_cons_of_mem _ hw)
  have hown : s.vm.findClass RX5 = some m.cls := findClass_of_methodNamed Bo.named
  have hlocks := Bo.notSynchronized
  have hK := hC.1
  subst hsz
  have hl := lv_entry ([.ref (A 0)]) (n := 5) (Nat.le_of_ble_eq_true rfl)
  rw [lg_entry_eq]
  generalize (lg_sl ([.ref (A 0)]) ++ List.replicate (5 - (lg_sl ([.ref (A 0)])).length) Slot.unset).toArray = ls at hl ⊢
  have hl : lv_has ls 5 [(0, .ref (A 0))] := hl
  suffices K9 : ∀ (H : Heap) (locs : List Loc), va_P D vwCl (MW A t μ) H → va_S (OA (ML A) s.heap.size) s.heap H locs → W p l e (headSpec (ws_ yX5_digest cX5_digest 5 (some .long)) rm_X5_digest).room s m ([.ref (A 0)] : List Value).toArray below meth c H locs 0 0 (MQ below (QM (some (.long res.1)) D (MW A t (m_next' (m_ways' (m_thrown' (m_s' μ res.2.1) res.2.2.1) res.2.2.2.1) res.2.2.2.2)) (ML A) s.heap.size) ([.ref (A 0)] : List Value).toArray s 0 0 (OA (ML A) s.heap.size)) (F0 m 0 ls []) from K9 s.heap [] hP va_S.rf
  intro H locs hP hS
  have hSz : s.heap.size ≤ H.size := hS.1
  unfold f_X5_digest at h
  refine lv_aload_n hx hb dX5_digest_0 rfl (lv_at hl 0 rfl) ?_
  refine lv_iconst (v := (0)) hx hb dX5_digest_1 (by decide) ?_
  refine va_put (D := D) (ci := 6) (v := .int (0 : Int32)) (ty := .int) hx hb hts inX5 tyX5 tyX5_ok nmX5 hown hK hP hD hS 0 rfl rfl 3 (by decide) (hts _ qw970) (fun _ h9 => h9) rfl (by decide +kernel) rfl rfl (Nat.le_of_ble_eq_true rfl) dX5_digest_2 (fun H locs hP hD hS => ?_)
  have hP : va_P D vwCl (MW A t (m_thrown' μ (0 : Int32))) H := hP
  have hD : va_D (OA (ML A) s.heap.size) (MW A t (m_thrown' μ (0 : Int32))) := hD
  have hSz : s.heap.size ≤ H.size := hS.1
  refine lv_ldc2 (v := (3181)) hx hb hown (hts _ qw1244) dX5_digest_5 ?_
  refine lv_lstore_n (lv' := [(1, .long (3181 : Int64)), (0, .ref (A 0))]) hx hb dX5_digest_8 rfl hl (by decide) rfl (fun ls hl => ?_)
  refine lv_iconst (v := (0)) hx hb dX5_digest_9 (by decide) ?_
  refine lv_istore_n (lv' := [(3, .int (0 : Int32)), (1, .long (3181 : Int64)), (0, .ref (A 0))]) hx hb dX5_digest_10 rfl hl (by decide) rfl (fun ls hl => ?_)
  obtain ⟨o7, eo7, h⟩ := obind h
  have hL11 : ∀ (n : Nat) (y1_11 : Int64) (y3_11 : Int32) (o7 : Int64), f_X5_digest_L11 μ n y1_11 y3_11 = some o7 → (∀ (ls : Array Slot) (H : Heap) (locs : List Loc), lv_has ls 5 [(0, .ref (A 0)), (1, .long o7)] → va_P D vwCl (MW A t (m_thrown' μ (0 : Int32))) H → va_D (OA (ML A) s.heap.size) (MW A t (m_thrown' μ (0 : Int32))) → va_S (OA (ML A) s.heap.size) s.heap H locs → W p l e (headSpec (ws_ yX5_digest cX5_digest 5 (some .long)) rm_X5_digest).room s m ([.ref (A 0)] : List Value).toArray below meth c H locs 0 0 (MQ below (QM (some (.long res.1)) D (MW A t (m_next' (m_ways' (m_thrown' (m_s' μ res.2.1) res.2.2.1) res.2.2.2.1) res.2.2.2.2)) (ML A) s.heap.size) ([.ref (A 0)] : List Value).toArray s 0 0 (OA (ML A) s.heap.size)) (F0 m 36 ls [])) → ∀ (ls : Array Slot) (H : Heap) (locs : List Loc), lv_has ls 5 [(0, .ref (A 0)), (1, .long y1_11), (3, .int y3_11)] → va_P D vwCl (MW A t (m_thrown' μ (0 : Int32))) H → va_D (OA (ML A) s.heap.size) (MW A t (m_thrown' μ (0 : Int32))) → va_S (OA (ML A) s.heap.size) s.heap H locs → W p l e (headSpec (ws_ yX5_digest cX5_digest 5 (some .long)) rm_X5_digest).room s m ([.ref (A 0)] : List Value).toArray below meth c H locs 0 0 (MQ below (QM (some (.long res.1)) D (MW A t (m_next' (m_ways' (m_thrown' (m_s' μ res.2.1) res.2.2.1) res.2.2.2.1) res.2.2.2.2)) (ML A) s.heap.size) ([.ref (A 0)] : List Value).toArray s 0 0 (OA (ML A) s.heap.size)) (F0 m 11 ls []) := by
    intro n
    induction n with
    | zero => intro y1_11 y3_11 o7 h; exact absurd h (fun z => by cases z)
    | succ n ih =>
      intro y1_11 y3_11 o7 h hK11 ls H locs hl hP hD hS
      replace h : f_X5_digest_L11_b μ (f_X5_digest_L11 μ n) y1_11 y3_11 = some o7 := h
      unfold f_X5_digest_L11_b at h
      have hSz : s.heap.size ≤ H.size := hS.1
      refine lv_iload_n hx hb dX5_digest_11 rfl (lv_at hl 2 rfl) ?_
      refine lv_bipush (v := (12)) hx hb dX5_digest_12 (by decide) ?_
      refine lv_icmp_ge (tgt := 36) hx hb dX5_digest_14 (by decide) (fun hc => ?_) (fun hc => ?_)
      · have h := iteT hc h
        obtain rfl := Option.some.inj h
        exact hK11 ls H locs (lv_sub hl [0, 1] rfl) hP hD hS
      · have h := iteF hc h
        refine lv_ldc2 (v := (31)) hx hb hown (hts _ qw1245) dX5_digest_17 ?_
        refine lv_lload_n hx hb dX5_digest_20 rfl (lv_at hl 1 rfl) ?_
        refine lv_lmul hx hb dX5_digest_21 ?_
        refine lv_aload_n hx hb dX5_digest_22 rfl (lv_at hl 0 rfl) ?_
        refine lv_iload_n hx hb dX5_digest_23 rfl (lv_at hl 2 rfl) ?_
        obtain ⟨r8, er8, h⟩ := obind h
        refine call_R (va_runV (As := [.int y3_11]) (rest := [.long ((31 : Int64) * y1_11)]) ⟨hx, hb, hml, hown, hts⟩ (c_X5_counted l z0 D t A (m_thrown' μ (0 : Int32)) y3_11 _ er8) (kV hts qw1185 qw1187 qs55 qw9 qw1188 ok_X5_counted ⟨Nat.le_of_ble_eq_true rfl, Nat.le_of_ble_eq_true rfl⟩) ⟨PR.blind, va_recv hK hP (ci := 6) (q0 := 0) rfl rfl, fun U hU hW => ⟨rfl, by rw [hU]; exact (hC.at hS hZ).warm hW, by rw [hU]; exact hP⟩⟩ rfl rfl hl.1 rfl (lv_room (Nat.le_of_ble_eq_true rfl)) dX5_digest_24 ⟨Nat.le_of_ble_eq_true rfl, Nat.le_of_ble_eq_true rfl⟩) ?_
        refine lv_i2l hx hb dX5_digest_27 rfl ?_
        refine lv_ladd hx hb dX5_digest_28 ?_
        obtain ⟨x9, ex9, h⟩ := jlet_some h
        refine topJ ex9 ?_
        refine lv_lstore_n (lv' := [(1, .long x9), (0, .ref (A 0)), (3, .int y3_11)]) hx hb dX5_digest_29 rfl hl (by decide) rfl (fun ls hl => ?_)
        obtain ⟨x10, ex10, h⟩ := jlet_some h
        refine lv_iinc (v := x10) (lv' := [(3, .int x10), (1, .long x9), (0, .ref (A 0))]) hx hb dX5_digest_30 hl (k := 2) rfl (by rw [ex10]; rfl) (by decide) rfl (fun ls hl => ?_)
        refine lv_goto (tgt := 11) hx hb dX5_digest_33 (by decide) ?_
        exact ih _ _ _ h hK11 ls H locs (lv_sub hl [2, 1, 0] rfl) hP hD hS
  refine hL11 _ _ _ _ eo7 (fun ls H locs hl hP hD hS => ?_) ls H locs (lv_sub hl [2, 1, 0] rfl) hP hD hS
  have hSz : s.heap.size ≤ H.size := hS.1
  refine lv_iconst (v := (0)) hx hb dX5_digest_36 (by decide) ?_
  refine lv_istore_n (lv' := [(3, .int (0 : Int32)), (0, .ref (A 0)), (1, .long o7)]) hx hb dX5_digest_37 rfl hl (by decide) rfl (fun ls hl => ?_)
  obtain ⟨o19, eo19, h⟩ := obind h
  have hL38 : ∀ (n : Nat) (y1_38 : Int64) (y3_38 : Int32) (o19 : Int64), f_X5_digest_L38 μ n y1_38 y3_38 = some o19 → (∀ (ls : Array Slot) (H : Heap) (locs : List Loc), lv_has ls 5 [(0, .ref (A 0)), (1, .long o19)] → va_P D vwCl (MW A t (m_thrown' μ (0 : Int32))) H → va_D (OA (ML A) s.heap.size) (MW A t (m_thrown' μ (0 : Int32))) → va_S (OA (ML A) s.heap.size) s.heap H locs → W p l e (headSpec (ws_ yX5_digest cX5_digest 5 (some .long)) rm_X5_digest).room s m ([.ref (A 0)] : List Value).toArray below meth c H locs 0 0 (MQ below (QM (some (.long res.1)) D (MW A t (m_next' (m_ways' (m_thrown' (m_s' μ res.2.1) res.2.2.1) res.2.2.2.1) res.2.2.2.2)) (ML A) s.heap.size) ([.ref (A 0)] : List Value).toArray s 0 0 (OA (ML A) s.heap.size)) (F0 m 74 ls [])) → ∀ (ls : Array Slot) (H : Heap) (locs : List Loc), lv_has ls 5 [(0, .ref (A 0)), (1, .long y1_38), (3, .int y3_38)] → va_P D vwCl (MW A t (m_thrown' μ (0 : Int32))) H → va_D (OA (ML A) s.heap.size) (MW A t (m_thrown' μ (0 : Int32))) → va_S (OA (ML A) s.heap.size) s.heap H locs → W p l e (headSpec (ws_ yX5_digest cX5_digest 5 (some .long)) rm_X5_digest).room s m ([.ref (A 0)] : List Value).toArray below meth c H locs 0 0 (MQ below (QM (some (.long res.1)) D (MW A t (m_next' (m_ways' (m_thrown' (m_s' μ res.2.1) res.2.2.1) res.2.2.2.1) res.2.2.2.2)) (ML A) s.heap.size) ([.ref (A 0)] : List Value).toArray s 0 0 (OA (ML A) s.heap.size)) (F0 m 38 ls []) := by
    intro n
    induction n with
    | zero => intro y1_38 y3_38 o19 h; exact absurd h (fun z => by cases z)
    | succ n ih =>
      intro y1_38 y3_38 o19 h hK38 ls H locs hl hP hD hS
      replace h : f_X5_digest_L38_b μ (f_X5_digest_L38 μ n) y1_38 y3_38 = some o19 := h
      unfold f_X5_digest_L38_b at h
      have hSz : s.heap.size ≤ H.size := hS.1
      refine lv_iload_n hx hb dX5_digest_38 rfl (lv_at hl 2 rfl) ?_
      refine lv_iconst (v := (3)) hx hb dX5_digest_39 (by decide) ?_
      refine lv_aload_n hx hb dX5_digest_40 rfl (lv_at hl 0 rfl) ?_
      refine va_get hx hb hts inX5 hown hK hP 0 rfl rfl 0 (by decide) (hts _ qw967) (fun _ h9 => h9) rfl dX5_digest_41 ?_
      refine lv_iconst (v := (1)) hx hb dX5_digest_44 (by decide) ?_
      obtain ⟨v20, ev20, h⟩ := obind h
      refine k_iald hx hb hK hP 1 rfl ev20 dX5_digest_45 ?_
      refine lv_imul hx hb dX5_digest_46 ?_
      refine lv_icmp_ge (tgt := 74) hx hb dX5_digest_47 (by decide) (fun hc => ?_) (fun hc => ?_)
      · have h := iteT hc h
        obtain rfl := Option.some.inj h
        exact hK38 ls H locs (lv_sub hl [0, 1] rfl) hP hD hS
      · have h := iteF hc h
        refine lv_ldc2 (v := (31)) hx hb hown (hts _ qw1245) dX5_digest_50 ?_
        refine lv_lload_n hx hb dX5_digest_53 rfl (lv_at hl 1 rfl) ?_
        refine lv_lmul hx hb dX5_digest_54 ?_
        refine lv_aload_n hx hb dX5_digest_55 rfl (lv_at hl 0 rfl) ?_
        refine lv_iload_n hx hb dX5_digest_56 rfl (lv_at hl 2 rfl) ?_
        refine lv_iconst (v := (3)) hx hb dX5_digest_57 (by decide) ?_
        refine lv_idiv hx hb dX5_digest_58 (by decide) ?_
        refine lv_iload_n hx hb dX5_digest_59 rfl (lv_at hl 2 rfl) ?_
        refine lv_iconst (v := (3)) hx hb dX5_digest_60 (by decide) ?_
        refine lv_irem hx hb dX5_digest_61 (by decide) ?_
        obtain ⟨r21, er21, h⟩ := obind h
        refine call_R (va_runV (As := [.int (y3_38 / (3 : Int32)), .int (y3_38 - y3_38 / (3 : Int32) * (3 : Int32))]) (rest := [.long ((31 : Int64) * y1_38)]) ⟨hx, hb, hml, hown, hts⟩ (c_X5_mask l z0 D t A (m_thrown' μ (0 : Int32)) (y3_38 / (3 : Int32)) (y3_38 - y3_38 / (3 : Int32) * (3 : Int32)) _ er21) (kV hts qw1177 qw1179 qs54 qw9 qw1180 ok_X5_mask ⟨Nat.le_of_ble_eq_true rfl, Nat.le_of_ble_eq_true rfl⟩) ⟨PR.blind, va_recv hK hP (ci := 6) (q0 := 0) rfl rfl, fun U hU hW => ⟨rfl, by rw [hU]; exact (hC.at hS hZ).warm hW, by rw [hU]; exact hP⟩⟩ rfl rfl hl.1 rfl (lv_room (Nat.le_of_ble_eq_true rfl)) dX5_digest_62 ⟨Nat.le_of_ble_eq_true rfl, Nat.le_of_ble_eq_true rfl⟩) ?_
        refine lv_i2l hx hb dX5_digest_65 rfl ?_
        refine lv_ladd hx hb dX5_digest_66 ?_
        obtain ⟨x22, ex22, h⟩ := jlet_some h
        refine topJ ex22 ?_
        refine lv_lstore_n (lv' := [(1, .long x22), (0, .ref (A 0)), (3, .int y3_38)]) hx hb dX5_digest_67 rfl hl (by decide) rfl (fun ls hl => ?_)
        obtain ⟨x23, ex23, h⟩ := jlet_some h
        refine lv_iinc (v := x23) (lv' := [(3, .int x23), (1, .long x22), (0, .ref (A 0))]) hx hb dX5_digest_68 hl (k := 2) rfl (by rw [ex23]; rfl) (by decide) rfl (fun ls hl => ?_)
        refine lv_goto (tgt := 38) hx hb dX5_digest_71 (by decide) ?_
        exact ih _ _ _ h hK38 ls H locs (lv_sub hl [2, 1, 0] rfl) hP hD hS
  refine hL38 _ _ _ _ eo19 (fun ls H locs hl hP hD hS => ?_) ls H locs (lv_sub hl [1, 2, 0] rfl) hP hD hS
  have hSz : s.heap.size ≤ H.size := hS.1
  refine lv_iconst (v := (0)) hx hb dX5_digest_74 (by decide) ?_
  refine lv_istore_n (lv' := [(3, .int (0 : Int32)), (0, .ref (A 0)), (1, .long o19)]) hx hb dX5_digest_75 rfl hl (by decide) rfl (fun ls hl => ?_)
  obtain ⟨o48, eo48, h⟩ := obind h
  have hL76 : ∀ (n : Nat) (y1_76 : Int64) (y3_76 : Int32) (o48 : Int64), f_X5_digest_L76 μ n y1_76 y3_76 = some o48 → (∀ (ls : Array Slot) (H : Heap) (locs : List Loc), lv_has ls 5 [(0, .ref (A 0)), (1, .long o48)] → va_P D vwCl (MW A t (m_thrown' μ (0 : Int32))) H → va_D (OA (ML A) s.heap.size) (MW A t (m_thrown' μ (0 : Int32))) → va_S (OA (ML A) s.heap.size) s.heap H locs → W p l e (headSpec (ws_ yX5_digest cX5_digest 5 (some .long)) rm_X5_digest).room s m ([.ref (A 0)] : List Value).toArray below meth c H locs 0 0 (MQ below (QM (some (.long res.1)) D (MW A t (m_next' (m_ways' (m_thrown' (m_s' μ res.2.1) res.2.2.1) res.2.2.2.1) res.2.2.2.2)) (ML A) s.heap.size) ([.ref (A 0)] : List Value).toArray s 0 0 (OA (ML A) s.heap.size)) (F0 m 151 ls [])) → ∀ (ls : Array Slot) (H : Heap) (locs : List Loc), lv_has ls 5 [(0, .ref (A 0)), (1, .long y1_76), (3, .int y3_76)] → va_P D vwCl (MW A t (m_thrown' μ (0 : Int32))) H → va_D (OA (ML A) s.heap.size) (MW A t (m_thrown' μ (0 : Int32))) → va_S (OA (ML A) s.heap.size) s.heap H locs → W p l e (headSpec (ws_ yX5_digest cX5_digest 5 (some .long)) rm_X5_digest).room s m ([.ref (A 0)] : List Value).toArray below meth c H locs 0 0 (MQ below (QM (some (.long res.1)) D (MW A t (m_next' (m_ways' (m_thrown' (m_s' μ res.2.1) res.2.2.1) res.2.2.2.1) res.2.2.2.2)) (ML A) s.heap.size) ([.ref (A 0)] : List Value).toArray s 0 0 (OA (ML A) s.heap.size)) (F0 m 76 ls []) := by
    intro n
    induction n with
    | zero => intro y1_76 y3_76 o48 h; exact absurd h (fun z => by cases z)
    | succ n ih =>
      intro y1_76 y3_76 o48 h hK76 ls H locs hl hP hD hS
      replace h : f_X5_digest_L76_b μ (f_X5_digest_L76 μ n) y1_76 y3_76 = some o48 := h
      unfold f_X5_digest_L76_b at h
      have hSz : s.heap.size ≤ H.size := hS.1
      refine lv_iload_n hx hb dX5_digest_76 rfl (lv_at hl 2 rfl) ?_
      refine lv_aload_n hx hb dX5_digest_77 rfl (lv_at hl 0 rfl) ?_
      refine va_get hx hb hts inX5 hown hK hP 0 rfl rfl 0 (by decide) (hts _ qw967) (fun _ h9 => h9) rfl dX5_digest_78 ?_
      refine lv_iconst (v := (0)) hx hb dX5_digest_81 (by decide) ?_
      obtain ⟨v49, ev49, h⟩ := obind h
      refine k_iald hx hb hK hP 1 rfl ev49 dX5_digest_82 ?_
      refine lv_aload_n hx hb dX5_digest_83 rfl (lv_at hl 0 rfl) ?_
      refine va_get hx hb hts inX5 hown hK hP 0 rfl rfl 0 (by decide) (hts _ qw967) (fun _ h9 => h9) rfl dX5_digest_84 ?_
      refine lv_iconst (v := (1)) hx hb dX5_digest_87 (by decide) ?_
      obtain ⟨v50, ev50, h⟩ := obind h
      refine k_iald hx hb hK hP 1 rfl ev50 dX5_digest_88 ?_
      refine lv_imul hx hb dX5_digest_89 ?_
      refine lv_icmp_ge (tgt := 151) hx hb dX5_digest_90 (by decide) (fun hc => ?_) (fun hc => ?_)
      · have h := iteT hc h
        obtain rfl := Option.some.inj h
        exact hK76 ls H locs (lv_sub hl [0, 1] rfl) hP hD hS
      · have h := iteF hc h
        refine lv_bipush (v := (8)) hx hb dX5_digest_93 (by decide) ?_
        refine lv_iload_n hx hb dX5_digest_95 rfl (lv_at hl 2 rfl) ?_
        refine lv_aload_n hx hb dX5_digest_96 rfl (lv_at hl 0 rfl) ?_
        refine va_get hx hb hts inX5 hown hK hP 0 rfl rfl 0 (by decide) (hts _ qw967) (fun _ h9 => h9) rfl dX5_digest_97 ?_
        refine lv_iconst (v := (0)) hx hb dX5_digest_100 (by decide) ?_
        obtain ⟨v51, ev51, h⟩ := obind h
        refine k_iald hx hb hK hP 1 rfl ev51 dX5_digest_101 ?_
        have h52 : ¬ v51 = 0 := fun z => absurd (iteT z h) (fun z => by cases z)
        have h := iteF h52 h
        refine lv_idiv hx hb dX5_digest_102 h52 ?_
        refine lv_imul hx hb dX5_digest_103 ?_
        refine lv_iload_n hx hb dX5_digest_104 rfl (lv_at hl 2 rfl) ?_
        refine lv_aload_n hx hb dX5_digest_105 rfl (lv_at hl 0 rfl) ?_
        refine va_get hx hb hts inX5 hown hK hP 0 rfl rfl 0 (by decide) (hts _ qw967) (fun _ h9 => h9) rfl dX5_digest_106 ?_
        refine lv_iconst (v := (0)) hx hb dX5_digest_109 (by decide) ?_
        obtain ⟨v53, ev53, h⟩ := obind h
        refine k_iald hx hb hK hP 1 rfl ev53 dX5_digest_110 ?_
        have h54 : ¬ v53 = 0 := fun z => absurd (iteT z h) (fun z => by cases z)
        have h := iteF h54 h
        refine lv_irem hx hb dX5_digest_111 h54 ?_
        refine lv_iadd hx hb dX5_digest_112 ?_
        obtain ⟨x55, ex55, h⟩ := jlet_some h
        refine topI ex55 ?_
        refine lv_istore (lv' := [(4, .int x55), (0, .ref (A 0)), (1, .long y1_76), (3, .int y3_76)]) hx hb dX5_digest_113 hl (by decide) rfl (fun ls hl => ?_)
        refine lv_ldc2 (v := (31)) hx hb hown (hts _ qw1245) dX5_digest_115 ?_
        refine lv_lload_n hx hb dX5_digest_118 rfl (lv_at hl 2 rfl) ?_
        refine lv_lmul hx hb dX5_digest_119 ?_
        refine lv_aload_n hx hb dX5_digest_120 rfl (lv_at hl 1 rfl) ?_
        refine lv_iload hx hb dX5_digest_121 (lv_at hl 0 rfl) ?_
        refine lv_iconst (v := (1)) hx hb dX5_digest_123 (by decide) ?_
        obtain ⟨r56, er56, h⟩ := obind h
        refine call_R (va_runV (As := [.int x55, .int (1 : Int32)]) (rest := [.long ((31 : Int64) * y1_76)]) ⟨hx, hb, hml, hown, hts⟩ (c_X5_cells l z0 D t A (m_thrown' μ (0 : Int32)) x55 (1 : Int32) _ er56) (kV hts qw1158 qw1160 qs52 qw9 qw1161 ok_X5_cells ⟨Nat.le_of_ble_eq_true rfl, Nat.le_of_ble_eq_true rfl⟩) ⟨PR.blind, va_recv hK hP (ci := 6) (q0 := 0) rfl rfl, fun U hU hW => ⟨rfl, by rw [hU]; exact (hC.at hS hZ).warm hW, by rw [hU]; exact hP⟩⟩ rfl rfl hl.1 rfl (lv_room (Nat.le_of_ble_eq_true rfl)) dX5_digest_124 ⟨Nat.le_of_ble_eq_true rfl, Nat.le_of_ble_eq_true rfl⟩) ?_
        refine lv_i2l hx hb dX5_digest_127 rfl ?_
        refine lv_ladd hx hb dX5_digest_128 ?_
        obtain ⟨x57, ex57, h⟩ := jlet_some h
        refine topJ ex57 ?_
        refine lv_lstore_n (lv' := [(1, .long x57), (4, .int x55), (0, .ref (A 0)), (3, .int y3_76)]) hx hb dX5_digest_129 rfl hl (by decide) rfl (fun ls hl => ?_)
        refine lv_ldc2 (v := (31)) hx hb hown (hts _ qw1245) dX5_digest_130 ?_
        refine lv_lload_n hx hb dX5_digest_133 rfl (lv_at hl 0 rfl) ?_
        refine lv_lmul hx hb dX5_digest_134 ?_
        refine lv_aload_n hx hb dX5_digest_135 rfl (lv_at hl 2 rfl) ?_
        refine lv_iload hx hb dX5_digest_136 (lv_at hl 1 rfl) ?_
        refine lv_iconst (v := (2)) hx hb dX5_digest_138 (by decide) ?_
        obtain ⟨r58, er58, h⟩ := obind h
        refine call_R (va_runV (As := [.int x55, .int (2 : Int32)]) (rest := [.long ((31 : Int64) * x57)]) ⟨hx, hb, hml, hown, hts⟩ (c_X5_cells l z0 D t A (m_thrown' μ (0 : Int32)) x55 (2 : Int32) _ er58) (kV hts qw1158 qw1160 qs52 qw9 qw1161 ok_X5_cells ⟨Nat.le_of_ble_eq_true rfl, Nat.le_of_ble_eq_true rfl⟩) ⟨PR.blind, va_recv hK hP (ci := 6) (q0 := 0) rfl rfl, fun U hU hW => ⟨rfl, by rw [hU]; exact (hC.at hS hZ).warm hW, by rw [hU]; exact hP⟩⟩ rfl rfl hl.1 rfl (lv_room (Nat.le_of_ble_eq_true rfl)) dX5_digest_139 ⟨Nat.le_of_ble_eq_true rfl, Nat.le_of_ble_eq_true rfl⟩) ?_
        refine lv_i2l hx hb dX5_digest_142 rfl ?_
        refine lv_ladd hx hb dX5_digest_143 ?_
        obtain ⟨x59, ex59, h⟩ := jlet_some h
        refine topJ ex59 ?_
        refine lv_lstore_n (lv' := [(1, .long x59), (4, .int x55), (0, .ref (A 0)), (3, .int y3_76)]) hx hb dX5_digest_144 rfl hl (by decide) rfl (fun ls hl => ?_)
        obtain ⟨x60, ex60, h⟩ := jlet_some h
        refine lv_iinc (v := x60) (lv' := [(3, .int x60), (1, .long x59), (4, .int x55), (0, .ref (A 0))]) hx hb dX5_digest_145 hl (k := 3) rfl (by rw [ex60]; rfl) (by decide) rfl (fun ls hl => ?_)
        refine lv_goto (tgt := 76) hx hb dX5_digest_148 (by decide) ?_
        exact ih _ _ _ h hK76 ls H locs (lv_sub hl [3, 1, 0] rfl) hP hD hS
  refine hL76 _ _ _ _ eo48 (fun ls H locs hl hP hD hS => ?_) ls H locs (lv_sub hl [1, 2, 0] rfl) hP hD hS
  have hSz : s.heap.size ≤ H.size := hS.1
  refine lv_iconst (v := (0)) hx hb dX5_digest_151 (by decide) ?_
  refine lv_istore_n (lv' := [(3, .int (0 : Int32)), (0, .ref (A 0)), (1, .long o48)]) hx hb dX5_digest_152 rfl hl (by decide) rfl (fun ls hl => ?_)
  obtain ⟨o69, eo69, h⟩ := obind h
  have hL153 : ∀ (n : Nat) (y1_153 : Int64) (y3_153 : Int32) (o69 : Int64), f_X5_digest_L153 μ n y1_153 y3_153 = some o69 → (∀ (ls : Array Slot) (H : Heap) (locs : List Loc), lv_has ls 5 [(0, .ref (A 0)), (1, .long o69)] → va_P D vwCl (MW A t (m_thrown' μ (0 : Int32))) H → va_D (OA (ML A) s.heap.size) (MW A t (m_thrown' μ (0 : Int32))) → va_S (OA (ML A) s.heap.size) s.heap H locs → W p l e (headSpec (ws_ yX5_digest cX5_digest 5 (some .long)) rm_X5_digest).room s m ([.ref (A 0)] : List Value).toArray below meth c H locs 0 0 (MQ below (QM (some (.long res.1)) D (MW A t (m_next' (m_ways' (m_thrown' (m_s' μ res.2.1) res.2.2.1) res.2.2.2.1) res.2.2.2.2)) (ML A) s.heap.size) ([.ref (A 0)] : List Value).toArray s 0 0 (OA (ML A) s.heap.size)) (F0 m 191 ls [])) → ∀ (ls : Array Slot) (H : Heap) (locs : List Loc), lv_has ls 5 [(0, .ref (A 0)), (1, .long y1_153), (3, .int y3_153)] → va_P D vwCl (MW A t (m_thrown' μ (0 : Int32))) H → va_D (OA (ML A) s.heap.size) (MW A t (m_thrown' μ (0 : Int32))) → va_S (OA (ML A) s.heap.size) s.heap H locs → W p l e (headSpec (ws_ yX5_digest cX5_digest 5 (some .long)) rm_X5_digest).room s m ([.ref (A 0)] : List Value).toArray below meth c H locs 0 0 (MQ below (QM (some (.long res.1)) D (MW A t (m_next' (m_ways' (m_thrown' (m_s' μ res.2.1) res.2.2.1) res.2.2.2.1) res.2.2.2.2)) (ML A) s.heap.size) ([.ref (A 0)] : List Value).toArray s 0 0 (OA (ML A) s.heap.size)) (F0 m 153 ls []) := by
    intro n
    induction n with
    | zero => intro y1_153 y3_153 o69 h; exact absurd h (fun z => by cases z)
    | succ n ih =>
      intro y1_153 y3_153 o69 h hK153 ls H locs hl hP hD hS
      replace h : f_X5_digest_L153_b μ (f_X5_digest_L153 μ n) y1_153 y3_153 = some o69 := h
      unfold f_X5_digest_L153_b at h
      have hSz : s.heap.size ≤ H.size := hS.1
      refine lv_iload_n hx hb dX5_digest_153 rfl (lv_at hl 2 rfl) ?_
      refine lv_iconst (v := (3)) hx hb dX5_digest_154 (by decide) ?_
      refine lv_aload_n hx hb dX5_digest_155 rfl (lv_at hl 0 rfl) ?_
      refine va_get hx hb hts inX5 hown hK hP 0 rfl rfl 0 (by decide) (hts _ qw967) (fun _ h9 => h9) rfl dX5_digest_156 ?_
      refine lv_sipush (v := (131)) hx hb dX5_digest_159 (by decide) ?_
      obtain ⟨v70, ev70, h⟩ := obind h
      refine k_iald hx hb hK hP 1 rfl ev70 dX5_digest_162 ?_
      refine lv_imul hx hb dX5_digest_163 ?_
      refine lv_icmp_ge (tgt := 191) hx hb dX5_digest_164 (by decide) (fun hc => ?_) (fun hc => ?_)
      · have h := iteT hc h
        obtain rfl := Option.some.inj h
        exact hK153 ls H locs (lv_sub hl [0, 1] rfl) hP hD hS
      · have h := iteF hc h
        refine lv_ldc2 (v := (31)) hx hb hown (hts _ qw1245) dX5_digest_167 ?_
        refine lv_lload_n hx hb dX5_digest_170 rfl (lv_at hl 1 rfl) ?_
        refine lv_lmul hx hb dX5_digest_171 ?_
        refine lv_aload_n hx hb dX5_digest_172 rfl (lv_at hl 0 rfl) ?_
        refine va_get hx hb hts inX5 hown hK hP 0 rfl rfl 0 (by decide) (hts _ qw967) (fun _ h9 => h9) rfl dX5_digest_173 ?_
        refine lv_sipush (v := (132)) hx hb dX5_digest_176 (by decide) ?_
        refine lv_iload_n hx hb dX5_digest_179 rfl (lv_at hl 2 rfl) ?_
        refine lv_iadd hx hb dX5_digest_180 ?_
        obtain ⟨v71, ev71, h⟩ := obind h
        refine k_iald hx hb hK hP 1 rfl ev71 dX5_digest_181 ?_
        refine lv_i2l hx hb dX5_digest_182 rfl ?_
        refine lv_ladd hx hb dX5_digest_183 ?_
        obtain ⟨x72, ex72, h⟩ := jlet_some h
        refine topJ ex72 ?_
        refine lv_lstore_n (lv' := [(1, .long x72), (0, .ref (A 0)), (3, .int y3_153)]) hx hb dX5_digest_184 rfl hl (by decide) rfl (fun ls hl => ?_)
        obtain ⟨x73, ex73, h⟩ := jlet_some h
        refine lv_iinc (v := x73) (lv' := [(3, .int x73), (1, .long x72), (0, .ref (A 0))]) hx hb dX5_digest_185 hl (k := 2) rfl (by rw [ex73]; rfl) (by decide) rfl (fun ls hl => ?_)
        refine lv_goto (tgt := 153) hx hb dX5_digest_188 (by decide) ?_
        exact ih _ _ _ h hK153 ls H locs (lv_sub hl [2, 1, 0] rfl) hP hD hS
  refine hL153 _ _ _ _ eo69 (fun ls H locs hl hP hD hS => ?_) ls H locs (lv_sub hl [1, 2, 0] rfl) hP hD hS
  have hSz : s.heap.size ≤ H.size := hS.1
  refine lv_ldc2 (v := (31)) hx hb hown (hts _ qw1245) dX5_digest_191 ?_
  refine lv_lload_n hx hb dX5_digest_194 rfl (lv_at hl 1 rfl) ?_
  refine lv_lmul hx hb dX5_digest_195 ?_
  refine lv_aload_n hx hb dX5_digest_196 rfl (lv_at hl 0 rfl) ?_
  refine lv_iconst (v := (0)) hx hb dX5_digest_197 (by decide) ?_
  obtain ⟨r74, er74, h⟩ := obind h
  refine call_M (va_runV (As := [.int (0 : Int32)]) (rest := [.long ((31 : Int64) * o69)]) ⟨hx, hb, hml, hown, hts⟩ (c_X5_paves l z0 D t A (m_thrown' μ (0 : Int32)) (0 : Int32) _ H.size er74) (kV hts qw1078 qw1080 qs41 qw9 qw1081 ok_X5_paves ⟨Nat.le_of_ble_eq_true rfl, Nat.le_of_ble_eq_true rfl⟩) ⟨PM.blind, va_recv hK hP (ci := 6) (q0 := 0) rfl rfl, fun U hU hW => ⟨rfl, by rw [hU]; exact (hC.at hS hZ).warm hW, by rw [hU], by rw [hU]; exact hP, ⟨hD.1, fun _ _ h9 => Or.inl (in_map (L := (ML A)) rfl h9)⟩, fun q hq => hZ q (OA.ofD hD rfl hSz q hq)⟩⟩ rfl rfl hl.1 rfl (lv_room (Nat.le_of_ble_eq_true rfl)) dX5_digest_198 ⟨Nat.le_of_ble_eq_true rfl, Nat.le_of_ble_eq_true rfl⟩) hS (OA.ofD hD rfl hSz) (fun H locs hP hD1 hS _ _ => ?_)
  have hP : va_P D vwCl (MW A t (m_next' (m_ways' (m_thrown' μ (0 : Int32)) r74.2.1) r74.2.2)) H := hP
  have hD : va_D (OA (ML A) s.heap.size) (MW A t (m_next' (m_ways' (m_thrown' μ (0 : Int32)) r74.2.1) r74.2.2)) := hD1.weaken (fun _ q _ h9 => OA.ofD hD rfl hSz q.1 h9)
  have hSz : s.heap.size ≤ H.size := hS.1
  refine lv_i2l hx hb dX5_digest_201 rfl ?_
  refine lv_ladd hx hb dX5_digest_202 ?_
  obtain ⟨x75, ex75, h⟩ := jlet_some h
  refine topJ ex75 ?_
  refine lv_lstore_n (lv' := [(1, .long x75), (0, .ref (A 0))]) hx hb dX5_digest_203 rfl hl (by decide) rfl (fun ls hl => ?_)
  refine lv_iconst (v := (0)) hx hb dX5_digest_204 (by decide) ?_
  refine lv_istore_n (lv' := [(3, .int (0 : Int32)), (1, .long x75), (0, .ref (A 0))]) hx hb dX5_digest_205 rfl hl (by decide) rfl (fun ls hl => ?_)
  obtain ⟨o84, eo84, h⟩ := obind h
  have hL206 : ∀ (n : Nat) (y1_206 : Int64) (y3_206 : Int32) (s_206 : Nat → Int32) (ways_206 : Nat → Int32) (next_206 : Nat → Int32) (o84 : Int64 × (Nat → Int32) × (Nat → Int32) × (Nat → Int32)), f_X5_digest_L206 μ n y1_206 y3_206 s_206 ways_206 next_206 = some o84 → (∀ (ls : Array Slot) (H : Heap) (locs : List Loc), lv_has ls 5 [(0, .ref (A 0)), (1, .long o84.1)] → va_P D vwCl (MW A t (m_next' (m_ways' (m_thrown' (m_s' μ o84.2.1) (0 : Int32)) o84.2.2.1) o84.2.2.2)) H → va_D (OA (ML A) s.heap.size) (MW A t (m_next' (m_ways' (m_thrown' (m_s' μ o84.2.1) (0 : Int32)) o84.2.2.1) o84.2.2.2)) → va_S (OA (ML A) s.heap.size) s.heap H locs → W p l e (headSpec (ws_ yX5_digest cX5_digest 5 (some .long)) rm_X5_digest).room s m ([.ref (A 0)] : List Value).toArray below meth c H locs 0 0 (MQ below (QM (some (.long res.1)) D (MW A t (m_next' (m_ways' (m_thrown' (m_s' μ res.2.1) res.2.2.1) res.2.2.2.1) res.2.2.2.2)) (ML A) s.heap.size) ([.ref (A 0)] : List Value).toArray s 0 0 (OA (ML A) s.heap.size)) (F0 m 248 ls [])) → ∀ (ls : Array Slot) (H : Heap) (locs : List Loc), lv_has ls 5 [(0, .ref (A 0)), (1, .long y1_206), (3, .int y3_206)] → va_P D vwCl (MW A t (m_next' (m_ways' (m_thrown' (m_s' μ s_206) (0 : Int32)) ways_206) next_206)) H → va_D (OA (ML A) s.heap.size) (MW A t (m_next' (m_ways' (m_thrown' (m_s' μ s_206) (0 : Int32)) ways_206) next_206)) → va_S (OA (ML A) s.heap.size) s.heap H locs → W p l e (headSpec (ws_ yX5_digest cX5_digest 5 (some .long)) rm_X5_digest).room s m ([.ref (A 0)] : List Value).toArray below meth c H locs 0 0 (MQ below (QM (some (.long res.1)) D (MW A t (m_next' (m_ways' (m_thrown' (m_s' μ res.2.1) res.2.2.1) res.2.2.2.1) res.2.2.2.2)) (ML A) s.heap.size) ([.ref (A 0)] : List Value).toArray s 0 0 (OA (ML A) s.heap.size)) (F0 m 206 ls []) := by
    intro n
    induction n with
    | zero => intro y1_206 y3_206 s_206 ways_206 next_206 o84 h; exact absurd h (fun z => by cases z)
    | succ n ih =>
      intro y1_206 y3_206 s_206 ways_206 next_206 o84 h hK206 ls H locs hl hP hD hS
      replace h : f_X5_digest_L206_b μ (f_X5_digest_L206 μ n) y1_206 y3_206 s_206 ways_206 next_206 = some o84 := h
      unfold f_X5_digest_L206_b at h
      have hSz : s.heap.size ≤ H.size := hS.1
      refine lv_iload_n hx hb dX5_digest_206 rfl (lv_at hl 2 rfl) ?_
      refine lv_bipush (v := (12)) hx hb dX5_digest_207 (by decide) ?_
      refine lv_icmp_ge (tgt := 248) hx hb dX5_digest_209 (by decide) (fun hc => ?_) (fun hc => ?_)
      · have h := iteT hc h
        obtain rfl := Option.some.inj h
        exact hK206 ls H locs (lv_sub hl [0, 1] rfl) hP hD hS
      · have h := iteF hc h
        refine lv_ldc2 (v := (31)) hx hb hown (hts _ qw1245) dX5_digest_212 ?_
        refine lv_lload_n hx hb dX5_digest_215 rfl (lv_at hl 1 rfl) ?_
        refine lv_lmul hx hb dX5_digest_216 ?_
        refine lv_aload_n hx hb dX5_digest_217 rfl (lv_at hl 0 rfl) ?_
        refine lv_iload_n hx hb dX5_digest_218 rfl (lv_at hl 2 rfl) ?_
        refine lv_iconst (v := (4)) hx hb dX5_digest_219 (by decide) ?_
        refine lv_idiv hx hb dX5_digest_220 (by decide) ?_
        refine lv_iload_n hx hb dX5_digest_221 rfl (lv_at hl 2 rfl) ?_
        refine lv_iconst (v := (4)) hx hb dX5_digest_222 (by decide) ?_
        refine lv_idiv hx hb dX5_digest_223 (by decide) ?_
        refine lv_iconst (v := (1)) hx hb dX5_digest_224 (by decide) ?_
        obtain ⟨o85, eo85, h⟩ := obind h
        have hJ233_o85 : ∀ (ls : Array Slot) (H : Heap) (locs : List Loc), lv_has ls 5 [(0, .ref (A 0)), (3, .int y3_206)] → va_P D vwCl (MW A t (m_next' (m_ways' (m_thrown' (m_s' μ s_206) (0 : Int32)) ways_206) next_206)) H → va_D (OA (ML A) s.heap.size) (MW A t (m_next' (m_ways' (m_thrown' (m_s' μ s_206) (0 : Int32)) ways_206) next_206)) → va_S (OA (ML A) s.heap.size) s.heap H locs → W p l e (headSpec (ws_ yX5_digest cX5_digest 5 (some .long)) rm_X5_digest).room s m ([.ref (A 0)] : List Value).toArray below meth c H locs 0 0 (MQ below (QM (some (.long res.1)) D (MW A t (m_next' (m_ways' (m_thrown' (m_s' μ res.2.1) res.2.2.1) res.2.2.2.1) res.2.2.2.2)) (ML A) s.heap.size) ([.ref (A 0)] : List Value).toArray s 0 0 (OA (ML A) s.heap.size)) (F0 m 233 ls [.int o85, .int (y3_206 / (4 : Int32)), .ref (A 0), .long ((31 : Int64) * y1_206)]) := by
          intro ls H locs hl hP hD hS
          have hSz : s.heap.size ≤ H.size := hS.1
          refine lv_iload_n hx hb dX5_digest_233 rfl (lv_at hl 1 rfl) ?_
          refine lv_iconst (v := (4)) hx hb dX5_digest_234 (by decide) ?_
          refine lv_irem hx hb dX5_digest_235 (by decide) ?_
          obtain ⟨r86, er86, h⟩ := obind h
          refine call_M (va_runV (As := [.int (y3_206 / (4 : Int32)), .int o85, .int (y3_206 - y3_206 / (4 : Int32) * (4 : Int32))]) (rest := [.long ((31 : Int64) * y1_206)]) ⟨hx, hb, hml, hown, hts⟩ (c_X5_with l z0 D t A (m_next' (m_ways' (m_thrown' (m_s' μ s_206) (0 : Int32)) ways_206) next_206) (y3_206 / (4 : Int32)) o85 (y3_206 - y3_206 / (4 : Int32) * (4 : Int32)) _ H.size er86) (kV hts qw1205 qw1207 qs57 qw9 qw1208 ok_X5_with ⟨Nat.le_of_ble_eq_true rfl, Nat.le_of_ble_eq_true rfl⟩) ⟨PM.blind, va_recv hK hP (ci := 6) (q0 := 0) rfl rfl, fun U hU hW => ⟨rfl, by rw [hU]; exact (hC.at hS hZ).warm hW, by rw [hU], by rw [hU]; exact hP, ⟨hD.1, fun _ _ h9 => Or.inl (in_map (L := (ML A)) rfl h9)⟩, fun q hq => hZ q (OA.ofD hD rfl hSz q hq)⟩⟩ rfl rfl hl.1 rfl (lv_room (Nat.le_of_ble_eq_true rfl)) dX5_digest_236 ⟨Nat.le_of_ble_eq_true rfl, Nat.le_of_ble_eq_true rfl⟩) hS (OA.ofD hD rfl hSz) (fun H locs hP hD1 hS _ _ => ?_)
          have hP : va_P D vwCl (MW A t (m_next' (m_ways' (m_thrown' (m_s' μ r86.2.1) (0 : Int32)) r86.2.2.1) r86.2.2.2)) H := hP
          have hD : va_D (OA (ML A) s.heap.size) (MW A t (m_next' (m_ways' (m_thrown' (m_s' μ r86.2.1) (0 : Int32)) r86.2.2.1) r86.2.2.2)) := hD1.weaken (fun _ q _ h9 => OA.ofD hD rfl hSz q.1 h9)
          have hSz : s.heap.size ≤ H.size := hS.1
          refine lv_i2l hx hb dX5_digest_239 rfl ?_
          refine lv_ladd hx hb dX5_digest_240 ?_
          obtain ⟨x87, ex87, h⟩ := jlet_some h
          refine topJ ex87 ?_
          refine lv_lstore_n (lv' := [(1, .long x87), (0, .ref (A 0)), (3, .int y3_206)]) hx hb dX5_digest_241 rfl hl (by decide) rfl (fun ls hl => ?_)
          obtain ⟨x88, ex88, h⟩ := jlet_some h
          refine lv_iinc (v := x88) (lv' := [(3, .int x88), (1, .long x87), (0, .ref (A 0))]) hx hb dX5_digest_242 hl (k := 2) rfl (by rw [ex88]; rfl) (by decide) rfl (fun ls hl => ?_)
          refine lv_goto (tgt := 206) hx hb dX5_digest_245 (by decide) ?_
          exact ih _ _ _ _ _ _ h hK206 ls H locs (lv_sub hl [2, 1, 0] rfl) hP hD hS
        have h := eo85
        clear eo85
        refine lv_icmp_ne (tgt := 232) hx hb dX5_digest_225 (by decide) (fun hc => ?_) (fun hc => ?_)
        · have h := iteF hc h
          refine lv_iconst (v := (0)) hx hb dX5_digest_232 (by decide) ?_
          obtain rfl := Option.some.inj h
          exact hJ233_o85 ls H locs (lv_sub hl [0, 2] rfl) hP hD hS
        · have h := iteT hc h
          refine lv_iconst (v := (1)) hx hb dX5_digest_228 (by decide) ?_
          refine lv_goto (tgt := 233) hx hb dX5_digest_229 (by decide) ?_
          obtain rfl := Option.some.inj h
          exact hJ233_o85 ls H locs (lv_sub hl [0, 2] rfl) hP hD hS
  refine hL206 _ _ _ _ _ _ _ eo84 (fun ls H locs hl hP hD hS => ?_) ls H locs (lv_sub hl [2, 1, 0] rfl) hP hD hS
  have hSz : s.heap.size ≤ H.size := hS.1
  refine lv_ldc2 (v := (31)) hx hb hown (hts _ qw1245) dX5_digest_248 ?_
  refine lv_lload_n hx hb dX5_digest_251 rfl (lv_at hl 1 rfl) ?_
  refine lv_lmul hx hb dX5_digest_252 ?_
  refine lv_aload_n hx hb dX5_digest_253 rfl (lv_at hl 0 rfl) ?_
  refine lv_iconst (v := (0)) hx hb dX5_digest_254 (by decide) ?_
  obtain ⟨r89, er89, h⟩ := obind h
  refine call_R (va_runV (As := [.int (0 : Int32)]) (rest := [.long ((31 : Int64) * o84.1)]) ⟨hx, hb, hml, hown, hts⟩ (c_X5_isForced l z0 D t A (m_next' (m_ways' (m_thrown' (m_s' μ o84.2.1) (0 : Int32)) o84.2.2.1) o84.2.2.2) (0 : Int32) _ er89) (kV hts qw1213 qw1215 qs58 qw9 qw1216 ok_X5_isForced ⟨Nat.le_of_ble_eq_true rfl, Nat.le_of_ble_eq_true rfl⟩) ⟨PR.blind, va_recv hK hP (ci := 6) (q0 := 0) rfl rfl, fun U hU hW => ⟨rfl, by rw [hU]; exact (hC.at hS hZ).warm hW, by rw [hU]; exact hP⟩⟩ rfl rfl hl.1 rfl (lv_room (Nat.le_of_ble_eq_true rfl)) dX5_digest_255 ⟨Nat.le_of_ble_eq_true rfl, Nat.le_of_ble_eq_true rfl⟩) ?_
  refine lv_i2l hx hb dX5_digest_258 rfl ?_
  refine lv_ladd hx hb dX5_digest_259 ?_
  obtain ⟨x90, ex90, h⟩ := jlet_some h
  refine topJ ex90 ?_
  refine lv_lstore_n (lv' := [(1, .long x90), (0, .ref (A 0))]) hx hb dX5_digest_260 rfl hl (by decide) rfl (fun ls hl => ?_)
  refine lv_ldc2 (v := (31)) hx hb hown (hts _ qw1245) dX5_digest_261 ?_
  refine lv_lload_n hx hb dX5_digest_264 rfl (lv_at hl 0 rfl) ?_
  refine lv_lmul hx hb dX5_digest_265 ?_
  refine lv_aload_n hx hb dX5_digest_266 rfl (lv_at hl 1 rfl) ?_
  refine lv_iconst (v := (1)) hx hb dX5_digest_267 (by decide) ?_
  obtain ⟨r91, er91, h⟩ := obind h
  refine call_R (va_runV (As := [.int (1 : Int32)]) (rest := [.long ((31 : Int64) * x90)]) ⟨hx, hb, hml, hown, hts⟩ (c_X5_isForced l z0 D t A (m_next' (m_ways' (m_thrown' (m_s' μ o84.2.1) (0 : Int32)) o84.2.2.1) o84.2.2.2) (1 : Int32) _ er91) (kV hts qw1213 qw1215 qs58 qw9 qw1216 ok_X5_isForced ⟨Nat.le_of_ble_eq_true rfl, Nat.le_of_ble_eq_true rfl⟩) ⟨PR.blind, va_recv hK hP (ci := 6) (q0 := 0) rfl rfl, fun U hU hW => ⟨rfl, by rw [hU]; exact (hC.at hS hZ).warm hW, by rw [hU]; exact hP⟩⟩ rfl rfl hl.1 rfl (lv_room (Nat.le_of_ble_eq_true rfl)) dX5_digest_268 ⟨Nat.le_of_ble_eq_true rfl, Nat.le_of_ble_eq_true rfl⟩) ?_
  refine lv_i2l hx hb dX5_digest_271 rfl ?_
  refine lv_ladd hx hb dX5_digest_272 ?_
  obtain ⟨x92, ex92, h⟩ := jlet_some h
  refine topJ ex92 ?_
  refine lv_lstore_n (lv' := [(1, .long x92), (0, .ref (A 0))]) hx hb dX5_digest_273 rfl hl (by decide) rfl (fun ls hl => ?_)
  refine lv_ldc2 (v := (31)) hx hb hown (hts _ qw1245) dX5_digest_274 ?_
  refine lv_lload_n hx hb dX5_digest_277 rfl (lv_at hl 0 rfl) ?_
  refine lv_lmul hx hb dX5_digest_278 ?_
  refine lv_aload_n hx hb dX5_digest_279 rfl (lv_at hl 1 rfl) ?_
  refine lv_iconst (v := (0)) hx hb dX5_digest_280 (by decide) ?_
  obtain ⟨r93, er93, h⟩ := obind h
  refine call_R (va_runV (As := [.int (0 : Int32)]) (rest := [.long ((31 : Int64) * x92)]) ⟨hx, hb, hml, hown, hts⟩ (c_X5_firstWith l z0 D t A (m_next' (m_ways' (m_thrown' (m_s' μ o84.2.1) (0 : Int32)) o84.2.2.1) o84.2.2.2) (0 : Int32) _ er93) (kV hts qw1217 qw1219 qs59 qw9 qw1220 ok_X5_firstWith ⟨Nat.le_of_ble_eq_true rfl, Nat.le_of_ble_eq_true rfl⟩) ⟨PR.blind, va_recv hK hP (ci := 6) (q0 := 0) rfl rfl, fun U hU hW => ⟨rfl, by rw [hU]; exact (hC.at hS hZ).warm hW, by rw [hU]; exact hP⟩⟩ rfl rfl hl.1 rfl (lv_room (Nat.le_of_ble_eq_true rfl)) dX5_digest_281 ⟨Nat.le_of_ble_eq_true rfl, Nat.le_of_ble_eq_true rfl⟩) ?_
  obtain ⟨r94, er94, h⟩ := obind h
  refine call_R (va_runS (As := [.int r93]) (rest := [.long ((31 : Int64) * x92)]) ⟨hx, hb, hml, hown, hts⟩ (c_X5_told l z0 D t r93 _ er94) (kS hts qw1221 qw1222 qw9 qw1223 ok_X5_told ⟨Nat.le_of_ble_eq_true rfl, Nat.le_of_ble_eq_true rfl⟩) ⟨PR.blind, fun U hU hW => ⟨rfl, by rw [hU]; exact (hC.at hS hZ).warm hW, by rw [hU]; exact va_P_nil⟩⟩ rfl rfl hl.1 rfl (lv_room (Nat.le_of_ble_eq_true rfl)) dX5_digest_284 ⟨Nat.le_of_ble_eq_true rfl, Nat.le_of_ble_eq_true rfl⟩) ?_
  refine lv_i2l hx hb dX5_digest_287 rfl ?_
  refine lv_ladd hx hb dX5_digest_288 ?_
  obtain ⟨x95, ex95, h⟩ := jlet_some h
  refine topJ ex95 ?_
  refine lv_lstore_n (lv' := [(1, .long x95), (0, .ref (A 0))]) hx hb dX5_digest_289 rfl hl (by decide) rfl (fun ls hl => ?_)
  refine lv_ldc2 (v := (31)) hx hb hown (hts _ qw1245) dX5_digest_290 ?_
  refine lv_lload_n hx hb dX5_digest_293 rfl (lv_at hl 0 rfl) ?_
  refine lv_lmul hx hb dX5_digest_294 ?_
  refine lv_aload_n hx hb dX5_digest_295 rfl (lv_at hl 1 rfl) ?_
  obtain ⟨r96, er96, h⟩ := obind h
  refine call_R (va_runV (As := []) (rest := [.long ((31 : Int64) * x95)]) ⟨hx, hb, hml, hown, hts⟩ (c_X5_share l z0 D t A (m_next' (m_ways' (m_thrown' (m_s' μ o84.2.1) (0 : Int32)) o84.2.2.1) o84.2.2.2) _ er96) (kV hts qw1236 qw1238 qs60 qw9 qw1239 ok_X5_share ⟨Nat.le_of_ble_eq_true rfl, Nat.le_of_ble_eq_true rfl⟩) ⟨PR.blind, va_recv hK hP (ci := 6) (q0 := 0) rfl rfl, fun U hU hW => ⟨rfl, by rw [hU]; exact (hC.at hS hZ).warm hW, by rw [hU]; exact hP⟩⟩ rfl rfl hl.1 rfl (lv_room (Nat.le_of_ble_eq_true rfl)) dX5_digest_296 ⟨Nat.le_of_ble_eq_true rfl, Nat.le_of_ble_eq_true rfl⟩) ?_
  obtain ⟨r97, er97, h⟩ := obind h
  refine call_R (va_runS (As := [.double r96]) (rest := [.long ((31 : Int64) * x95)]) ⟨hx, hb, hml, hown, hts⟩ (c_Jxe99ae_doubleToLongBits_ccdee l z0 D t r96 _ er97) (kS hts qw1246 qw1247 qw26 qw1248 ok_Jxe99ae_doubleToLongBits_ccdee ⟨Nat.le_of_ble_eq_true rfl, Nat.le_of_ble_eq_true rfl⟩) ⟨PR.blind, fun U hU hW => ⟨rfl, by rw [hU]; exact (hC.at hS hZ).warm hW, by rw [hU]; exact va_P_nil⟩⟩ rfl rfl hl.1 rfl (lv_room (Nat.le_of_ble_eq_true rfl)) dX5_digest_299 ⟨Nat.le_of_ble_eq_true rfl, Nat.le_of_ble_eq_true rfl⟩) ?_
  refine lv_ladd hx hb dX5_digest_302 ?_
  obtain ⟨x98, ex98, h⟩ := jlet_some h
  refine topJ ex98 ?_
  refine lv_lstore_n (lv' := [(1, .long x98), (0, .ref (A 0))]) hx hb dX5_digest_303 rfl hl (by decide) rfl (fun ls hl => ?_)
  refine lv_ldc2 (v := (31)) hx hb hown (hts _ qw1245) dX5_digest_304 ?_
  refine lv_lload_n hx hb dX5_digest_307 rfl (lv_at hl 0 rfl) ?_
  refine lv_lmul hx hb dX5_digest_308 ?_
  refine lv_aload_n hx hb dX5_digest_309 rfl (lv_at hl 1 rfl) ?_
  refine va_get hx hb hts inX5 hown hK hP 0 rfl rfl 2 (by decide) (hts _ qw969) (fun _ h9 => h9) rfl dX5_digest_310 ?_
  refine lv_iconst (v := (0)) hx hb dX5_digest_313 (by decide) ?_
  obtain ⟨v99, ev99, h⟩ := obind h
  refine k_zald hx hb hK hP 2 rfl ev99 dX5_digest_314 ?_
  obtain ⟨o100, eo100, h⟩ := obind h
  have hJ323_o100 : ∀ (ls : Array Slot) (H : Heap) (locs : List Loc), lv_has ls 5 [(0, .ref (A 0))] → va_P D vwCl (MW A t (m_next' (m_ways' (m_thrown' (m_s' μ o84.2.1) (0 : Int32)) o84.2.2.1) o84.2.2.2)) H → va_D (OA (ML A) s.heap.size) (MW A t (m_next' (m_ways' (m_thrown' (m_s' μ o84.2.1) (0 : Int32)) o84.2.2.1) o84.2.2.2)) → va_S (OA (ML A) s.heap.size) s.heap H locs → W p l e (headSpec (ws_ yX5_digest cX5_digest 5 (some .long)) rm_X5_digest).room s m ([.ref (A 0)] : List Value).toArray below meth c H locs 0 0 (MQ below (QM (some (.long res.1)) D (MW A t (m_next' (m_ways' (m_thrown' (m_s' μ res.2.1) res.2.2.1) res.2.2.2.1) res.2.2.2.2)) (ML A) s.heap.size) ([.ref (A 0)] : List Value).toArray s 0 0 (OA (ML A) s.heap.size)) (F0 m 323 ls [.int o100, .long ((31 : Int64) * x98)]) := by
    intro ls H locs hl hP hD hS
    have hSz : s.heap.size ≤ H.size := hS.1
    refine lv_i2l hx hb dX5_digest_323 rfl ?_
    refine lv_ladd hx hb dX5_digest_324 ?_
    obtain ⟨x101, ex101, h⟩ := jlet_some h
    refine topJ ex101 ?_
    refine lv_lstore_n (lv' := [(1, .long x101), (0, .ref (A 0))]) hx hb dX5_digest_325 rfl hl (by decide) rfl (fun ls hl => ?_)
    refine lv_ldc2 (v := (31)) hx hb hown (hts _ qw1245) dX5_digest_326 ?_
    refine lv_lload_n hx hb dX5_digest_329 rfl (lv_at hl 0 rfl) ?_
    refine lv_lmul hx hb dX5_digest_330 ?_
    refine lv_aload_n hx hb dX5_digest_331 rfl (lv_at hl 1 rfl) ?_
    refine va_get hx hb hts inX5 hown hK hP 0 rfl rfl 2 (by decide) (hts _ qw969) (fun _ h9 => h9) rfl dX5_digest_332 ?_
    refine lv_iconst (v := (1)) hx hb dX5_digest_335 (by decide) ?_
    obtain ⟨v102, ev102, h⟩ := obind h
    refine k_zald hx hb hK hP 2 rfl ev102 dX5_digest_336 ?_
    obtain ⟨o103, eo103, h⟩ := obind h
    have hJ345_o103 : ∀ (ls : Array Slot) (H : Heap) (locs : List Loc), lv_has ls 5 [(0, .ref (A 0))] → va_P D vwCl (MW A t (m_next' (m_ways' (m_thrown' (m_s' μ o84.2.1) (0 : Int32)) o84.2.2.1) o84.2.2.2)) H → va_D (OA (ML A) s.heap.size) (MW A t (m_next' (m_ways' (m_thrown' (m_s' μ o84.2.1) (0 : Int32)) o84.2.2.1) o84.2.2.2)) → va_S (OA (ML A) s.heap.size) s.heap H locs → W p l e (headSpec (ws_ yX5_digest cX5_digest 5 (some .long)) rm_X5_digest).room s m ([.ref (A 0)] : List Value).toArray below meth c H locs 0 0 (MQ below (QM (some (.long res.1)) D (MW A t (m_next' (m_ways' (m_thrown' (m_s' μ res.2.1) res.2.2.1) res.2.2.2.1) res.2.2.2.2)) (ML A) s.heap.size) ([.ref (A 0)] : List Value).toArray s 0 0 (OA (ML A) s.heap.size)) (F0 m 345 ls [.int o103, .long ((31 : Int64) * x101)]) := by
      intro ls H locs hl hP hD hS
      have hSz : s.heap.size ≤ H.size := hS.1
      refine lv_i2l hx hb dX5_digest_345 rfl ?_
      refine lv_ladd hx hb dX5_digest_346 ?_
      obtain ⟨x104, ex104, h⟩ := jlet_some h
      refine topJ ex104 ?_
      refine lv_lstore_n (lv' := [(1, .long x104), (0, .ref (A 0))]) hx hb dX5_digest_347 rfl hl (by decide) rfl (fun ls hl => ?_)
      refine lv_ldc2 (v := (31)) hx hb hown (hts _ qw1245) dX5_digest_348 ?_
      refine lv_lload_n hx hb dX5_digest_351 rfl (lv_at hl 0 rfl) ?_
      refine lv_lmul hx hb dX5_digest_352 ?_
      refine lv_aload_n hx hb dX5_digest_353 rfl (lv_at hl 1 rfl) ?_
      refine va_get hx hb hts inX5 hown hK hP 0 rfl rfl 5 (by decide) (hts _ qw972) (fun _ h9 => h9) rfl dX5_digest_354 ?_
      refine lv_i2l hx hb dX5_digest_357 rfl ?_
      refine lv_ladd hx hb dX5_digest_358 ?_
      obtain ⟨x105, ex105, h⟩ := jlet_some h
      refine topJ ex105 ?_
      refine lv_lstore_n (lv' := [(1, .long x105), (0, .ref (A 0))]) hx hb dX5_digest_359 rfl hl (by decide) rfl (fun ls hl => ?_)
      refine lv_iconst (v := (0)) hx hb dX5_digest_360 (by decide) ?_
      refine lv_istore_n (lv' := [(3, .int (0 : Int32)), (1, .long x105), (0, .ref (A 0))]) hx hb dX5_digest_361 rfl hl (by decide) rfl (fun ls hl => ?_)
      obtain ⟨o112, eo112, h⟩ := obind h
      have hL362 : ∀ (n : Nat) (y1_362 : Int64) (y3_362 : Int32) (o112 : Int64), f_X5_digest_L362 μ n y1_362 y3_362 = some o112 → (∀ (ls : Array Slot) (H : Heap) (locs : List Loc), lv_has ls 5 [(1, .long o112)] → va_P D vwCl (MW A t (m_next' (m_ways' (m_thrown' (m_s' μ o84.2.1) (0 : Int32)) o84.2.2.1) o84.2.2.2)) H → va_D (OA (ML A) s.heap.size) (MW A t (m_next' (m_ways' (m_thrown' (m_s' μ o84.2.1) (0 : Int32)) o84.2.2.1) o84.2.2.2)) → va_S (OA (ML A) s.heap.size) s.heap H locs → W p l e (headSpec (ws_ yX5_digest cX5_digest 5 (some .long)) rm_X5_digest).room s m ([.ref (A 0)] : List Value).toArray below meth c H locs 0 0 (MQ below (QM (some (.long res.1)) D (MW A t (m_next' (m_ways' (m_thrown' (m_s' μ res.2.1) res.2.2.1) res.2.2.2.1) res.2.2.2.2)) (ML A) s.heap.size) ([.ref (A 0)] : List Value).toArray s 0 0 (OA (ML A) s.heap.size)) (F0 m 390 ls [])) → ∀ (ls : Array Slot) (H : Heap) (locs : List Loc), lv_has ls 5 [(0, .ref (A 0)), (1, .long y1_362), (3, .int y3_362)] → va_P D vwCl (MW A t (m_next' (m_ways' (m_thrown' (m_s' μ o84.2.1) (0 : Int32)) o84.2.2.1) o84.2.2.2)) H → va_D (OA (ML A) s.heap.size) (MW A t (m_next' (m_ways' (m_thrown' (m_s' μ o84.2.1) (0 : Int32)) o84.2.2.1) o84.2.2.2)) → va_S (OA (ML A) s.heap.size) s.heap H locs → W p l e (headSpec (ws_ yX5_digest cX5_digest 5 (some .long)) rm_X5_digest).room s m ([.ref (A 0)] : List Value).toArray below meth c H locs 0 0 (MQ below (QM (some (.long res.1)) D (MW A t (m_next' (m_ways' (m_thrown' (m_s' μ res.2.1) res.2.2.1) res.2.2.2.1) res.2.2.2.2)) (ML A) s.heap.size) ([.ref (A 0)] : List Value).toArray s 0 0 (OA (ML A) s.heap.size)) (F0 m 362 ls []) := by
        intro n
        induction n with
        | zero => intro y1_362 y3_362 o112 h; exact absurd h (fun z => by cases z)
        | succ n ih =>
          intro y1_362 y3_362 o112 h hK362 ls H locs hl hP hD hS
          replace h : f_X5_digest_L362_b μ (f_X5_digest_L362 μ n) y1_362 y3_362 = some o112 := h
          unfold f_X5_digest_L362_b at h
          have hSz : s.heap.size ≤ H.size := hS.1
          refine lv_iload_n hx hb dX5_digest_362 rfl (lv_at hl 2 rfl) ?_
          refine lv_aload_n hx hb dX5_digest_363 rfl (lv_at hl 0 rfl) ?_
          refine va_get hx hb hts inX5 hown hK hP 0 rfl rfl 5 (by decide) (hts _ qw972) (fun _ h9 => h9) rfl dX5_digest_364 ?_
          refine lv_icmp_ge (tgt := 390) hx hb dX5_digest_367 (by decide) (fun hc => ?_) (fun hc => ?_)
          · have h := iteT hc h
            obtain rfl := Option.some.inj h
            exact hK362 ls H locs (lv_sub hl [1] rfl) hP hD hS
          · have h := iteF hc h
            refine lv_ldc2 (v := (31)) hx hb hown (hts _ qw1245) dX5_digest_370 ?_
            refine lv_lload_n hx hb dX5_digest_373 rfl (lv_at hl 1 rfl) ?_
            refine lv_lmul hx hb dX5_digest_374 ?_
            refine lv_aload_n hx hb dX5_digest_375 rfl (lv_at hl 0 rfl) ?_
            refine va_get hx hb hts inX5 hown hK hP 0 rfl rfl 4 (by decide) (hts _ qw971) (fun _ h9 => h9) rfl dX5_digest_376 ?_
            refine lv_iload_n hx hb dX5_digest_379 rfl (lv_at hl 2 rfl) ?_
            obtain ⟨v113, ev113, h⟩ := obind h
            refine k_cald hx hb hK hP 3 rfl ev113 dX5_digest_380 ?_
            refine lv_i2l hx hb dX5_digest_381 rfl ?_
            refine lv_ladd hx hb dX5_digest_382 ?_
            obtain ⟨x114, ex114, h⟩ := jlet_some h
            refine topJ ex114 ?_
            refine lv_lstore_n (lv' := [(1, .long x114), (0, .ref (A 0)), (3, .int y3_362)]) hx hb dX5_digest_383 rfl hl (by decide) rfl (fun ls hl => ?_)
            obtain ⟨x115, ex115, h⟩ := jlet_some h
            refine lv_iinc (v := x115) (lv' := [(3, .int x115), (1, .long x114), (0, .ref (A 0))]) hx hb dX5_digest_384 hl (k := 2) rfl (by rw [ex115]; rfl) (by decide) rfl (fun ls hl => ?_)
            refine lv_goto (tgt := 362) hx hb dX5_digest_387 (by decide) ?_
            exact ih _ _ _ h hK362 ls H locs (lv_sub hl [2, 1, 0] rfl) hP hD hS
      refine hL362 _ _ _ _ eo112 (fun ls H locs hl hP hD hS => ?_) ls H locs (lv_sub hl [2, 1, 0] rfl) hP hD hS
      have hSz : s.heap.size ≤ H.size := hS.1
      refine lv_lload_n hx hb dX5_digest_390 rfl (lv_at hl 0 rfl) ?_
      obtain rfl := Option.some.inj h
      exact W.lret hx hb hr (fun t ht hW => ⟨rfl, by rw [ht]; exact hP, hD, hS.F ht⟩) hS.2.2 dX5_digest_391
    have h := eo103
    clear eo103
    refine lv_if_eq (tgt := 344) hx hb dX5_digest_337 (by decide) (fun hc => ?_) (fun hc => ?_)
    · have h := iteT hc h
      refine lv_iconst (v := (0)) hx hb dX5_digest_344 (by decide) ?_
      obtain rfl := Option.some.inj h
      exact hJ345_o103 ls H locs (lv_sub hl [1] rfl) hP hD hS
    · have h := iteF hc h
      refine lv_iconst (v := (1)) hx hb dX5_digest_340 (by decide) ?_
      refine lv_goto (tgt := 345) hx hb dX5_digest_341 (by decide) ?_
      obtain rfl := Option.some.inj h
      exact hJ345_o103 ls H locs (lv_sub hl [1] rfl) hP hD hS
  have h := eo100
  clear eo100
  refine lv_if_eq (tgt := 322) hx hb dX5_digest_315 (by decide) (fun hc => ?_) (fun hc => ?_)
  · have h := iteT hc h
    refine lv_iconst (v := (0)) hx hb dX5_digest_322 (by decide) ?_
    obtain rfl := Option.some.inj h
    exact hJ323_o100 ls H locs (lv_sub hl [1] rfl) hP hD hS
  · have h := iteF hc h
    refine lv_iconst (v := (1)) hx hb dX5_digest_318 (by decide) ?_
    refine lv_goto (tgt := 323) hx hb dX5_digest_319 (by decide) ?_
    obtain rfl := Option.some.inj h
    exact hJ323_o100 ls H locs (lv_sub hl [1] rfl) hP hD hS
