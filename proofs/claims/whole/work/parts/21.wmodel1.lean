abbrev rm_X5_laysOut : Room := { frames := 0, cells := 0, slots := 0, locals := 0 }
theorem ok_X5_laysOut : okY yX5_laysOut 3 := ⟨by decide +kernel, by decide +kernel, by decide +kernel⟩
set_option maxHeartbeats 4000000 in
set_option maxRecDepth 100000 in
theorem c_X5_laysOut (l : Launch) (z0 : Nat) (D : va_G) (t : Nat → ClassId) (A : Nat → Nat) (μ : MS) (a1 : Int32) (a2 : Int32) (a3 : Int32) (res : (Nat → Int32)) (sz : Nat) (h : f_X5_laysOut μ a1 a2 a3 = some res) : Met l yX5_laysOut (ws_ yX5_laysOut cX5_laysOut 5 none) rm_X5_laysOut (PM z0 D t [.ref (A 0), .int a1, .int a2, .int a3] (MW A t μ) (ML A) sz) (QM none D (MW A t (m_s' μ res)) (ML A) sz) 0 0 (OA (ML A) sz) := by
  refine Met.ofW (cc := cX5_laysOut) (maxL := 5) (ret := none) (by decide) rfl ?_
  intro p e s m args below meth c s₁ Bo hml hv
  obtain ⟨rfl, hC, hsz, hP, hD, hZ⟩ := hv
  have hx := Bo.exec
  have hb := Bo.bytes
  have hr := Bo.returns
  have hts : ∀ w ∈ LA, w.before _ s = true := fun w hw => atoms_spec (ws := ws_ yX5_laysOut cX5_laysOut 5 none) Bo.pre w (List.mem_cons_of_mem _ hw)
  have hown : s.vm.findClass RX5 = some m.cls := findClass_of_methodNamed Bo.named
  have hlocks := Bo.notSynchronized
  have hK := hC.1
  subst hsz
  have hl := lv_entry ([.ref (A 0), .int a1, .int a2, .int a3]) (n := 5) (Nat.le_of_ble_eq_true rfl)
  rw [lg_entry_eq]
  generalize (lg_sl ([.ref (A 0), .int a1, .int a2, .int a3]) ++ List.replicate (5 - (lg_sl ([.ref (A 0), .int a1, .int a2, .int a3])).length) Slot.unset).toArray = ls at hl ⊢
  have hl : lv_has ls 5 [(0, .ref (A 0)), (1, .int a1), (2, .int a2), (3, .int a3)] := hl
  suffices K9 : ∀ (H : Heap) (locs : List Loc), va_P D vwCl (MW A t μ) H → va_S (OA (ML A) s.heap.size) s.heap H locs → W p l e (headSpec (ws_ yX5_laysOut cX5_laysOut 5 none) rm_X5_laysOut).room s m ([.ref (A 0), .int a1, .int a2, .int a3] : List Value).toArray below meth c H locs 0 0 (MQ below (QM none D (MW A t (m_s' μ res)) (ML A) s.heap.size) ([.ref (A 0), .int a1, .int a2, .int a3] : List Value).toArray s 0 0 (OA (ML A) s.heap.size)) (F0 m 0 ls []) from K9 s.heap [] hP va_S.rf
  intro H locs hP hS
  have hSz : s.heap.size ≤ H.size := hS.1
  unfold f_X5_laysOut at h
  refine lv_aload_n hx hb dX5_laysOut_0 rfl (lv_at hl 0 rfl) ?_
  refine va_get hx hb hts inX5 hown hK hP 0 rfl rfl 0 (by decide) (hts _ qw967) (fun _ h9 => h9) rfl dX5_laysOut_1 ?_
  refine lv_iload_n hx hb dX5_laysOut_4 rfl (lv_at hl 1 rfl) ?_
  refine lv_iload_n hx hb dX5_laysOut_5 rfl (lv_at hl 2 rfl) ?_
  obtain ⟨f1, ef1, h⟩ := obind h
  refine k_iast (ws' := (MW A t (m_s' μ f1))) hx hb hK hP hD hS 1 rfl ef1 rfl dX5_laysOut_6 (fun H locs hP hD hS => ?_)
  have hSz : s.heap.size ≤ H.size := hS.1
  refine lv_aload_n hx hb dX5_laysOut_7 rfl (lv_at hl 0 rfl) ?_
  refine va_get hx hb hts inX5 hown hK hP 0 rfl rfl 0 (by decide) (hts _ qw967) (fun _ h9 => h9) rfl dX5_laysOut_8 ?_
  refine lv_iload_n hx hb dX5_laysOut_11 rfl (lv_at hl 1 rfl) ?_
  refine lv_iconst (v := (1)) hx hb dX5_laysOut_12 (by decide) ?_
  refine lv_iadd hx hb dX5_laysOut_13 ?_
  refine lv_iload_n hx hb dX5_laysOut_14 rfl (lv_at hl 3 rfl) ?_
  obtain ⟨f2, ef2, h⟩ := obind h
  refine k_iast (ws' := (MW A t (m_s' μ f2))) hx hb hK hP hD hS 1 rfl ef2 rfl dX5_laysOut_15 (fun H locs hP hD hS => ?_)
  have hSz : s.heap.size ≤ H.size := hS.1
  refine lv_aload_n hx hb dX5_laysOut_16 rfl (lv_at hl 0 rfl) ?_
  refine va_get hx hb hts inX5 hown hK hP 0 rfl rfl 0 (by decide) (hts _ qw967) (fun _ h9 => h9) rfl dX5_laysOut_17 ?_
  refine lv_iload_n hx hb dX5_laysOut_20 rfl (lv_at hl 1 rfl) ?_
  refine lv_iconst (v := (2)) hx hb dX5_laysOut_21 (by decide) ?_
  refine lv_iadd hx hb dX5_laysOut_22 ?_
  refine lv_iconst (v := (0)) hx hb dX5_laysOut_23 (by decide) ?_
  obtain ⟨f3, ef3, h⟩ := obind h
  refine k_iast (ws' := (MW A t (m_s' μ f3))) hx hb hK hP hD hS 1 rfl ef3 rfl dX5_laysOut_24 (fun H locs hP hD hS => ?_)
  have hSz : s.heap.size ≤ H.size := hS.1
  refine lv_aload_n hx hb dX5_laysOut_25 rfl (lv_at hl 0 rfl) ?_
  refine va_get hx hb hts inX5 hown hK hP 0 rfl rfl 0 (by decide) (hts _ qw967) (fun _ h9 => h9) rfl dX5_laysOut_26 ?_
  refine lv_iload_n hx hb dX5_laysOut_29 rfl (lv_at hl 1 rfl) ?_
  refine lv_sipush (v := (131)) hx hb dX5_laysOut_30 (by decide) ?_
  refine lv_iadd hx hb dX5_laysOut_33 ?_
  refine lv_iconst (v := (0)) hx hb dX5_laysOut_34 (by decide) ?_
  obtain ⟨f4, ef4, h⟩ := obind h
  refine k_iast (ws' := (MW A t (m_s' μ f4))) hx hb hK hP hD hS 1 rfl ef4 rfl dX5_laysOut_35 (fun H locs hP hD hS => ?_)
  have hSz : s.heap.size ≤ H.size := hS.1
  refine lv_iconst (v := (0)) hx hb dX5_laysOut_36 (by decide) ?_
  refine lv_istore (lv' := [(4, .int (0 : Int32)), (0, .ref (A 0)), (1, .int a1), (2, .int a2), (3, .int a3)]) hx hb dX5_laysOut_37 hl (by decide) rfl (fun ls hl => ?_)
  obtain ⟨o11, eo11, h⟩ := obind h
  have hL39 : ∀ (n : Nat) (y4_39 : Int32) (s_39 : Nat → Int32) (o11 : (Nat → Int32)), f_X5_laysOut_L39 a1 n y4_39 s_39 = some o11 → (∀ (ls : Array Slot) (H : Heap) (locs : List Loc), lv_has ls 5 [] → va_P D vwCl (MW A t (m_s' μ o11)) H → va_D (OA (ML A) s.heap.size) (MW A t (m_s' μ o11)) → va_S (OA (ML A) s.heap.size) s.heap H locs → W p l e (headSpec (ws_ yX5_laysOut cX5_laysOut 5 none) rm_X5_laysOut).room s m ([.ref (A 0), .int a1, .int a2, .int a3] : List Value).toArray below meth c H locs 0 0 (MQ below (QM none D (MW A t (m_s' μ res)) (ML A) s.heap.size) ([.ref (A 0), .int a1, .int a2, .int a3] : List Value).toArray s 0 0 (OA (ML A) s.heap.size)) (F0 m 77 ls [])) → ∀ (ls : Array Slot) (H : Heap) (locs : List Loc), lv_has ls 5 [(0, .ref (A 0)), (1, .int a1), (4, .int y4_39)] → va_P D vwCl (MW A t (m_s' μ s_39)) H → va_D (OA (ML A) s.heap.size) (MW A t (m_s' μ s_39)) → va_S (OA (ML A) s.heap.size) s.heap H locs → W p l e (headSpec (ws_ yX5_laysOut cX5_laysOut 5 none) rm_X5_laysOut).room s m ([.ref (A 0), .int a1, .int a2, .int a3] : List Value).toArray below meth c H locs 0 0 (MQ below (QM none D (MW A t (m_s' μ res)) (ML A) s.heap.size) ([.ref (A 0), .int a1, .int a2, .int a3] : List Value).toArray s 0 0 (OA (ML A) s.heap.size)) (F0 m 39 ls []) := by
    intro n
    induction n with
    | zero => intro y4_39 s_39 o11 h; exact absurd h (fun z => by cases z)
    | succ n ih =>
      intro y4_39 s_39 o11 h hK39 ls H locs hl hP hD hS
      replace h : f_X5_laysOut_L39_b a1 (f_X5_laysOut_L39 a1 n) y4_39 s_39 = some o11 := h
      unfold f_X5_laysOut_L39_b at h
      have hSz : s.heap.size ≤ H.size := hS.1
      refine lv_iload hx hb dX5_laysOut_39 (lv_at hl 2 rfl) ?_
      refine lv_bipush (v := (64)) hx hb dX5_laysOut_41 (by decide) ?_
      refine lv_icmp_ge (tgt := 77) hx hb dX5_laysOut_43 (by decide) (fun hc => ?_) (fun hc => ?_)
      · have h := iteT hc h
        obtain rfl := Option.some.inj h
        exact hK39 ls H locs (lv_sub hl [] rfl) hP hD hS
      · have h := iteF hc h
        refine lv_aload_n hx hb dX5_laysOut_46 rfl (lv_at hl 0 rfl) ?_
        refine va_get hx hb hts inX5 hown hK hP 0 rfl rfl 0 (by decide) (hts _ qw967) (fun _ h9 => h9) rfl dX5_laysOut_47 ?_
        refine lv_iload_n hx hb dX5_laysOut_50 rfl (lv_at hl 1 rfl) ?_
        refine lv_iconst (v := (3)) hx hb dX5_laysOut_51 (by decide) ?_
        refine lv_iadd hx hb dX5_laysOut_52 ?_
        refine lv_iload hx hb dX5_laysOut_53 (lv_at hl 2 rfl) ?_
        refine lv_iadd hx hb dX5_laysOut_55 ?_
        refine lv_iconst (v := (0)) hx hb dX5_laysOut_56 (by decide) ?_
        obtain ⟨f12, ef12, h⟩ := obind h
        refine k_iast (ws' := (MW A t (m_s' μ f12))) hx hb hK hP hD hS 1 rfl ef12 rfl dX5_laysOut_57 (fun H locs hP hD hS => ?_)
        have hSz : s.heap.size ≤ H.size := hS.1
        refine lv_aload_n hx hb dX5_laysOut_58 rfl (lv_at hl 0 rfl) ?_
        refine va_get hx hb hts inX5 hown hK hP 0 rfl rfl 0 (by decide) (hts _ qw967) (fun _ h9 => h9) rfl dX5_laysOut_59 ?_
        refine lv_iload_n hx hb dX5_laysOut_62 rfl (lv_at hl 1 rfl) ?_
        refine lv_bipush (v := (67)) hx hb dX5_laysOut_63 (by decide) ?_
        refine lv_iadd hx hb dX5_laysOut_65 ?_
        refine lv_iload hx hb dX5_laysOut_66 (lv_at hl 2 rfl) ?_
        refine lv_iadd hx hb dX5_laysOut_68 ?_
        refine lv_iconst (v := (-1)) hx hb dX5_laysOut_69 (by decide) ?_
        obtain ⟨f13, ef13, h⟩ := obind h
        refine k_iast (ws' := (MW A t (m_s' μ f13))) hx hb hK hP hD hS 1 rfl ef13 rfl dX5_laysOut_70 (fun H locs hP hD hS => ?_)
        have hSz : s.heap.size ≤ H.size := hS.1
        obtain ⟨x14, ex14, h⟩ := jlet_some h
        refine lv_iinc (v := x14) (lv' := [(4, .int x14), (0, .ref (A 0)), (1, .int a1)]) hx hb dX5_laysOut_71 hl (k := 2) rfl (by rw [ex14]; rfl) (by decide) rfl (fun ls hl => ?_)
        refine lv_goto (tgt := 39) hx hb dX5_laysOut_74 (by decide) ?_
        exact ih _ _ _ h hK39 ls H locs (lv_sub hl [1, 2, 0] rfl) hP hD hS
  refine hL39 _ _ _ _ eo11 (fun ls H locs hl hP hD hS => ?_) ls H locs (lv_sub hl [1, 2, 0] rfl) hP hD hS
  have hSz : s.heap.size ≤ H.size := hS.1
  obtain rfl := Option.some.inj h
  exact W.vret hx hb hr (fun t ht hW => ⟨rfl, by rw [ht]; exact hP, hD, hS.F ht⟩) hS.2.2 dX5_laysOut_77

abbrev rm_X5_thrown : Room := { frames := 0, cells := 0, slots := 0, locals := 0 }
theorem ok_X5_thrown : okY yX5_thrown 0 := ⟨by decide +kernel, by decide +kernel, by decide +kernel⟩
set_option maxHeartbeats 4000000 in
set_option maxRecDepth 100000 in
theorem c_X5_thrown (l : Launch) (z0 : Nat) (D : va_G) (t : Nat → ClassId) (A : Nat → Nat) (μ : MS) (res : Int32) (h : f_X5_thrown μ = some res) : Met l yX5_thrown (ws_ yX5_thrown cX5_thrown 1 (some .int)) rm_X5_thrown (PR z0 D t [.ref (A 0)] (MW A t μ)) (QR (some (.int res))) 0 0 FN := by
  refine Met.ofW (cc := cX5_thrown) (maxL := 1) (ret := (some .int)) (by decide) rfl ?_
  intro p e s m args below meth c s₁ Bo hml hv
  obtain ⟨rfl, hC, hP⟩ := hv
  have hx := Bo.exec
  have hb := Bo.bytes
  have hr := Bo.returns
  have hts : ∀ w ∈ LA, w.before _ s = true := fun w hw => atoms_spec (ws := ws_ yX5_thrown cX5_thrown 1 (some .int)) Bo.pre w (List.mem_cons_of_mem _ hw)
  have hown : s.vm.findClass RX5 = some m.cls := findClass_of_methodNamed Bo.named
  have hlocks := Bo.notSynchronized
  have hK := hC.1
  have hl := lv_entry ([.ref (A 0)]) (n := 1) (Nat.le_of_ble_eq_true rfl)
  rw [lg_entry_eq]
  generalize (lg_sl ([.ref (A 0)]) ++ List.replicate (1 - (lg_sl ([.ref (A 0)])).length) Slot.unset).toArray = ls at hl ⊢
  have hl : lv_has ls 1 [(0, .ref (A 0))] := hl
  unfold f_X5_thrown at h
  refine lv_aload_n hx hb dX5_thrown_0 rfl (lv_at hl 0 rfl) ?_
  refine va_get hx hb hts inX5 hown hK hP 0 rfl rfl 3 (by decide) (hts _ qw970) (fun _ h9 => h9) rfl dX5_thrown_1 ?_
  obtain rfl := Option.some.inj h
  exact W.iret hx hb hr (fun t ht hW => ⟨rfl, ht⟩) (fun q hq => absurd hq List.not_mem_nil) dX5_thrown_4

abbrev rm_X5_in : Room := { frames := 0, cells := 0, slots := 0, locals := 0 }
theorem ok_X5_in : okY yX5_in 3 := ⟨by decide +kernel, by decide +kernel, by decide +kernel⟩
set_option maxHeartbeats 4000000 in
set_option maxRecDepth 100000 in
theorem c_X5_in (l : Launch) (z0 : Nat) (D : va_G) (t : Nat → ClassId) (a1 : Int32) (a2 : Int32) (a3 : Int32) (res : Int32) (h : f_X5_in a1 a2 a3 = some res) : Met l yX5_in (ws_ yX5_in cX5_in 3 (some .boolean)) rm_X5_in (PR z0 D t [.int a1, .int a2, .int a3] []) (QR (some (.int res))) 0 0 FN := by
  refine Met.ofW (cc := cX5_in) (maxL := 3) (ret := (some .boolean)) (by decide) rfl ?_
  intro p e s m args below meth c s₁ Bo hml hv
  obtain ⟨rfl, hC, hP⟩ := hv
  have hx := Bo.exec
  have hb := Bo.bytes
  have hr := Bo.returns
  have hts : ∀ w ∈ LA, w.before _ s = true := fun w hw => atoms_spec (ws := ws_ yX5_in cX5_in 3 (some .boolean)) Bo.pre w (List.mem_cons_of_mem _ hw)
  have hown : s.vm.findClass RX5 = some m.cls := findClass_of_methodNamed Bo.named
  have hlocks := Bo.notSynchronized
  have hK := hC.1
  have hl := lv_entry ([.int a1, .int a2, .int a3]) (n := 3) (Nat.le_of_ble_eq_true rfl)
  rw [lg_entry_eq]
  generalize (lg_sl ([.int a1, .int a2, .int a3]) ++ List.replicate (3 - (lg_sl ([.int a1, .int a2, .int a3])).length) Slot.unset).toArray = ls at hl ⊢
  have hl : lv_has ls 3 [(0, .int a1), (1, .int a2), (2, .int a3)] := hl
  unfold f_X5_in at h
  refine lv_iload_n hx hb dX5_in_0 rfl (lv_at hl 0 rfl) ?_
  refine lv_iload_n hx hb dX5_in_1 rfl (lv_at hl 1 rfl) ?_
  refine lv_icmp_lt (tgt := 14) hx hb dX5_in_2 (by decide) (fun hc => ?_) (fun hc => ?_)
  · have h := iteT hc h
    refine lv_iconst (v := (0)) hx hb dX5_in_14 (by decide) ?_
    obtain rfl := Option.some.inj h
    exact W.zret hx hb hr rfl (fun t ht hW => ⟨rfl, ht⟩) (fun q hq => absurd hq List.not_mem_nil) dX5_in_15
  · have h := iteF hc h
    refine lv_iload_n hx hb dX5_in_5 rfl (lv_at hl 0 rfl) ?_
    refine lv_iload_n hx hb dX5_in_6 rfl (lv_at hl 2 rfl) ?_
    refine lv_icmp_gt (tgt := 14) hx hb dX5_in_7 (by decide) (fun hc => ?_) (fun hc => ?_)
    · have h := iteT hc h
      refine lv_iconst (v := (0)) hx hb dX5_in_14 (by decide) ?_
      obtain rfl := Option.some.inj h
      exact W.zret hx hb hr rfl (fun t ht hW => ⟨rfl, ht⟩) (fun q hq => absurd hq List.not_mem_nil) dX5_in_15
    · have h := iteF hc h
      refine lv_iconst (v := (1)) hx hb dX5_in_10 (by decide) ?_
      refine lv_goto (tgt := 15) hx hb dX5_in_11 (by decide) ?_
      obtain rfl := Option.some.inj h
      exact W.zret hx hb hr rfl (fun t ht hW => ⟨rfl, ht⟩) (fun q hq => absurd hq List.not_mem_nil) dX5_in_15

abbrev rm_X5_goes : Room := { frames := 0, cells := 0, slots := 0, locals := 0 }
theorem ok_X5_goes : okY yX5_goes 2 := ⟨by decide +kernel, by decide +kernel, by decide +kernel⟩
set_option maxHeartbeats 4000000 in
set_option maxRecDepth 100000 in
theorem c_X5_goes (l : Launch) (z0 : Nat) (D : va_G) (t : Nat → ClassId) (A : Nat → Nat) (μ : MS) (a1 : Int32) (a2 : Int32) (res : Int32 × (Int32)) (sz : Nat) (h : f_X5_goes μ a1 a2 = some res) : Met l yX5_goes (ws_ yX5_goes cX5_goes 3 (some .boolean)) rm_X5_goes (PM z0 D t [.ref (A 0), .int a1, .int a2] (MW A t μ) (ML A) sz) (QM (some (.int res.1)) D (MW A t (m_thrown' μ res.2)) (ML A) sz) 0 0 (OA (ML A) sz) := by
  refine Met.ofW (cc := cX5_goes) (maxL := 3) (ret := (some .boolean)) (by decide) rfl ?_
  intro p e s m args below meth c s₁ Bo hml hv
  obtain ⟨rfl, hC, hsz, hP, hD, hZ⟩ := hv
  have hx := Bo.exec
  have hb := Bo.bytes
  have hr := Bo.returns
  have hts : ∀ w ∈ LA, w.before _ s = true := fun w hw => atoms_spec (ws := ws_ yX5_goes cX5_goes 3 (some .boolean)) Bo.pre w (List.mem_cons_of_mem _ hw)
  have hown : s.vm.findClass RX5 = some m.cls := findClass_of_methodNamed Bo.named
  have hlocks := Bo.notSynchronized
  have hK := hC.1
  subst hsz
  have hl := lv_entry ([.ref (A 0), .int a1, .int a2]) (n := 3) (Nat.le_of_ble_eq_true rfl)
  rw [lg_entry_eq]
  generalize (lg_sl ([.ref (A 0), .int a1, .int a2]) ++ List.replicate (3 - (lg_sl ([.ref (A 0), .int a1, .int a2])).length) Slot.unset).toArray = ls at hl ⊢
  have hl : lv_has ls 3 [(0, .ref (A 0)), (1, .int a1), (2, .int a2)] := hl
  suffices K9 : ∀ (H : Heap) (locs : List Loc), va_P D vwCl (MW A t μ) H → va_S (OA (ML A) s.heap.size) s.heap H locs → W p l e (headSpec (ws_ yX5_goes cX5_goes 3 (some .boolean)) rm_X5_goes).room s m ([.ref (A 0), .int a1, .int a2] : List Value).toArray below meth c H locs 0 0 (MQ below (QM (some (.int res.1)) D (MW A t (m_thrown' μ res.2)) (ML A) s.heap.size) ([.ref (A 0), .int a1, .int a2] : List Value).toArray s 0 0 (OA (ML A) s.heap.size)) (F0 m 0 ls []) from K9 s.heap [] hP va_S.rf
  intro H locs hP hS
  have hSz : s.heap.size ≤ H.size := hS.1
  unfold f_X5_goes at h
  refine lv_aload_n hx hb dX5_goes_0 rfl (lv_at hl 0 rfl) ?_
  refine lv_iload_n hx hb dX5_goes_1 rfl (lv_at hl 1 rfl) ?_
  obtain ⟨o1, eo1, h⟩ := obind h
  have hJ18_o1 : ∀ (ls : Array Slot) (H : Heap) (locs : List Loc), lv_has ls 3 [(0, .ref (A 0))] → va_P D vwCl (MW A t μ) H → va_D (OA (ML A) s.heap.size) (MW A t μ) → va_S (OA (ML A) s.heap.size) s.heap H locs → W p l e (headSpec (ws_ yX5_goes cX5_goes 3 (some .boolean)) rm_X5_goes).room s m ([.ref (A 0), .int a1, .int a2] : List Value).toArray below meth c H locs 0 0 (MQ below (QM (some (.int res.1)) D (MW A t (m_thrown' μ res.2)) (ML A) s.heap.size) ([.ref (A 0), .int a1, .int a2] : List Value).toArray s 0 0 (OA (ML A) s.heap.size)) (F0 m 18 ls [.int o1, .ref (A 0)]) := by
    intro ls H locs hl hP hD hS
    have hSz : s.heap.size ≤ H.size := hS.1
    refine va_put (D := D) (ci := 6) (v := .int o1) (ty := .int) hx hb hts inX5 tyX5 tyX5_ok nmX5 hown hK hP hD hS 0 rfl rfl 3 (by decide) (hts _ qw970) (fun _ h9 => h9) rfl (by decide +kernel) rfl rfl (Nat.le_of_ble_eq_true rfl) dX5_goes_18 (fun H locs hP hD hS => ?_)
    have hP : va_P D vwCl (MW A t (m_thrown' μ o1)) H := hP
    have hD : va_D (OA (ML A) s.heap.size) (MW A t (m_thrown' μ o1)) := hD
    have hSz : s.heap.size ≤ H.size := hS.1
    refine lv_aload_n hx hb dX5_goes_21 rfl (lv_at hl 0 rfl) ?_
    refine va_get hx hb hts inX5 hown hK hP 0 rfl rfl 3 (by decide) (hts _ qw970) (fun _ h9 => h9) rfl dX5_goes_22 ?_
    refine lv_if_ne (tgt := 32) hx hb dX5_goes_25 (by decide) (fun hc => ?_) (fun hc => ?_)
    · have h := iteF hc h
      refine lv_iconst (v := (0)) hx hb dX5_goes_32 (by decide) ?_
      obtain rfl := Option.some.inj h
      exact W.zret hx hb hr rfl (fun t ht hW => ⟨rfl, by rw [ht]; exact hP, hD, hS.F ht⟩) hS.2.2 dX5_goes_33
    · have h := iteT hc h
      refine lv_iconst (v := (1)) hx hb dX5_goes_28 (by decide) ?_
      refine lv_goto (tgt := 33) hx hb dX5_goes_29 (by decide) ?_
      obtain rfl := Option.some.inj h
      exact W.zret hx hb hr rfl (fun t ht hW => ⟨rfl, by rw [ht]; exact hP, hD, hS.F ht⟩) hS.2.2 dX5_goes_33
  have h := eo1
  clear eo1
  refine lv_if_ne (tgt := 9) hx hb dX5_goes_2 (by decide) (fun hc => ?_) (fun hc => ?_)
  · have h := iteF hc h
    refine lv_iload_n hx hb dX5_goes_9 rfl (lv_at hl 2 rfl) ?_
    refine lv_if_ne (tgt := 17) hx hb dX5_goes_10 (by decide) (fun hc => ?_) (fun hc => ?_)
    · have h := iteF hc h
      refine lv_iconst (v := (0)) hx hb dX5_goes_17 (by decide) ?_
      obtain rfl := Option.some.inj h
      exact hJ18_o1 ls H locs (lv_sub hl [0] rfl) hP hD hS
    · have h := iteT hc h
      refine lv_iconst (v := (2)) hx hb dX5_goes_13 (by decide) ?_
      refine lv_goto (tgt := 18) hx hb dX5_goes_14 (by decide) ?_
      obtain rfl := Option.some.inj h
      exact hJ18_o1 ls H locs (lv_sub hl [0] rfl) hP hD hS
  · have h := iteT hc h
    refine lv_iconst (v := (1)) hx hb dX5_goes_5 (by decide) ?_
    refine lv_goto (tgt := 18) hx hb dX5_goes_6 (by decide) ?_
    obtain rfl := Option.some.inj h
    exact hJ18_o1 ls H locs (lv_sub hl [0] rfl) hP hD hS

abbrev rm_X5_copies : Room := { frames := 0, cells := 0, slots := 0, locals := 0 }
theorem ok_X5_copies : okY yX5_copies 2 := ⟨by decide +kernel, by decide +kernel, by decide +kernel⟩
set_option maxHeartbeats 4000000 in
set_option maxRecDepth 100000 in
theorem c_X5_copies (l : Launch) (z0 : Nat) (D : va_G) (t : Nat → ClassId) (A : Nat → Nat) (μ : MS) (a1 : Int32) (a2 : Int32) (res : (Nat → Int32)) (sz : Nat) (h : f_X5_copies μ a1 a2 = some res) : Met l yX5_copies (ws_ yX5_copies cX5_copies 4 none) rm_X5_copies (PM z0 D t [.ref (A 0), .int a1, .int a2] (MW A t μ) (ML A) sz) (QM none D (MW A t (m_s' μ res)) (ML A) sz) 0 0 (OA (ML A) sz) := by
  refine Met.ofW (cc := cX5_copies) (maxL := 4) (ret := none) (by decide) rfl ?_
  intro p e s m args below meth c s₁ Bo hml hv
  obtain ⟨rfl, hC, hsz, hP, hD, hZ⟩ := hv
  have hx := Bo.exec
  have hb := Bo.bytes
  have hr := Bo.returns
  have hts : ∀ w ∈ LA, w.before _ s = true := fun w hw => atoms_spec (ws := ws_ yX5_copies cX5_copies 4 none) Bo.pre w (List.mem_cons_of_mem _ hw)
  have hown : s.vm.findClass RX5 = some m.cls := findClass_of_methodNamed Bo.named
  have hlocks := Bo.notSynchronized
  have hK := hC.1
  subst hsz
  have hl := lv_entry ([.ref (A 0), .int a1, .int a2]) (n := 4) (Nat.le_of_ble_eq_true rfl)
  rw [lg_entry_eq]
  generalize (lg_sl ([.ref (A 0), .int a1, .int a2]) ++ List.replicate (4 - (lg_sl ([.ref (A 0), .int a1, .int a2])).length) Slot.unset).toArray = ls at hl ⊢
  have hl : lv_has ls 4 [(0, .ref (A 0)), (1, .int a1), (2, .int a2)] := hl
  suffices K9 : ∀ (H : Heap) (locs : List Loc), va_P D vwCl (MW A t μ) H → va_S (OA (ML A) s.heap.size) s.heap H locs → W p l e (headSpec (ws_ yX5_copies cX5_copies 4 none) rm_X5_copies).room s m ([.ref (A 0), .int a1, .int a2] : List Value).toArray below meth c H locs 0 0 (MQ below (QM none D (MW A t (m_s' μ res)) (ML A) s.heap.size) ([.ref (A 0), .int a1, .int a2] : List Value).toArray s 0 0 (OA (ML A) s.heap.size)) (F0 m 0 ls []) from K9 s.heap [] hP va_S.rf
  intro H locs hP hS
  have hSz : s.heap.size ≤ H.size := hS.1
  unfold f_X5_copies at h
  refine lv_iconst (v := (0)) hx hb dX5_copies_0 (by decide) ?_
  refine lv_istore_n (lv' := [(3, .int (0 : Int32)), (0, .ref (A 0)), (1, .int a1), (2, .int a2)]) hx hb dX5_copies_1 rfl hl (by decide) rfl (fun ls hl => ?_)
  obtain ⟨o7, eo7, h⟩ := obind h
  have hL2 : ∀ (n : Nat) (y3_2 : Int32) (s_2 : Nat → Int32) (o7 : (Nat → Int32)), f_X5_copies_L2 a1 a2 n y3_2 s_2 = some o7 → (∀ (ls : Array Slot) (H : Heap) (locs : List Loc), lv_has ls 4 [] → va_P D vwCl (MW A t (m_s' μ o7)) H → va_D (OA (ML A) s.heap.size) (MW A t (m_s' μ o7)) → va_S (OA (ML A) s.heap.size) s.heap H locs → W p l e (headSpec (ws_ yX5_copies cX5_copies 4 none) rm_X5_copies).room s m ([.ref (A 0), .int a1, .int a2] : List Value).toArray below meth c H locs 0 0 (MQ below (QM none D (MW A t (m_s' μ res)) (ML A) s.heap.size) ([.ref (A 0), .int a1, .int a2] : List Value).toArray s 0 0 (OA (ML A) s.heap.size)) (F0 m 39 ls [])) → ∀ (ls : Array Slot) (H : Heap) (locs : List Loc), lv_has ls 4 [(0, .ref (A 0)), (1, .int a1), (2, .int a2), (3, .int y3_2)] → va_P D vwCl (MW A t (m_s' μ s_2)) H → va_D (OA (ML A) s.heap.size) (MW A t (m_s' μ s_2)) → va_S (OA (ML A) s.heap.size) s.heap H locs → W p l e (headSpec (ws_ yX5_copies cX5_copies 4 none) rm_X5_copies).room s m ([.ref (A 0), .int a1, .int a2] : List Value).toArray below meth c H locs 0 0 (MQ below (QM none D (MW A t (m_s' μ res)) (ML A) s.heap.size) ([.ref (A 0), .int a1, .int a2] : List Value).toArray s 0 0 (OA (ML A) s.heap.size)) (F0 m 2 ls []) := by
    intro n
    induction n with
    | zero => intro y3_2 s_2 o7 h; exact absurd h (fun z => by cases z)
    | succ n ih =>
      intro y3_2 s_2 o7 h hK2 ls H locs hl hP hD hS
      replace h : f_X5_copies_L2_b a1 a2 (f_X5_copies_L2 a1 a2 n) y3_2 s_2 = some o7 := h
      unfold f_X5_copies_L2_b at h
      have hSz : s.heap.size ≤ H.size := hS.1
      refine lv_iload_n hx hb dX5_copies_2 rfl (lv_at hl 3 rfl) ?_
      refine lv_sipush (v := (197)) hx hb dX5_copies_3 (by decide) ?_
      refine lv_icmp_ge (tgt := 39) hx hb dX5_copies_6 (by decide) (fun hc => ?_) (fun hc => ?_)
      · have h := iteT hc h
        obtain rfl := Option.some.inj h
        exact hK2 ls H locs (lv_sub hl [] rfl) hP hD hS
      · have h := iteF hc h
        refine lv_aload_n hx hb dX5_copies_9 rfl (lv_at hl 0 rfl) ?_
        refine va_get hx hb hts inX5 hown hK hP 0 rfl rfl 0 (by decide) (hts _ qw967) (fun _ h9 => h9) rfl dX5_copies_10 ?_
        refine lv_sipush (v := (197)) hx hb dX5_copies_13 (by decide) ?_
        refine lv_iload_n hx hb dX5_copies_16 rfl (lv_at hl 2 rfl) ?_
        refine lv_imul hx hb dX5_copies_17 ?_
        refine lv_iload_n hx hb dX5_copies_18 rfl (lv_at hl 3 rfl) ?_
        refine lv_iadd hx hb dX5_copies_19 ?_
        refine lv_aload_n hx hb dX5_copies_20 rfl (lv_at hl 0 rfl) ?_
        refine va_get hx hb hts inX5 hown hK hP 0 rfl rfl 0 (by decide) (hts _ qw967) (fun _ h9 => h9) rfl dX5_copies_21 ?_
        refine lv_sipush (v := (197)) hx hb dX5_copies_24 (by decide) ?_
        refine lv_iload_n hx hb dX5_copies_27 rfl (lv_at hl 1 rfl) ?_
        refine lv_imul hx hb dX5_copies_28 ?_
        refine lv_iload_n hx hb dX5_copies_29 rfl (lv_at hl 3 rfl) ?_
        refine lv_iadd hx hb dX5_copies_30 ?_
        obtain ⟨v8, ev8, h⟩ := obind h
        refine k_iald hx hb hK hP 1 rfl ev8 dX5_copies_31 ?_
        obtain ⟨f9, ef9, h⟩ := obind h
        refine k_iast (ws' := (MW A t (m_s' μ f9))) hx hb hK hP hD hS 1 rfl ef9 rfl dX5_copies_32 (fun H locs hP hD hS => ?_)
        have hSz : s.heap.size ≤ H.size := hS.1
        obtain ⟨x10, ex10, h⟩ := jlet_some h
        refine lv_iinc (v := x10) (lv' := [(3, .int x10), (0, .ref (A 0)), (1, .int a1), (2, .int a2)]) hx hb dX5_copies_33 hl (k := 3) rfl (by rw [ex10]; rfl) (by decide) rfl (fun ls hl => ?_)
        refine lv_goto (tgt := 2) hx hb dX5_copies_36 (by decide) ?_
        exact ih _ _ _ h hK2 ls H locs (lv_sub hl [1, 2, 3, 0] rfl) hP hD hS
  refine hL2 _ _ _ _ eo7 (fun ls H locs hl hP hD hS => ?_) ls H locs (lv_sub hl [1, 2, 3, 0] rfl) hP hD hS
  have hSz : s.heap.size ≤ H.size := hS.1
  obtain rfl := Option.some.inj h
  exact W.vret hx hb hr (fun t ht hW => ⟨rfl, by rw [ht]; exact hP, hD, hS.F ht⟩) hS.2.2 dX5_copies_39

abbrev rm_X5_saves : Room := { frames := 1, cells := 0, slots := 0, locals := 23 }
theorem ok_X5_saves : okY yX5_saves 0 := ⟨by decide +kernel, by decide +kernel, by decide +kernel⟩
set_option maxHeartbeats 4000000 in
set_option maxRecDepth 100000 in
theorem c_X5_saves (l : Launch) (z0 : Nat) (D : va_G) (t : Nat → ClassId) (A : Nat → Nat) (μ : MS) (res : (Nat → Int32) × (Int32)) (sz : Nat) (h : f_X5_saves μ = some res) : Met l yX5_saves (ws_ yX5_saves cX5_saves 2 none) rm_X5_saves (PM z0 D t [.ref (A 0)] (MW A t μ) (ML A) sz) (QM none D (MW A t (m_states' (m_s' μ res.1) res.2)) (ML A) sz) 0 0 (OA (ML A) sz) := by
  refine Met.ofW (cc := cX5_saves) (maxL := 2) (ret := none) (by decide) rfl ?_
  intro p e s m args below meth c s₁ Bo hml hv
  obtain ⟨rfl, hC, hsz, hP, hD, hZ⟩ := hv
  have hx := Bo.exec
  have hb := Bo.bytes
  have hr := Bo.returns
  have hts : ∀ w ∈ LA, w.before _ s = true := fun w hw => atoms_spec (ws := ws_ yX5_saves cX5_saves 2 none) Bo.pre w (List.mem_cons_of_mem _ hw)
  have hown : s.vm.findClass RX5 = some m.cls := findClass_of_methodNamed Bo.named
  have hlocks := Bo.notSynchronized
  have hK := hC.1
  subst hsz
  have hl := lv_entry ([.ref (A 0)]) (n := 2) (Nat.le_of_ble_eq_true rfl)
  rw [lg_entry_eq]
  generalize (lg_sl ([.ref (A 0)]) ++ List.replicate (2 - (lg_sl ([.ref (A 0)])).length) Slot.unset).toArray = ls at hl ⊢
  have hl : lv_has ls 2 [(0, .ref (A 0))] := hl
  suffices K9 : ∀ (H : Heap) (locs : List Loc), va_P D vwCl (MW A t μ) H → va_S (OA (ML A) s.heap.size) s.heap H locs → W p l e (headSpec (ws_ yX5_saves cX5_saves 2 none) rm_X5_saves).room s m ([.ref (A 0)] : List Value).toArray below meth c H locs 0 0 (MQ below (QM none D (MW A t (m_states' (m_s' μ res.1) res.2)) (ML A) s.heap.size) ([.ref (A 0)] : List Value).toArray s 0 0 (OA (ML A) s.heap.size)) (F0 m 0 ls []) from K9 s.heap [] hP va_S.rf
  intro H locs hP hS
  have hSz : s.heap.size ≤ H.size := hS.1
  unfold f_X5_saves at h
  refine lv_aload_n hx hb dX5_saves_0 rfl (lv_at hl 0 rfl) ?_
  refine va_get hx hb hts inX5 hown hK hP 0 rfl rfl 1 (by decide) (hts _ qw968) (fun _ h9 => h9) rfl dX5_saves_1 ?_
  refine lv_bipush (v := (6)) hx hb dX5_saves_4 (by decide) ?_
  obtain ⟨o9, eo9, h⟩ := obind h
  have hJ41_o9 : ∀ (ls : Array Slot) (H : Heap) (locs : List Loc), lv_has ls 2 [(0, .ref (A 0))] → va_P D vwCl (MW A t (m_states' (m_s' μ o9.1) o9.2)) H → va_D (OA (ML A) s.heap.size) (MW A t (m_states' (m_s' μ o9.1) o9.2)) → va_S (OA (ML A) s.heap.size) s.heap H locs → W p l e (headSpec (ws_ yX5_saves cX5_saves 2 none) rm_X5_saves).room s m ([.ref (A 0)] : List Value).toArray below meth c H locs 0 0 (MQ below (QM none D (MW A t (m_states' (m_s' μ res.1) res.2)) (ML A) s.heap.size) ([.ref (A 0)] : List Value).toArray s 0 0 (OA (ML A) s.heap.size)) (F0 m 41 ls []) := by
    intro ls H locs hl hP hD hS
    have hSz : s.heap.size ≤ H.size := hS.1
    refine lv_aload_n hx hb dX5_saves_41 rfl (lv_at hl 0 rfl) ?_
    refine lv_dup hx hb dX5_saves_42 rfl ?_
    refine va_get hx hb hts inX5 hown hK hP 0 rfl rfl 1 (by decide) (hts _ qw968) (fun _ h9 => h9) rfl dX5_saves_43 ?_
    refine lv_iconst (v := (1)) hx hb dX5_saves_46 (by decide) ?_
    refine lv_iadd hx hb dX5_saves_47 ?_
    obtain ⟨x18, ex18, h⟩ := jlet_some h
    refine topI ex18 ?_
    refine va_put (D := D) (ci := 6) (v := .int x18) (ty := .int) hx hb hts inX5 tyX5 tyX5_ok nmX5 hown hK hP hD hS 0 rfl rfl 1 (by decide) (hts _ qw968) (fun _ h9 => h9) rfl (by decide +kernel) rfl rfl (Nat.le_of_ble_eq_true rfl) dX5_saves_48 (fun H locs hP hD hS => ?_)
    have hP : va_P D vwCl (MW A t (m_states' (m_s' μ o9.1) x18)) H := hP
    have hD : va_D (OA (ML A) s.heap.size) (MW A t (m_states' (m_s' μ o9.1) x18)) := hD
    have hSz : s.heap.size ≤ H.size := hS.1
    refine lv_aload_n hx hb dX5_saves_51 rfl (lv_at hl 0 rfl) ?_
    refine lv_iconst (v := (0)) hx hb dX5_saves_52 (by decide) ?_
    refine lv_aload_n hx hb dX5_saves_53 rfl (lv_at hl 0 rfl) ?_
    refine va_get hx hb hts inX5 hown hK hP 0 rfl rfl 1 (by decide) (hts _ qw968) (fun _ h9 => h9) rfl dX5_saves_54 ?_
    obtain ⟨r19, er19, h⟩ := obind h
    refine call_M (va_runV (As := [.int (0 : Int32), .int x18]) (rest := []) ⟨hx, hb, hml, hown, hts⟩ (c_X5_copies l z0 D t A (m_states' (m_s' μ o9.1) x18) (0 : Int32) x18 _ H.size er19) (kV hts qw1019 qw1021 qs33 qw9 qw1022 ok_X5_copies ⟨Nat.le_of_ble_eq_true rfl, Nat.le_of_ble_eq_true rfl⟩) ⟨PM.blind, va_recv hK hP (ci := 6) (q0 := 0) rfl rfl, fun U hU hW => ⟨rfl, by rw [hU]; exact (hC.at hS hZ).warm hW, by rw [hU], by rw [hU]; exact hP, ⟨hD.1, fun _ _ h9 => Or.inl (in_map (L := (ML A)) rfl h9)⟩, fun q hq => hZ q (OA.ofD hD rfl hSz q hq)⟩⟩ rfl rfl hl.1 rfl (lv_room (Nat.le_of_ble_eq_true rfl)) dX5_saves_57 ⟨Nat.le_of_ble_eq_true rfl, Nat.le_of_ble_eq_true rfl⟩) hS (OA.ofD hD rfl hSz) (fun H locs hP hD1 hS _ _ => ?_)
    have hP : va_P D vwCl (MW A t (m_states' (m_s' μ r19) x18)) H := hP
    have hD : va_D (OA (ML A) s.heap.size) (MW A t (m_states' (m_s' μ r19) x18)) := hD1.weaken (fun _ q _ h9 => OA.ofD hD rfl hSz q.1 h9)
    have hSz : s.heap.size ≤ H.size := hS.1
    obtain rfl := Option.some.inj h
    exact W.vret hx hb hr (fun t ht hW => ⟨rfl, by rw [ht]; exact hP, hD, hS.F ht⟩) hS.2.2 dX5_saves_60
  have h := eo9
  clear eo9
  refine lv_icmp_ne (tgt := 41) hx hb dX5_saves_6 (by decide) (fun hc => ?_) (fun hc => ?_)
  · have h := iteF hc h
    obtain rfl := Option.some.inj h
    exact hJ41_o9 ls H locs (lv_sub hl [0] rfl) hP hD hS
  · have h := iteT hc h
    refine lv_iconst (v := (1)) hx hb dX5_saves_9 (by decide) ?_
    refine lv_istore_n (lv' := [(1, .int (1 : Int32)), (0, .ref (A 0))]) hx hb dX5_saves_10 rfl hl (by decide) rfl (fun ls hl => ?_)
    obtain ⟨o14, eo14, h⟩ := obind h
    have hL11 : ∀ (n : Nat) (y1_11 : Int32) (s_11 : Nat → Int32) (o14 : (Nat → Int32)), f_X5_saves_L11 μ n y1_11 s_11 = some o14 → (∀ (ls : Array Slot) (H : Heap) (locs : List Loc), lv_has ls 2 [(0, .ref (A 0))] → va_P D vwCl (MW A t (m_s' μ o14)) H → va_D (OA (ML A) s.heap.size) (MW A t (m_s' μ o14)) → va_S (OA (ML A) s.heap.size) s.heap H locs → W p l e (headSpec (ws_ yX5_saves cX5_saves 2 none) rm_X5_saves).room s m ([.ref (A 0)] : List Value).toArray below meth c H locs 0 0 (MQ below (QM none D (MW A t (m_states' (m_s' μ res.1) res.2)) (ML A) s.heap.size) ([.ref (A 0)] : List Value).toArray s 0 0 (OA (ML A) s.heap.size)) (F0 m 31 ls [])) → ∀ (ls : Array Slot) (H : Heap) (locs : List Loc), lv_has ls 2 [(0, .ref (A 0)), (1, .int y1_11)] → va_P D vwCl (MW A t (m_s' μ s_11)) H → va_D (OA (ML A) s.heap.size) (MW A t (m_s' μ s_11)) → va_S (OA (ML A) s.heap.size) s.heap H locs → W p l e (headSpec (ws_ yX5_saves cX5_saves 2 none) rm_X5_saves).room s m ([.ref (A 0)] : List Value).toArray below meth c H locs 0 0 (MQ below (QM none D (MW A t (m_states' (m_s' μ res.1) res.2)) (ML A) s.heap.size) ([.ref (A 0)] : List Value).toArray s 0 0 (OA (ML A) s.heap.size)) (F0 m 11 ls []) := by
      intro n
      induction n with
      | zero => intro y1_11 s_11 o14 h; exact absurd h (fun z => by cases z)
      | succ n ih =>
        intro y1_11 s_11 o14 h hK11 ls H locs hl hP hD hS
        replace h : f_X5_saves_L11_b μ (f_X5_saves_L11 μ n) y1_11 s_11 = some o14 := h
        unfold f_X5_saves_L11_b at h
        have hSz : s.heap.size ≤ H.size := hS.1
        refine lv_iload_n hx hb dX5_saves_11 rfl (lv_at hl 1 rfl) ?_
        refine lv_bipush (v := (6)) hx hb dX5_saves_12 (by decide) ?_
        refine lv_icmp_ge (tgt := 31) hx hb dX5_saves_14 (by decide) (fun hc => ?_) (fun hc => ?_)
        · have h := iteT hc h
          obtain rfl := Option.some.inj h
          exact hK11 ls H locs (lv_sub hl [0] rfl) hP hD hS
        · have h := iteF hc h
          refine lv_aload_n hx hb dX5_saves_17 rfl (lv_at hl 0 rfl) ?_
          refine lv_iload_n hx hb dX5_saves_18 rfl (lv_at hl 1 rfl) ?_
          refine lv_iconst (v := (1)) hx hb dX5_saves_19 (by decide) ?_
          refine lv_iadd hx hb dX5_saves_20 ?_
          refine lv_iload_n hx hb dX5_saves_21 rfl (lv_at hl 1 rfl) ?_
          obtain ⟨r15, er15, h⟩ := obind h
          refine call_M (va_runV (As := [.int (y1_11 + (1 : Int32)), .int y1_11]) (rest := []) ⟨hx, hb, hml, hown, hts⟩ (c_X5_copies l z0 D t A (m_s' μ s_11) (y1_11 + (1 : Int32)) y1_11 _ H.size er15) (kV hts qw1019 qw1021 qs33 qw9 qw1022 ok_X5_copies ⟨Nat.le_of_ble_eq_true rfl, Nat.le_of_ble_eq_true rfl⟩) ⟨PM.blind, va_recv hK hP (ci := 6) (q0 := 0) rfl rfl, fun U hU hW => ⟨rfl, by rw [hU]; exact (hC.at hS hZ).warm hW, by rw [hU], by rw [hU]; exact hP, ⟨hD.1, fun _ _ h9 => Or.inl (in_map (L := (ML A)) rfl h9)⟩, fun q hq => hZ q (OA.ofD hD rfl hSz q hq)⟩⟩ rfl rfl hl.1 rfl (lv_room (Nat.le_of_ble_eq_true rfl)) dX5_saves_22 ⟨Nat.le_of_ble_eq_true rfl, Nat.le_of_ble_eq_true rfl⟩) hS (OA.ofD hD rfl hSz) (fun H locs hP hD1 hS _ _ => ?_)
          have hP : va_P D vwCl (MW A t (m_s' μ r15)) H := hP
          have hD : va_D (OA (ML A) s.heap.size) (MW A t (m_s' μ r15)) := hD1.weaken (fun _ q _ h9 => OA.ofD hD rfl hSz q.1 h9)
          have hSz : s.heap.size ≤ H.size := hS.1
          obtain ⟨x16, ex16, h⟩ := jlet_some h
          refine lv_iinc (v := x16) (lv' := [(1, .int x16), (0, .ref (A 0))]) hx hb dX5_saves_25 hl (k := 1) rfl (by rw [ex16]; rfl) (by decide) rfl (fun ls hl => ?_)
          refine lv_goto (tgt := 11) hx hb dX5_saves_28 (by decide) ?_
          exact ih _ _ _ h hK11 ls H locs (lv_sub hl [1, 0] rfl) hP hD hS
    refine hL11 _ _ _ _ eo14 (fun ls H locs hl hP hD hS => ?_) ls H locs (lv_sub hl [1, 0] rfl) hP hD hS
    have hSz : s.heap.size ≤ H.size := hS.1
    refine lv_aload_n hx hb dX5_saves_31 rfl (lv_at hl 0 rfl) ?_
    refine lv_dup hx hb dX5_saves_32 rfl ?_
    refine va_get hx hb hts inX5 hown hK hP 0 rfl rfl 1 (by decide) (hts _ qw968) (fun _ h9 => h9) rfl dX5_saves_33 ?_
    refine lv_iconst (v := (1)) hx hb dX5_saves_36 (by decide) ?_
    refine lv_isub hx hb dX5_saves_37 ?_
    obtain ⟨x17, ex17, h⟩ := jlet_some h
    refine topI ex17 ?_
    refine va_put (D := D) (ci := 6) (v := .int x17) (ty := .int) hx hb hts inX5 tyX5 tyX5_ok nmX5 hown hK hP hD hS 0 rfl rfl 1 (by decide) (hts _ qw968) (fun _ h9 => h9) rfl (by decide +kernel) rfl rfl (Nat.le_of_ble_eq_true rfl) dX5_saves_38 (fun H locs hP hD hS => ?_)
    have hP : va_P D vwCl (MW A t (m_states' (m_s' μ o14) x17)) H := hP
    have hD : va_D (OA (ML A) s.heap.size) (MW A t (m_states' (m_s' μ o14) x17)) := hD
    have hSz : s.heap.size ≤ H.size := hS.1
    obtain rfl := Option.some.inj h
    exact hJ41_o9 ls H locs (lv_sub hl [0] rfl) hP hD hS

abbrev rm_X5_garden : Room := { frames := 2, cells := 0, slots := 0, locals := 44 }
theorem ok_X5_garden : okY yX5_garden 2 := ⟨by decide +kernel, by decide +kernel, by decide +kernel⟩
set_option maxHeartbeats 4000000 in
set_option maxRecDepth 100000 in
theorem c_X5_garden (l : Launch) (z0 : Nat) (D : va_G) (t : Nat → ClassId) (A : Nat → Nat) (μ : MS) (a1 : Int32) (a2 : Int32) (res : Int32 × (Nat → Int32) × (Int32) × (Int32)) (sz : Nat) (h : f_X5_garden μ a1 a2 = some res) : Met l yX5_garden (ws_ yX5_garden cX5_garden 3 (some .int)) rm_X5_garden (PM z0 D t [.ref (A 0), .int a1, .int a2] (MW A t μ) (ML A) sz) (QM (some (.int res.1)) D (MW A t (m_thrown' (m_states' (m_s' μ res.2.1) res.2.2.1) res.2.2.2)) (ML A) sz) 0 0 (OA (ML A) sz) := by
  refine Met.ofW (cc := cX5_garden) (maxL := 3) (ret := (some .int)) (by decide) rfl ?_
  intro p e s m args below meth c s₁ Bo hml hv
  obtain ⟨rfl, hC, hsz, hP, hD, hZ⟩ := hv
  have hx := Bo.exec
  have hb := Bo.bytes
  have hr := Bo.returns
  have hts : ∀ w ∈ LA, w.before _ s = true := fun w hw => atoms_spec (ws := ws_ yX5_garden cX5_garden 3 (some .int)) Bo.pre w (List.mem_cons_of_mem _ hw)
  have hown : s.vm.findClass RX5 = some m.cls := findClass_of_methodNamed Bo.named
  have hlocks := Bo.notSynchronized
  have hK := hC.1
  subst hsz
  have hl := lv_entry ([.ref (A 0), .int a1, .int a2]) (n := 3) (Nat.le_of_ble_eq_true rfl)
  rw [lg_entry_eq]
  generalize (lg_sl ([.ref (A 0), .int a1, .int a2]) ++ List.replicate (3 - (lg_sl ([.ref (A 0), .int a1, .int a2])).length) Slot.unset).toArray = ls at hl ⊢
  have hl : lv_has ls 3 [(0, .ref (A 0)), (1, .int a1), (2, .int a2)] := hl
  suffices K9 : ∀ (H : Heap) (locs : List Loc), va_P D vwCl (MW A t μ) H → va_S (OA (ML A) s.heap.size) s.heap H locs → W p l e (headSpec (ws_ yX5_garden cX5_garden 3 (some .int)) rm_X5_garden).room s m ([.ref (A 0), .int a1, .int a2] : List Value).toArray below meth c H locs 0 0 (MQ below (QM (some (.int res.1)) D (MW A t (m_thrown' (m_states' (m_s' μ res.2.1) res.2.2.1) res.2.2.2)) (ML A) s.heap.size) ([.ref (A 0), .int a1, .int a2] : List Value).toArray s 0 0 (OA (ML A) s.heap.size)) (F0 m 0 ls []) from K9 s.heap [] hP va_S.rf
  intro H locs hP hS
  have hSz : s.heap.size ≤ H.size := hS.1
  unfold f_X5_garden at h
  refine lv_aload_n hx hb dX5_garden_0 rfl (lv_at hl 0 rfl) ?_
  refine lv_iload_n hx hb dX5_garden_1 rfl (lv_at hl 1 rfl) ?_
  refine lv_iconst (v := (2)) hx hb dX5_garden_2 (by decide) ?_
  refine lv_bipush (v := (8)) hx hb dX5_garden_3 (by decide) ?_
  obtain ⟨r1, er1, h⟩ := obind h
  refine call_R (va_runS (As := [.int a1, .int (2 : Int32), .int (8 : Int32)]) (rest := [.ref (A 0)]) ⟨hx, hb, hml, hown, hts⟩ (c_X5_in l z0 D t a1 (2 : Int32) (8 : Int32) _ er1) (kS hts qw1008 qw1009 qw9 qw1010 ok_X5_in ⟨Nat.le_of_ble_eq_true rfl, Nat.le_of_ble_eq_true rfl⟩) ⟨PR.blind, fun U hU hW => ⟨rfl, by rw [hU]; exact (hC.at hS hZ).warm hW, by rw [hU]; exact va_P_nil⟩⟩ rfl rfl hl.1 rfl (lv_room (Nat.le_of_ble_eq_true rfl)) dX5_garden_5 ⟨Nat.le_of_ble_eq_true rfl, Nat.le_of_ble_eq_true rfl⟩) ?_
  obtain ⟨o3, eo3, h⟩ := obind h
  have hJ26_o3 : ∀ (ls : Array Slot) (H : Heap) (locs : List Loc), lv_has ls 3 [(0, .ref (A 0)), (1, .int a1), (2, .int a2)] → va_P D vwCl (MW A t μ) H → va_D (OA (ML A) s.heap.size) (MW A t μ) → va_S (OA (ML A) s.heap.size) s.heap H locs → W p l e (headSpec (ws_ yX5_garden cX5_garden 3 (some .int)) rm_X5_garden).room s m ([.ref (A 0), .int a1, .int a2] : List Value).toArray below meth c H locs 0 0 (MQ below (QM (some (.int res.1)) D (MW A t (m_thrown' (m_states' (m_s' μ res.2.1) res.2.2.1) res.2.2.2)) (ML A) s.heap.size) ([.ref (A 0), .int a1, .int a2] : List Value).toArray s 0 0 (OA (ML A) s.heap.size)) (F0 m 26 ls [.int o3, .ref (A 0)]) := by
    intro ls H locs hl hP hD hS
    have hSz : s.heap.size ≤ H.size := hS.1
    refine lv_iconst (v := (1)) hx hb dX5_garden_26 (by decide) ?_
    obtain ⟨r5, er5, h⟩ := obind h
    refine call_M (va_runV (As := [.int o3, .int (1 : Int32)]) (rest := []) ⟨hx, hb, hml, hown, hts⟩ (c_X5_goes l z0 D t A μ o3 (1 : Int32) _ H.size er5) (kV hts qw1011 qw1013 qs31 qw9 qw1014 ok_X5_goes ⟨Nat.le_of_ble_eq_true rfl, Nat.le_of_ble_eq_true rfl⟩) ⟨PM.blind, va_recv hK hP (ci := 6) (q0 := 0) rfl rfl, fun U hU hW => ⟨rfl, by rw [hU]; exact (hC.at hS hZ).warm hW, by rw [hU], by rw [hU]; exact hP, ⟨hD.1, fun _ _ h9 => Or.inl (in_map (L := (ML A)) rfl h9)⟩, fun q hq => hZ q (OA.ofD hD rfl hSz q hq)⟩⟩ rfl rfl hl.1 rfl (lv_room (Nat.le_of_ble_eq_true rfl)) dX5_garden_27 ⟨Nat.le_of_ble_eq_true rfl, Nat.le_of_ble_eq_true rfl⟩) hS (OA.ofD hD rfl hSz) (fun H locs hP hD1 hS _ _ => ?_)
    have hP : va_P D vwCl (MW A t (m_thrown' μ r5.2)) H := hP
    have hD : va_D (OA (ML A) s.heap.size) (MW A t (m_thrown' μ r5.2)) := hD1.weaken (fun _ q _ h9 => OA.ofD hD rfl hSz q.1 h9)
    have hSz : s.heap.size ≤ H.size := hS.1
    refine lv_if_ne (tgt := 35) hx hb dX5_garden_30 (by decide) (fun hc => ?_) (fun hc => ?_)
    · have h := iteF hc h
      refine lv_aload_n hx hb dX5_garden_35 rfl (lv_at hl 0 rfl) ?_
      obtain ⟨r6, er6, h⟩ := obind h
      refine call_M (va_runV (As := []) (rest := []) ⟨hx, hb, hml, hown, hts⟩ (c_X5_saves l z0 D t A (m_thrown' μ r5.2) _ H.size er6) (kV hts qw1015 qw1017 qs32 qw9 qw1018 ok_X5_saves ⟨Nat.le_of_ble_eq_true rfl, Nat.le_of_ble_eq_true rfl⟩) ⟨PM.blind, va_recv hK hP (ci := 6) (q0 := 0) rfl rfl, fun U hU hW => ⟨rfl, by rw [hU]; exact (hC.at hS hZ).warm hW, by rw [hU], by rw [hU]; exact hP, ⟨hD.1, fun _ _ h9 => Or.inl (in_map (L := (ML A)) rfl h9)⟩, fun q hq => hZ q (OA.ofD hD rfl hSz q hq)⟩⟩ rfl rfl hl.1 rfl (lv_room (Nat.le_of_ble_eq_true rfl)) dX5_garden_36 ⟨Nat.le_of_ble_eq_true rfl, Nat.le_of_ble_eq_true rfl⟩) hS (OA.ofD hD rfl hSz) (fun H locs hP hD1 hS _ _ => ?_)
      have hP : va_P D vwCl (MW A t (m_thrown' (m_states' (m_s' μ r6.1) r6.2) r5.2)) H := hP
      have hD : va_D (OA (ML A) s.heap.size) (MW A t (m_thrown' (m_states' (m_s' μ r6.1) r6.2) r5.2)) := hD1.weaken (fun _ q _ h9 => OA.ofD hD rfl hSz q.1 h9)
      have hSz : s.heap.size ≤ H.size := hS.1
      refine lv_aload_n hx hb dX5_garden_39 rfl (lv_at hl 0 rfl) ?_
      refine lv_iconst (v := (0)) hx hb dX5_garden_40 (by decide) ?_
      refine lv_iload_n hx hb dX5_garden_41 rfl (lv_at hl 1 rfl) ?_
      refine lv_iload_n hx hb dX5_garden_42 rfl (lv_at hl 2 rfl) ?_
      obtain ⟨r7, er7, h⟩ := obind h
      refine call_M (va_runV (As := [.int (0 : Int32), .int a1, .int a2]) (rest := []) ⟨hx, hb, hml, hown, hts⟩ (c_X5_laysOut l z0 D t A (m_thrown' (m_states' (m_s' μ r6.1) r6.2) r5.2) (0 : Int32) a1 a2 _ H.size er7) (kV hts qw963 qw965 qs30 qw9 qw966 ok_X5_laysOut ⟨Nat.le_of_ble_eq_true rfl, Nat.le_of_ble_eq_true rfl⟩) ⟨PM.blind, va_recv hK hP (ci := 6) (q0 := 0) rfl rfl, fun U hU hW => ⟨rfl, by rw [hU]; exact (hC.at hS hZ).warm hW, by rw [hU], by rw [hU]; exact hP, ⟨hD.1, fun _ _ h9 => Or.inl (in_map (L := (ML A)) rfl h9)⟩, fun q hq => hZ q (OA.ofD hD rfl hSz q hq)⟩⟩ rfl rfl hl.1 rfl (lv_room (Nat.le_of_ble_eq_true rfl)) dX5_garden_43 ⟨Nat.le_of_ble_eq_true rfl, Nat.le_of_ble_eq_true rfl⟩) hS (OA.ofD hD rfl hSz) (fun H locs hP hD1 hS _ _ => ?_)
      have hP : va_P D vwCl (MW A t (m_thrown' (m_states' (m_s' μ r7) r6.2) r5.2)) H := hP
      have hD : va_D (OA (ML A) s.heap.size) (MW A t (m_thrown' (m_states' (m_s' μ r7) r6.2) r5.2)) := hD1.weaken (fun _ q _ h9 => OA.ofD hD rfl hSz q.1 h9)
      have hSz : s.heap.size ≤ H.size := hS.1
      refine lv_iload_n hx hb dX5_garden_46 rfl (lv_at hl 1 rfl) ?_
      refine lv_iload_n hx hb dX5_garden_47 rfl (lv_at hl 2 rfl) ?_
      refine lv_imul hx hb dX5_garden_48 ?_
      obtain rfl := Option.some.inj h
      exact W.iret hx hb hr (fun t ht hW => ⟨rfl, by rw [ht]; exact hP, hD, hS.F ht⟩) hS.2.2 dX5_garden_49
    · have h := iteT hc h
      refine lv_iconst (v := (0)) hx hb dX5_garden_33 (by decide) ?_
      obtain rfl := Option.some.inj h
      exact W.iret hx hb hr (fun t ht hW => ⟨rfl, by rw [ht]; exact hP, hD, hS.F ht⟩) hS.2.2 dX5_garden_34
  have h := eo3
  clear eo3
  refine lv_if_eq (tgt := 25) hx hb dX5_garden_8 (by decide) (fun hc => ?_) (fun hc => ?_)
  · have h := iteT hc h
    refine lv_iconst (v := (0)) hx hb dX5_garden_25 (by decide) ?_
    obtain rfl := Option.some.inj h
    exact hJ26_o3 ls H locs (lv_sub hl [0, 1, 2] rfl) hP hD hS
  · have h := iteF hc h
    refine lv_iload_n hx hb dX5_garden_11 rfl (lv_at hl 2 rfl) ?_
    refine lv_iconst (v := (2)) hx hb dX5_garden_12 (by decide) ?_
    refine lv_bipush (v := (8)) hx hb dX5_garden_13 (by decide) ?_
    obtain ⟨r4, er4, h⟩ := obind h
    refine call_R (va_runS (As := [.int a2, .int (2 : Int32), .int (8 : Int32)]) (rest := [.ref (A 0)]) ⟨hx, hb, hml, hown, hts⟩ (c_X5_in l z0 D t a2 (2 : Int32) (8 : Int32) _ er4) (kS hts qw1008 qw1009 qw9 qw1010 ok_X5_in ⟨Nat.le_of_ble_eq_true rfl, Nat.le_of_ble_eq_true rfl⟩) ⟨PR.blind, fun U hU hW => ⟨rfl, by rw [hU]; exact (hC.at hS hZ).warm hW, by rw [hU]; exact va_P_nil⟩⟩ rfl rfl hl.1 rfl (lv_room (Nat.le_of_ble_eq_true rfl)) dX5_garden_15 ⟨Nat.le_of_ble_eq_true rfl, Nat.le_of_ble_eq_true rfl⟩) ?_
    refine lv_if_eq (tgt := 25) hx hb dX5_garden_18 (by decide) (fun hc => ?_) (fun hc => ?_)
    · have h := iteT hc h
      refine lv_iconst (v := (0)) hx hb dX5_garden_25 (by decide) ?_
      obtain rfl := Option.some.inj h
      exact hJ26_o3 ls H locs (lv_sub hl [0, 1, 2] rfl) hP hD hS
    · have h := iteF hc h
      refine lv_iconst (v := (1)) hx hb dX5_garden_21 (by decide) ?_
      refine lv_goto (tgt := 26) hx hb dX5_garden_22 (by decide) ?_
      obtain rfl := Option.some.inj h
      exact hJ26_o3 ls H locs (lv_sub hl [0, 1, 2] rfl) hP hD hS

abbrev rm_X5_isIn : Room := { frames := 1, cells := 0, slots := 0, locals := 40 }
theorem ok_X5_isIn : okY yX5_isIn 2 := ⟨by decide +kernel, by decide +kernel, by decide +kernel⟩
set_option maxHeartbeats 4000000 in
set_option maxRecDepth 100000 in
theorem c_X5_isIn (l : Launch) (z0 : Nat) (D : va_G) (t : Nat → ClassId) (A : Nat → Nat) (μ : MS) (a1 : Int32) (a2 : Int32) (res : Int32) (h : f_X5_isIn μ a1 a2 = some res) : Met l yX5_isIn (ws_ yX5_isIn cX5_isIn 3 (some .boolean)) rm_X5_isIn (PR z0 D t [.ref (A 0), .int a1, .int a2] (MW A t μ)) (QR (some (.int res))) 0 0 FN := by
  refine Met.ofW (cc := cX5_isIn) (maxL := 3) (ret := (some .boolean)) (by decide) rfl ?_
  intro p e s m args below meth c s₁ Bo hml hv
  obtain ⟨rfl, hC, hP⟩ := hv
  have hx := Bo.exec
  have hb := Bo.bytes
  have hr := Bo.returns
  have hts : ∀ w ∈ LA, w.before _ s = true := fun w hw => atoms_spec (ws := ws_ yX5_isIn cX5_isIn 3 (some .boolean)) Bo.pre w (List.mem_cons_of_mem _ hw)
  have hown : s.vm.findClass RX5 = some m.cls := findClass_of_methodNamed Bo.named
  have hlocks := Bo.notSynchronized
  have hK := hC.1
  have hl := lv_entry ([.ref (A 0), .int a1, .int a2]) (n := 3) (Nat.le_of_ble_eq_true rfl)
  rw [lg_entry_eq]
  generalize (lg_sl ([.ref (A 0), .int a1, .int a2]) ++ List.replicate (3 - (lg_sl ([.ref (A 0), .int a1, .int a2])).length) Slot.unset).toArray = ls at hl ⊢
  have hl : lv_has ls 3 [(0, .ref (A 0)), (1, .int a1), (2, .int a2)] := hl
  unfold f_X5_isIn at h
  refine lv_iload_n hx hb dX5_isIn_0 rfl (lv_at hl 1 rfl) ?_
  refine lv_iconst (v := (0)) hx hb dX5_isIn_1 (by decide) ?_
  refine lv_aload_n hx hb dX5_isIn_2 rfl (lv_at hl 0 rfl) ?_
  refine va_get hx hb hts inX5 hown hK hP 0 rfl rfl 0 (by decide) (hts _ qw967) (fun _ h9 => h9) rfl dX5_isIn_3 ?_
  refine lv_iconst (v := (0)) hx hb dX5_isIn_6 (by decide) ?_
  obtain ⟨v1, ev1, h⟩ := obind h
  refine k_iald hx hb hK hP 1 rfl ev1 dX5_isIn_7 ?_
  refine lv_iconst (v := (1)) hx hb dX5_isIn_8 (by decide) ?_
  refine lv_isub hx hb dX5_isIn_9 ?_
  obtain ⟨r2, er2, h⟩ := obind h
  refine call_R (va_runS (As := [.int a1, .int (0 : Int32), .int (v1 - (1 : Int32))]) (rest := []) ⟨hx, hb, hml, hown, hts⟩ (c_X5_in l z0 D t a1 (0 : Int32) (v1 - (1 : Int32)) _ er2) (kS hts qw1008 qw1009 qw9 qw1010 ok_X5_in ⟨Nat.le_of_ble_eq_true rfl, Nat.le_of_ble_eq_true rfl⟩) ⟨PR.blind, fun U hU hW => ⟨rfl, by rw [hU]; exact hC.warm hW, by rw [hU]; exact va_P_nil⟩⟩ rfl rfl hl.1 rfl (lv_room (Nat.le_of_ble_eq_true rfl)) dX5_isIn_10 ⟨Nat.le_of_ble_eq_true rfl, Nat.le_of_ble_eq_true rfl⟩) ?_
  refine lv_if_eq (tgt := 36) hx hb dX5_isIn_13 (by decide) (fun hc => ?_) (fun hc => ?_)
  · have h := iteT hc h
    refine lv_iconst (v := (0)) hx hb dX5_isIn_36 (by decide) ?_
    obtain rfl := Option.some.inj h
    exact W.zret hx hb hr rfl (fun t ht hW => ⟨rfl, ht⟩) (fun q hq => absurd hq List.not_mem_nil) dX5_isIn_37
  · have h := iteF hc h
    refine lv_iload_n hx hb dX5_isIn_16 rfl (lv_at hl 2 rfl) ?_
    refine lv_iconst (v := (0)) hx hb dX5_isIn_17 (by decide) ?_
    refine lv_aload_n hx hb dX5_isIn_18 rfl (lv_at hl 0 rfl) ?_
    refine va_get hx hb hts inX5 hown hK hP 0 rfl rfl 0 (by decide) (hts _ qw967) (fun _ h9 => h9) rfl dX5_isIn_19 ?_
    refine lv_iconst (v := (1)) hx hb dX5_isIn_22 (by decide) ?_
    obtain ⟨v3, ev3, h⟩ := obind h
    refine k_iald hx hb hK hP 1 rfl ev3 dX5_isIn_23 ?_
    refine lv_iconst (v := (1)) hx hb dX5_isIn_24 (by decide) ?_
    refine lv_isub hx hb dX5_isIn_25 ?_
    obtain ⟨r4, er4, h⟩ := obind h
    refine call_R (va_runS (As := [.int a2, .int (0 : Int32), .int (v3 - (1 : Int32))]) (rest := []) ⟨hx, hb, hml, hown, hts⟩ (c_X5_in l z0 D t a2 (0 : Int32) (v3 - (1 : Int32)) _ er4) (kS hts qw1008 qw1009 qw9 qw1010 ok_X5_in ⟨Nat.le_of_ble_eq_true rfl, Nat.le_of_ble_eq_true rfl⟩) ⟨PR.blind, fun U hU hW => ⟨rfl, by rw [hU]; exact hC.warm hW, by rw [hU]; exact va_P_nil⟩⟩ rfl rfl hl.1 rfl (lv_room (Nat.le_of_ble_eq_true rfl)) dX5_isIn_26 ⟨Nat.le_of_ble_eq_true rfl, Nat.le_of_ble_eq_true rfl⟩) ?_
    refine lv_if_eq (tgt := 36) hx hb dX5_isIn_29 (by decide) (fun hc => ?_) (fun hc => ?_)
    · have h := iteT hc h
      refine lv_iconst (v := (0)) hx hb dX5_isIn_36 (by decide) ?_
      obtain rfl := Option.some.inj h
      exact W.zret hx hb hr rfl (fun t ht hW => ⟨rfl, ht⟩) (fun q hq => absurd hq List.not_mem_nil) dX5_isIn_37
    · have h := iteF hc h
      refine lv_iconst (v := (1)) hx hb dX5_isIn_32 (by decide) ?_
      refine lv_goto (tgt := 37) hx hb dX5_isIn_33 (by decide) ?_
      obtain rfl := Option.some.inj h
      exact W.zret hx hb hr rfl (fun t ht hW => ⟨rfl, ht⟩) (fun q hq => absurd hq List.not_mem_nil) dX5_isIn_37

abbrev rm_X5_pond : Room := { frames := 2, cells := 0, slots := 0, locals := 62 }
theorem ok_X5_pond : okY yX5_pond 2 := ⟨by decide +kernel, by decide +kernel, by decide +kernel⟩
set_option maxHeartbeats 4000000 in
set_option maxRecDepth 100000 in
theorem c_X5_pond (l : Launch) (z0 : Nat) (D : va_G) (t : Nat → ClassId) (A : Nat → Nat) (μ : MS) (a1 : Int32) (a2 : Int32) (res : Int32 × (Nat → Int32) × (Int32) × (Int32)) (sz : Nat) (h : f_X5_pond μ a1 a2 = some res) : Met l yX5_pond (ws_ yX5_pond cX5_pond 6 (some .int)) rm_X5_pond (PM z0 D t [.ref (A 0), .int a1, .int a2] (MW A t μ) (ML A) sz) (QM (some (.int res.1)) D (MW A t (m_thrown' (m_states' (m_s' μ res.2.1) res.2.2.1) res.2.2.2)) (ML A) sz) 0 0 (OA (ML A) sz) := by
  refine Met.ofW (cc := cX5_pond) (maxL := 6) (ret := (some .int)) (by decide) rfl ?_
  intro p e s m args below meth c s₁ Bo hml hv
  obtain ⟨rfl, hC, hsz, hP, hD, hZ⟩ := hv
  have hx := Bo.exec
  have hb := Bo.bytes
  have hr := Bo.returns
  have hts : ∀ w ∈ LA, w.before _ s = true := fun w hw => atoms_spec (ws := ws_ yX5_pond cX5_pond 6 (some .int)) Bo.pre w (List.mem_cons_of_mem _ hw)
  have hown : s.vm.findClass RX5 = some m.cls := findClass_of_methodNamed Bo.named
  have hlocks := Bo.notSynchronized
  have hK := hC.1
  subst hsz
  have hl := lv_entry ([.ref (A 0), .int a1, .int a2]) (n := 6) (Nat.le_of_ble_eq_true rfl)
  rw [lg_entry_eq]
  generalize (lg_sl ([.ref (A 0), .int a1, .int a2]) ++ List.replicate (6 - (lg_sl ([.ref (A 0), .int a1, .int a2])).length) Slot.unset).toArray = ls at hl ⊢
  have hl : lv_has ls 6 [(0, .ref (A 0)), (1, .int a1), (2, .int a2)] := hl
  suffices K9 : ∀ (H : Heap) (locs : List Loc), va_P D vwCl (MW A t μ) H → va_S (OA (ML A) s.heap.size) s.heap H locs → W p l e (headSpec (ws_ yX5_pond cX5_pond 6 (some .int)) rm_X5_pond).room s m ([.ref (A 0), .int a1, .int a2] : List Value).toArray below meth c H locs 0 0 (MQ below (QM (some (.int res.1)) D (MW A t (m_thrown' (m_states' (m_s' μ res.2.1) res.2.2.1) res.2.2.2)) (ML A) s.heap.size) ([.ref (A 0), .int a1, .int a2] : List Value).toArray s 0 0 (OA (ML A) s.heap.size)) (F0 m 0 ls []) from K9 s.heap [] hP va_S.rf
  intro H locs hP hS
  have hSz : s.heap.size ≤ H.size := hS.1
  unfold f_X5_pond at h
  refine lv_aload_n hx hb dX5_pond_0 rfl (lv_at hl 0 rfl) ?_
  refine lv_iload_n hx hb dX5_pond_1 rfl (lv_at hl 1 rfl) ?_
  refine lv_iload_n hx hb dX5_pond_2 rfl (lv_at hl 2 rfl) ?_
  obtain ⟨r1, er1, h⟩ := obind h
  refine call_R (va_runV (As := [.int a1, .int a2]) (rest := []) ⟨hx, hb, hml, hown, hts⟩ (c_X5_isIn l z0 D t A μ a1 a2 _ er1) (kV hts qw1027 qw1029 qs34 qw9 qw1030 ok_X5_isIn ⟨Nat.le_of_ble_eq_true rfl, Nat.le_of_ble_eq_true rfl⟩) ⟨PR.blind, va_recv hK hP (ci := 6) (q0 := 0) rfl rfl, fun U hU hW => ⟨rfl, by rw [hU]; exact (hC.at hS hZ).warm hW, by rw [hU]; exact hP⟩⟩ rfl rfl hl.1 rfl (lv_room (Nat.le_of_ble_eq_true rfl)) dX5_pond_3 ⟨Nat.le_of_ble_eq_true rfl, Nat.le_of_ble_eq_true rfl⟩) ?_
  refine lv_istore_n (lv' := [(3, .int r1), (0, .ref (A 0)), (1, .int a1), (2, .int a2)]) hx hb dX5_pond_6 rfl hl (by decide) rfl (fun ls hl => ?_)
  refine lv_iload_n hx hb dX5_pond_7 rfl (lv_at hl 0 rfl) ?_
  obtain ⟨o2, eo2, h⟩ := obind h
  have hJ21_o2 : ∀ (ls : Array Slot) (H : Heap) (locs : List Loc), lv_has ls 6 [(0, .ref (A 0)), (3, .int r1)] → va_P D vwCl (MW A t μ) H → va_D (OA (ML A) s.heap.size) (MW A t μ) → va_S (OA (ML A) s.heap.size) s.heap H locs → W p l e (headSpec (ws_ yX5_pond cX5_pond 6 (some .int)) rm_X5_pond).room s m ([.ref (A 0), .int a1, .int a2] : List Value).toArray below meth c H locs 0 0 (MQ below (QM (some (.int res.1)) D (MW A t (m_thrown' (m_states' (m_s' μ res.2.1) res.2.2.1) res.2.2.2)) (ML A) s.heap.size) ([.ref (A 0), .int a1, .int a2] : List Value).toArray s 0 0 (OA (ML A) s.heap.size)) (F0 m 21 ls [.int o2]) := by
    intro ls H locs hl hP hD hS
    have hSz : s.heap.size ≤ H.size := hS.1
    refine lv_istore (lv' := [(4, .int o2), (0, .ref (A 0)), (3, .int r1)]) hx hb dX5_pond_21 hl (by decide) rfl (fun ls hl => ?_)
    refine lv_aload_n hx hb dX5_pond_23 rfl (lv_at hl 1 rfl) ?_
    refine lv_iload_n hx hb dX5_pond_24 rfl (lv_at hl 2 rfl) ?_
    refine lv_iload_n hx hb dX5_pond_25 rfl (lv_at hl 2 rfl) ?_
    obtain ⟨o5, eo5, h⟩ := obind h
    have hJ59_o5 : ∀ (ls : Array Slot) (H : Heap) (locs : List Loc), lv_has ls 6 [(0, .ref (A 0)), (4, .int o2)] → va_P D vwCl (MW A t μ) H → va_D (OA (ML A) s.heap.size) (MW A t μ) → va_S (OA (ML A) s.heap.size) s.heap H locs → W p l e (headSpec (ws_ yX5_pond cX5_pond 6 (some .int)) rm_X5_pond).room s m ([.ref (A 0), .int a1, .int a2] : List Value).toArray below meth c H locs 0 0 (MQ below (QM (some (.int res.1)) D (MW A t (m_thrown' (m_states' (m_s' μ res.2.1) res.2.2.1) res.2.2.2)) (ML A) s.heap.size) ([.ref (A 0), .int a1, .int a2] : List Value).toArray s 0 0 (OA (ML A) s.heap.size)) (F0 m 59 ls [.int o5, .int r1, .ref (A 0)]) := by
      intro ls H locs hl hP hD hS
      have hSz : s.heap.size ≤ H.size := hS.1
      obtain ⟨r8, er8, h⟩ := obind h
      refine call_M (va_runV (As := [.int r1, .int o5]) (rest := []) ⟨hx, hb, hml, hown, hts⟩ (c_X5_goes l z0 D t A μ r1 o5 _ H.size er8) (kV hts qw1011 qw1013 qs31 qw9 qw1014 ok_X5_goes ⟨Nat.le_of_ble_eq_true rfl, Nat.le_of_ble_eq_true rfl⟩) ⟨PM.blind, va_recv hK hP (ci := 6) (q0 := 0) rfl rfl, fun U hU hW => ⟨rfl, by rw [hU]; exact (hC.at hS hZ).warm hW, by rw [hU], by rw [hU]; exact hP, ⟨hD.1, fun _ _ h9 => Or.inl (in_map (L := (ML A)) rfl h9)⟩, fun q hq => hZ q (OA.ofD hD rfl hSz q hq)⟩⟩ rfl rfl hl.1 rfl (lv_room (Nat.le_of_ble_eq_true rfl)) dX5_pond_59 ⟨Nat.le_of_ble_eq_true rfl, Nat.le_of_ble_eq_true rfl⟩) hS (OA.ofD hD rfl hSz) (fun H locs hP hD1 hS _ _ => ?_)
      have hP : va_P D vwCl (MW A t (m_thrown' μ r8.2)) H := hP
      have hD : va_D (OA (ML A) s.heap.size) (MW A t (m_thrown' μ r8.2)) := hD1.weaken (fun _ q _ h9 => OA.ofD hD rfl hSz q.1 h9)
      have hSz : s.heap.size ≤ H.size := hS.1
      refine lv_if_ne (tgt := 67) hx hb dX5_pond_62 (by decide) (fun hc => ?_) (fun hc => ?_)
      · have h := iteF hc h
        refine lv_aload_n hx hb dX5_pond_67 rfl (lv_at hl 0 rfl) ?_
        obtain ⟨r9, er9, h⟩ := obind h
        refine call_M (va_runV (As := []) (rest := []) ⟨hx, hb, hml, hown, hts⟩ (c_X5_saves l z0 D t A (m_thrown' μ r8.2) _ H.size er9) (kV hts qw1015 qw1017 qs32 qw9 qw1018 ok_X5_saves ⟨Nat.le_of_ble_eq_true rfl, Nat.le_of_ble_eq_true rfl⟩) ⟨PM.blind, va_recv hK hP (ci := 6) (q0 := 0) rfl rfl, fun U hU hW => ⟨rfl, by rw [hU]; exact (hC.at hS hZ).warm hW, by rw [hU], by rw [hU]; exact hP, ⟨hD.1, fun _ _ h9 => Or.inl (in_map (L := (ML A)) rfl h9)⟩, fun q hq => hZ q (OA.ofD hD rfl hSz q hq)⟩⟩ rfl rfl hl.1 rfl (lv_room (Nat.le_of_ble_eq_true rfl)) dX5_pond_68 ⟨Nat.le_of_ble_eq_true rfl, Nat.le_of_ble_eq_true rfl⟩) hS (OA.ofD hD rfl hSz) (fun H locs hP hD1 hS _ _ => ?_)
        have hP : va_P D vwCl (MW A t (m_thrown' (m_states' (m_s' μ r9.1) r9.2) r8.2)) H := hP
        have hD : va_D (OA (ML A) s.heap.size) (MW A t (m_thrown' (m_states' (m_s' μ r9.1) r9.2) r8.2)) := hD1.weaken (fun _ q _ h9 => OA.ofD hD rfl hSz q.1 h9)
        have hSz : s.heap.size ≤ H.size := hS.1
        refine lv_aload_n hx hb dX5_pond_71 rfl (lv_at hl 0 rfl) ?_
        refine va_get hx hb hts inX5 hown hK hP 0 rfl rfl 0 (by decide) (hts _ qw967) (fun _ h9 => h9) rfl dX5_pond_72 ?_
        refine lv_iconst (v := (2)) hx hb dX5_pond_75 (by decide) ?_
        obtain ⟨v10, ev10, h⟩ := obind h
        refine k_iald hx hb hK hP 1 rfl ev10 dX5_pond_76 ?_
        refine lv_istore (lv' := [(5, .int v10), (0, .ref (A 0)), (4, .int o2)]) hx hb dX5_pond_77 hl (by decide) rfl (fun ls hl => ?_)
        refine lv_aload_n hx hb dX5_pond_79 rfl (lv_at hl 1 rfl) ?_
        refine va_get hx hb hts inX5 hown hK hP 0 rfl rfl 0 (by decide) (hts _ qw967) (fun _ h9 => h9) rfl dX5_pond_80 ?_
        refine lv_iconst (v := (2)) hx hb dX5_pond_83 (by decide) ?_
        refine lv_iload hx hb dX5_pond_84 (lv_at hl 2 rfl) ?_
        obtain ⟨f11, ef11, h⟩ := obind h
        refine k_iast (ws' := (MW A t (m_thrown' (m_states' (m_s' μ f11) r9.2) r8.2))) hx hb hK hP hD hS 1 rfl ef11 rfl dX5_pond_86 (fun H locs hP hD hS => ?_)
        have hSz : s.heap.size ≤ H.size := hS.1
        refine lv_iload hx hb dX5_pond_87 (lv_at hl 0 rfl) ?_
        refine lv_bipush (v := (8)) hx hb dX5_pond_89 (by decide) ?_
        refine lv_irem hx hb dX5_pond_91 (by decide) ?_
        refine lv_bipush (v := (10)) hx hb dX5_pond_92 (by decide) ?_
        refine lv_iload hx hb dX5_pond_94 (lv_at hl 0 rfl) ?_
        refine lv_bipush (v := (8)) hx hb dX5_pond_96 (by decide) ?_
        refine lv_idiv hx hb dX5_pond_98 (by decide) ?_
        refine lv_imul hx hb dX5_pond_99 ?_
        refine lv_iadd hx hb dX5_pond_100 ?_
        obtain rfl := Option.some.inj h
        exact W.iret hx hb hr (fun t ht hW => ⟨rfl, by rw [ht]; exact hP, hD, hS.F ht⟩) hS.2.2 dX5_pond_101
      · have h := iteT hc h
        refine lv_iconst (v := (0)) hx hb dX5_pond_65 (by decide) ?_
        obtain rfl := Option.some.inj h
        exact W.iret hx hb hr (fun t ht hW => ⟨rfl, by rw [ht]; exact hP, hD, hS.F ht⟩) hS.2.2 dX5_pond_66
    have h := eo5
    clear eo5
    refine lv_if_eq (tgt := 58) hx hb dX5_pond_26 (by decide) (fun hc => ?_) (fun hc => ?_)
    · have h := iteT hc h
      refine lv_iconst (v := (0)) hx hb dX5_pond_58 (by decide) ?_
      obtain rfl := Option.some.inj h
      exact hJ59_o5 ls H locs (lv_sub hl [1, 0] rfl) hP hD hS
    · have h := iteF hc h
      refine lv_aload_n hx hb dX5_pond_29 rfl (lv_at hl 1 rfl) ?_
      refine va_get hx hb hts inX5 hown hK hP 0 rfl rfl 0 (by decide) (hts _ qw967) (fun _ h9 => h9) rfl dX5_pond_30 ?_
      refine lv_iconst (v := (3)) hx hb dX5_pond_33 (by decide) ?_
      refine lv_iload hx hb dX5_pond_34 (lv_at hl 0 rfl) ?_
      refine lv_iadd hx hb dX5_pond_36 ?_
      obtain ⟨v6, ev6, h⟩ := obind h
      refine k_iald hx hb hK hP 1 rfl ev6 dX5_pond_37 ?_
      refine lv_if_ne (tgt := 58) hx hb dX5_pond_38 (by decide) (fun hc => ?_) (fun hc => ?_)
      · have h := iteF hc h
        refine lv_iconst (v := (0)) hx hb dX5_pond_58 (by decide) ?_
        obtain rfl := Option.some.inj h
        exact hJ59_o5 ls H locs (lv_sub hl [1, 0] rfl) hP hD hS
      · have h := iteT hc h
        refine lv_aload_n hx hb dX5_pond_41 rfl (lv_at hl 1 rfl) ?_
        refine va_get hx hb hts inX5 hown hK hP 0 rfl rfl 0 (by decide) (hts _ qw967) (fun _ h9 => h9) rfl dX5_pond_42 ?_
        refine lv_bipush (v := (67)) hx hb dX5_pond_45 (by decide) ?_
        refine lv_iload hx hb dX5_pond_47 (lv_at hl 0 rfl) ?_
        refine lv_iadd hx hb dX5_pond_49 ?_
        obtain ⟨v7, ev7, h⟩ := obind h
        refine k_iald hx hb hK hP 1 rfl ev7 dX5_pond_50 ?_
        refine lv_if_ge (tgt := 58) hx hb dX5_pond_51 (by decide) (fun hc => ?_) (fun hc => ?_)
        · have h := iteT hc h
          refine lv_iconst (v := (0)) hx hb dX5_pond_58 (by decide) ?_
          obtain rfl := Option.some.inj h
          exact hJ59_o5 ls H locs (lv_sub hl [1, 0] rfl) hP hD hS
        · have h := iteF hc h
          refine lv_iconst (v := (1)) hx hb dX5_pond_54 (by decide) ?_
          refine lv_goto (tgt := 59) hx hb dX5_pond_55 (by decide) ?_
          obtain rfl := Option.some.inj h
          exact hJ59_o5 ls H locs (lv_sub hl [1, 0] rfl) hP hD hS
  have h := eo2
  clear eo2
  refine lv_if_eq (tgt := 20) hx hb dX5_pond_8 (by decide) (fun hc => ?_) (fun hc => ?_)
  · have h := iteT hc h
    refine lv_iconst (v := (0)) hx hb dX5_pond_20 (by decide) ?_
    obtain rfl := Option.some.inj h
    exact hJ21_o2 ls H locs (lv_sub hl [1, 0] rfl) hP hD hS
  · have h := iteF hc h
    refine lv_bipush (v := (8)) hx hb dX5_pond_11 (by decide) ?_
    refine lv_iload_n hx hb dX5_pond_13 rfl (lv_at hl 3 rfl) ?_
    refine lv_imul hx hb dX5_pond_14 ?_
    refine lv_iload_n hx hb dX5_pond_15 rfl (lv_at hl 2 rfl) ?_
    refine lv_iadd hx hb dX5_pond_16 ?_
    refine lv_goto (tgt := 21) hx hb dX5_pond_17 (by decide) ?_
    obtain rfl := Option.some.inj h
    exact hJ21_o2 ls H locs (lv_sub hl [1, 0] rfl) hP hD hS

abbrev rm_X5_walls : Room := { frames := 0, cells := 0, slots := 0, locals := 0 }
theorem ok_X5_walls : okY yX5_walls 0 := ⟨by decide +kernel, by decide +kernel, by decide +kernel⟩
set_option maxHeartbeats 4000000 in
set_option maxRecDepth 100000 in
theorem c_X5_walls (l : Launch) (z0 : Nat) (D : va_G) (t : Nat → ClassId) (A : Nat → Nat) (μ : MS) (res : Int32) (h : f_X5_walls μ = some res) : Met l yX5_walls (ws_ yX5_walls cX5_walls 3 (some .int)) rm_X5_walls (PR z0 D t [.ref (A 0)] (MW A t μ)) (QR (some (.int res))) 0 0 FN := by
  refine Met.ofW (cc := cX5_walls) (maxL := 3) (ret := (some .int)) (by decide) rfl ?_
  intro p e s m args below meth c s₁ Bo hml hv
  obtain ⟨rfl, hC, hP⟩ := hv
  have hx := Bo.exec
  have hb := Bo.bytes
  have hr := Bo.returns
  have hts : ∀ w ∈ LA, w.before _ s = true := fun w hw => atoms_spec (ws := ws_ yX5_walls cX5_walls 3 (some .int)) Bo.pre w (List.mem_cons_of_mem _ hw)
  have hown : s.vm.findClass RX5 = some m.cls := findClass_of_methodNamed Bo.named
  have hlocks := Bo.notSynchronized
  have hK := hC.1
  have hl := lv_entry ([.ref (A 0)]) (n := 3) (Nat.le_of_ble_eq_true rfl)
  rw [lg_entry_eq]
  generalize (lg_sl ([.ref (A 0)]) ++ List.replicate (3 - (lg_sl ([.ref (A 0)])).length) Slot.unset).toArray = ls at hl ⊢
  have hl : lv_has ls 3 [(0, .ref (A 0))] := hl
  unfold f_X5_walls at h
  refine lv_iconst (v := (0)) hx hb dX5_walls_0 (by decide) ?_
  refine lv_istore_n (lv' := [(1, .int (0 : Int32)), (0, .ref (A 0))]) hx hb dX5_walls_1 rfl hl (by decide) rfl (fun ls hl => ?_)
  refine lv_iconst (v := (0)) hx hb dX5_walls_2 (by decide) ?_
  refine lv_istore_n (lv' := [(2, .int (0 : Int32)), (1, .int (0 : Int32)), (0, .ref (A 0))]) hx hb dX5_walls_3 rfl hl (by decide) rfl (fun ls hl => ?_)
  obtain ⟨o7, eo7, h⟩ := obind h
  have hL4 : ∀ (n : Nat) (y1_4 : Int32) (y2_4 : Int32) (o7 : Int32), f_X5_walls_L4 μ n y1_4 y2_4 = some o7 → (∀ (ls : Array Slot), lv_has ls 3 [(1, .int o7)] → W p l e (headSpec (ws_ yX5_walls cX5_walls 3 (some .int)) rm_X5_walls).room s m ([.ref (A 0)] : List Value).toArray below meth c s.heap [] 0 0 (MQ below (QR (some (.int res))) ([.ref (A 0)] : List Value).toArray s 0 0 FN) (F0 m 27 ls [])) → ∀ (ls : Array Slot), lv_has ls 3 [(0, .ref (A 0)), (1, .int y1_4), (2, .int y2_4)] → W p l e (headSpec (ws_ yX5_walls cX5_walls 3 (some .int)) rm_X5_walls).room s m ([.ref (A 0)] : List Value).toArray below meth c s.heap [] 0 0 (MQ below (QR (some (.int res))) ([.ref (A 0)] : List Value).toArray s 0 0 FN) (F0 m 4 ls []) := by
    intro n
    induction n with
    | zero => intro y1_4 y2_4 o7 h; exact absurd h (fun z => by cases z)
    | succ n ih =>
      intro y1_4 y2_4 o7 h hK4 ls hl
      replace h : f_X5_walls_L4_b μ (f_X5_walls_L4 μ n) y1_4 y2_4 = some o7 := h
      unfold f_X5_walls_L4_b at h
      refine lv_iload_n hx hb dX5_walls_4 rfl (lv_at hl 2 rfl) ?_
      refine lv_bipush (v := (64)) hx hb dX5_walls_5 (by decide) ?_
      refine lv_icmp_ge (tgt := 27) hx hb dX5_walls_7 (by decide) (fun hc => ?_) (fun hc => ?_)
      · have h := iteT hc h
        obtain rfl := Option.some.inj h
        exact hK4 ls (lv_sub hl [1] rfl)
      · have h := iteF hc h
        refine lv_iload_n hx hb dX5_walls_10 rfl (lv_at hl 1 rfl) ?_
        refine lv_aload_n hx hb dX5_walls_11 rfl (lv_at hl 0 rfl) ?_
        refine va_get hx hb hts inX5 hown hK hP 0 rfl rfl 0 (by decide) (hts _ qw967) (fun _ h9 => h9) rfl dX5_walls_12 ?_
        refine lv_iconst (v := (3)) hx hb dX5_walls_15 (by decide) ?_
        refine lv_iload_n hx hb dX5_walls_16 rfl (lv_at hl 2 rfl) ?_
        refine lv_iadd hx hb dX5_walls_17 ?_
        obtain ⟨v8, ev8, h⟩ := obind h
        refine k_iald hx hb hK hP 1 rfl ev8 dX5_walls_18 ?_
        refine lv_iadd hx hb dX5_walls_19 ?_
        obtain ⟨x9, ex9, h⟩ := jlet_some h
        refine topI ex9 ?_
        refine lv_istore_n (lv' := [(1, .int x9), (0, .ref (A 0)), (2, .int y2_4)]) hx hb dX5_walls_20 rfl hl (by decide) rfl (fun ls hl => ?_)
        obtain ⟨x10, ex10, h⟩ := jlet_some h
        refine lv_iinc (v := x10) (lv' := [(2, .int x10), (1, .int x9), (0, .ref (A 0))]) hx hb dX5_walls_21 hl (k := 2) rfl (by rw [ex10]; rfl) (by decide) rfl (fun ls hl => ?_)
        refine lv_goto (tgt := 4) hx hb dX5_walls_24 (by decide) ?_
        exact ih _ _ _ h hK4 ls (lv_sub hl [2, 1, 0] rfl)
  refine hL4 _ _ _ _ eo7 (fun ls hl => ?_) ls (lv_sub hl [2, 1, 0] rfl)
  refine lv_iload_n hx hb dX5_walls_27 rfl (lv_at hl 0 rfl) ?_
  obtain rfl := Option.some.inj h
  exact W.iret hx hb hr (fun t ht hW => ⟨rfl, ht⟩) (fun q hq => absurd hq List.not_mem_nil) dX5_walls_28

abbrev rm_X5_wall : Room := { frames := 2, cells := 0, slots := 0, locals := 62 }
theorem ok_X5_wall : okY yX5_wall 2 := ⟨by decide +kernel, by decide +kernel, by decide +kernel⟩
set_option maxHeartbeats 4000000 in
set_option maxRecDepth 100000 in
theorem c_X5_wall (l : Launch) (z0 : Nat) (D : va_G) (t : Nat → ClassId) (A : Nat → Nat) (μ : MS) (a1 : Int32) (a2 : Int32) (res : Int32 × (Nat → Int32) × (Int32) × (Int32)) (sz : Nat) (h : f_X5_wall μ a1 a2 = some res) : Met l yX5_wall (ws_ yX5_wall cX5_wall 5 (some .int)) rm_X5_wall (PM z0 D t [.ref (A 0), .int a1, .int a2] (MW A t μ) (ML A) sz) (QM (some (.int res.1)) D (MW A t (m_thrown' (m_states' (m_s' μ res.2.1) res.2.2.1) res.2.2.2)) (ML A) sz) 0 0 (OA (ML A) sz) := by
  refine Met.ofW (cc := cX5_wall) (maxL := 5) (ret := (some .int)) (by decide) rfl ?_
  intro p e s m args below meth c s₁ Bo hml hv
  obtain ⟨rfl, hC, hsz, hP, hD, hZ⟩ := hv
  have hx := Bo.exec
  have hb := Bo.bytes
  have hr := Bo.returns
  have hts : ∀ w ∈ LA, w.before _ s = true := fun w hw => atoms_spec (ws := ws_ yX5_wall cX5_wall 5 (some .int)) Bo.pre w (List.mem_cons_of_mem _ hw)
  have hown : s.vm.findClass RX5 = some m.cls := findClass_of_methodNamed Bo.named
  have hlocks := Bo.notSynchronized
  have hK := hC.1
  subst hsz
  have hl := lv_entry ([.ref (A 0), .int a1, .int a2]) (n := 5) (Nat.le_of_ble_eq_true rfl)
  rw [lg_entry_eq]
  generalize (lg_sl ([.ref (A 0), .int a1, .int a2]) ++ List.replicate (5 - (lg_sl ([.ref (A 0), .int a1, .int a2])).length) Slot.unset).toArray = ls at hl ⊢
  have hl : lv_has ls 5 [(0, .ref (A 0)), (1, .int a1), (2, .int a2)] := hl
  suffices K9 : ∀ (H : Heap) (locs : List Loc), va_P D vwCl (MW A t μ) H → va_S (OA (ML A) s.heap.size) s.heap H locs → W p l e (headSpec (ws_ yX5_wall cX5_wall 5 (some .int)) rm_X5_wall).room s m ([.ref (A 0), .int a1, .int a2] : List Value).toArray below meth c H locs 0 0 (MQ below (QM (some (.int res.1)) D (MW A t (m_thrown' (m_states' (m_s' μ res.2.1) res.2.2.1) res.2.2.2)) (ML A) s.heap.size) ([.ref (A 0), .int a1, .int a2] : List Value).toArray s 0 0 (OA (ML A) s.heap.size)) (F0 m 0 ls []) from K9 s.heap [] hP va_S.rf
  intro H locs hP hS
  have hSz : s.heap.size ≤ H.size := hS.1
  unfold f_X5_wall at h
  refine lv_aload_n hx hb dX5_wall_0 rfl (lv_at hl 0 rfl) ?_
  refine lv_iload_n hx hb dX5_wall_1 rfl (lv_at hl 1 rfl) ?_
  refine lv_iload_n hx hb dX5_wall_2 rfl (lv_at hl 2 rfl) ?_
  obtain ⟨r1, er1, h⟩ := obind h
  refine call_R (va_runV (As := [.int a1, .int a2]) (rest := []) ⟨hx, hb, hml, hown, hts⟩ (c_X5_isIn l z0 D t A μ a1 a2 _ er1) (kV hts qw1027 qw1029 qs34 qw9 qw1030 ok_X5_isIn ⟨Nat.le_of_ble_eq_true rfl, Nat.le_of_ble_eq_true rfl⟩) ⟨PR.blind, va_recv hK hP (ci := 6) (q0 := 0) rfl rfl, fun U hU hW => ⟨rfl, by rw [hU]; exact (hC.at hS hZ).warm hW, by rw [hU]; exact hP⟩⟩ rfl rfl hl.1 rfl (lv_room (Nat.le_of_ble_eq_true rfl)) dX5_wall_3 ⟨Nat.le_of_ble_eq_true rfl, Nat.le_of_ble_eq_true rfl⟩) ?_
  refine lv_istore_n (lv' := [(3, .int r1), (0, .ref (A 0)), (1, .int a1), (2, .int a2)]) hx hb dX5_wall_6 rfl hl (by decide) rfl (fun ls hl => ?_)
  refine lv_iload_n hx hb dX5_wall_7 rfl (lv_at hl 0 rfl) ?_
  obtain ⟨o2, eo2, h⟩ := obind h
  have hJ21_o2 : ∀ (ls : Array Slot) (H : Heap) (locs : List Loc), lv_has ls 5 [(0, .ref (A 0)), (3, .int r1)] → va_P D vwCl (MW A t μ) H → va_D (OA (ML A) s.heap.size) (MW A t μ) → va_S (OA (ML A) s.heap.size) s.heap H locs → W p l e (headSpec (ws_ yX5_wall cX5_wall 5 (some .int)) rm_X5_wall).room s m ([.ref (A 0), .int a1, .int a2] : List Value).toArray below meth c H locs 0 0 (MQ below (QM (some (.int res.1)) D (MW A t (m_thrown' (m_states' (m_s' μ res.2.1) res.2.2.1) res.2.2.2)) (ML A) s.heap.size) ([.ref (A 0), .int a1, .int a2] : List Value).toArray s 0 0 (OA (ML A) s.heap.size)) (F0 m 21 ls [.int o2]) := by
    intro ls H locs hl hP hD hS
    have hSz : s.heap.size ≤ H.size := hS.1
    refine lv_istore (lv' := [(4, .int o2), (0, .ref (A 0)), (3, .int r1)]) hx hb dX5_wall_21 hl (by decide) rfl (fun ls hl => ?_)
    refine lv_aload_n hx hb dX5_wall_23 rfl (lv_at hl 1 rfl) ?_
    refine lv_iload_n hx hb dX5_wall_24 rfl (lv_at hl 2 rfl) ?_
    refine lv_iload_n hx hb dX5_wall_25 rfl (lv_at hl 2 rfl) ?_
    obtain ⟨o5, eo5, h⟩ := obind h
    have hJ58_o5 : ∀ (ls : Array Slot) (H : Heap) (locs : List Loc), lv_has ls 5 [(0, .ref (A 0)), (4, .int o2)] → va_P D vwCl (MW A t μ) H → va_D (OA (ML A) s.heap.size) (MW A t μ) → va_S (OA (ML A) s.heap.size) s.heap H locs → W p l e (headSpec (ws_ yX5_wall cX5_wall 5 (some .int)) rm_X5_wall).room s m ([.ref (A 0), .int a1, .int a2] : List Value).toArray below meth c H locs 0 0 (MQ below (QM (some (.int res.1)) D (MW A t (m_thrown' (m_states' (m_s' μ res.2.1) res.2.2.1) res.2.2.2)) (ML A) s.heap.size) ([.ref (A 0), .int a1, .int a2] : List Value).toArray s 0 0 (OA (ML A) s.heap.size)) (F0 m 58 ls [.int o5, .int r1, .ref (A 0)]) := by
      intro ls H locs hl hP hD hS
      have hSz : s.heap.size ≤ H.size := hS.1
      obtain ⟨r8, er8, h⟩ := obind h
      refine call_M (va_runV (As := [.int r1, .int o5]) (rest := []) ⟨hx, hb, hml, hown, hts⟩ (c_X5_goes l z0 D t A μ r1 o5 _ H.size er8) (kV hts qw1011 qw1013 qs31 qw9 qw1014 ok_X5_goes ⟨Nat.le_of_ble_eq_true rfl, Nat.le_of_ble_eq_true rfl⟩) ⟨PM.blind, va_recv hK hP (ci := 6) (q0 := 0) rfl rfl, fun U hU hW => ⟨rfl, by rw [hU]; exact (hC.at hS hZ).warm hW, by rw [hU], by rw [hU]; exact hP, ⟨hD.1, fun _ _ h9 => Or.inl (in_map (L := (ML A)) rfl h9)⟩, fun q hq => hZ q (OA.ofD hD rfl hSz q hq)⟩⟩ rfl rfl hl.1 rfl (lv_room (Nat.le_of_ble_eq_true rfl)) dX5_wall_58 ⟨Nat.le_of_ble_eq_true rfl, Nat.le_of_ble_eq_true rfl⟩) hS (OA.ofD hD rfl hSz) (fun H locs hP hD1 hS _ _ => ?_)
      have hP : va_P D vwCl (MW A t (m_thrown' μ r8.2)) H := hP
      have hD : va_D (OA (ML A) s.heap.size) (MW A t (m_thrown' μ r8.2)) := hD1.weaken (fun _ q _ h9 => OA.ofD hD rfl hSz q.1 h9)
      have hSz : s.heap.size ≤ H.size := hS.1
      refine lv_if_ne (tgt := 66) hx hb dX5_wall_61 (by decide) (fun hc => ?_) (fun hc => ?_)
      · have h := iteF hc h
        refine lv_aload_n hx hb dX5_wall_66 rfl (lv_at hl 0 rfl) ?_
        obtain ⟨r9, er9, h⟩ := obind h
        refine call_M (va_runV (As := []) (rest := []) ⟨hx, hb, hml, hown, hts⟩ (c_X5_saves l z0 D t A (m_thrown' μ r8.2) _ H.size er9) (kV hts qw1015 qw1017 qs32 qw9 qw1018 ok_X5_saves ⟨Nat.le_of_ble_eq_true rfl, Nat.le_of_ble_eq_true rfl⟩) ⟨PM.blind, va_recv hK hP (ci := 6) (q0 := 0) rfl rfl, fun U hU hW => ⟨rfl, by rw [hU]; exact (hC.at hS hZ).warm hW, by rw [hU], by rw [hU]; exact hP, ⟨hD.1, fun _ _ h9 => Or.inl (in_map (L := (ML A)) rfl h9)⟩, fun q hq => hZ q (OA.ofD hD rfl hSz q hq)⟩⟩ rfl rfl hl.1 rfl (lv_room (Nat.le_of_ble_eq_true rfl)) dX5_wall_67 ⟨Nat.le_of_ble_eq_true rfl, Nat.le_of_ble_eq_true rfl⟩) hS (OA.ofD hD rfl hSz) (fun H locs hP hD1 hS _ _ => ?_)
        have hP : va_P D vwCl (MW A t (m_thrown' (m_states' (m_s' μ r9.1) r9.2) r8.2)) H := hP
        have hD : va_D (OA (ML A) s.heap.size) (MW A t (m_thrown' (m_states' (m_s' μ r9.1) r9.2) r8.2)) := hD1.weaken (fun _ q _ h9 => OA.ofD hD rfl hSz q.1 h9)
        have hSz : s.heap.size ≤ H.size := hS.1
        refine lv_aload_n hx hb dX5_wall_70 rfl (lv_at hl 0 rfl) ?_
        refine va_get hx hb hts inX5 hown hK hP 0 rfl rfl 0 (by decide) (hts _ qw967) (fun _ h9 => h9) rfl dX5_wall_71 ?_
        refine lv_iconst (v := (3)) hx hb dX5_wall_74 (by decide) ?_
        refine lv_iload hx hb dX5_wall_75 (lv_at hl 1 rfl) ?_
        refine lv_iadd hx hb dX5_wall_77 ?_
        refine lv_iconst (v := (1)) hx hb dX5_wall_78 (by decide) ?_
        refine lv_aload_n hx hb dX5_wall_79 rfl (lv_at hl 0 rfl) ?_
        refine va_get hx hb hts inX5 hown hK hP 0 rfl rfl 0 (by decide) (hts _ qw967) (fun _ h9 => h9) rfl dX5_wall_80 ?_
        refine lv_iconst (v := (3)) hx hb dX5_wall_83 (by decide) ?_
        refine lv_iload hx hb dX5_wall_84 (lv_at hl 1 rfl) ?_
        refine lv_iadd hx hb dX5_wall_86 ?_
        obtain ⟨v10, ev10, h⟩ := obind h
        refine k_iald hx hb hK hP 1 rfl ev10 dX5_wall_87 ?_
        refine lv_isub hx hb dX5_wall_88 ?_
        obtain ⟨f11, ef11, h⟩ := obind h
        refine k_iast (ws' := (MW A t (m_thrown' (m_states' (m_s' μ f11) r9.2) r8.2))) hx hb hK hP hD hS 1 rfl ef11 rfl dX5_wall_89 (fun H locs hP hD hS => ?_)
        have hSz : s.heap.size ≤ H.size := hS.1
        refine lv_aload_n hx hb dX5_wall_90 rfl (lv_at hl 0 rfl) ?_
        obtain ⟨r12, er12, h⟩ := obind h
        refine call_R (va_runV (As := []) (rest := []) ⟨hx, hb, hml, hown, hts⟩ (c_X5_walls l z0 D t A (m_thrown' (m_states' (m_s' μ f11) r9.2) r8.2) _ er12) (kV hts qw1035 qw1037 qs35 qw9 qw1038 ok_X5_walls ⟨Nat.le_of_ble_eq_true rfl, Nat.le_of_ble_eq_true rfl⟩) ⟨PR.blind, va_recv hK hP (ci := 6) (q0 := 0) rfl rfl, fun U hU hW => ⟨rfl, by rw [hU]; exact (hC.at hS hZ).warm hW, by rw [hU]; exact hP⟩⟩ rfl rfl hl.1 rfl (lv_room (Nat.le_of_ble_eq_true rfl)) dX5_wall_91 ⟨Nat.le_of_ble_eq_true rfl, Nat.le_of_ble_eq_true rfl⟩) ?_
        obtain rfl := Option.some.inj h
        exact W.iret hx hb hr (fun t ht hW => ⟨rfl, by rw [ht]; exact hP, hD, hS.F ht⟩) hS.2.2 dX5_wall_94
      · have h := iteT hc h
        refine lv_iconst (v := (0)) hx hb dX5_wall_64 (by decide) ?_
        obtain rfl := Option.some.inj h
        exact W.iret hx hb hr (fun t ht hW => ⟨rfl, by rw [ht]; exact hP, hD, hS.F ht⟩) hS.2.2 dX5_wall_65
    have h := eo5
    clear eo5
    refine lv_if_eq (tgt := 57) hx hb dX5_wall_26 (by decide) (fun hc => ?_) (fun hc => ?_)
    · have h := iteT hc h
      refine lv_iconst (v := (0)) hx hb dX5_wall_57 (by decide) ?_
      obtain rfl := Option.some.inj h
      exact hJ58_o5 ls H locs (lv_sub hl [1, 0] rfl) hP hD hS
    · have h := iteF hc h
      refine lv_aload_n hx hb dX5_wall_29 rfl (lv_at hl 1 rfl) ?_
      refine va_get hx hb hts inX5 hown hK hP 0 rfl rfl 0 (by decide) (hts _ qw967) (fun _ h9 => h9) rfl dX5_wall_30 ?_
      refine lv_iconst (v := (2)) hx hb dX5_wall_33 (by decide) ?_
      obtain ⟨v6, ev6, h⟩ := obind h
      refine k_iald hx hb hK hP 1 rfl ev6 dX5_wall_34 ?_
      refine lv_iload hx hb dX5_wall_35 (lv_at hl 0 rfl) ?_
      refine lv_icmp_eq (tgt := 57) hx hb dX5_wall_37 (by decide) (fun hc => ?_) (fun hc => ?_)
      · have h := iteT hc h
        refine lv_iconst (v := (0)) hx hb dX5_wall_57 (by decide) ?_
        obtain rfl := Option.some.inj h
        exact hJ58_o5 ls H locs (lv_sub hl [1, 0] rfl) hP hD hS
      · have h := iteF hc h
        refine lv_aload_n hx hb dX5_wall_40 rfl (lv_at hl 1 rfl) ?_
        refine va_get hx hb hts inX5 hown hK hP 0 rfl rfl 0 (by decide) (hts _ qw967) (fun _ h9 => h9) rfl dX5_wall_41 ?_
        refine lv_bipush (v := (67)) hx hb dX5_wall_44 (by decide) ?_
        refine lv_iload hx hb dX5_wall_46 (lv_at hl 0 rfl) ?_
        refine lv_iadd hx hb dX5_wall_48 ?_
        obtain ⟨v7, ev7, h⟩ := obind h
        refine k_iald hx hb hK hP 1 rfl ev7 dX5_wall_49 ?_
        refine lv_if_ge (tgt := 57) hx hb dX5_wall_50 (by decide) (fun hc => ?_) (fun hc => ?_)
        · have h := iteT hc h
          refine lv_iconst (v := (0)) hx hb dX5_wall_57 (by decide) ?_
          obtain rfl := Option.some.inj h
          exact hJ58_o5 ls H locs (lv_sub hl [1, 0] rfl) hP hD hS
        · have h := iteF hc h
          refine lv_iconst (v := (1)) hx hb dX5_wall_53 (by decide) ?_
          refine lv_goto (tgt := 58) hx hb dX5_wall_54 (by decide) ?_
          obtain rfl := Option.some.inj h
          exact hJ58_o5 ls H locs (lv_sub hl [1, 0] rfl) hP hD hS
  have h := eo2
  clear eo2
  refine lv_if_eq (tgt := 20) hx hb dX5_wall_8 (by decide) (fun hc => ?_) (fun hc => ?_)
  · have h := iteT hc h
    refine lv_iconst (v := (0)) hx hb dX5_wall_20 (by decide) ?_
    obtain rfl := Option.some.inj h
    exact hJ21_o2 ls H locs (lv_sub hl [1, 0] rfl) hP hD hS
  · have h := iteF hc h
    refine lv_bipush (v := (8)) hx hb dX5_wall_11 (by decide) ?_
    refine lv_iload_n hx hb dX5_wall_13 rfl (lv_at hl 3 rfl) ?_
    refine lv_imul hx hb dX5_wall_14 ?_
    refine lv_iload_n hx hb dX5_wall_15 rfl (lv_at hl 2 rfl) ?_
    refine lv_iadd hx hb dX5_wall_16 ?_
    refine lv_goto (tgt := 21) hx hb dX5_wall_17 (by decide) ?_
    obtain rfl := Option.some.inj h
    exact hJ21_o2 ls H locs (lv_sub hl [1, 0] rfl) hP hD hS

abbrev rm_X5_ofBlock : Room := { frames := 0, cells := 0, slots := 0, locals := 0 }
theorem ok_X5_ofBlock : okY yX5_ofBlock 3 := ⟨by decide +kernel, by decide +kernel, by decide +kernel⟩
set_option maxHeartbeats 4000000 in
set_option maxRecDepth 100000 in
theorem c_X5_ofBlock (l : Launch) (z0 : Nat) (D : va_G) (t : Nat → ClassId) (a1 : Int32) (a2 : Int32) (a3 : Int32) (res : Int32) (h : f_X5_ofBlock a1 a2 a3 = some res) : Met l yX5_ofBlock (ws_ yX5_ofBlock cX5_ofBlock 3 (some .int)) rm_X5_ofBlock (PR z0 D t [.int a1, .int a2, .int a3] []) (QR (some (.int res))) 0 0 FN := by
  refine Met.ofW (cc := cX5_ofBlock) (maxL := 3) (ret := (some .int)) (by decide) rfl ?_
  intro p e s m args below meth c s₁ Bo hml hv
  obtain ⟨rfl, hC, hP⟩ := hv
  have hx := Bo.exec
  have hb := Bo.bytes
  have hr := Bo.returns
  have hts : ∀ w ∈ LA, w.before _ s = true := fun w hw => atoms_spec (ws := ws_ yX5_ofBlock cX5_ofBlock 3 (some .int)) Bo.pre w (List.mem_cons_of_mem _ hw)
  have hown : s.vm.findClass RX5 = some m.cls := findClass_of_methodNamed Bo.named
  have hlocks := Bo.notSynchronized
  have hK := hC.1
  have hl := lv_entry ([.int a1, .int a2, .int a3]) (n := 3) (Nat.le_of_ble_eq_true rfl)
  rw [lg_entry_eq]
  generalize (lg_sl ([.int a1, .int a2, .int a3]) ++ List.replicate (3 - (lg_sl ([.int a1, .int a2, .int a3])).length) Slot.unset).toArray = ls at hl ⊢
  have hl : lv_has ls 3 [(0, .int a1), (1, .int a2), (2, .int a3)] := hl
  unfold f_X5_ofBlock at h
  refine lv_bipush (v := (8)) hx hb dX5_ofBlock_0 (by decide) ?_
  refine lv_iload_n hx hb dX5_ofBlock_2 rfl (lv_at hl 1 rfl) ?_
  refine lv_iload_n hx hb dX5_ofBlock_3 rfl (lv_at hl 2 rfl) ?_
  refine lv_iconst (v := (2)) hx hb dX5_ofBlock_4 (by decide) ?_
  refine lv_idiv hx hb dX5_ofBlock_5 (by decide) ?_
  refine lv_iadd hx hb dX5_ofBlock_6 ?_
  refine lv_imul hx hb dX5_ofBlock_7 ?_
  refine lv_iload_n hx hb dX5_ofBlock_8 rfl (lv_at hl 0 rfl) ?_
  refine lv_iadd hx hb dX5_ofBlock_9 ?_
  refine lv_iload_n hx hb dX5_ofBlock_10 rfl (lv_at hl 2 rfl) ?_
  refine lv_iconst (v := (1)) hx hb dX5_ofBlock_11 (by decide) ?_
  refine lv_icmp_eq (tgt := 20) hx hb dX5_ofBlock_12 (by decide) (fun hc => ?_) (fun hc => ?_)
  · have h := iteT hc h
    refine lv_iconst (v := (1)) hx hb dX5_ofBlock_20 (by decide) ?_
    refine lv_goto (tgt := 25) hx hb dX5_ofBlock_21 (by decide) ?_
    refine lv_iadd hx hb dX5_ofBlock_25 ?_
    obtain rfl := Option.some.inj h
    exact W.iret hx hb hr (fun t ht hW => ⟨rfl, ht⟩) (fun q hq => absurd hq List.not_mem_nil) dX5_ofBlock_26
  · have h := iteF hc h
    refine lv_iload_n hx hb dX5_ofBlock_15 rfl (lv_at hl 2 rfl) ?_
    refine lv_iconst (v := (2)) hx hb dX5_ofBlock_16 (by decide) ?_
    refine lv_icmp_ne (tgt := 24) hx hb dX5_ofBlock_17 (by decide) (fun hc => ?_) (fun hc => ?_)
    · have h := iteF hc h
      refine lv_iconst (v := (0)) hx hb dX5_ofBlock_24 (by decide) ?_
      refine lv_iadd hx hb dX5_ofBlock_25 ?_
      obtain rfl := Option.some.inj h
      exact W.iret hx hb hr (fun t ht hW => ⟨rfl, ht⟩) (fun q hq => absurd hq List.not_mem_nil) dX5_ofBlock_26
    · have h := iteT hc h
      refine lv_iconst (v := (1)) hx hb dX5_ofBlock_20 (by decide) ?_
      refine lv_goto (tgt := 25) hx hb dX5_ofBlock_21 (by decide) ?_
      refine lv_iadd hx hb dX5_ofBlock_25 ?_
      obtain rfl := Option.some.inj h
      exact W.iret hx hb hr (fun t ht hW => ⟨rfl, ht⟩) (fun q hq => absurd hq List.not_mem_nil) dX5_ofBlock_26

abbrev rm_X5_wrong : Room := { frames := 1, cells := 0, slots := 0, locals := 40 }
theorem ok_X5_wrong : okY yX5_wrong 4 := ⟨by decide +kernel, by decide +kernel, by decide +kernel⟩
set_option maxHeartbeats 4000000 in
set_option maxRecDepth 100000 in
theorem c_X5_wrong (l : Launch) (z0 : Nat) (D : va_G) (t : Nat → ClassId) (A : Nat → Nat) (μ : MS) (a1 : Int32) (a2 : Int32) (a3 : Int32) (a4 : Int32) (res : Int32) (h : f_X5_wrong μ a1 a2 a3 a4 = some res) : Met l yX5_wrong (ws_ yX5_wrong cX5_wrong 9 (some .int)) rm_X5_wrong (PR z0 D t [.ref (A 0), .int a1, .int a2, .int a3, .int a4] (MW A t μ)) (QR (some (.int res))) 0 0 FN := by
  refine Met.ofW (cc := cX5_wrong) (maxL := 9) (ret := (some .int)) (by decide) rfl ?_
  intro p e s m args below meth c s₁ Bo hml hv
  obtain ⟨rfl, hC, hP⟩ := hv
  have hx := Bo.exec
  have hb := Bo.bytes
  have hr := Bo.returns
  have hts : ∀ w ∈ LA, w.before _ s = true := fun w hw => atoms_spec (ws := ws_ yX5_wrong cX5_wrong 9 (some .int)) Bo.pre w (List.mem_cons_of_mem _ hw)
  have hown : s.vm.findClass RX5 = some m.cls := findClass_of_methodNamed Bo.named
  have hlocks := Bo.notSynchronized
  have hK := hC.1
  have hl := lv_entry ([.ref (A 0), .int a1, .int a2, .int a3, .int a4]) (n := 9) (Nat.le_of_ble_eq_true rfl)
  rw [lg_entry_eq]
  generalize (lg_sl ([.ref (A 0), .int a1, .int a2, .int a3, .int a4]) ++ List.replicate (9 - (lg_sl ([.ref (A 0), .int a1, .int a2, .int a3, .int a4])).length) Slot.unset).toArray = ls at hl ⊢
  have hl : lv_has ls 9 [(0, .ref (A 0)), (1, .int a1), (2, .int a2), (3, .int a3), (4, .int a4)] := hl
  unfold f_X5_wrong at h
  refine lv_iload_n hx hb dX5_wrong_0 rfl (lv_at hl 2 rfl) ?_
  refine lv_iconst (v := (0)) hx hb dX5_wrong_1 (by decide) ?_
  refine lv_aload_n hx hb dX5_wrong_2 rfl (lv_at hl 0 rfl) ?_
  refine va_get hx hb hts inX5 hown hK hP 0 rfl rfl 0 (by decide) (hts _ qw967) (fun _ h9 => h9) rfl dX5_wrong_3 ?_
  refine lv_iload_n hx hb dX5_wrong_6 rfl (lv_at hl 1 rfl) ?_
  obtain ⟨v1, ev1, h⟩ := obind h
  refine k_iald hx hb hK hP 1 rfl ev1 dX5_wrong_7 ?_
  refine lv_iconst (v := (2)) hx hb dX5_wrong_8 (by decide) ?_
  refine lv_isub hx hb dX5_wrong_9 ?_
  obtain ⟨r2, er2, h⟩ := obind h
  refine call_R (va_runS (As := [.int a2, .int (0 : Int32), .int (v1 - (2 : Int32))]) (rest := []) ⟨hx, hb, hml, hown, hts⟩ (c_X5_in l z0 D t a2 (0 : Int32) (v1 - (2 : Int32)) _ er2) (kS hts qw1008 qw1009 qw9 qw1010 ok_X5_in ⟨Nat.le_of_ble_eq_true rfl, Nat.le_of_ble_eq_true rfl⟩) ⟨PR.blind, fun U hU hW => ⟨rfl, by rw [hU]; exact hC.warm hW, by rw [hU]; exact va_P_nil⟩⟩ rfl rfl hl.1 rfl (lv_room (Nat.le_of_ble_eq_true rfl)) dX5_wrong_10 ⟨Nat.le_of_ble_eq_true rfl, Nat.le_of_ble_eq_true rfl⟩) ?_
  refine lv_if_eq (tgt := 34) hx hb dX5_wrong_13 (by decide) (fun hc => ?_) (fun hc => ?_)
  · have h := iteT hc h
    refine lv_iconst (v := (1)) hx hb dX5_wrong_34 (by decide) ?_
    obtain rfl := Option.some.inj h
    exact W.iret hx hb hr (fun t ht hW => ⟨rfl, ht⟩) (fun q hq => absurd hq List.not_mem_nil) dX5_wrong_35
  · have h := iteF hc h
    refine lv_iload_n hx hb dX5_wrong_16 rfl (lv_at hl 3 rfl) ?_
    refine lv_iconst (v := (0)) hx hb dX5_wrong_17 (by decide) ?_
    refine lv_aload_n hx hb dX5_wrong_18 rfl (lv_at hl 0 rfl) ?_
    refine va_get hx hb hts inX5 hown hK hP 0 rfl rfl 0 (by decide) (hts _ qw967) (fun _ h9 => h9) rfl dX5_wrong_19 ?_
    refine lv_iload_n hx hb dX5_wrong_22 rfl (lv_at hl 1 rfl) ?_
    refine lv_iconst (v := (1)) hx hb dX5_wrong_23 (by decide) ?_
    refine lv_iadd hx hb dX5_wrong_24 ?_
    obtain ⟨v3, ev3, h⟩ := obind h
    refine k_iald hx hb hK hP 1 rfl ev3 dX5_wrong_25 ?_
    refine lv_iconst (v := (2)) hx hb dX5_wrong_26 (by decide) ?_
    refine lv_isub hx hb dX5_wrong_27 ?_
    obtain ⟨r4, er4, h⟩ := obind h
    refine call_R (va_runS (As := [.int a3, .int (0 : Int32), .int (v3 - (2 : Int32))]) (rest := []) ⟨hx, hb, hml, hown, hts⟩ (c_X5_in l z0 D t a3 (0 : Int32) (v3 - (2 : Int32)) _ er4) (kS hts qw1008 qw1009 qw9 qw1010 ok_X5_in ⟨Nat.le_of_ble_eq_true rfl, Nat.le_of_ble_eq_true rfl⟩) ⟨PR.blind, fun U hU hW => ⟨rfl, by rw [hU]; exact hC.warm hW, by rw [hU]; exact va_P_nil⟩⟩ rfl rfl hl.1 rfl (lv_room (Nat.le_of_ble_eq_true rfl)) dX5_wrong_28 ⟨Nat.le_of_ble_eq_true rfl, Nat.le_of_ble_eq_true rfl⟩) ?_
    refine lv_if_ne (tgt := 36) hx hb dX5_wrong_31 (by decide) (fun hc => ?_) (fun hc => ?_)
    · have h := iteF hc h
      refine lv_iconst (v := (0)) hx hb dX5_wrong_36 (by decide) ?_
      refine lv_istore (lv' := [(5, .int (0 : Int32)), (0, .ref (A 0)), (1, .int a1), (2, .int a2), (3, .int a3), (4, .int a4)]) hx hb dX5_wrong_37 hl (by decide) rfl (fun ls hl => ?_)
      refine lv_iconst (v := (0)) hx hb dX5_wrong_39 (by decide) ?_
      refine lv_istore (lv' := [(6, .int (0 : Int32)), (5, .int (0 : Int32)), (0, .ref (A 0)), (1, .int a1), (2, .int a2), (3, .int a3), (4, .int a4)]) hx hb dX5_wrong_40 hl (by decide) rfl (fun ls hl => ?_)
      obtain ⟨o41, eo41, h⟩ := obind h
      have hL42 : ∀ (n : Nat) (y5_42 : Int32) (y6_42 : Int32) (o41 : Int32), f_X5_wrong_L42 a1 a2 a3 a4 μ n y5_42 y6_42 = some o41 → (∀ (ls : Array Slot), lv_has ls 9 [(5, .int o41)] → W p l e (headSpec (ws_ yX5_wrong cX5_wrong 9 (some .int)) rm_X5_wrong).room s m ([.ref (A 0), .int a1, .int a2, .int a3, .int a4] : List Value).toArray below meth c s.heap [] 0 0 (MQ below (QR (some (.int res))) ([.ref (A 0), .int a1, .int a2, .int a3, .int a4] : List Value).toArray s 0 0 FN) (F0 m 154 ls [])) → ∀ (ls : Array Slot), lv_has ls 9 [(0, .ref (A 0)), (1, .int a1), (2, .int a2), (3, .int a3), (4, .int a4), (5, .int y5_42), (6, .int y6_42)] → W p l e (headSpec (ws_ yX5_wrong cX5_wrong 9 (some .int)) rm_X5_wrong).room s m ([.ref (A 0), .int a1, .int a2, .int a3, .int a4] : List Value).toArray below meth c s.heap [] 0 0 (MQ below (QR (some (.int res))) ([.ref (A 0), .int a1, .int a2, .int a3, .int a4] : List Value).toArray s 0 0 FN) (F0 m 42 ls []) := by
        intro n
        induction n with
        | zero => intro y5_42 y6_42 o41 h; exact absurd h (fun z => by cases z)
        | succ n ih =>
          intro y5_42 y6_42 o41 h hK42 ls hl
          replace h : f_X5_wrong_L42_b a1 a2 a3 a4 μ (f_X5_wrong_L42 a1 a2 a3 a4 μ n) y5_42 y6_42 = some o41 := h
          unfold f_X5_wrong_L42_b at h
          refine lv_iload hx hb dX5_wrong_42 (lv_at hl 6 rfl) ?_
          refine lv_iconst (v := (4)) hx hb dX5_wrong_44 (by decide) ?_
          refine lv_icmp_ge (tgt := 154) hx hb dX5_wrong_45 (by decide) (fun hc => ?_) (fun hc => ?_)
          · have h := iteT hc h
            obtain rfl := Option.some.inj h
            exact hK42 ls (lv_sub hl [5] rfl)
          · have h := iteF hc h
            refine lv_iload hx hb dX5_wrong_48 (lv_at hl 6 rfl) ?_
            refine lv_iload hx hb dX5_wrong_50 (lv_at hl 4 rfl) ?_
            obtain ⟨o50, eo50, h⟩ := obind h
            have hJ148_o50 : ∀ ls : Array Slot, lv_has ls 9 [(0, .ref (A 0)), (1, .int a1), (2, .int a2), (3, .int a3), (4, .int a4), (5, .int o50), (6, .int y6_42)] → W p l e (headSpec (ws_ yX5_wrong cX5_wrong 9 (some .int)) rm_X5_wrong).room s m ([.ref (A 0), .int a1, .int a2, .int a3, .int a4] : List Value).toArray below meth c s.heap [] 0 0 (MQ below (QR (some (.int res))) ([.ref (A 0), .int a1, .int a2, .int a3, .int a4] : List Value).toArray s 0 0 FN) (F0 m 148 ls []) := by
              intro ls hl
              obtain ⟨x59, ex59, h⟩ := jlet_some h
              refine lv_iinc (v := x59) (lv' := [(6, .int x59), (0, .ref (A 0)), (1, .int a1), (2, .int a2), (3, .int a3), (4, .int a4), (5, .int o50)]) hx hb dX5_wrong_148 hl (k := 6) rfl (by rw [ex59]; rfl) (by decide) rfl (fun ls hl => ?_)
              refine lv_goto (tgt := 42) hx hb dX5_wrong_151 (by decide) ?_
              exact ih _ _ _ h hK42 ls (lv_sub hl [1, 2, 3, 4, 5, 6, 0] rfl)
            have h := eo50
            clear eo50
            refine lv_icmp_eq (tgt := 148) hx hb dX5_wrong_52 (by decide) (fun hc => ?_) (fun hc => ?_)
            · have h := iteT hc h
              obtain rfl := Option.some.inj h
              exact hJ148_o50 ls (lv_sub hl [0, 1, 2, 3, 4, 5, 6] rfl)
            · have h := iteF hc h
              refine lv_iload_n hx hb dX5_wrong_55 rfl (lv_at hl 2 rfl) ?_
              refine lv_iload_n hx hb dX5_wrong_56 rfl (lv_at hl 3 rfl) ?_
              refine lv_iload hx hb dX5_wrong_57 (lv_at hl 6 rfl) ?_
              obtain ⟨r51, er51, h⟩ := obind h
              refine call_R (va_runS (As := [.int a2, .int a3, .int y6_42]) (rest := []) ⟨hx, hb, hml, hown, hts⟩ (c_X5_ofBlock l z0 D t a2 a3 y6_42 _ er51) (kS hts qw1047 qw1048 qw9 qw1049 ok_X5_ofBlock ⟨Nat.le_of_ble_eq_true rfl, Nat.le_of_ble_eq_true rfl⟩) ⟨PR.blind, fun U hU hW => ⟨rfl, by rw [hU]; exact hC.warm hW, by rw [hU]; exact va_P_nil⟩⟩ rfl rfl hl.1 rfl (lv_room (Nat.le_of_ble_eq_true rfl)) dX5_wrong_59 ⟨Nat.le_of_ble_eq_true rfl, Nat.le_of_ble_eq_true rfl⟩) ?_
              refine lv_istore (lv' := [(7, .int r51), (0, .ref (A 0)), (1, .int a1), (2, .int a2), (3, .int a3), (4, .int a4), (5, .int y5_42), (6, .int y6_42)]) hx hb dX5_wrong_62 hl (by decide) rfl (fun ls hl => ?_)
              refine lv_iload hx hb dX5_wrong_64 (lv_at hl 0 rfl) ?_
              refine lv_aload_n hx hb dX5_wrong_66 rfl (lv_at hl 1 rfl) ?_
              refine va_get hx hb hts inX5 hown hK hP 0 rfl rfl 0 (by decide) (hts _ qw967) (fun _ h9 => h9) rfl dX5_wrong_67 ?_
              refine lv_iload_n hx hb dX5_wrong_70 rfl (lv_at hl 2 rfl) ?_
              refine lv_iconst (v := (2)) hx hb dX5_wrong_71 (by decide) ?_
              refine lv_iadd hx hb dX5_wrong_72 ?_
              obtain ⟨v52, ev52, h⟩ := obind h
              refine k_iald hx hb hK hP 1 rfl ev52 dX5_wrong_73 ?_
              obtain ⟨o55, eo55, h⟩ := obind h
              have hJ120_o55 : ∀ ls : Array Slot, lv_has ls 9 [(0, .ref (A 0)), (1, .int a1), (2, .int a2), (3, .int a3), (4, .int a4), (5, .int y5_42), (6, .int y6_42)] → W p l e (headSpec (ws_ yX5_wrong cX5_wrong 9 (some .int)) rm_X5_wrong).room s m ([.ref (A 0), .int a1, .int a2, .int a3, .int a4] : List Value).toArray below meth c s.heap [] 0 0 (MQ below (QR (some (.int res))) ([.ref (A 0), .int a1, .int a2, .int a3, .int a4] : List Value).toArray s 0 0 FN) (F0 m 120 ls [.int o55]) := by
                intro ls hl
                refine lv_istore (lv' := [(8, .int o55), (0, .ref (A 0)), (1, .int a1), (2, .int a2), (3, .int a3), (4, .int a4), (5, .int y5_42), (6, .int y6_42)]) hx hb dX5_wrong_120 hl (by decide) rfl (fun ls hl => ?_)
                refine lv_iload hx hb dX5_wrong_122 (lv_at hl 0 rfl) ?_
                obtain ⟨o58, eo58, h⟩ := obind h
                have hJ146_o58 : ∀ ls : Array Slot, lv_has ls 9 [(0, .ref (A 0)), (1, .int a1), (2, .int a2), (3, .int a3), (4, .int a4), (6, .int y6_42)] → W p l e (headSpec (ws_ yX5_wrong cX5_wrong 9 (some .int)) rm_X5_wrong).room s m ([.ref (A 0), .int a1, .int a2, .int a3, .int a4] : List Value).toArray below meth c s.heap [] 0 0 (MQ below (QR (some (.int res))) ([.ref (A 0), .int a1, .int a2, .int a3, .int a4] : List Value).toArray s 0 0 FN) (F0 m 146 ls [.int o58]) := by
                  intro ls hl
                  refine lv_istore (lv' := [(5, .int o58), (0, .ref (A 0)), (1, .int a1), (2, .int a2), (3, .int a3), (4, .int a4), (6, .int y6_42)]) hx hb dX5_wrong_146 hl (by decide) rfl (fun ls hl => ?_)
                  obtain rfl := Option.some.inj h
                  exact hJ148_o50 ls (lv_sub hl [1, 2, 3, 4, 5, 0, 6] rfl)
                have h := eo58
                clear eo58
                refine lv_if_le (tgt := 144) hx hb dX5_wrong_124 (by decide) (fun hc => ?_) (fun hc => ?_)
                · have h := iteT hc h
                  refine lv_iload hx hb dX5_wrong_144 (lv_at hl 6 rfl) ?_
                  obtain rfl := Option.some.inj h
                  exact hJ146_o58 ls (lv_sub hl [1, 2, 3, 4, 5, 7] rfl)
                · have h := iteF hc h
                  refine lv_iload hx hb dX5_wrong_127 (lv_at hl 6 rfl) ?_
                  refine lv_if_eq (tgt := 139) hx hb dX5_wrong_129 (by decide) (fun hc => ?_) (fun hc => ?_)
                  · have h := iteT hc h
                    refine lv_iload hx hb dX5_wrong_139 (lv_at hl 0 rfl) ?_
                    refine lv_goto (tgt := 146) hx hb dX5_wrong_141 (by decide) ?_
                    obtain rfl := Option.some.inj h
                    exact hJ146_o58 ls (lv_sub hl [1, 2, 3, 4, 5, 7] rfl)
                  · have h := iteF hc h
                    refine lv_iload hx hb dX5_wrong_132 (lv_at hl 0 rfl) ?_
                    refine lv_iload hx hb dX5_wrong_134 (lv_at hl 6 rfl) ?_
                    refine lv_icmp_ge (tgt := 144) hx hb dX5_wrong_136 (by decide) (fun hc => ?_) (fun hc => ?_)
                    · have h := iteT hc h
                      refine lv_iload hx hb dX5_wrong_144 (lv_at hl 6 rfl) ?_
                      obtain rfl := Option.some.inj h
                      exact hJ146_o58 ls (lv_sub hl [1, 2, 3, 4, 5, 7] rfl)
                    · have h := iteF hc h
                      refine lv_iload hx hb dX5_wrong_139 (lv_at hl 0 rfl) ?_
                      refine lv_goto (tgt := 146) hx hb dX5_wrong_141 (by decide) ?_
                      obtain rfl := Option.some.inj h
                      exact hJ146_o58 ls (lv_sub hl [1, 2, 3, 4, 5, 7] rfl)
              have h := eo55
              clear eo55
              refine lv_icmp_ne (tgt := 81) hx hb dX5_wrong_74 (by decide) (fun hc => ?_) (fun hc => ?_)
              · have h := iteF hc h
                refine lv_aload_n hx hb dX5_wrong_81 rfl (lv_at hl 1 rfl) ?_
                refine va_get hx hb hts inX5 hown hK hP 0 rfl rfl 0 (by decide) (hts _ qw967) (fun _ h9 => h9) rfl dX5_wrong_82 ?_
                refine lv_iload_n hx hb dX5_wrong_85 rfl (lv_at hl 2 rfl) ?_
                refine lv_iconst (v := (3)) hx hb dX5_wrong_86 (by decide) ?_
                refine lv_iadd hx hb dX5_wrong_87 ?_
                refine lv_iload hx hb dX5_wrong_88 (lv_at hl 0 rfl) ?_
                refine lv_iadd hx hb dX5_wrong_90 ?_
                obtain ⟨v56, ev56, h⟩ := obind h
                refine k_iald hx hb hK hP 1 rfl ev56 dX5_wrong_91 ?_
                refine lv_iconst (v := (1)) hx hb dX5_wrong_92 (by decide) ?_
                refine lv_icmp_ne (tgt := 100) hx hb dX5_wrong_93 (by decide) (fun hc => ?_) (fun hc => ?_)
                · have h := iteF hc h
                  refine lv_aload_n hx hb dX5_wrong_100 rfl (lv_at hl 1 rfl) ?_
                  refine va_get hx hb hts inX5 hown hK hP 0 rfl rfl 0 (by decide) (hts _ qw967) (fun _ h9 => h9) rfl dX5_wrong_101 ?_
                  refine lv_iload_n hx hb dX5_wrong_104 rfl (lv_at hl 2 rfl) ?_
                  refine lv_bipush (v := (67)) hx hb dX5_wrong_105 (by decide) ?_
                  refine lv_iadd hx hb dX5_wrong_107 ?_
                  refine lv_iload hx hb dX5_wrong_108 (lv_at hl 0 rfl) ?_
                  refine lv_iadd hx hb dX5_wrong_110 ?_
                  obtain ⟨v57, ev57, h⟩ := obind h
                  refine k_iald hx hb hK hP 1 rfl ev57 dX5_wrong_111 ?_
                  refine lv_if_lt (tgt := 119) hx hb dX5_wrong_112 (by decide) (fun hc => ?_) (fun hc => ?_)
                  · have h := iteT hc h
                    refine lv_iconst (v := (0)) hx hb dX5_wrong_119 (by decide) ?_
                    obtain rfl := Option.some.inj h
                    exact hJ120_o55 ls (lv_sub hl [1, 2, 3, 4, 5, 6, 7] rfl)
                  · have h := iteF hc h
                    refine lv_iconst (v := (4)) hx hb dX5_wrong_115 (by decide) ?_
                    refine lv_goto (tgt := 120) hx hb dX5_wrong_116 (by decide) ?_
                    obtain rfl := Option.some.inj h
                    exact hJ120_o55 ls (lv_sub hl [1, 2, 3, 4, 5, 6, 7] rfl)
                · have h := iteT hc h
                  refine lv_iconst (v := (3)) hx hb dX5_wrong_96 (by decide) ?_
                  refine lv_goto (tgt := 120) hx hb dX5_wrong_97 (by decide) ?_
                  obtain rfl := Option.some.inj h
                  exact hJ120_o55 ls (lv_sub hl [1, 2, 3, 4, 5, 6, 7] rfl)
              · have h := iteT hc h
                refine lv_iconst (v := (2)) hx hb dX5_wrong_77 (by decide) ?_
                refine lv_goto (tgt := 120) hx hb dX5_wrong_78 (by decide) ?_
                obtain rfl := Option.some.inj h
                exact hJ120_o55 ls (lv_sub hl [1, 2, 3, 4, 5, 6, 7] rfl)
      refine hL42 _ _ _ _ eo41 (fun ls hl => ?_) ls (lv_sub hl [2, 3, 4, 5, 6, 1, 0] rfl)
      refine lv_iload hx hb dX5_wrong_154 (lv_at hl 0 rfl) ?_
      obtain rfl := Option.some.inj h
      exact W.iret hx hb hr (fun t ht hW => ⟨rfl, ht⟩) (fun q hq => absurd hq List.not_mem_nil) dX5_wrong_156
    · have h := iteT hc h
      refine lv_iconst (v := (1)) hx hb dX5_wrong_34 (by decide) ?_
      obtain rfl := Option.some.inj h
      exact W.iret hx hb hr (fun t ht hW => ⟨rfl, ht⟩) (fun q hq => absurd hq List.not_mem_nil) dX5_wrong_35

abbrev rm_X5_lays : Room := { frames := 1, cells := 0, slots := 0, locals := 40 }
theorem ok_X5_lays : okY yX5_lays 4 := ⟨by decide +kernel, by decide +kernel, by decide +kernel⟩
set_option maxHeartbeats 4000000 in
set_option maxRecDepth 100000 in
theorem c_X5_lays (l : Launch) (z0 : Nat) (D : va_G) (t : Nat → ClassId) (A : Nat → Nat) (μ : MS) (a1 : Int32) (a2 : Int32) (a3 : Int32) (a4 : Int32) (res : (Nat → Int32)) (sz : Nat) (h : f_X5_lays μ a1 a2 a3 a4 = some res) : Met l yX5_lays (ws_ yX5_lays cX5_lays 7 none) rm_X5_lays (PM z0 D t [.ref (A 0), .int a1, .int a2, .int a3, .int a4] (MW A t μ) (ML A) sz) (QM none D (MW A t (m_s' μ res)) (ML A) sz) 0 0 (OA (ML A) sz) := by
  refine Met.ofW (cc := cX5_lays) (maxL := 7) (ret := none) (by decide) rfl ?_
  intro p e s m args below meth c s₁ Bo hml hv
  obtain ⟨rfl, hC, hsz, hP, hD, hZ⟩ := hv
  have hx := Bo.exec
  have hb := Bo.bytes
  have hr := Bo.returns
  have hts : ∀ w ∈ LA, w.before _ s = true := fun w hw => atoms_spec (ws := ws_ yX5_lays cX5_lays 7 none) Bo.pre w (List.mem_cons_of_mem _ hw)
  have hown : s.vm.findClass RX5 = some m.cls := findClass_of_methodNamed Bo.named
  have hlocks := Bo.notSynchronized
  have hK := hC.1
  subst hsz
  have hl := lv_entry ([.ref (A 0), .int a1, .int a2, .int a3, .int a4]) (n := 7) (Nat.le_of_ble_eq_true rfl)
  rw [lg_entry_eq]
  generalize (lg_sl ([.ref (A 0), .int a1, .int a2, .int a3, .int a4]) ++ List.replicate (7 - (lg_sl ([.ref (A 0), .int a1, .int a2, .int a3, .int a4])).length) Slot.unset).toArray = ls at hl ⊢
  have hl : lv_has ls 7 [(0, .ref (A 0)), (1, .int a1), (2, .int a2), (3, .int a3), (4, .int a4)] := hl
  suffices K9 : ∀ (H : Heap) (locs : List Loc), va_P D vwCl (MW A t μ) H → va_S (OA (ML A) s.heap.size) s.heap H locs → W p l e (headSpec (ws_ yX5_lays cX5_lays 7 none) rm_X5_lays).room s m ([.ref (A 0), .int a1, .int a2, .int a3, .int a4] : List Value).toArray below meth c H locs 0 0 (MQ below (QM none D (MW A t (m_s' μ res)) (ML A) s.heap.size) ([.ref (A 0), .int a1, .int a2, .int a3, .int a4] : List Value).toArray s 0 0 (OA (ML A) s.heap.size)) (F0 m 0 ls []) from K9 s.heap [] hP va_S.rf
  intro H locs hP hS
  have hSz : s.heap.size ≤ H.size := hS.1
  unfold f_X5_lays at h
  refine lv_aload_n hx hb dX5_lays_0 rfl (lv_at hl 0 rfl) ?_
  refine va_get hx hb hts inX5 hown hK hP 0 rfl rfl 0 (by decide) (hts _ qw967) (fun _ h9 => h9) rfl dX5_lays_1 ?_
  refine lv_iload_n hx hb dX5_lays_4 rfl (lv_at hl 1 rfl) ?_
  refine lv_sipush (v := (131)) hx hb dX5_lays_5 (by decide) ?_
  refine lv_iadd hx hb dX5_lays_8 ?_
  obtain ⟨v1, ev1, h⟩ := obind h
  refine k_iald hx hb hK hP 1 rfl ev1 dX5_lays_9 ?_
  refine lv_istore (lv' := [(5, .int v1), (0, .ref (A 0)), (1, .int a1), (2, .int a2), (3, .int a3), (4, .int a4)]) hx hb dX5_lays_10 hl (by decide) rfl (fun ls hl => ?_)
  refine lv_aload_n hx hb dX5_lays_12 rfl (lv_at hl 1 rfl) ?_
  refine va_get hx hb hts inX5 hown hK hP 0 rfl rfl 0 (by decide) (hts _ qw967) (fun _ h9 => h9) rfl dX5_lays_13 ?_
  refine lv_iload_n hx hb dX5_lays_16 rfl (lv_at hl 2 rfl) ?_
  refine lv_sipush (v := (132)) hx hb dX5_lays_17 (by decide) ?_
  refine lv_iadd hx hb dX5_lays_20 ?_
  refine lv_iconst (v := (3)) hx hb dX5_lays_21 (by decide) ?_
  refine lv_iload hx hb dX5_lays_22 (lv_at hl 0 rfl) ?_
  refine lv_imul hx hb dX5_lays_24 ?_
  refine lv_iadd hx hb dX5_lays_25 ?_
  refine lv_iload_n hx hb dX5_lays_26 rfl (lv_at hl 3 rfl) ?_
  obtain ⟨f2, ef2, h⟩ := obind h
  refine k_iast (ws' := (MW A t (m_s' μ f2))) hx hb hK hP hD hS 1 rfl ef2 rfl dX5_lays_27 (fun H locs hP hD hS => ?_)
  have hSz : s.heap.size ≤ H.size := hS.1
  refine lv_aload_n hx hb dX5_lays_28 rfl (lv_at hl 1 rfl) ?_
  refine va_get hx hb hts inX5 hown hK hP 0 rfl rfl 0 (by decide) (hts _ qw967) (fun _ h9 => h9) rfl dX5_lays_29 ?_
  refine lv_iload_n hx hb dX5_lays_32 rfl (lv_at hl 2 rfl) ?_
  refine lv_sipush (v := (132)) hx hb dX5_lays_33 (by decide) ?_
  refine lv_iadd hx hb dX5_lays_36 ?_
  refine lv_iconst (v := (3)) hx hb dX5_lays_37 (by decide) ?_
  refine lv_iload hx hb dX5_lays_38 (lv_at hl 0 rfl) ?_
  refine lv_imul hx hb dX5_lays_40 ?_
  refine lv_iadd hx hb dX5_lays_41 ?_
  refine lv_iconst (v := (1)) hx hb dX5_lays_42 (by decide) ?_
  refine lv_iadd hx hb dX5_lays_43 ?_
  refine lv_iload_n hx hb dX5_lays_44 rfl (lv_at hl 4 rfl) ?_
  obtain ⟨f3, ef3, h⟩ := obind h
  refine k_iast (ws' := (MW A t (m_s' μ f3))) hx hb hK hP hD hS 1 rfl ef3 rfl dX5_lays_45 (fun H locs hP hD hS => ?_)
  have hSz : s.heap.size ≤ H.size := hS.1
  refine lv_aload_n hx hb dX5_lays_46 rfl (lv_at hl 1 rfl) ?_
  refine va_get hx hb hts inX5 hown hK hP 0 rfl rfl 0 (by decide) (hts _ qw967) (fun _ h9 => h9) rfl dX5_lays_47 ?_
  refine lv_iload_n hx hb dX5_lays_50 rfl (lv_at hl 2 rfl) ?_
  refine lv_sipush (v := (132)) hx hb dX5_lays_51 (by decide) ?_
  refine lv_iadd hx hb dX5_lays_54 ?_
  refine lv_iconst (v := (3)) hx hb dX5_lays_55 (by decide) ?_
  refine lv_iload hx hb dX5_lays_56 (lv_at hl 0 rfl) ?_
  refine lv_imul hx hb dX5_lays_58 ?_
  refine lv_iadd hx hb dX5_lays_59 ?_
  refine lv_iconst (v := (2)) hx hb dX5_lays_60 (by decide) ?_
  refine lv_iadd hx hb dX5_lays_61 ?_
  refine lv_iload hx hb dX5_lays_62 (lv_at hl 5 rfl) ?_
  obtain ⟨f4, ef4, h⟩ := obind h
  refine k_iast (ws' := (MW A t (m_s' μ f4))) hx hb hK hP hD hS 1 rfl ef4 rfl dX5_lays_64 (fun H locs hP hD hS => ?_)
  have hSz : s.heap.size ≤ H.size := hS.1
  refine lv_iconst (v := (0)) hx hb dX5_lays_65 (by decide) ?_
  refine lv_istore (lv' := [(6, .int (0 : Int32)), (5, .int v1), (0, .ref (A 0)), (1, .int a1), (2, .int a2), (3, .int a3), (4, .int a4)]) hx hb dX5_lays_66 hl (by decide) rfl (fun ls hl => ?_)
  obtain ⟨o17, eo17, h⟩ := obind h
  have hL68 : ∀ (n : Nat) (y6_68 : Int32) (s_68 : Nat → Int32) (o17 : (Nat → Int32)), f_X5_lays_L68 a1 a2 a3 a4 v1 n y6_68 s_68 = some o17 → (∀ (ls : Array Slot) (H : Heap) (locs : List Loc), lv_has ls 7 [(0, .ref (A 0)), (1, .int a1)] → va_P D vwCl (MW A t (m_s' μ o17)) H → va_D (OA (ML A) s.heap.size) (MW A t (m_s' μ o17)) → va_S (OA (ML A) s.heap.size) s.heap H locs → W p l e (headSpec (ws_ yX5_lays cX5_lays 7 none) rm_X5_lays).room s m ([.ref (A 0), .int a1, .int a2, .int a3, .int a4] : List Value).toArray below meth c H locs 0 0 (MQ below (QM none D (MW A t (m_s' μ res)) (ML A) s.heap.size) ([.ref (A 0), .int a1, .int a2, .int a3, .int a4] : List Value).toArray s 0 0 (OA (ML A) s.heap.size)) (F0 m 106 ls [])) → ∀ (ls : Array Slot) (H : Heap) (locs : List Loc), lv_has ls 7 [(0, .ref (A 0)), (1, .int a1), (2, .int a2), (3, .int a3), (4, .int a4), (5, .int v1), (6, .int y6_68)] → va_P D vwCl (MW A t (m_s' μ s_68)) H → va_D (OA (ML A) s.heap.size) (MW A t (m_s' μ s_68)) → va_S (OA (ML A) s.heap.size) s.heap H locs → W p l e (headSpec (ws_ yX5_lays cX5_lays 7 none) rm_X5_lays).room s m ([.ref (A 0), .int a1, .int a2, .int a3, .int a4] : List Value).toArray below meth c H locs 0 0 (MQ below (QM none D (MW A t (m_s' μ res)) (ML A) s.heap.size) ([.ref (A 0), .int a1, .int a2, .int a3, .int a4] : List Value).toArray s 0 0 (OA (ML A) s.heap.size)) (F0 m 68 ls []) := by
    intro n
    induction n with
    | zero => intro y6_68 s_68 o17 h; exact absurd h (fun z => by cases z)
    | succ n ih =>
      intro y6_68 s_68 o17 h hK68 ls H locs hl hP hD hS
      replace h : f_X5_lays_L68_b a1 a2 a3 a4 v1 (f_X5_lays_L68 a1 a2 a3 a4 v1 n) y6_68 s_68 = some o17 := h
      unfold f_X5_lays_L68_b at h
      have hSz : s.heap.size ≤ H.size := hS.1
      refine lv_iload hx hb dX5_lays_68 (lv_at hl 6 rfl) ?_
      refine lv_iconst (v := (4)) hx hb dX5_lays_70 (by decide) ?_
      refine lv_icmp_ge (tgt := 106) hx hb dX5_lays_71 (by decide) (fun hc => ?_) (fun hc => ?_)
      · have h := iteT hc h
        obtain rfl := Option.some.inj h
        exact hK68 ls H locs (lv_sub hl [0, 1] rfl) hP hD hS
      · have h := iteF hc h
        refine lv_iload hx hb dX5_lays_74 (lv_at hl 6 rfl) ?_
        refine lv_iload hx hb dX5_lays_76 (lv_at hl 4 rfl) ?_
        obtain ⟨o20, eo20, h⟩ := obind h
        have hJ100_o20 : ∀ (ls : Array Slot) (H : Heap) (locs : List Loc), lv_has ls 7 [(0, .ref (A 0)), (1, .int a1), (2, .int a2), (3, .int a3), (4, .int a4), (5, .int v1), (6, .int y6_68)] → va_P D vwCl (MW A t (m_s' μ o20)) H → va_D (OA (ML A) s.heap.size) (MW A t (m_s' μ o20)) → va_S (OA (ML A) s.heap.size) s.heap H locs → W p l e (headSpec (ws_ yX5_lays cX5_lays 7 none) rm_X5_lays).room s m ([.ref (A 0), .int a1, .int a2, .int a3, .int a4] : List Value).toArray below meth c H locs 0 0 (MQ below (QM none D (MW A t (m_s' μ res)) (ML A) s.heap.size) ([.ref (A 0), .int a1, .int a2, .int a3, .int a4] : List Value).toArray s 0 0 (OA (ML A) s.heap.size)) (F0 m 100 ls []) := by
          intro ls H locs hl hP hD hS
          have hSz : s.heap.size ≤ H.size := hS.1
          obtain ⟨x23, ex23, h⟩ := jlet_some h
          refine lv_iinc (v := x23) (lv' := [(6, .int x23), (0, .ref (A 0)), (1, .int a1), (2, .int a2), (3, .int a3), (4, .int a4), (5, .int v1)]) hx hb dX5_lays_100 hl (k := 6) rfl (by rw [ex23]; rfl) (by decide) rfl (fun ls hl => ?_)
          refine lv_goto (tgt := 68) hx hb dX5_lays_103 (by decide) ?_
          exact ih _ _ _ h hK68 ls H locs (lv_sub hl [1, 2, 3, 4, 5, 6, 0] rfl) hP hD hS
        have h := eo20
        clear eo20
        refine lv_icmp_eq (tgt := 100) hx hb dX5_lays_78 (by decide) (fun hc => ?_) (fun hc => ?_)
        · have h := iteT hc h
          obtain rfl := Option.some.inj h
          exact hJ100_o20 ls H locs (lv_sub hl [0, 1, 2, 3, 4, 5, 6] rfl) hP hD hS
        · have h := iteF hc h
          refine lv_aload_n hx hb dX5_lays_81 rfl (lv_at hl 0 rfl) ?_
          refine va_get hx hb hts inX5 hown hK hP 0 rfl rfl 0 (by decide) (hts _ qw967) (fun _ h9 => h9) rfl dX5_lays_82 ?_
          refine lv_iload_n hx hb dX5_lays_85 rfl (lv_at hl 1 rfl) ?_
          refine lv_bipush (v := (67)) hx hb dX5_lays_86 (by decide) ?_
          refine lv_iadd hx hb dX5_lays_88 ?_
          refine lv_iload_n hx hb dX5_lays_89 rfl (lv_at hl 2 rfl) ?_
          refine lv_iload_n hx hb dX5_lays_90 rfl (lv_at hl 3 rfl) ?_
          refine lv_iload hx hb dX5_lays_91 (lv_at hl 6 rfl) ?_
          obtain ⟨r21, er21, h⟩ := obind h
          refine call_R (va_runS (As := [.int a2, .int a3, .int y6_68]) (rest := [.int (a1 + (67 : Int32)), .ref (A 1)]) ⟨hx, hb, hml, hown, hts⟩ (c_X5_ofBlock l z0 D t a2 a3 y6_68 _ er21) (kS hts qw1047 qw1048 qw9 qw1049 ok_X5_ofBlock ⟨Nat.le_of_ble_eq_true rfl, Nat.le_of_ble_eq_true rfl⟩) ⟨PR.blind, fun U hU hW => ⟨rfl, by rw [hU]; exact (hC.at hS hZ).warm hW, by rw [hU]; exact va_P_nil⟩⟩ rfl rfl hl.1 rfl (lv_room (Nat.le_of_ble_eq_true rfl)) dX5_lays_93 ⟨Nat.le_of_ble_eq_true rfl, Nat.le_of_ble_eq_true rfl⟩) ?_
          refine lv_iadd hx hb dX5_lays_96 ?_
          refine lv_iload hx hb dX5_lays_97 (lv_at hl 5 rfl) ?_
          obtain ⟨f22, ef22, h⟩ := obind h
          refine k_iast (ws' := (MW A t (m_s' μ f22))) hx hb hK hP hD hS 1 rfl ef22 rfl dX5_lays_99 (fun H locs hP hD hS => ?_)
          have hSz : s.heap.size ≤ H.size := hS.1
          obtain rfl := Option.some.inj h
          exact hJ100_o20 ls H locs (lv_sub hl [0, 1, 2, 3, 4, 5, 6] rfl) hP hD hS
  refine hL68 _ _ _ _ eo17 (fun ls H locs hl hP hD hS => ?_) ls H locs (lv_sub hl [2, 3, 4, 5, 6, 1, 0] rfl) hP hD hS
  have hSz : s.heap.size ≤ H.size := hS.1
  refine lv_aload_n hx hb dX5_lays_106 rfl (lv_at hl 0 rfl) ?_
  refine va_get hx hb hts inX5 hown hK hP 0 rfl rfl 0 (by decide) (hts _ qw967) (fun _ h9 => h9) rfl dX5_lays_107 ?_
  refine lv_iload_n hx hb dX5_lays_110 rfl (lv_at hl 1 rfl) ?_
  refine lv_sipush (v := (131)) hx hb dX5_lays_111 (by decide) ?_
  refine lv_iadd hx hb dX5_lays_114 ?_
  refine lv_dup2_11 hx hb dX5_lays_115 rfl rfl ?_
  obtain ⟨v24, ev24, h⟩ := obind h
  refine k_iald hx hb hK hP 1 rfl ev24 dX5_lays_116 ?_
  refine lv_iconst (v := (1)) hx hb dX5_lays_117 (by decide) ?_
  refine lv_iadd hx hb dX5_lays_118 ?_
  obtain ⟨f25, ef25, h⟩ := obind h
  refine k_iast (ws' := (MW A t (m_s' μ f25))) hx hb hK hP hD hS 1 rfl ef25 rfl dX5_lays_119 (fun H locs hP hD hS => ?_)
  have hSz : s.heap.size ≤ H.size := hS.1
  obtain rfl := Option.some.inj h
  exact W.vret hx hb hr (fun t ht hW => ⟨rfl, by rw [ht]; exact hP, hD, hS.F ht⟩) hS.2.2 dX5_lays_120
