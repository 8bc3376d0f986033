/-! ===== load, in the class and in the reference; its helper ===== -/
set_option maxHeartbeats 4000000
theorem op_load (l : Launch) (hl9 : l.stackTraces = false) (z0 : Nat) (D : va_G) (t : Nat → ClassId) (x0 : Nat) {m : MS} {w : va_W} (hw : XR t x0 m w)  : ∃ (v v' : Int32) (th : Nat) (m' : MS), m_thrown m' = nI th ∧ th ≤ 1 ∧ (th = 0 → v' = v) ∧ OPM l yX5_load cX5_load 4 (some .int) rm_X5_load z0 D t [] m m' (.int v') ∧ OPX l yX4_load cX4_load 2 rm_X4_load rx_X4_load z0 D t x0 [] w v th IAE "" 4 45 2 11 (XR t x0 m') := by
  obtain ⟨μ, L, S0, S1, ⟨h, hls⟩, s0, s1, e0, E, A, B, G, T, rfl, hR⟩ := hw
  have hn := h.2.2.2.1
  rcases pr_load h with ⟨res, r, e1, e2, e3, e4, e5⟩ | ⟨r, e1, e2, e4, e5⟩
  · refine ⟨res.1, r.1, 0, pML m r, e4, by decide, fun _ => e3, fun A sz => c_X5_load l z0 D t A m r sz e2, Or.inl ⟨rfl, fun sz => um_S (c_X4_load l z0 D t x0 s0 s1 e0 E A B G T μ res sz L S0 S1 hR hn e1) XW_map (fun e T' hT => ⟨x_length' (xGarden μ res) (nI 0), svL L (gsX μ), S0, S1, ⟨e5, hls⟩, s0, s1, e, E, A, B, G, T', rfl, by rw [show x_sl (x_length' (xGarden μ res) (nI 0)) = x_sl μ from (gX_Garden μ res).2.1]; exact hT⟩)⟩⟩
  · refine ⟨0, r.1, 1, pML m r, e4, by decide, fun z => absurd z (by decide), fun A sz => c_X5_load l z0 D t A m r sz e2, Or.inr (Or.inl ⟨rfl, fun sz => ux_M (x_X4_load l hl9 z0 D t x0 s0 s1 e0 E A B G T μ IAE sz L S0 S1 hR hn e1) XW_map ⟨μ, L, S0, S1, ⟨e5, hls⟩, s0, s1, e0, E, A, B, G, T, rfl, hR⟩⟩)⟩
abbrev rh_load : Room := { frames := 11, cells := 5, slots := 70, locals := 362 }
theorem okL_load : okY yL_load 2 := ⟨by decide +kernel, by decide +kernel, by decide +kernel⟩
set_option maxHeartbeats 4000000 in
theorem h_load (l : Launch) (z0 : Nat) (D : va_G) (t : Nat → ClassId) (x0 o : Nat) (f : Nat → Int64) {w : va_W} {R' : va_W → Prop} {v : Int32} {th : Nat} (h0 : ∃ fs, w[0]? = some (x0, .inr (5, fs))) (hth : th ≤ 1) (hop : OPX l yX4_load cX4_load 2 rm_X4_load rx_X4_load z0 D t x0 [] w v th IAE "" 4 45 2 11 R') (sz : Nat) : Met l yL_load (wh_ yL_load cL_load 3 (some .int) [(0, 8, 11, 13)]) rh_load (PMH z0 D t [.ref x0, .ref o] (OUT t o f :: w) (o :: w.map Prod.fst) sz) (QB (fun _ : (Nat → Int64) × va_W => some (.int (nI th))) D (fun b => OUT t o b.1 :: b.2) (fun b => (th = 0 → b.1 0 = v.toInt64) ∧ R' b.2) (o :: w.map Prod.fst) sz) 5 70 (OA (o :: w.map Prod.fst) sz) := by
  refine met_ofWH (cc := cL_load) (maxL := 3) (ret := (some .int)) (hh := [(0, 8, 11, 13)]) (by decide) rfl ?_
  intro p e s m args below meth c s₁ Bo hml hxt hv
  obtain ⟨rfl, ⟨hC, hN⟩, hsz, hP, hD, hZ⟩ := hv
  have hx := Bo.exec
  have hb := Bo.bytes
  have hr := Bo.returns
  have hts : ∀ w ∈ LA, w.before _ s = true := fun w hw => atoms_spec (ws := (wh_ yL_load cL_load 3 (some .int) [(0, 8, 11, 13)])) Bo.pre w (List.mem_cons_of_mem _ hw)
  have hown : s.vm.findClass RL = some m.cls := findClass_of_methodNamed Bo.named
  have hlocks := Bo.notSynchronized
  have hK := hC.1
  subst hsz
  obtain ⟨fs, h0⟩ := h0
  have hPw := (pd_sub (List.sublist_cons_self _ _) hP hD).1
  have hDw : va_D (OA (w.map Prod.fst) s.heap.size) w := ⟨(pd_sub (List.sublist_cons_self _ _) hP hD).2.1, fun _ _ h9 => Or.inl (in_map rfl h9)⟩
  have hsub : ∀ q, OA (w.map Prod.fst) s.heap.size q → OA (o :: w.map Prod.fst) s.heap.size q := OA.mono (fun a h => List.mem_cons_of_mem _ h) (Nat.le_refl _)
  have hZw : ∀ q, OA (w.map Prod.fst) s.heap.size q → z0 ≤ q := fun q hq => hZ q (hsub q hq)
  have hS : va_S (OA (o :: w.map Prod.fst) s.heap.size) s.heap s.heap [] := va_S.rf
  have hl := lv_entry ([.ref x0, .ref o]) (n := 3) (Nat.le_of_ble_eq_true rfl)
  rw [lg_entry_eq]
  generalize (lg_sl ([.ref x0, .ref o]) ++ List.replicate (3 - (lg_sl ([.ref x0, .ref o])).length) Slot.unset).toArray = ls at hl ⊢
  have hl : lv_has ls 3 [(0, .ref x0), (1, .ref o)] := hl
  refine lv_aload_n hx hb dL_load_0 rfl (lv_at hl 1 rfl) ?_
  refine lv_iconst (v := nI 0) hx hb dL_load_1 (by decide) ?_
  refine lv_aload_n hx hb dL_load_2 rfl (lv_at hl 0 rfl) ?_
  rcases hop with ⟨rfl, hu⟩ | ⟨rfl, hu⟩ | ⟨rfl, hu⟩
  · refine call_Q (va_runV (As := []) (rest := [.int (nI 0), .ref o]) ⟨hx, hb, hml, hown, hts⟩ (hu s.heap.size) (kV hts qw881 qw882 qw883 qw1 qw884 ok_X4_load ⟨Nat.le_of_ble_eq_true rfl, Nat.le_of_ble_eq_true rfl⟩) ⟨PM.blind, va_recv hK hPw (ci := 5) (q0 := 0) rfl h0, fun U hU hW => ⟨rfl, by rw [hU]; exact hC.warm hW, by rw [hU], by rw [hU]; exact hPw, hDw, hZw⟩⟩ rfl rfl hl.1 rfl (lv_room (Nat.le_of_ble_eq_true rfl)) dL_load_3 ⟨Nat.le_of_ble_eq_true rfl, Nat.le_of_ble_eq_true rfl⟩) hS hsub (fun w1 H1 locs1 hR1 hP1 hD1 hS hsz1 hk1 => ?_)
    obtain ⟨hP, hD⟩ := frm (wr := [OUT t o f]) rfl hP hD hsub hk1 hP1 hD1
    refine W.widen (k := 5) (n := 70) (by decide) (by decide) ?_
    refine lv_i2l hx hb dL_load_6 rfl ?_
    refine va_last (ws := OUT t o f :: w1) hx hb hK hP hD hS 0 6 rfl rfl vin01 dL_load_7 (fun H2 locs2 hP hD hS => ?_)
    refine lv_goto (tgt := 14) hx hb dL_load_8 (by decide) ?_
    refine lv_iconst (v := nI 0) hx hb dL_load_14 (by decide) ?_
    exact W.iret hx hb hr (fun t9 ht hW => ⟨(vp_updL f (nI 0).toNatClampNeg v.toInt64, w1), ⟨fun _ => rfl, hR1⟩, rfl, by rw [ht]; exact hP, hD, hS.F ht⟩) hS.2.2 dL_load_15
  · refine call_XB (vx_runV (As := []) (rest := [.int (nI 0), .ref o]) ⟨hx, hb, hml, hown, hts⟩ (hu s.heap.size) (kV hts qw881 qw882 qw883 qw1 qw884 ok_X4_load ⟨Nat.le_of_ble_eq_true rfl, Nat.le_of_ble_eq_true rfl⟩) ⟨PM.blind, va_recv hK hPw (ci := 5) (q0 := 0) rfl h0, fun U hU hW => ⟨rfl, by rw [hU]; exact hC.warm hW, by rw [hU], by rw [hU]; exact hPw, hDw, hZw⟩⟩ rfl rfl hl.1 rfl (lv_room (Nat.le_of_ble_eq_true rfl)) dL_load_3 ⟨Nat.le_of_ble_eq_true rfl, Nat.le_of_ble_eq_true rfl⟩) hS hsub (fun w1 H1 locs1 q9 ce hR1 hP1 hD1 hS hsz1 hk1 hce hcv hcl => ?_)
    obtain ⟨hP, hD⟩ := frm (wr := [OUT t o f]) rfl hP hD hsub hk1 hP1 hD1
    refine vx_catch (name := "java/lang/IllegalArgumentException") hown [] ⟨0, 8, 11, 13⟩ [] hxt (fun z hz => nomatch hz) (by decide) (by decide) (hts _ qw653) (va_Nw.use rfl (hC.2.1 _ qw473)) hce hcv hcl ?_
    refine lv_astore_n (lv' := (2, .ref q9) :: [(0, .ref x0), (1, .ref o)]) hx hb dL_load_11 rfl hl (by decide) rfl (fun ls hl => ?_)
    refine W.widen (k := 5) (n := 70) (by decide) (by decide) ?_
    refine lv_iconst (v := nI 1) hx hb dL_load_12 (by decide) ?_
    exact W.iret hx hb hr (fun t9 ht hW => ⟨(f, w1), ⟨fun z => absurd z (by decide), hR1⟩, rfl, by rw [ht]; exact hP, hD, hS.F ht⟩) hS.2.2 dL_load_13
  · omega
