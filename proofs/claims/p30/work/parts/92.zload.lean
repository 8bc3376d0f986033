/-! ===== load: it throws ===== -/
def f_X4_load (μ : XS) : Option ((Int32 × (Int32) × (Int32) × (Int32) × (Int64) × (Int64) × (Int32) × (Int32) × (Int32)) ⊕ (String)) :=
Option.bind (f_X0_readInto (x_length μ, x_codes μ, 8, 0, -1, 0, 0)) fun r1 => if r1.1 < x_length μ then some (.inr IAE) else Option.bind (f_X3_isWhole r1.2) fun r2 => if r2 = 0 then some (.inr IAE) else Option.bind (f_X4_saveState μ) fun r3 => Option.bind (f_X1_layOut (gsX μ) (rd_wide r1.2) (rd_row r1.2 + 1) (rd_pond r1.2) (rd_walls r1.2)) fun r4 => Option.bind (f_X1_freeCells (r4.1, r4.2.1, r4.2.2.1, r4.2.2.2.1, r4.2.2.2.2.1, r4.2.2.2.2.2, x_flips μ, x_refused μ, x_names μ)) fun r5 => Option.bind (f_J13_bitCount_95d88 r5) fun r6 => some (.inl (r6, r4.1, r4.2.1, r4.2.2.1, r4.2.2.2.1, r4.2.2.2.2.1, r4.2.2.2.2.2, r3.1, r3.2))
theorem pmLa {α : Type} {ws Y : List α} {x s a b r : α} (h : ws = x :: s :: a :: b :: Y) : (ws ++ [r]).Perm ((x :: s :: Y) ++ [a, b, r]) := by
  subst h
  haveI : DecidableEq α := fun a b => Classical.propDecidable (a = b)
  refine List.perm_iff_count.mpr fun z => ?_
  simp only [List.count_append, List.count_cons, List.count_nil]
  omega
abbrev rm_X4_load : Room := { frames := 10, cells := 4, slots := 45, locals := 341 }
abbrev rx_X4_load : Room := { frames := 10, cells := 2, slots := 11, locals := 341 }
theorem ok_X4_load : okY yX4_load 0 := ⟨by decide +kernel, by decide +kernel, by decide +kernel⟩
set_option maxHeartbeats 4000000 in
set_option maxRecDepth 100000 in
theorem x_X4_load (l : Launch) (hl9 : l.stackTraces = false) (z0 : Nat) (D : va_G) (t : Nat → ClassId) (x0 s0 s1 e0 : Nat) (E A : Nat → Nat) (B G : Nat → Nat) (T : va_W) (μ : XS) (xE : String) (sz : Nat) (L : List GS) (S0 S1 : Option GS) (hRep : Rep t e0 T L (x_sl μ) S0 S1) (hnL : x_lsize μ = nI L.length) (h : f_X4_load μ = some (.inr xE)) : vx_Met l yX4_load (ws_ yX4_load cX4_load 2 (some .int)) rx_X4_load (PM z0 D t [.ref x0] (XW x0 s0 s1 e0 E A B G T t μ) (XL x0 s0 s1 e0 E A B G T μ) sz) (fun _ _ _ _ => False) (XM xE D (XW x0 s0 s1 e0 E A B G T t μ) (XL x0 s0 s1 e0 E A B G T μ) sz) 2 11 (OA (XL x0 s0 s1 e0 E A B G T μ) sz) := by
  refine vx_ofW (cc := cX4_load) (maxL := 2) (ret := (some .int)) (by decide) rfl ?_
  intro p e s m args below meth c s₁ Bo hml hT hv
  obtain ⟨rfl, hC, hsz, hP, hD, hZ⟩ := hv
  have hx := Bo.exec
  have hb := Bo.bytes
  have hr := Bo.returns
  have hts : ∀ w ∈ LA, w.before _ s = true := fun w hw => atoms_spec (ws := ws_ yX4_load cX4_load 2 (some .int)) Bo.pre w (List.mem_cons_of_mem _ hw)
  have hown : s.vm.findClass RX4 = some m.cls := findClass_of_methodNamed Bo.named
  have hlocks := Bo.notSynchronized
  have hK := hC.1
  subst hsz
  obtain ⟨L0, hL0⟩ : ∃ L0, L0 = (XL x0 s0 s1 e0 E A B G T μ) := ⟨_, rfl⟩
  rw [← hL0] at hD hZ ⊢
  have hS : va_S (OA L0 s.heap.size) s.heap s.heap [] := va_S.rf
  have hl := lv_entry ([.ref x0]) (n := 2) (Nat.le_of_ble_eq_true rfl)
  rw [lg_entry_eq]
  generalize (lg_sl ([.ref x0]) ++ List.replicate (2 - (lg_sl ([.ref x0])).length) Slot.unset).toArray = ls at hl ⊢
  have hl : lv_has ls 2 [(0, .ref x0)] := hl
  unfold f_X4_load at h
  obtain ⟨r1, er1, h⟩ := obind h
  refine va_new (ci := 4) (fs := [.int (0 : Int32), .int (0 : Int32), .int (0 : Int32), .long (0 : Int64), .int (0 : Int32)]) hx hb hts inX3 tyX3 tyX3_ok hown (hts _ qw175) (hts _ qw176) (hts _ qw20) hK hP hD hS OA.new rfl (fun j hj => by rcases (show j = 0 ∨ j = 1 ∨ j = 2 ∨ j = 3 ∨ j = 4 by omega) with rfl | rfl | rfl | rfl | rfl <;> rfl) (Nat.le_of_ble_eq_true rfl) (Nat.le_of_ble_eq_true rfl) dX4_load_0 (fun q1 H hP hD hS => ?_)
  have hSz : s.heap.size ≤ H.size := hS.1
  refine W.widen (k := 1) (n := 5) (by omega) (by omega) ?_
  refine lv_dup hx hb dX4_load_3 rfl ?_
  have hq := pd_sub (List.sublist_append_right (XW x0 s0 s1 e0 E A B G T t μ) [(q1, .inr (4, [.int (0 : Int32), .int (0 : Int32), .int (0 : Int32), .long (0 : Int64), .int (0 : Int32)]))]) hP hD
  have hsr := OA.ofD (L' := [q1]) hq.2 rfl hSz
  refine call_E (va_runIN (As := []) (rest := [.ref q1]) ⟨hx, hb, hml, hown, hts⟩ (c_X3_init l z0 D t q1 H.size) ⟨kN hts (hC.2.1 _ qw177) qw20 qw179 ok_X3_init ⟨Nat.le_of_ble_eq_true rfl, Nat.le_of_ble_eq_true rfl⟩, rfl, hts _ qw178⟩ ⟨PM.blind, fun U hU hW => ⟨rfl, by rw [hU]; exact (hC.at hS hZ).warm hW, by rw [hU], by rw [hU]; exact hq.1, ⟨hq.2.1, fun _ _ h9 => Or.inl (in_map (L := [q1]) rfl h9)⟩, fun q hq => hZ q (hsr q hq)⟩⟩ rfl rfl hl.1 rfl (lv_room (Nat.le_of_ble_eq_true rfl)) dX4_load_4 ⟨Nat.le_of_ble_eq_true rfl, Nat.le_of_ble_eq_true rfl⟩) hS hsr (fun b9 H locs hP1 hD1 hS _ hk1 => ?_)
  obtain ⟨hP, hD⟩ := frm (L := [q1]) (wr := (XW x0 s0 s1 e0 E A B G T t μ)) (ws1 := [(q1, .inr (4, [.int (8 : Int32), .int (0 : Int32), .int (-1 : Int32), .long (0 : Int64), .int (0 : Int32)]))]) rfl hP hD hsr hk1 hP1 hD1
  have hSz : s.heap.size ≤ H.size := hS.1
  refine W.widen (k := 1) (n := 5) (by omega) (by omega) ?_
  refine lv_astore_n (lv' := [(1, .ref q1), (0, .ref x0)]) hx hb dX4_load_7 rfl hl (by decide) rfl (fun ls hl => ?_)
  refine lv_aload_n hx hb dX4_load_8 rfl (lv_at hl 1 rfl) ?_
  refine va_get hx hb hts inX4 hown hK hP 0 rfl rfl 2 (by decide) (hts _ qw157) (fun _ h9 => h9) rfl dX4_load_9 ?_
  refine lv_aload_n hx hb dX4_load_12 rfl (lv_at hl 0 rfl) ?_
  obtain ⟨Y, hY⟩ : ∃ Y, (XW x0 s0 s1 e0 E A B G T t μ) = (x0, .inr (5, [.ref s0, .ref s1, .ref (E 0), .ref (A 0), .ref (G 0)])) :: (s1, .inl (t 3, (2, .inr (.inr (.inr (.inr (x_sl μ))))))) :: (E 0, .inr (1, [.int (x_length μ), .ref (E 1)])) :: (E 1, .inl (t 0, (71, .inl (x_codes μ)))) :: Y := ⟨_, rfl⟩
  have hPD := pd_perm (pmLa hY) hP hD
  have hq := pd_sub (List.sublist_append_right _ _) hPD.1 hPD.2
  have hsr := OA.ofD (L' := BRL E q1) hq.2 rfl hSz
  refine call_M (va_runV (As := [.ref q1]) (rest := []) ⟨hx, hb, hml, hown, hts⟩ (c_X0_readInto l z0 D t E q1 (x_length μ, x_codes μ, 8, 0, -1, 0, 0) r1 H.size er1) (kV hts qw201 qw202 qw203 qw5 qw204 ok_X0_readInto ⟨Nat.le_of_ble_eq_true rfl, Nat.le_of_ble_eq_true rfl⟩) ⟨PM.blind, va_recv hK (ws := BRW E q1 t (x_length μ, x_codes μ, 8, 0, -1, 0, 0)) hq.1 (ci := 1) (q0 := 0) rfl rfl, fun U hU hW => ⟨rfl, by rw [hU]; exact (hC.at hS hZ).warm hW, by rw [hU], by rw [hU]; exact hq.1, ⟨hq.2.1, fun _ _ h9 => Or.inl (in_map (L := BRL E q1) rfl h9)⟩, fun q hq => hZ q (hsr q hq)⟩⟩ rfl rfl hl.1 rfl (lv_room (Nat.le_of_ble_eq_true rfl)) dX4_load_13 ⟨Nat.le_of_ble_eq_true rfl, Nat.le_of_ble_eq_true rfl⟩) hS hsr (fun H locs hP1 hD1 hS _ hk1 => ?_)
  obtain ⟨hP, hD⟩ := frm (L := BRL E q1) (ws1 := [(E 0, .inr (1, [.int (x_length μ), .ref (E 1)])), (E 1, .inl (t 0, (71, .inl (x_codes μ)))), (q1, .inr (4, [.int r1.2.1, .int r1.2.2.1, .int r1.2.2.2.1, .long r1.2.2.2.2.1, .int r1.2.2.2.2.2]))]) rfl hPD.1 hPD.2 hsr hk1 hP1 hD1
  have hPD := pd_perm (pmLa hY).symm hP hD
  obtain ⟨hP, hD⟩ := hPD
  have hSz : s.heap.size ≤ H.size := hS.1
  refine lv_aload_n hx hb dX4_load_16 rfl (lv_at hl 1 rfl) ?_
  refine va_get hx hb hts inX4 hown hK hP 0 rfl rfl 2 (by decide) (hts _ qw157) (fun _ h9 => h9) rfl dX4_load_17 ?_
  refine va_get hx hb hts inX0 hown hK hP 2 rfl rfl 0 (by decide) (hts _ qw68) (fun _ h9 => h9) rfl dX4_load_20 ?_
  refine lv_icmp_lt (tgt := 33) hx hb dX4_load_23 (by decide) (fun hc => ?_) (fun hc => ?_)
  · have h := iteT hc h
    obtain rfl := Sum.inr.inj (Option.some.inj h)
    obtain ⟨sa, hsa⟩ := hC.2.2.2.2.2.1 ("BentGardens", 194, "the buffer does not tell a garden") (by decide +kernel)
    obtain ⟨hP, hD⟩ := pd_sub (List.sublist_append_left (XW x0 s0 s1 e0 E A B G T t μ) _) hP hD
    refine vx_throwS hx hb hl9 hown (cls := "java/lang/IllegalArgumentException") (names := ["java/lang/RuntimeException", "java/lang/Exception"]) (by decide) (by decide) (hts _ qw389) (hts _ qw16) hsa (at_words hts hC.2.1 at_IllegalArgumentException) ato_IllegalArgumentException (hC.2.2.2.2.2.2.2.1.narrow hZ) (hC.2.2.2.2.2.2.2.2.1.narrow hZ) hS (hl.1.trans hml.symm) dX4_load_33 dX4_load_36 dX4_load_37 dX4_load_39 dX4_load_42 (fun x9 hx9 => (hT x9 hx9).elim) (Nat.le_of_ble_eq_true rfl) (Nat.le_of_ble_eq_true rfl) (Nat.le_of_ble_eq_true rfl) (Nat.le_of_ble_eq_true rfl) hlocks (fun t9 _ h8 h9 => XM.mk hP hD hS h8 h9) hS.2.2 (Nat.le_of_ble_eq_true rfl) (Nat.le_of_ble_eq_true rfl)
  · have h := iteF hc h
    refine lv_aload_n hx hb dX4_load_26 rfl (lv_at hl 0 rfl) ?_
    obtain ⟨r2, er2, h⟩ := obind h
    have hq := pd_sub (List.sublist_append_right (XW x0 s0 s1 e0 E A B G T t μ) [(q1, .inr (4, [.int r1.2.1, .int r1.2.2.1, .int r1.2.2.2.1, .long r1.2.2.2.2.1, .int r1.2.2.2.2.2]))]) hP hD
    refine call_R (va_runV (As := []) (rest := []) ⟨hx, hb, hml, hown, hts⟩ (c_X3_isWhole l z0 D t q1 r1.2 _ er2) (kV hts qw716 qw717 qw718 qw20 qw719 ok_X3_isWhole ⟨Nat.le_of_ble_eq_true rfl, Nat.le_of_ble_eq_true rfl⟩) ⟨PR.blind, va_recv hK (ws := RDW q1 t r1.2) hq.1 (ci := 4) (q0 := 0) rfl rfl, fun U hU hW => ⟨rfl, by rw [hU]; exact (hC.at hS hZ).warm hW, by rw [hU]; exact hq.1⟩⟩ rfl rfl hl.1 rfl (lv_room (Nat.le_of_ble_eq_true rfl)) dX4_load_27 ⟨Nat.le_of_ble_eq_true rfl, Nat.le_of_ble_eq_true rfl⟩) ?_
    refine lv_if_ne (tgt := 43) hx hb dX4_load_30 (by decide) (fun hc => ?_) (fun hc => ?_)
    · have h := iteF hc h
      obtain ⟨r3, er3, h⟩ := obind h
      obtain ⟨r4, er4, h⟩ := obind h
      obtain ⟨r5, er5, h⟩ := obind h
      obtain ⟨r6, er6, h⟩ := obind h
      exact absurd (Option.some.inj h) (fun z => by cases z)
    · have h := iteT hc h
      obtain rfl := Sum.inr.inj (Option.some.inj h)
      obtain ⟨sa, hsa⟩ := hC.2.2.2.2.2.1 ("BentGardens", 194, "the buffer does not tell a garden") (by decide +kernel)
      obtain ⟨hP, hD⟩ := pd_sub (List.sublist_append_left (XW x0 s0 s1 e0 E A B G T t μ) _) hP hD
      refine vx_throwS hx hb hl9 hown (cls := "java/lang/IllegalArgumentException") (names := ["java/lang/RuntimeException", "java/lang/Exception"]) (by decide) (by decide) (hts _ qw389) (hts _ qw16) hsa (at_words hts hC.2.1 at_IllegalArgumentException) ato_IllegalArgumentException (hC.2.2.2.2.2.2.2.1.narrow hZ) (hC.2.2.2.2.2.2.2.2.1.narrow hZ) hS (hl.1.trans hml.symm) dX4_load_33 dX4_load_36 dX4_load_37 dX4_load_39 dX4_load_42 (fun x9 hx9 => (hT x9 hx9).elim) (Nat.le_of_ble_eq_true rfl) (Nat.le_of_ble_eq_true rfl) (Nat.le_of_ble_eq_true rfl) (Nat.le_of_ble_eq_true rfl) hlocks (fun t9 _ h8 h9 => XM.mk hP hD hS h8 h9) hS.2.2 (Nat.le_of_ble_eq_true rfl) (Nat.le_of_ble_eq_true rfl)
