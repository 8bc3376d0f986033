abbrev rm_X4_count : Room := { frames := 6, cells := 0, slots := 0, locals := 135 }
theorem ok_X4_count : okY yX4_count 1 := ⟨by decide +kernel, by decide +kernel, by decide +kernel⟩
set_option maxHeartbeats 4000000 in
set_option maxRecDepth 100000 in
theorem c_X4_count (l : Launch) (z0 : Nat) (D : va_G) (t : Nat → ClassId) (x0 : Nat) (s0 : Nat) (s1 : Nat) (e0 : Nat) (E : Nat → Nat) (A : Nat → Nat) (B : Nat → Nat) (G : Nat → Nat) (T : va_W) (μ : XS) (a1 : Int32) (res : Int32) (h : f_X4_count μ a1 = some (.inl res)) : Met l yX4_count (ws_ yX4_count cX4_count 2 (some .int)) rm_X4_count (PR z0 D t [.ref (x0), .int a1] (XW x0 s0 s1 e0 E A B G T t μ)) (QR (some (.int res))) 0 0 FN := by
  refine Met.ofW (cc := cX4_count) (maxL := 2) (ret := (some .int)) (by decide) rfl ?_
  intro p e s m args below meth c s₁ Bo hml hv
  obtain ⟨rfl, hC, hP⟩ := hv
  have hx := Bo.exec
  have hb := Bo.bytes
  have hr := Bo.returns
  have hts : ∀ w ∈ LA, w.before _ s = true := fun w hw => atoms_spec (ws := ws_ yX4_count cX4_count 2 (some .int)) Bo.pre w (List.mem_cons_of_mem _ hw)
  have hown : s.vm.findClass RX4 = some m.cls := findClass_of_methodNamed Bo.named
  have hlocks := Bo.notSynchronized
  have hK := hC.1
  have hl := lv_entry ([.ref (x0), .int a1]) (n := 2) (Nat.le_of_ble_eq_true rfl)
  rw [lg_entry_eq]
  generalize (lg_sl ([.ref (x0), .int a1]) ++ List.replicate (2 - (lg_sl ([.ref (x0), .int a1])).length) Slot.unset).toArray = ls at hl ⊢
  have hl : lv_has ls 2 [(0, .ref (x0)), (1, .int a1)] := hl
  unfold f_X4_count at h
  refine lv_iload_n hx hb dX4_count_0 rfl (lv_at hl 1 rfl) ?_
  by_cases hc0 : a1 = (0 : Int32)
  · have h := iteT hc0 h
    refine lv_tableIn (tgt := 64) hx hb dX4_count_1 (by rw [hc0]; decide) (by rw [hc0]; decide) (by rw [hc0]; rfl) (by decide) ?_
    refine lv_aload_n hx hb dX4_count_64 rfl (lv_at hl 0 rfl) ?_
    refine va_get hx hb hts inX4 hown hK hP 0 rfl rfl 4 (by decide) (hts _ qw159) (fun _ h9 => h9) rfl dX4_count_65 ?_
    refine va_get hx hb hts inX1 hown hK hP 13 rfl rfl 0 (by decide) (hts _ qw120) (fun _ h9 => h9) rfl dX4_count_68 ?_
    obtain rfl := Sum.inl.inj (Option.some.inj h)
    exact W.iret hx hb hr (fun t ht hW => ⟨rfl, ht⟩) (fun q hq => absurd hq List.not_mem_nil) dX4_count_71
  · have h := iteF hc0 h
    by_cases hc1 : a1 = (1 : Int32)
    · have h := iteT hc1 h
      refine lv_tableIn (tgt := 72) hx hb dX4_count_1 (by rw [hc1]; decide) (by rw [hc1]; decide) (by rw [hc1]; rfl) (by decide) ?_
      refine lv_aload_n hx hb dX4_count_72 rfl (lv_at hl 0 rfl) ?_
      refine va_get hx hb hts inX4 hown hK hP 0 rfl rfl 4 (by decide) (hts _ qw159) (fun _ h9 => h9) rfl dX4_count_73 ?_
      refine va_get hx hb hts inX1 hown hK hP 13 rfl rfl 1 (by decide) (hts _ qw122) (fun _ h9 => h9) rfl dX4_count_76 ?_
      obtain rfl := Sum.inl.inj (Option.some.inj h)
      exact W.iret hx hb hr (fun t ht hW => ⟨rfl, ht⟩) (fun q hq => absurd hq List.not_mem_nil) dX4_count_79
    · have h := iteF hc1 h
      by_cases hc2 : a1 = (2 : Int32)
      · have h := iteT hc2 h
        refine lv_tableIn (tgt := 80) hx hb dX4_count_1 (by rw [hc2]; decide) (by rw [hc2]; decide) (by rw [hc2]; rfl) (by decide) ?_
        refine lv_aload_n hx hb dX4_count_80 rfl (lv_at hl 0 rfl) ?_
        refine va_get hx hb hts inX4 hown hK hP 0 rfl rfl 4 (by decide) (hts _ qw159) (fun _ h9 => h9) rfl dX4_count_81 ?_
        refine va_get hx hb hts inX1 hown hK hP 13 rfl rfl 2 (by decide) (hts _ qw124) (fun _ h9 => h9) rfl dX4_count_84 ?_
        refine lv_bipush (v := (8)) hx hb dX4_count_87 (by decide) ?_
        refine lv_irem hx hb dX4_count_89 (by decide) ?_
        obtain rfl := Sum.inl.inj (Option.some.inj h)
        exact W.iret hx hb hr (fun t ht hW => ⟨rfl, ht⟩) (fun q hq => absurd hq List.not_mem_nil) dX4_count_90
      · have h := iteF hc2 h
        by_cases hc3 : a1 = (3 : Int32)
        · have h := iteT hc3 h
          refine lv_tableIn (tgt := 91) hx hb dX4_count_1 (by rw [hc3]; decide) (by rw [hc3]; decide) (by rw [hc3]; rfl) (by decide) ?_
          refine lv_aload_n hx hb dX4_count_91 rfl (lv_at hl 0 rfl) ?_
          refine va_get hx hb hts inX4 hown hK hP 0 rfl rfl 4 (by decide) (hts _ qw159) (fun _ h9 => h9) rfl dX4_count_92 ?_
          refine va_get hx hb hts inX1 hown hK hP 13 rfl rfl 2 (by decide) (hts _ qw124) (fun _ h9 => h9) rfl dX4_count_95 ?_
          refine lv_bipush (v := (8)) hx hb dX4_count_98 (by decide) ?_
          refine lv_idiv hx hb dX4_count_100 (by decide) ?_
          obtain rfl := Sum.inl.inj (Option.some.inj h)
          exact W.iret hx hb hr (fun t ht hW => ⟨rfl, ht⟩) (fun q hq => absurd hq List.not_mem_nil) dX4_count_101
        · have h := iteF hc3 h
          by_cases hc4 : a1 = (4 : Int32)
          · have h := iteT hc4 h
            refine lv_tableIn (tgt := 102) hx hb dX4_count_1 (by rw [hc4]; decide) (by rw [hc4]; decide) (by rw [hc4]; rfl) (by decide) ?_
            refine lv_aload_n hx hb dX4_count_102 rfl (lv_at hl 0 rfl) ?_
            refine va_get hx hb hts inX4 hown hK hP 0 rfl rfl 4 (by decide) (hts _ qw159) (fun _ h9 => h9) rfl dX4_count_103 ?_
            refine va_get hx hb hts inX1 hown hK hP 13 rfl rfl 3 (by decide) (hts _ qw126) (fun _ h9 => h9) rfl dX4_count_106 ?_
            obtain ⟨r1, er1, h⟩ := obind h
            refine call_R (va_runS (As := [.long (x_walls μ)]) (rest := []) ⟨hx, hb, hml, hown, hts⟩ (c_J13_bitCount_95d88 l z0 D t (x_walls μ) _ er1) (kS hts qw604 qw254 qw22 qw255 ok_J13_bitCount_95d88 ⟨Nat.le_of_ble_eq_true rfl, Nat.le_of_ble_eq_true rfl⟩) ⟨PR.blind, fun U hU hW => ⟨rfl, by rw [hU]; exact hC.warm hW, by rw [hU]; exact va_P_nil⟩⟩ rfl rfl hl.1 rfl (lv_room (Nat.le_of_ble_eq_true rfl)) dX4_count_109 ⟨Nat.le_of_ble_eq_true rfl, Nat.le_of_ble_eq_true rfl⟩) ?_
            obtain rfl := Sum.inl.inj (Option.some.inj h)
            exact W.iret hx hb hr (fun t ht hW => ⟨rfl, ht⟩) (fun q hq => absurd hq List.not_mem_nil) dX4_count_112
          · have h := iteF hc4 h
            by_cases hc5 : a1 = (5 : Int32)
            · have h := iteT hc5 h
              refine lv_tableIn (tgt := 113) hx hb dX4_count_1 (by rw [hc5]; decide) (by rw [hc5]; decide) (by rw [hc5]; rfl) (by decide) ?_
              refine lv_aload_n hx hb dX4_count_113 rfl (lv_at hl 0 rfl) ?_
              refine va_get hx hb hts inX4 hown hK hP 0 rfl rfl 4 (by decide) (hts _ qw159) (fun _ h9 => h9) rfl dX4_count_114 ?_
              refine va_get hx hb hts inX1 hown hK hP 13 rfl rfl 5 (by decide) (hts _ qw130) (fun _ h9 => h9) rfl dX4_count_117 ?_
              obtain rfl := Sum.inl.inj (Option.some.inj h)
              exact W.iret hx hb hr (fun t ht hW => ⟨rfl, ht⟩) (fun q hq => absurd hq List.not_mem_nil) dX4_count_120
            · have h := iteF hc5 h
              by_cases hc6 : a1 = (6 : Int32)
              · have h := iteT hc6 h
                refine lv_tableIn (tgt := 121) hx hb dX4_count_1 (by rw [hc6]; decide) (by rw [hc6]; decide) (by rw [hc6]; rfl) (by decide) ?_
                refine lv_aload_n hx hb dX4_count_121 rfl (lv_at hl 0 rfl) ?_
                refine va_get hx hb hts inX4 hown hK hP 0 rfl rfl 4 (by decide) (hts _ qw159) (fun _ h9 => h9) rfl dX4_count_122 ?_
                obtain ⟨r2, er2, h⟩ := obind h
                refine call_R (va_runV (As := []) (rest := []) ⟨hx, hb, hml, hown, hts⟩ (c_X1_freeCells l z0 D t G ((x_wide μ), (x_high μ), (x_pond μ), (x_walls μ), (x_paved μ), (x_tc μ), (x_flips μ), (x_refused μ), (x_names μ)) _ er2) (kV hts qw236 qw237 qw238 qw8 qw239 ok_X1_freeCells ⟨Nat.le_of_ble_eq_true rfl, Nat.le_of_ble_eq_true rfl⟩) ⟨PR.blind, va_recv hK (sub_X_G (μ := μ) hP) (ci := 2) (q0 := 0) rfl rfl, fun U hU hW => ⟨rfl, by rw [hU]; exact hC.warm hW, by rw [hU]; exact (sub_X_G (μ := μ) hP)⟩⟩ rfl rfl hl.1 rfl (lv_room (Nat.le_of_ble_eq_true rfl)) dX4_count_125 ⟨Nat.le_of_ble_eq_true rfl, Nat.le_of_ble_eq_true rfl⟩) ?_
                obtain ⟨r3, er3, h⟩ := obind h
                refine call_R (va_runS (As := [.long r2]) (rest := []) ⟨hx, hb, hml, hown, hts⟩ (c_J13_bitCount_95d88 l z0 D t r2 _ er3) (kS hts qw604 qw254 qw22 qw255 ok_J13_bitCount_95d88 ⟨Nat.le_of_ble_eq_true rfl, Nat.le_of_ble_eq_true rfl⟩) ⟨PR.blind, fun U hU hW => ⟨rfl, by rw [hU]; exact hC.warm hW, by rw [hU]; exact va_P_nil⟩⟩ rfl rfl hl.1 rfl (lv_room (Nat.le_of_ble_eq_true rfl)) dX4_count_128 ⟨Nat.le_of_ble_eq_true rfl, Nat.le_of_ble_eq_true rfl⟩) ?_
                obtain rfl := Sum.inl.inj (Option.some.inj h)
                exact W.iret hx hb hr (fun t ht hW => ⟨rfl, ht⟩) (fun q hq => absurd hq List.not_mem_nil) dX4_count_131
              · have h := iteF hc6 h
                by_cases hc7 : a1 = (7 : Int32)
                · have h := iteT hc7 h
                  refine lv_tableIn (tgt := 132) hx hb dX4_count_1 (by rw [hc7]; decide) (by rw [hc7]; decide) (by rw [hc7]; rfl) (by decide) ?_
                  refine lv_aload_n hx hb dX4_count_132 rfl (lv_at hl 0 rfl) ?_
                  refine va_get hx hb hts inX4 hown hK hP 0 rfl rfl 4 (by decide) (hts _ qw159) (fun _ h9 => h9) rfl dX4_count_133 ?_
                  obtain ⟨r4, er4, h⟩ := obind h
                  refine call_R (va_runV (As := []) (rest := []) ⟨hx, hb, hml, hown, hts⟩ (c_X1_layableTriples l z0 D t G ((x_wide μ), (x_high μ), (x_pond μ), (x_walls μ), (x_paved μ), (x_tc μ), (x_flips μ), (x_refused μ), (x_names μ)) _ er4) (kV hts qw807 qw808 qw809 qw8 qw810 ok_X1_layableTriples ⟨Nat.le_of_ble_eq_true rfl, Nat.le_of_ble_eq_true rfl⟩) ⟨PR.blind, va_recv hK (sub_X_G (μ := μ) hP) (ci := 2) (q0 := 0) rfl rfl, fun U hU hW => ⟨rfl, by rw [hU]; exact hC.warm hW, by rw [hU]; exact (sub_X_G (μ := μ) hP)⟩⟩ rfl rfl hl.1 rfl (lv_room (Nat.le_of_ble_eq_true rfl)) dX4_count_136 ⟨Nat.le_of_ble_eq_true rfl, Nat.le_of_ble_eq_true rfl⟩) ?_
                  obtain rfl := Sum.inl.inj (Option.some.inj h)
                  exact W.iret hx hb hr (fun t ht hW => ⟨rfl, ht⟩) (fun q hq => absurd hq List.not_mem_nil) dX4_count_139
                · have h := iteF hc7 h
                  by_cases hc8 : a1 = (8 : Int32)
                  · have h := iteT hc8 h
                    refine lv_tableIn (tgt := 140) hx hb dX4_count_1 (by rw [hc8]; decide) (by rw [hc8]; decide) (by rw [hc8]; rfl) (by decide) ?_
                    refine lv_aload_n hx hb dX4_count_140 rfl (lv_at hl 0 rfl) ?_
                    refine va_get hx hb hts inX4 hown hK hP 0 rfl rfl 4 (by decide) (hts _ qw159) (fun _ h9 => h9) rfl dX4_count_141 ?_
                    obtain ⟨r5, er5, h⟩ := obind h
                    refine call_R (va_runV (As := []) (rest := []) ⟨hx, hb, hml, hown, hts⟩ (c_X1_flippableBlocks l z0 D t G ((x_wide μ), (x_high μ), (x_pond μ), (x_walls μ), (x_paved μ), (x_tc μ), (x_flips μ), (x_refused μ), (x_names μ)) _ er5) (kV hts qw811 qw812 qw813 qw8 qw814 ok_X1_flippableBlocks ⟨Nat.le_of_ble_eq_true rfl, Nat.le_of_ble_eq_true rfl⟩) ⟨PR.blind, va_recv hK (sub_X_G (μ := μ) hP) (ci := 2) (q0 := 0) rfl rfl, fun U hU hW => ⟨rfl, by rw [hU]; exact hC.warm hW, by rw [hU]; exact (sub_X_G (μ := μ) hP)⟩⟩ rfl rfl hl.1 rfl (lv_room (Nat.le_of_ble_eq_true rfl)) dX4_count_144 ⟨Nat.le_of_ble_eq_true rfl, Nat.le_of_ble_eq_true rfl⟩) ?_
                    obtain rfl := Sum.inl.inj (Option.some.inj h)
                    exact W.iret hx hb hr (fun t ht hW => ⟨rfl, ht⟩) (fun q hq => absurd hq List.not_mem_nil) dX4_count_147
                  · have h := iteF hc8 h
                    by_cases hc9 : a1 = (9 : Int32)
                    · have h := iteT hc9 h
                      refine lv_tableIn (tgt := 148) hx hb dX4_count_1 (by rw [hc9]; decide) (by rw [hc9]; decide) (by rw [hc9]; rfl) (by decide) ?_
                      refine lv_aload_n hx hb dX4_count_148 rfl (lv_at hl 0 rfl) ?_
                      refine va_get hx hb hts inX4 hown hK hP 0 rfl rfl 4 (by decide) (hts _ qw159) (fun _ h9 => h9) rfl dX4_count_149 ?_
                      refine va_get hx hb hts inX1 hown hK hP 13 rfl rfl 6 (by decide) (hts _ qw132) (fun _ h9 => h9) rfl dX4_count_152 ?_
                      obtain rfl := Sum.inl.inj (Option.some.inj h)
                      exact W.iret hx hb hr (fun t ht hW => ⟨rfl, ht⟩) (fun q hq => absurd hq List.not_mem_nil) dX4_count_155
                    · have h := iteF hc9 h
                      by_cases hc10 : a1 = (10 : Int32)
                      · have h := iteT hc10 h
                        refine lv_tableIn (tgt := 156) hx hb dX4_count_1 (by rw [hc10]; decide) (by rw [hc10]; decide) (by rw [hc10]; rfl) (by decide) ?_
                        refine lv_aload_n hx hb dX4_count_156 rfl (lv_at hl 0 rfl) ?_
                        refine va_get hx hb hts inX4 hown hK hP 0 rfl rfl 4 (by decide) (hts _ qw159) (fun _ h9 => h9) rfl dX4_count_157 ?_
                        refine va_get hx hb hts inX1 hown hK hP 13 rfl rfl 7 (by decide) (hts _ qw134) (fun _ h9 => h9) rfl dX4_count_160 ?_
                        obtain rfl := Sum.inl.inj (Option.some.inj h)
                        exact W.iret hx hb hr (fun t ht hW => ⟨rfl, ht⟩) (fun q hq => absurd hq List.not_mem_nil) dX4_count_163
                      · have h := iteF hc10 h
                        by_cases hc11 : a1 = (11 : Int32)
                        · have h := iteT hc11 h
                          refine lv_tableIn (tgt := 164) hx hb dX4_count_1 (by rw [hc11]; decide) (by rw [hc11]; decide) (by rw [hc11]; rfl) (by decide) ?_
                          refine lv_aload_n hx hb dX4_count_164 rfl (lv_at hl 0 rfl) ?_
                          refine va_get hx hb hts inX4 hown hK hP 0 rfl rfl 0 (by decide) (hts _ qw155) (fun _ h9 => h9) rfl dX4_count_165 ?_
                          obtain ⟨r6, er6, h⟩ := obind h
                          refine call_R (va_runV (As := []) (rest := []) ⟨hx, hb, hml, hown, hts⟩ (c_Jx4a65c_size_8abf5 l z0 D t s0 e0 ((x_lmod μ), (x_lsize μ)) _ er6) (kV hts qw461 qw462 qw463 qw4 qw464 ok_Jx4a65c_size_8abf5 ⟨Nat.le_of_ble_eq_true rfl, Nat.le_of_ble_eq_true rfl⟩) ⟨PR.blind, va_recv hK (sub_X_LS (μ := μ) hP) (ci := 0) (q0 := 0) rfl rfl, fun U hU hW => ⟨rfl, by rw [hU]; exact hC.warm hW, by rw [hU]; exact (sub_X_LS (μ := μ) hP)⟩⟩ rfl rfl hl.1 rfl (lv_room (Nat.le_of_ble_eq_true rfl)) dX4_count_168 ⟨Nat.le_of_ble_eq_true rfl, Nat.le_of_ble_eq_true rfl⟩) ?_
                          obtain rfl := Sum.inl.inj (Option.some.inj h)
                          exact W.iret hx hb hr (fun t ht hW => ⟨rfl, ht⟩) (fun q hq => absurd hq List.not_mem_nil) dX4_count_171
                        · have h := iteF hc11 h
                          refine lv_tableOut (tgt := 172) hx hb dX4_count_1 (sw_out2 (n := 12) (by decide) (by decide) (by decide) (fun k9 hk9 => by rcases (show k9 = 0 ∨ k9 = 1 ∨ k9 = 2 ∨ k9 = 3 ∨ k9 = 4 ∨ k9 = 5 ∨ k9 = 6 ∨ k9 = 7 ∨ k9 = 8 ∨ k9 = 9 ∨ k9 = 10 ∨ k9 = 11 by omega) with rfl | rfl | rfl | rfl | rfl | rfl | rfl | rfl | rfl | rfl | rfl | rfl <;> assumption)) (by decide) ?_
                          exact absurd (Option.some.inj h) (fun z => by cases z)

abbrev rx_X4_count : Room := { frames := 6, cells := 1, slots := 6, locals := 135 }
set_option maxHeartbeats 4000000 in
set_option maxRecDepth 100000 in
theorem x_X4_count (l : Launch) (hl9 : l.stackTraces = false) (z0 : Nat) (D : va_G) (t : Nat → ClassId) (x0 : Nat) (s0 : Nat) (s1 : Nat) (e0 : Nat) (E : Nat → Nat) (A : Nat → Nat) (B : Nat → Nat) (G : Nat → Nat) (T : va_W) (μ : XS) (a1 : Int32) (xE : String) (sz : Nat) (h : f_X4_count μ a1 = some (.inr xE)) : vx_Met l yX4_count (ws_ yX4_count cX4_count 2 (some .int)) rx_X4_count (PM z0 D t [.ref (x0), .int a1] (XW x0 s0 s1 e0 E A B G T t μ) (XL x0 s0 s1 e0 E A B G T μ) sz) (fun _ _ _ _ => False) (XM xE D (XW x0 s0 s1 e0 E A B G T t μ) (XL x0 s0 s1 e0 E A B G T μ) sz) 1 6 (OA (XL x0 s0 s1 e0 E A B G T μ) sz) := by
  refine vx_ofW (cc := cX4_count) (maxL := 2) (ret := (some .int)) (by decide) rfl ?_
  intro p e s m args below meth c s₁ Bo hml hT hv
  obtain ⟨rfl, hC, hsz, hP, hD, hZ⟩ := hv
  have hx := Bo.exec
  have hb := Bo.bytes
  have hr := Bo.returns
  have hts : ∀ w ∈ LA, w.before _ s = true := fun w hw => atoms_spec (ws := ws_ yX4_count cX4_count 2 (some .int)) Bo.pre w (List.mem_cons_of_mem _ hw)
  have hown : s.vm.findClass RX4 = some m.cls := findClass_of_methodNamed Bo.named
  have hlocks := Bo.notSynchronized
  have hK := hC.1
  subst hsz
  have hl := lv_entry ([.ref (x0), .int a1]) (n := 2) (Nat.le_of_ble_eq_true rfl)
  rw [lg_entry_eq]
  generalize (lg_sl ([.ref (x0), .int a1]) ++ List.replicate (2 - (lg_sl ([.ref (x0), .int a1])).length) Slot.unset).toArray = ls at hl ⊢
  have hl : lv_has ls 2 [(0, .ref (x0)), (1, .int a1)] := hl
  suffices K9 : ∀ (H : Heap) (locs : List Loc), va_P D vwCl (XW x0 s0 s1 e0 E A B G T t μ) H → va_S (OA (XL x0 s0 s1 e0 E A B G T μ) s.heap.size) s.heap H locs → W p l e (headSpec (ws_ yX4_count cX4_count 2 (some .int)) rx_X4_count).room s m ([.ref (x0), .int a1] : List Value).toArray below meth c H locs 0 0 (vx_MQ below (fun _ _ _ _ => False) (XM xE D (XW x0 s0 s1 e0 E A B G T t μ) (XL x0 s0 s1 e0 E A B G T μ) s.heap.size) ([.ref (x0), .int a1] : List Value).toArray s 1 6 (OA (XL x0 s0 s1 e0 E A B G T μ) s.heap.size)) (F0 m 0 ls []) from K9 s.heap [] hP va_S.rf
  intro H locs hP hS
  have hSz : s.heap.size ≤ H.size := hS.1
  unfold f_X4_count at h
  refine lv_iload_n hx hb dX4_count_0 rfl (lv_at hl 1 rfl) ?_
  by_cases hc0 : a1 = (0 : Int32)
  · have h := iteT hc0 h
    refine lv_tableIn (tgt := 64) hx hb dX4_count_1 (by rw [hc0]; decide) (by rw [hc0]; decide) (by rw [hc0]; rfl) (by decide) ?_
    refine lv_aload_n hx hb dX4_count_64 rfl (lv_at hl 0 rfl) ?_
    refine va_get hx hb hts inX4 hown hK hP 0 rfl rfl 4 (by decide) (hts _ qw159) (fun _ h9 => h9) rfl dX4_count_65 ?_
    refine va_get hx hb hts inX1 hown hK hP 13 rfl rfl 0 (by decide) (hts _ qw120) (fun _ h9 => h9) rfl dX4_count_68 ?_
    exact absurd (Option.some.inj h) (fun z => by cases z)
  · have h := iteF hc0 h
    by_cases hc1 : a1 = (1 : Int32)
    · have h := iteT hc1 h
      refine lv_tableIn (tgt := 72) hx hb dX4_count_1 (by rw [hc1]; decide) (by rw [hc1]; decide) (by rw [hc1]; rfl) (by decide) ?_
      refine lv_aload_n hx hb dX4_count_72 rfl (lv_at hl 0 rfl) ?_
      refine va_get hx hb hts inX4 hown hK hP 0 rfl rfl 4 (by decide) (hts _ qw159) (fun _ h9 => h9) rfl dX4_count_73 ?_
      refine va_get hx hb hts inX1 hown hK hP 13 rfl rfl 1 (by decide) (hts _ qw122) (fun _ h9 => h9) rfl dX4_count_76 ?_
      exact absurd (Option.some.inj h) (fun z => by cases z)
    · have h := iteF hc1 h
      by_cases hc2 : a1 = (2 : Int32)
      · have h := iteT hc2 h
        refine lv_tableIn (tgt := 80) hx hb dX4_count_1 (by rw [hc2]; decide) (by rw [hc2]; decide) (by rw [hc2]; rfl) (by decide) ?_
        refine lv_aload_n hx hb dX4_count_80 rfl (lv_at hl 0 rfl) ?_
        refine va_get hx hb hts inX4 hown hK hP 0 rfl rfl 4 (by decide) (hts _ qw159) (fun _ h9 => h9) rfl dX4_count_81 ?_
        refine va_get hx hb hts inX1 hown hK hP 13 rfl rfl 2 (by decide) (hts _ qw124) (fun _ h9 => h9) rfl dX4_count_84 ?_
        refine lv_bipush (v := (8)) hx hb dX4_count_87 (by decide) ?_
        refine lv_irem hx hb dX4_count_89 (by decide) ?_
        exact absurd (Option.some.inj h) (fun z => by cases z)
      · have h := iteF hc2 h
        by_cases hc3 : a1 = (3 : Int32)
        · have h := iteT hc3 h
          refine lv_tableIn (tgt := 91) hx hb dX4_count_1 (by rw [hc3]; decide) (by rw [hc3]; decide) (by rw [hc3]; rfl) (by decide) ?_
          refine lv_aload_n hx hb dX4_count_91 rfl (lv_at hl 0 rfl) ?_
          refine va_get hx hb hts inX4 hown hK hP 0 rfl rfl 4 (by decide) (hts _ qw159) (fun _ h9 => h9) rfl dX4_count_92 ?_
          refine va_get hx hb hts inX1 hown hK hP 13 rfl rfl 2 (by decide) (hts _ qw124) (fun _ h9 => h9) rfl dX4_count_95 ?_
          refine lv_bipush (v := (8)) hx hb dX4_count_98 (by decide) ?_
          refine lv_idiv hx hb dX4_count_100 (by decide) ?_
          exact absurd (Option.some.inj h) (fun z => by cases z)
        · have h := iteF hc3 h
          by_cases hc4 : a1 = (4 : Int32)
          · have h := iteT hc4 h
            refine lv_tableIn (tgt := 102) hx hb dX4_count_1 (by rw [hc4]; decide) (by rw [hc4]; decide) (by rw [hc4]; rfl) (by decide) ?_
            refine lv_aload_n hx hb dX4_count_102 rfl (lv_at hl 0 rfl) ?_
            refine va_get hx hb hts inX4 hown hK hP 0 rfl rfl 4 (by decide) (hts _ qw159) (fun _ h9 => h9) rfl dX4_count_103 ?_
            refine va_get hx hb hts inX1 hown hK hP 13 rfl rfl 3 (by decide) (hts _ qw126) (fun _ h9 => h9) rfl dX4_count_106 ?_
            obtain ⟨r1, er1, h⟩ := obind h
            refine call_R (va_runS (As := [.long (x_walls μ)]) (rest := []) ⟨hx, hb, hml, hown, hts⟩ (c_J13_bitCount_95d88 l z0 D t (x_walls μ) _ er1) (kS hts qw604 qw254 qw22 qw255 ok_J13_bitCount_95d88 ⟨Nat.le_of_ble_eq_true rfl, Nat.le_of_ble_eq_true rfl⟩) ⟨PR.blind, fun U hU hW => ⟨rfl, by rw [hU]; exact (hC.at hS hZ).warm hW, by rw [hU]; exact va_P_nil⟩⟩ rfl rfl hl.1 rfl (lv_room (Nat.le_of_ble_eq_true rfl)) dX4_count_109 ⟨Nat.le_of_ble_eq_true rfl, Nat.le_of_ble_eq_true rfl⟩) ?_
            exact absurd (Option.some.inj h) (fun z => by cases z)
          · have h := iteF hc4 h
            by_cases hc5 : a1 = (5 : Int32)
            · have h := iteT hc5 h
              refine lv_tableIn (tgt := 113) hx hb dX4_count_1 (by rw [hc5]; decide) (by rw [hc5]; decide) (by rw [hc5]; rfl) (by decide) ?_
              refine lv_aload_n hx hb dX4_count_113 rfl (lv_at hl 0 rfl) ?_
              refine va_get hx hb hts inX4 hown hK hP 0 rfl rfl 4 (by decide) (hts _ qw159) (fun _ h9 => h9) rfl dX4_count_114 ?_
              refine va_get hx hb hts inX1 hown hK hP 13 rfl rfl 5 (by decide) (hts _ qw130) (fun _ h9 => h9) rfl dX4_count_117 ?_
              exact absurd (Option.some.inj h) (fun z => by cases z)
            · have h := iteF hc5 h
              by_cases hc6 : a1 = (6 : Int32)
              · have h := iteT hc6 h
                refine lv_tableIn (tgt := 121) hx hb dX4_count_1 (by rw [hc6]; decide) (by rw [hc6]; decide) (by rw [hc6]; rfl) (by decide) ?_
                refine lv_aload_n hx hb dX4_count_121 rfl (lv_at hl 0 rfl) ?_
                refine va_get hx hb hts inX4 hown hK hP 0 rfl rfl 4 (by decide) (hts _ qw159) (fun _ h9 => h9) rfl dX4_count_122 ?_
                obtain ⟨r2, er2, h⟩ := obind h
                refine call_R (va_runV (As := []) (rest := []) ⟨hx, hb, hml, hown, hts⟩ (c_X1_freeCells l z0 D t G ((x_wide μ), (x_high μ), (x_pond μ), (x_walls μ), (x_paved μ), (x_tc μ), (x_flips μ), (x_refused μ), (x_names μ)) _ er2) (kV hts qw236 qw237 qw238 qw8 qw239 ok_X1_freeCells ⟨Nat.le_of_ble_eq_true rfl, Nat.le_of_ble_eq_true rfl⟩) ⟨PR.blind, va_recv hK (sub_X_G (μ := μ) hP) (ci := 2) (q0 := 0) rfl rfl, fun U hU hW => ⟨rfl, by rw [hU]; exact (hC.at hS hZ).warm hW, by rw [hU]; exact (sub_X_G (μ := μ) hP)⟩⟩ rfl rfl hl.1 rfl (lv_room (Nat.le_of_ble_eq_true rfl)) dX4_count_125 ⟨Nat.le_of_ble_eq_true rfl, Nat.le_of_ble_eq_true rfl⟩) ?_
                obtain ⟨r3, er3, h⟩ := obind h
                refine call_R (va_runS (As := [.long r2]) (rest := []) ⟨hx, hb, hml, hown, hts⟩ (c_J13_bitCount_95d88 l z0 D t r2 _ er3) (kS hts qw604 qw254 qw22 qw255 ok_J13_bitCount_95d88 ⟨Nat.le_of_ble_eq_true rfl, Nat.le_of_ble_eq_true rfl⟩) ⟨PR.blind, fun U hU hW => ⟨rfl, by rw [hU]; exact (hC.at hS hZ).warm hW, by rw [hU]; exact va_P_nil⟩⟩ rfl rfl hl.1 rfl (lv_room (Nat.le_of_ble_eq_true rfl)) dX4_count_128 ⟨Nat.le_of_ble_eq_true rfl, Nat.le_of_ble_eq_true rfl⟩) ?_
                exact absurd (Option.some.inj h) (fun z => by cases z)
              · have h := iteF hc6 h
                by_cases hc7 : a1 = (7 : Int32)
                · have h := iteT hc7 h
                  refine lv_tableIn (tgt := 132) hx hb dX4_count_1 (by rw [hc7]; decide) (by rw [hc7]; decide) (by rw [hc7]; rfl) (by decide) ?_
                  refine lv_aload_n hx hb dX4_count_132 rfl (lv_at hl 0 rfl) ?_
                  refine va_get hx hb hts inX4 hown hK hP 0 rfl rfl 4 (by decide) (hts _ qw159) (fun _ h9 => h9) rfl dX4_count_133 ?_
                  obtain ⟨r4, er4, h⟩ := obind h
                  refine call_R (va_runV (As := []) (rest := []) ⟨hx, hb, hml, hown, hts⟩ (c_X1_layableTriples l z0 D t G ((x_wide μ), (x_high μ), (x_pond μ), (x_walls μ), (x_paved μ), (x_tc μ), (x_flips μ), (x_refused μ), (x_names μ)) _ er4) (kV hts qw807 qw808 qw809 qw8 qw810 ok_X1_layableTriples ⟨Nat.le_of_ble_eq_true rfl, Nat.le_of_ble_eq_true rfl⟩) ⟨PR.blind, va_recv hK (sub_X_G (μ := μ) hP) (ci := 2) (q0 := 0) rfl rfl, fun U hU hW => ⟨rfl, by rw [hU]; exact (hC.at hS hZ).warm hW, by rw [hU]; exact (sub_X_G (μ := μ) hP)⟩⟩ rfl rfl hl.1 rfl (lv_room (Nat.le_of_ble_eq_true rfl)) dX4_count_136 ⟨Nat.le_of_ble_eq_true rfl, Nat.le_of_ble_eq_true rfl⟩) ?_
                  exact absurd (Option.some.inj h) (fun z => by cases z)
                · have h := iteF hc7 h
                  by_cases hc8 : a1 = (8 : Int32)
                  · have h := iteT hc8 h
                    refine lv_tableIn (tgt := 140) hx hb dX4_count_1 (by rw [hc8]; decide) (by rw [hc8]; decide) (by rw [hc8]; rfl) (by decide) ?_
                    refine lv_aload_n hx hb dX4_count_140 rfl (lv_at hl 0 rfl) ?_
                    refine va_get hx hb hts inX4 hown hK hP 0 rfl rfl 4 (by decide) (hts _ qw159) (fun _ h9 => h9) rfl dX4_count_141 ?_
                    obtain ⟨r5, er5, h⟩ := obind h
                    refine call_R (va_runV (As := []) (rest := []) ⟨hx, hb, hml, hown, hts⟩ (c_X1_flippableBlocks l z0 D t G ((x_wide μ), (x_high μ), (x_pond μ), (x_walls μ), (x_paved μ), (x_tc μ), (x_flips μ), (x_refused μ), (x_names μ)) _ er5) (kV hts qw811 qw812 qw813 qw8 qw814 ok_X1_flippableBlocks ⟨Nat.le_of_ble_eq_true rfl, Nat.le_of_ble_eq_true rfl⟩) ⟨PR.blind, va_recv hK (sub_X_G (μ := μ) hP) (ci := 2) (q0 := 0) rfl rfl, fun U hU hW => ⟨rfl, by rw [hU]; exact (hC.at hS hZ).warm hW, by rw [hU]; exact (sub_X_G (μ := μ) hP)⟩⟩ rfl rfl hl.1 rfl (lv_room (Nat.le_of_ble_eq_true rfl)) dX4_count_144 ⟨Nat.le_of_ble_eq_true rfl, Nat.le_of_ble_eq_true rfl⟩) ?_
                    exact absurd (Option.some.inj h) (fun z => by cases z)
                  · have h := iteF hc8 h
                    by_cases hc9 : a1 = (9 : Int32)
                    · have h := iteT hc9 h
                      refine lv_tableIn (tgt := 148) hx hb dX4_count_1 (by rw [hc9]; decide) (by rw [hc9]; decide) (by rw [hc9]; rfl) (by decide) ?_
                      refine lv_aload_n hx hb dX4_count_148 rfl (lv_at hl 0 rfl) ?_
                      refine va_get hx hb hts inX4 hown hK hP 0 rfl rfl 4 (by decide) (hts _ qw159) (fun _ h9 => h9) rfl dX4_count_149 ?_
                      refine va_get hx hb hts inX1 hown hK hP 13 rfl rfl 6 (by decide) (hts _ qw132) (fun _ h9 => h9) rfl dX4_count_152 ?_
                      exact absurd (Option.some.inj h) (fun z => by cases z)
                    · have h := iteF hc9 h
                      by_cases hc10 : a1 = (10 : Int32)
                      · have h := iteT hc10 h
                        refine lv_tableIn (tgt := 156) hx hb dX4_count_1 (by rw [hc10]; decide) (by rw [hc10]; decide) (by rw [hc10]; rfl) (by decide) ?_
                        refine lv_aload_n hx hb dX4_count_156 rfl (lv_at hl 0 rfl) ?_
                        refine va_get hx hb hts inX4 hown hK hP 0 rfl rfl 4 (by decide) (hts _ qw159) (fun _ h9 => h9) rfl dX4_count_157 ?_
                        refine va_get hx hb hts inX1 hown hK hP 13 rfl rfl 7 (by decide) (hts _ qw134) (fun _ h9 => h9) rfl dX4_count_160 ?_
                        exact absurd (Option.some.inj h) (fun z => by cases z)
                      · have h := iteF hc10 h
                        by_cases hc11 : a1 = (11 : Int32)
                        · have h := iteT hc11 h
                          refine lv_tableIn (tgt := 164) hx hb dX4_count_1 (by rw [hc11]; decide) (by rw [hc11]; decide) (by rw [hc11]; rfl) (by decide) ?_
                          refine lv_aload_n hx hb dX4_count_164 rfl (lv_at hl 0 rfl) ?_
                          refine va_get hx hb hts inX4 hown hK hP 0 rfl rfl 0 (by decide) (hts _ qw155) (fun _ h9 => h9) rfl dX4_count_165 ?_
                          obtain ⟨r6, er6, h⟩ := obind h
                          refine call_R (va_runV (As := []) (rest := []) ⟨hx, hb, hml, hown, hts⟩ (c_Jx4a65c_size_8abf5 l z0 D t s0 e0 ((x_lmod μ), (x_lsize μ)) _ er6) (kV hts qw461 qw462 qw463 qw4 qw464 ok_Jx4a65c_size_8abf5 ⟨Nat.le_of_ble_eq_true rfl, Nat.le_of_ble_eq_true rfl⟩) ⟨PR.blind, va_recv hK (sub_X_LS (μ := μ) hP) (ci := 0) (q0 := 0) rfl rfl, fun U hU hW => ⟨rfl, by rw [hU]; exact (hC.at hS hZ).warm hW, by rw [hU]; exact (sub_X_LS (μ := μ) hP)⟩⟩ rfl rfl hl.1 rfl (lv_room (Nat.le_of_ble_eq_true rfl)) dX4_count_168 ⟨Nat.le_of_ble_eq_true rfl, Nat.le_of_ble_eq_true rfl⟩) ?_
                          exact absurd (Option.some.inj h) (fun z => by cases z)
                        · have h := iteF hc11 h
                          refine lv_tableOut (tgt := 172) hx hb dX4_count_1 (sw_out2 (n := 12) (by decide) (by decide) (by decide) (fun k9 hk9 => by rcases (show k9 = 0 ∨ k9 = 1 ∨ k9 = 2 ∨ k9 = 3 ∨ k9 = 4 ∨ k9 = 5 ∨ k9 = 6 ∨ k9 = 7 ∨ k9 = 8 ∨ k9 = 9 ∨ k9 = 10 ∨ k9 = 11 by omega) with rfl | rfl | rfl | rfl | rfl | rfl | rfl | rfl | rfl | rfl | rfl | rfl <;> assumption)) (by decide) ?_
                          obtain rfl := Sum.inr.inj (Option.some.inj h)
                          obtain ⟨sa, hsa⟩ := hC.2.2.2.2.2.1 ("BentGardens", 265, "what is not 0 to 11") (by decide +kernel)
                          refine vx_throwSW hx hb hl9 hown (cls := "java/lang/IllegalArgumentException") (names := ["java/lang/RuntimeException", "java/lang/Exception"]) (by decide) (by decide) (hts _ qw389) (hts _ qw16) hsa (at_words hts hC.2.1 at_IllegalArgumentException) ato_IllegalArgumentException (hC.2.2.2.2.2.2.2.1.narrow hZ) (hC.2.2.2.2.2.2.2.2.1.narrow hZ) hS (hl.1.trans hml.symm) dX4_count_172 dX4_count_175 dX4_count_176 dX4_count_179 dX4_count_182 (fun x9 hx9 => (hT x9 hx9).elim) (Nat.le_of_ble_eq_true rfl) (Nat.le_of_ble_eq_true rfl) (Nat.le_of_ble_eq_true rfl) (Nat.le_of_ble_eq_true rfl) hlocks (fun t9 _ h8 h9 => XM.mk hP hD hS h8 h9) hS.2.2 (Nat.le_of_ble_eq_true rfl) (Nat.le_of_ble_eq_true rfl)

abbrev rm_X4_whyNot : Room := { frames := 7, cells := 0, slots := 0, locals := 140 }
theorem ok_X4_whyNot : okY yX4_whyNot 3 := ⟨by decide +kernel, by decide +kernel, by decide +kernel⟩
set_option maxHeartbeats 4000000 in
set_option maxRecDepth 100000 in
theorem c_X4_whyNot (l : Launch) (z0 : Nat) (D : va_G) (t : Nat → ClassId) (x0 : Nat) (s0 : Nat) (s1 : Nat) (e0 : Nat) (E : Nat → Nat) (A : Nat → Nat) (B : Nat → Nat) (G : Nat → Nat) (T : va_W) (μ : XS) (a1 : Int32) (a2 : Int32) (a3 : Int32) (res : Int32) (h : f_X4_whyNot μ a1 a2 a3 = some (.inl res)) : Met l yX4_whyNot (ws_ yX4_whyNot cX4_whyNot 4 (some .int)) rm_X4_whyNot (PR z0 D t [.ref (x0), .int a1, .int a2, .int a3] (XW x0 s0 s1 e0 E A B G T t μ)) (QR (some (.int res))) 0 0 FN := by
  refine Met.ofW (cc := cX4_whyNot) (maxL := 4) (ret := (some .int)) (by decide) rfl ?_
  intro p e s m args below meth c s₁ Bo hml hv
  obtain ⟨rfl, hC, hP⟩ := hv
  have hx := Bo.exec
  have hb := Bo.bytes
  have hr := Bo.returns
  have hts : ∀ w ∈ LA, w.before _ s = true := fun w hw => atoms_spec (ws := ws_ yX4_whyNot cX4_whyNot 4 (some .int)) Bo.pre w (List.mem_cons_of_mem _ hw)
  have hown : s.vm.findClass RX4 = some m.cls := findClass_of_methodNamed Bo.named
  have hlocks := Bo.notSynchronized
  have hK := hC.1
  have hl := lv_entry ([.ref (x0), .int a1, .int a2, .int a3]) (n := 4) (Nat.le_of_ble_eq_true rfl)
  rw [lg_entry_eq]
  generalize (lg_sl ([.ref (x0), .int a1, .int a2, .int a3]) ++ List.replicate (4 - (lg_sl ([.ref (x0), .int a1, .int a2, .int a3])).length) Slot.unset).toArray = ls at hl ⊢
  have hl : lv_has ls 4 [(0, .ref (x0)), (1, .int a1), (2, .int a2), (3, .int a3)] := hl
  unfold f_X4_whyNot at h
  refine lv_iload_n hx hb dX4_whyNot_0 rfl (lv_at hl 3 rfl) ?_
  obtain ⟨r1o, er1, h⟩ := obind h
  rcases r1o with r1 | Er1
  · replace h := sumL h
    refine call_R (va_runS (As := [.int a3]) (rest := []) ⟨hx, hb, hml, hown, hts⟩ (c_X4_requireTurn l z0 D t a3 _ er1) (kS hts qw612 qw613 qw1 qw614 ok_X4_requireTurn ⟨Nat.le_of_ble_eq_true rfl, Nat.le_of_ble_eq_true rfl⟩) ⟨PR.blind, fun U hU hW => ⟨rfl, by rw [hU]; exact hC.warm hW, by rw [hU]; exact va_P_nil⟩⟩ rfl rfl hl.1 rfl (lv_room (Nat.le_of_ble_eq_true rfl)) dX4_whyNot_1 ⟨Nat.le_of_ble_eq_true rfl, Nat.le_of_ble_eq_true rfl⟩) ?_
    refine lv_aload_n hx hb dX4_whyNot_4 rfl (lv_at hl 0 rfl) ?_
    refine va_get hx hb hts inX4 hown hK hP 0 rfl rfl 4 (by decide) (hts _ qw159) (fun _ h9 => h9) rfl dX4_whyNot_5 ?_
    refine lv_iload_n hx hb dX4_whyNot_8 rfl (lv_at hl 1 rfl) ?_
    refine lv_iload_n hx hb dX4_whyNot_9 rfl (lv_at hl 2 rfl) ?_
    refine lv_iload_n hx hb dX4_whyNot_10 rfl (lv_at hl 3 rfl) ?_
    obtain ⟨r2, er2, h⟩ := obind h
    refine call_R (va_runV (As := [.int a1, .int a2, .int a3]) (rest := []) ⟨hx, hb, hml, hown, hts⟩ (c_X1_whyRefused l z0 D t G ((x_wide μ), (x_high μ), (x_pond μ), (x_walls μ), (x_paved μ), (x_tc μ), (x_flips μ), (x_refused μ), (x_names μ)) a1 a2 a3 _ er2) (kV hts qw616 qw617 qw618 qw8 qw619 ok_X1_whyRefused ⟨Nat.le_of_ble_eq_true rfl, Nat.le_of_ble_eq_true rfl⟩) ⟨PR.blind, va_recv hK (sub_X_G (μ := μ) hP) (ci := 2) (q0 := 0) rfl rfl, fun U hU hW => ⟨rfl, by rw [hU]; exact hC.warm hW, by rw [hU]; exact (sub_X_G (μ := μ) hP)⟩⟩ rfl rfl hl.1 rfl (lv_room (Nat.le_of_ble_eq_true rfl)) dX4_whyNot_11 ⟨Nat.le_of_ble_eq_true rfl, Nat.le_of_ble_eq_true rfl⟩) ?_
    obtain rfl := Sum.inl.inj (Option.some.inj h)
    exact W.iret hx hb hr (fun t ht hW => ⟨rfl, ht⟩) (fun q hq => absurd hq List.not_mem_nil) dX4_whyNot_14
  · replace h := sumR h
    exact absurd (Option.some.inj h) (fun z => by cases z)

abbrev rx_X4_whyNot : Room := { frames := 7, cells := 1, slots := 6, locals := 140 }
set_option maxHeartbeats 4000000 in
set_option maxRecDepth 100000 in
theorem x_X4_whyNot (l : Launch) (hl9 : l.stackTraces = false) (z0 : Nat) (D : va_G) (t : Nat → ClassId) (x0 : Nat) (s0 : Nat) (s1 : Nat) (e0 : Nat) (E : Nat → Nat) (A : Nat → Nat) (B : Nat → Nat) (G : Nat → Nat) (T : va_W) (μ : XS) (a1 : Int32) (a2 : Int32) (a3 : Int32) (xE : String) (sz : Nat) (h : f_X4_whyNot μ a1 a2 a3 = some (.inr xE)) : vx_Met l yX4_whyNot (ws_ yX4_whyNot cX4_whyNot 4 (some .int)) rx_X4_whyNot (PM z0 D t [.ref (x0), .int a1, .int a2, .int a3] (XW x0 s0 s1 e0 E A B G T t μ) (XL x0 s0 s1 e0 E A B G T μ) sz) (fun _ _ _ _ => False) (XM xE D (XW x0 s0 s1 e0 E A B G T t μ) (XL x0 s0 s1 e0 E A B G T μ) sz) 1 6 (OA (XL x0 s0 s1 e0 E A B G T μ) sz) := by
  refine vx_ofW (cc := cX4_whyNot) (maxL := 4) (ret := (some .int)) (by decide) rfl ?_
  intro p e s m args below meth c s₁ Bo hml hT hv
  obtain ⟨rfl, hC, hsz, hP, hD, hZ⟩ := hv
  have hx := Bo.exec
  have hb := Bo.bytes
  have hr := Bo.returns
  have hts : ∀ w ∈ LA, w.before _ s = true := fun w hw => atoms_spec (ws := ws_ yX4_whyNot cX4_whyNot 4 (some .int)) Bo.pre w (List.mem_cons_of_mem _ hw)
  have hown : s.vm.findClass RX4 = some m.cls := findClass_of_methodNamed Bo.named
  have hlocks := Bo.notSynchronized
  have hK := hC.1
  subst hsz
  have hl := lv_entry ([.ref (x0), .int a1, .int a2, .int a3]) (n := 4) (Nat.le_of_ble_eq_true rfl)
  rw [lg_entry_eq]
  generalize (lg_sl ([.ref (x0), .int a1, .int a2, .int a3]) ++ List.replicate (4 - (lg_sl ([.ref (x0), .int a1, .int a2, .int a3])).length) Slot.unset).toArray = ls at hl ⊢
  have hl : lv_has ls 4 [(0, .ref (x0)), (1, .int a1), (2, .int a2), (3, .int a3)] := hl
  suffices K9 : ∀ (H : Heap) (locs : List Loc), va_P D vwCl (XW x0 s0 s1 e0 E A B G T t μ) H → va_S (OA (XL x0 s0 s1 e0 E A B G T μ) s.heap.size) s.heap H locs → W p l e (headSpec (ws_ yX4_whyNot cX4_whyNot 4 (some .int)) rx_X4_whyNot).room s m ([.ref (x0), .int a1, .int a2, .int a3] : List Value).toArray below meth c H locs 0 0 (vx_MQ below (fun _ _ _ _ => False) (XM xE D (XW x0 s0 s1 e0 E A B G T t μ) (XL x0 s0 s1 e0 E A B G T μ) s.heap.size) ([.ref (x0), .int a1, .int a2, .int a3] : List Value).toArray s 1 6 (OA (XL x0 s0 s1 e0 E A B G T μ) s.heap.size)) (F0 m 0 ls []) from K9 s.heap [] hP va_S.rf
  intro H locs hP hS
  have hSz : s.heap.size ≤ H.size := hS.1
  unfold f_X4_whyNot at h
  refine lv_iload_n hx hb dX4_whyNot_0 rfl (lv_at hl 3 rfl) ?_
  obtain ⟨r1o, er1, h⟩ := obind h
  rcases r1o with r1 | Er1
  · replace h := sumL h
    refine call_R (va_runS (As := [.int a3]) (rest := []) ⟨hx, hb, hml, hown, hts⟩ (c_X4_requireTurn l z0 D t a3 _ er1) (kS hts qw612 qw613 qw1 qw614 ok_X4_requireTurn ⟨Nat.le_of_ble_eq_true rfl, Nat.le_of_ble_eq_true rfl⟩) ⟨PR.blind, fun U hU hW => ⟨rfl, by rw [hU]; exact (hC.at hS hZ).warm hW, by rw [hU]; exact va_P_nil⟩⟩ rfl rfl hl.1 rfl (lv_room (Nat.le_of_ble_eq_true rfl)) dX4_whyNot_1 ⟨Nat.le_of_ble_eq_true rfl, Nat.le_of_ble_eq_true rfl⟩) ?_
    refine lv_aload_n hx hb dX4_whyNot_4 rfl (lv_at hl 0 rfl) ?_
    refine va_get hx hb hts inX4 hown hK hP 0 rfl rfl 4 (by decide) (hts _ qw159) (fun _ h9 => h9) rfl dX4_whyNot_5 ?_
    refine lv_iload_n hx hb dX4_whyNot_8 rfl (lv_at hl 1 rfl) ?_
    refine lv_iload_n hx hb dX4_whyNot_9 rfl (lv_at hl 2 rfl) ?_
    refine lv_iload_n hx hb dX4_whyNot_10 rfl (lv_at hl 3 rfl) ?_
    obtain ⟨r2, er2, h⟩ := obind h
    refine call_R (va_runV (As := [.int a1, .int a2, .int a3]) (rest := []) ⟨hx, hb, hml, hown, hts⟩ (c_X1_whyRefused l z0 D t G ((x_wide μ), (x_high μ), (x_pond μ), (x_walls μ), (x_paved μ), (x_tc μ), (x_flips μ), (x_refused μ), (x_names μ)) a1 a2 a3 _ er2) (kV hts qw616 qw617 qw618 qw8 qw619 ok_X1_whyRefused ⟨Nat.le_of_ble_eq_true rfl, Nat.le_of_ble_eq_true rfl⟩) ⟨PR.blind, va_recv hK (sub_X_G (μ := μ) hP) (ci := 2) (q0 := 0) rfl rfl, fun U hU hW => ⟨rfl, by rw [hU]; exact (hC.at hS hZ).warm hW, by rw [hU]; exact (sub_X_G (μ := μ) hP)⟩⟩ rfl rfl hl.1 rfl (lv_room (Nat.le_of_ble_eq_true rfl)) dX4_whyNot_11 ⟨Nat.le_of_ble_eq_true rfl, Nat.le_of_ble_eq_true rfl⟩) ?_
    exact absurd (Option.some.inj h) (fun z => by cases z)
  · replace h := sumR h
    obtain rfl := Sum.inr.inj (Option.some.inj h)
    refine call_X (vx_runS (As := [.int a3]) (rest := []) ⟨hx, hb, hml, hown, hts⟩ (x_X4_requireTurn l hl9 z0 D t a3 _ H.size er1) (kS hts qw612 qw613 qw1 qw614 ok_X4_requireTurn ⟨Nat.le_of_ble_eq_true rfl, Nat.le_of_ble_eq_true rfl⟩) ⟨PM.blind, fun U hU hW => ⟨rfl, by rw [hU]; exact (hC.at hS hZ).warm hW, by rw [hU], by rw [hU]; exact va_P_nil, ⟨(va_D_nil (A := OA [] s.heap.size)).1, fun _ _ h9 => Or.inl (in_map (L := []) rfl h9)⟩, fun q hq => hZ q (OA.nil hSz q hq)⟩⟩ rfl rfl hl.1 rfl (lv_room (Nat.le_of_ble_eq_true rfl)) dX4_whyNot_1 ⟨Nat.le_of_ble_eq_true rfl, Nat.le_of_ble_eq_true rfl⟩) hS (OA.nil hSz) (fun H locs q9 ce9 hP1 hD1 hS hsz1 hk1 hce hcv hcc => ?_)
    have hP : va_P D vwCl (XW x0 s0 s1 e0 E A B G T t μ) H := va_P.keptN hP hk1
    exact vx_out (fun x9 hx9 => (hT x9 hx9).elim) hlocks hce hcv hcc (fun t9 h8 _ => XM.mk2 hP hD hS h8) hS.2.2 (Nat.le_of_ble_eq_true rfl) (Nat.le_of_ble_eq_true rfl)

abbrev rm_X4_waysWith : Room := { frames := 7, cells := 0, slots := 0, locals := 140 }
theorem ok_X4_waysWith : okY yX4_waysWith 3 := ⟨by decide +kernel, by decide +kernel, by decide +kernel⟩
set_option maxHeartbeats 4000000 in
set_option maxRecDepth 100000 in
theorem c_X4_waysWith (l : Launch) (z0 : Nat) (D : va_G) (t : Nat → ClassId) (x0 : Nat) (s0 : Nat) (s1 : Nat) (e0 : Nat) (E : Nat → Nat) (A : Nat → Nat) (B : Nat → Nat) (G : Nat → Nat) (T : va_W) (μ : XS) (a1 : Int32) (a2 : Int32) (a3 : Int32) (res : Int32 × (Nat → Int32) × (Nat → Nat) × (Nat → Nat) × (Int32) × (Nat → Int32) × (Nat → Int32) × (Int32) × (Nat → Int32) × (Nat → Int32)) (sz : Nat) (h : f_X4_waysWith μ a1 a2 a3 = some (.inl res)) : Met l yX4_waysWith (ws_ yX4_waysWith cX4_waysWith 4 (some .int)) rm_X4_waysWith (PM z0 D t [.ref (x0), .int a1, .int a2, .int a3] (XW x0 s0 s1 e0 E A B G T t μ) (XL x0 s0 s1 e0 E A B G T μ) sz) (QM (some (.int res.1)) D (XW x0 s0 s1 e0 E A B G T t (x_length μ, x_codes μ, x_rest μ, res.2.1, res.2.2.1, res.2.2.2.1, res.2.2.2.2.1, res.2.2.2.2.2.1, res.2.2.2.2.2.2.1, res.2.2.2.2.2.2.2.1, res.2.2.2.2.2.2.2.2.1, res.2.2.2.2.2.2.2.2.2, x_wide μ, x_high μ, x_pond μ, x_walls μ, x_paved μ, x_tc μ, x_flips μ, x_refused μ, x_names μ, x_sl μ, x_lmod μ, x_lsize μ)) (XL x0 s0 s1 e0 E A B G T μ) sz) 0 0 (OA (XL x0 s0 s1 e0 E A B G T μ) sz) := by
  refine Met.ofW (cc := cX4_waysWith) (maxL := 4) (ret := (some .int)) (by decide) rfl ?_
  intro p e s m args below meth c s₁ Bo hml hv
  obtain ⟨rfl, hC, hsz, hP, hD, hZ⟩ := hv
  have hx := Bo.exec
  have hb := Bo.bytes
  have hr := Bo.returns
  have hts : ∀ w ∈ LA, w.before _ s = true := fun w hw => atoms_spec (ws := ws_ yX4_waysWith cX4_waysWith 4 (some .int)) Bo.pre w (List.mem_cons_of_mem _ hw)
  have hown : s.vm.findClass RX4 = some m.cls := findClass_of_methodNamed Bo.named
  have hlocks := Bo.notSynchronized
  have hK := hC.1
  subst hsz
  have hl := lv_entry ([.ref (x0), .int a1, .int a2, .int a3]) (n := 4) (Nat.le_of_ble_eq_true rfl)
  rw [lg_entry_eq]
  generalize (lg_sl ([.ref (x0), .int a1, .int a2, .int a3]) ++ List.replicate (4 - (lg_sl ([.ref (x0), .int a1, .int a2, .int a3])).length) Slot.unset).toArray = ls at hl ⊢
  have hl : lv_has ls 4 [(0, .ref (x0)), (1, .int a1), (2, .int a2), (3, .int a3)] := hl
  suffices K9 : ∀ (H : Heap) (locs : List Loc), va_P D vwCl (XW x0 s0 s1 e0 E A B G T t μ) H → va_S (OA (XL x0 s0 s1 e0 E A B G T μ) s.heap.size) s.heap H locs → W p l e (headSpec (ws_ yX4_waysWith cX4_waysWith 4 (some .int)) rm_X4_waysWith).room s m ([.ref (x0), .int a1, .int a2, .int a3] : List Value).toArray below meth c H locs 0 0 (MQ below (QM (some (.int res.1)) D (XW x0 s0 s1 e0 E A B G T t (x_length μ, x_codes μ, x_rest μ, res.2.1, res.2.2.1, res.2.2.2.1, res.2.2.2.2.1, res.2.2.2.2.2.1, res.2.2.2.2.2.2.1, res.2.2.2.2.2.2.2.1, res.2.2.2.2.2.2.2.2.1, res.2.2.2.2.2.2.2.2.2, x_wide μ, x_high μ, x_pond μ, x_walls μ, x_paved μ, x_tc μ, x_flips μ, x_refused μ, x_names μ, x_sl μ, x_lmod μ, x_lsize μ)) (XL x0 s0 s1 e0 E A B G T μ) s.heap.size) ([.ref (x0), .int a1, .int a2, .int a3] : List Value).toArray s 0 0 (OA (XL x0 s0 s1 e0 E A B G T μ) s.heap.size)) (F0 m 0 ls []) from K9 s.heap [] hP va_S.rf
  intro H locs hP hS
  have hSz : s.heap.size ≤ H.size := hS.1
  unfold f_X4_waysWith at h
  refine lv_iload_n hx hb dX4_waysWith_0 rfl (lv_at hl 3 rfl) ?_
  obtain ⟨r1o, er1, h⟩ := obind h
  rcases r1o with r1 | Er1
  · replace h := sumL h
    refine call_R (va_runS (As := [.int a3]) (rest := []) ⟨hx, hb, hml, hown, hts⟩ (c_X4_requireTurn l z0 D t a3 _ er1) (kS hts qw612 qw613 qw1 qw614 ok_X4_requireTurn ⟨Nat.le_of_ble_eq_true rfl, Nat.le_of_ble_eq_true rfl⟩) ⟨PR.blind, fun U hU hW => ⟨rfl, by rw [hU]; exact (hC.at hS hZ).warm hW, by rw [hU]; exact va_P_nil⟩⟩ rfl rfl hl.1 rfl (lv_room (Nat.le_of_ble_eq_true rfl)) dX4_waysWith_1 ⟨Nat.le_of_ble_eq_true rfl, Nat.le_of_ble_eq_true rfl⟩) ?_
    refine lv_aload_n hx hb dX4_waysWith_4 rfl (lv_at hl 0 rfl) ?_
    refine va_get hx hb hts inX4 hown hK hP 0 rfl rfl 4 (by decide) (hts _ qw159) (fun _ h9 => h9) rfl dX4_waysWith_5 ?_
    refine lv_iload_n hx hb dX4_waysWith_8 rfl (lv_at hl 1 rfl) ?_
    refine lv_iload_n hx hb dX4_waysWith_9 rfl (lv_at hl 2 rfl) ?_
    refine lv_iload_n hx hb dX4_waysWith_10 rfl (lv_at hl 3 rfl) ?_
    obtain ⟨r2, er2, h⟩ := obind h
    refine call_R (va_runV (As := [.int a1, .int a2, .int a3]) (rest := []) ⟨hx, hb, hml, hown, hts⟩ (c_X1_whyRefused l z0 D t G ((x_wide μ), (x_high μ), (x_pond μ), (x_walls μ), (x_paved μ), (x_tc μ), (x_flips μ), (x_refused μ), (x_names μ)) a1 a2 a3 _ er2) (kV hts qw616 qw617 qw618 qw8 qw619 ok_X1_whyRefused ⟨Nat.le_of_ble_eq_true rfl, Nat.le_of_ble_eq_true rfl⟩) ⟨PR.blind, va_recv hK (sub_X_G (μ := μ) hP) (ci := 2) (q0 := 0) rfl rfl, fun U hU hW => ⟨rfl, by rw [hU]; exact (hC.at hS hZ).warm hW, by rw [hU]; exact (sub_X_G (μ := μ) hP)⟩⟩ rfl rfl hl.1 rfl (lv_room (Nat.le_of_ble_eq_true rfl)) dX4_waysWith_11 ⟨Nat.le_of_ble_eq_true rfl, Nat.le_of_ble_eq_true rfl⟩) ?_
    refine lv_if_eq (tgt := 19) hx hb dX4_waysWith_14 (by decide) (fun hc => ?_) (fun hc => ?_)
    · have h := iteT hc h
      refine lv_aload_n hx hb dX4_waysWith_19 rfl (lv_at hl 0 rfl) ?_
      refine va_get hx hb hts inX4 hown hK hP 0 rfl rfl 3 (by decide) (hts _ qw158) (fun _ h9 => h9) rfl dX4_waysWith_20 ?_
      refine lv_aload_n hx hb dX4_waysWith_23 rfl (lv_at hl 0 rfl) ?_
      refine va_get hx hb hts inX4 hown hK hP 0 rfl rfl 4 (by decide) (hts _ qw159) (fun _ h9 => h9) rfl dX4_waysWith_24 ?_
      obtain ⟨r3, er3, h⟩ := obind h
      refine call_R (va_runV (As := []) (rest := [.ref (A 0)]) ⟨hx, hb, hml, hown, hts⟩ (c_X1_freeCells l z0 D t G ((x_wide μ), (x_high μ), (x_pond μ), (x_walls μ), (x_paved μ), (x_tc μ), (x_flips μ), (x_refused μ), (x_names μ)) _ er3) (kV hts qw236 qw237 qw238 qw8 qw239 ok_X1_freeCells ⟨Nat.le_of_ble_eq_true rfl, Nat.le_of_ble_eq_true rfl⟩) ⟨PR.blind, va_recv hK (sub_X_G (μ := μ) hP) (ci := 2) (q0 := 0) rfl rfl, fun U hU hW => ⟨rfl, by rw [hU]; exact (hC.at hS hZ).warm hW, by rw [hU]; exact (sub_X_G (μ := μ) hP)⟩⟩ rfl rfl hl.1 rfl (lv_room (Nat.le_of_ble_eq_true rfl)) dX4_waysWith_27 ⟨Nat.le_of_ble_eq_true rfl, Nat.le_of_ble_eq_true rfl⟩) ?_
      refine lv_iload_n hx hb dX4_waysWith_30 rfl (lv_at hl 1 rfl) ?_
      refine lv_iload_n hx hb dX4_waysWith_31 rfl (lv_at hl 2 rfl) ?_
      refine lv_iload_n hx hb dX4_waysWith_32 rfl (lv_at hl 3 rfl) ?_
      obtain ⟨r4, er4, h⟩ := obind h
      refine call_R (va_runS (As := [.int a1, .int a2, .int a3]) (rest := [.long r3, .ref (A 0)]) ⟨hx, hb, hml, hown, hts⟩ (c_X4_cellsOf l z0 D t a1 a2 a3 _ er4) (kS hts qw832 qw306 qw1 qw307 ok_X4_cellsOf ⟨Nat.le_of_ble_eq_true rfl, Nat.le_of_ble_eq_true rfl⟩) ⟨PR.blind, fun U hU hW => ⟨rfl, by rw [hU]; exact (hC.at hS hZ).warm hW, by rw [hU]; exact va_P_nil⟩⟩ rfl rfl hl.1 rfl (lv_room (Nat.le_of_ble_eq_true rfl)) dX4_waysWith_33 ⟨Nat.le_of_ble_eq_true rfl, Nat.le_of_ble_eq_true rfl⟩) ?_
      refine lv_ldc2 (v := (-1)) hx hb hown (hts _ qw833) dX4_waysWith_36 ?_
      refine lv_lxor hx hb dX4_waysWith_39 ?_
      refine lv_land hx hb dX4_waysWith_40 ?_
      obtain ⟨r5, er5, h⟩ := obind h
      refine call_M (va_runV (As := [.long (r3 &&& (r4 ^^^ (-1 : Int64)))]) (rest := []) ⟨hx, hb, hml, hown, hts⟩ (c_X2_waysToPave l z0 D t A B ((x_rest μ), (x_takes μ), (x_u1 μ), (x_u2 μ), (x_hsz μ), (x_hwin μ), (x_hway μ), (x_nsz μ), (x_nwin μ), (x_nway μ)) (r3 &&& (r4 ^^^ (-1 : Int64))) _ H.size er5) (kV hts qw249 qw250 qw251 qw6 qw252 ok_X2_waysToPave ⟨Nat.le_of_ble_eq_true rfl, Nat.le_of_ble_eq_true rfl⟩) ⟨PM.blind, va_recv hK (sub_X_V (μ := μ) hP) (ci := 3) (q0 := 0) rfl rfl, fun U hU hW => ⟨rfl, by rw [hU]; exact (hC.at hS hZ).warm hW, by rw [hU], by rw [hU]; exact (sub_X_V (μ := μ) hP), ⟨(subD_X_V (μ := μ) hD).1, fun _ _ h9 => Or.inl (in_map (L := (VL A B ((x_rest μ), (x_takes μ), (x_u1 μ), (x_u2 μ), (x_hsz μ), (x_hwin μ), (x_hway μ), (x_nsz μ), (x_nwin μ), (x_nway μ)))) rfl h9)⟩, fun q hq => hZ q (OA.ofD (subD_X_V (μ := μ) hD) rfl hSz q hq)⟩⟩ rfl rfl hl.1 rfl (lv_room (Nat.le_of_ble_eq_true rfl)) dX4_waysWith_41 ⟨Nat.le_of_ble_eq_true rfl, Nat.le_of_ble_eq_true rfl⟩) hS (OA.ofD (subD_X_V (μ := μ) hD) rfl hSz) (fun H locs hP1 hD1 hS _ hk1 => ?_)
      obtain ⟨hP, hD⟩ := back_X_V (μ := μ) hP hD hk1 (OA.ofD (subD_X_V (μ := μ) hD) rfl hSz) hP1 hD1
      have hP : va_P D vwCl (XW x0 s0 s1 e0 E A B G T t (x_length μ, x_codes μ, x_rest μ, r5.2.1, r5.2.2.1, r5.2.2.2.1, r5.2.2.2.2.1, r5.2.2.2.2.2.1, r5.2.2.2.2.2.2.1, r5.2.2.2.2.2.2.2.1, r5.2.2.2.2.2.2.2.2.1, r5.2.2.2.2.2.2.2.2.2, x_wide μ, x_high μ, x_pond μ, x_walls μ, x_paved μ, x_tc μ, x_flips μ, x_refused μ, x_names μ, x_sl μ, x_lmod μ, x_lsize μ)) H := hP
      have hD : va_D (OA (XL x0 s0 s1 e0 E A B G T μ) s.heap.size) (XW x0 s0 s1 e0 E A B G T t (x_length μ, x_codes μ, x_rest μ, r5.2.1, r5.2.2.1, r5.2.2.2.1, r5.2.2.2.2.1, r5.2.2.2.2.2.1, r5.2.2.2.2.2.2.1, r5.2.2.2.2.2.2.2.1, r5.2.2.2.2.2.2.2.2.1, r5.2.2.2.2.2.2.2.2.2, x_wide μ, x_high μ, x_pond μ, x_walls μ, x_paved μ, x_tc μ, x_flips μ, x_refused μ, x_names μ, x_sl μ, x_lmod μ, x_lsize μ)) := hD
      have hSz : s.heap.size ≤ H.size := hS.1
      obtain rfl := Sum.inl.inj (Option.some.inj h)
      exact W.iret hx hb hr (fun t ht hW => ⟨rfl, by rw [ht]; exact hP, hD, hS.F ht⟩) hS.2.2 dX4_waysWith_44
    · have h := iteF hc h
      refine lv_iconst (v := (-1)) hx hb dX4_waysWith_17 (by decide) ?_
      obtain rfl := Sum.inl.inj (Option.some.inj h)
      exact W.iret hx hb hr (fun t ht hW => ⟨rfl, by rw [ht]; exact hP, hD, hS.F ht⟩) hS.2.2 dX4_waysWith_18
  · replace h := sumR h
    exact absurd (Option.some.inj h) (fun z => by cases z)

abbrev rx_X4_waysWith : Room := { frames := 7, cells := 1, slots := 6, locals := 140 }
set_option maxHeartbeats 4000000 in
set_option maxRecDepth 100000 in
theorem x_X4_waysWith (l : Launch) (hl9 : l.stackTraces = false) (z0 : Nat) (D : va_G) (t : Nat → ClassId) (x0 : Nat) (s0 : Nat) (s1 : Nat) (e0 : Nat) (E : Nat → Nat) (A : Nat → Nat) (B : Nat → Nat) (G : Nat → Nat) (T : va_W) (μ : XS) (a1 : Int32) (a2 : Int32) (a3 : Int32) (xE : String) (sz : Nat) (h : f_X4_waysWith μ a1 a2 a3 = some (.inr xE)) : vx_Met l yX4_waysWith (ws_ yX4_waysWith cX4_waysWith 4 (some .int)) rx_X4_waysWith (PM z0 D t [.ref (x0), .int a1, .int a2, .int a3] (XW x0 s0 s1 e0 E A B G T t μ) (XL x0 s0 s1 e0 E A B G T μ) sz) (fun _ _ _ _ => False) (XM xE D (XW x0 s0 s1 e0 E A B G T t μ) (XL x0 s0 s1 e0 E A B G T μ) sz) 1 6 (OA (XL x0 s0 s1 e0 E A B G T μ) sz) := by
  refine vx_ofW (cc := cX4_waysWith) (maxL := 4) (ret := (some .int)) (by decide) rfl ?_
  intro p e s m args below meth c s₁ Bo hml hT hv
  obtain ⟨rfl, hC, hsz, hP, hD, hZ⟩ := hv
  have hx := Bo.exec
  have hb := Bo.bytes
  have hr := Bo.returns
  have hts : ∀ w ∈ LA, w.before _ s = true := fun w hw => atoms_spec (ws := ws_ yX4_waysWith cX4_waysWith 4 (some .int)) Bo.pre w (List.mem_cons_of_mem _ hw)
  have hown : s.vm.findClass RX4 = some m.cls := findClass_of_methodNamed Bo.named
  have hlocks := Bo.notSynchronized
  have hK := hC.1
  subst hsz
  have hl := lv_entry ([.ref (x0), .int a1, .int a2, .int a3]) (n := 4) (Nat.le_of_ble_eq_true rfl)
  rw [lg_entry_eq]
  generalize (lg_sl ([.ref (x0), .int a1, .int a2, .int a3]) ++ List.replicate (4 - (lg_sl ([.ref (x0), .int a1, .int a2, .int a3])).length) Slot.unset).toArray = ls at hl ⊢
  have hl : lv_has ls 4 [(0, .ref (x0)), (1, .int a1), (2, .int a2), (3, .int a3)] := hl
  suffices K9 : ∀ (H : Heap) (locs : List Loc), va_P D vwCl (XW x0 s0 s1 e0 E A B G T t μ) H → va_S (OA (XL x0 s0 s1 e0 E A B G T μ) s.heap.size) s.heap H locs → W p l e (headSpec (ws_ yX4_waysWith cX4_waysWith 4 (some .int)) rx_X4_waysWith).room s m ([.ref (x0), .int a1, .int a2, .int a3] : List Value).toArray below meth c H locs 0 0 (vx_MQ below (fun _ _ _ _ => False) (XM xE D (XW x0 s0 s1 e0 E A B G T t μ) (XL x0 s0 s1 e0 E A B G T μ) s.heap.size) ([.ref (x0), .int a1, .int a2, .int a3] : List Value).toArray s 1 6 (OA (XL x0 s0 s1 e0 E A B G T μ) s.heap.size)) (F0 m 0 ls []) from K9 s.heap [] hP va_S.rf
  intro H locs hP hS
  have hSz : s.heap.size ≤ H.size := hS.1
  unfold f_X4_waysWith at h
  refine lv_iload_n hx hb dX4_waysWith_0 rfl (lv_at hl 3 rfl) ?_
  obtain ⟨r1o, er1, h⟩ := obind h
  rcases r1o with r1 | Er1
  · replace h := sumL h
    refine call_R (va_runS (As := [.int a3]) (rest := []) ⟨hx, hb, hml, hown, hts⟩ (c_X4_requireTurn l z0 D t a3 _ er1) (kS hts qw612 qw613 qw1 qw614 ok_X4_requireTurn ⟨Nat.le_of_ble_eq_true rfl, Nat.le_of_ble_eq_true rfl⟩) ⟨PR.blind, fun U hU hW => ⟨rfl, by rw [hU]; exact (hC.at hS hZ).warm hW, by rw [hU]; exact va_P_nil⟩⟩ rfl rfl hl.1 rfl (lv_room (Nat.le_of_ble_eq_true rfl)) dX4_waysWith_1 ⟨Nat.le_of_ble_eq_true rfl, Nat.le_of_ble_eq_true rfl⟩) ?_
    refine lv_aload_n hx hb dX4_waysWith_4 rfl (lv_at hl 0 rfl) ?_
    refine va_get hx hb hts inX4 hown hK hP 0 rfl rfl 4 (by decide) (hts _ qw159) (fun _ h9 => h9) rfl dX4_waysWith_5 ?_
    refine lv_iload_n hx hb dX4_waysWith_8 rfl (lv_at hl 1 rfl) ?_
    refine lv_iload_n hx hb dX4_waysWith_9 rfl (lv_at hl 2 rfl) ?_
    refine lv_iload_n hx hb dX4_waysWith_10 rfl (lv_at hl 3 rfl) ?_
    obtain ⟨r2, er2, h⟩ := obind h
    refine call_R (va_runV (As := [.int a1, .int a2, .int a3]) (rest := []) ⟨hx, hb, hml, hown, hts⟩ (c_X1_whyRefused l z0 D t G ((x_wide μ), (x_high μ), (x_pond μ), (x_walls μ), (x_paved μ), (x_tc μ), (x_flips μ), (x_refused μ), (x_names μ)) a1 a2 a3 _ er2) (kV hts qw616 qw617 qw618 qw8 qw619 ok_X1_whyRefused ⟨Nat.le_of_ble_eq_true rfl, Nat.le_of_ble_eq_true rfl⟩) ⟨PR.blind, va_recv hK (sub_X_G (μ := μ) hP) (ci := 2) (q0 := 0) rfl rfl, fun U hU hW => ⟨rfl, by rw [hU]; exact (hC.at hS hZ).warm hW, by rw [hU]; exact (sub_X_G (μ := μ) hP)⟩⟩ rfl rfl hl.1 rfl (lv_room (Nat.le_of_ble_eq_true rfl)) dX4_waysWith_11 ⟨Nat.le_of_ble_eq_true rfl, Nat.le_of_ble_eq_true rfl⟩) ?_
    refine lv_if_eq (tgt := 19) hx hb dX4_waysWith_14 (by decide) (fun hc => ?_) (fun hc => ?_)
    · have h := iteT hc h
      refine lv_aload_n hx hb dX4_waysWith_19 rfl (lv_at hl 0 rfl) ?_
      refine va_get hx hb hts inX4 hown hK hP 0 rfl rfl 3 (by decide) (hts _ qw158) (fun _ h9 => h9) rfl dX4_waysWith_20 ?_
      refine lv_aload_n hx hb dX4_waysWith_23 rfl (lv_at hl 0 rfl) ?_
      refine va_get hx hb hts inX4 hown hK hP 0 rfl rfl 4 (by decide) (hts _ qw159) (fun _ h9 => h9) rfl dX4_waysWith_24 ?_
      obtain ⟨r3, er3, h⟩ := obind h
      refine call_R (va_runV (As := []) (rest := [.ref (A 0)]) ⟨hx, hb, hml, hown, hts⟩ (c_X1_freeCells l z0 D t G ((x_wide μ), (x_high μ), (x_pond μ), (x_walls μ), (x_paved μ), (x_tc μ), (x_flips μ), (x_refused μ), (x_names μ)) _ er3) (kV hts qw236 qw237 qw238 qw8 qw239 ok_X1_freeCells ⟨Nat.le_of_ble_eq_true rfl, Nat.le_of_ble_eq_true rfl⟩) ⟨PR.blind, va_recv hK (sub_X_G (μ := μ) hP) (ci := 2) (q0 := 0) rfl rfl, fun U hU hW => ⟨rfl, by rw [hU]; exact (hC.at hS hZ).warm hW, by rw [hU]; exact (sub_X_G (μ := μ) hP)⟩⟩ rfl rfl hl.1 rfl (lv_room (Nat.le_of_ble_eq_true rfl)) dX4_waysWith_27 ⟨Nat.le_of_ble_eq_true rfl, Nat.le_of_ble_eq_true rfl⟩) ?_
      refine lv_iload_n hx hb dX4_waysWith_30 rfl (lv_at hl 1 rfl) ?_
      refine lv_iload_n hx hb dX4_waysWith_31 rfl (lv_at hl 2 rfl) ?_
      refine lv_iload_n hx hb dX4_waysWith_32 rfl (lv_at hl 3 rfl) ?_
      obtain ⟨r4, er4, h⟩ := obind h
      refine call_R (va_runS (As := [.int a1, .int a2, .int a3]) (rest := [.long r3, .ref (A 0)]) ⟨hx, hb, hml, hown, hts⟩ (c_X4_cellsOf l z0 D t a1 a2 a3 _ er4) (kS hts qw832 qw306 qw1 qw307 ok_X4_cellsOf ⟨Nat.le_of_ble_eq_true rfl, Nat.le_of_ble_eq_true rfl⟩) ⟨PR.blind, fun U hU hW => ⟨rfl, by rw [hU]; exact (hC.at hS hZ).warm hW, by rw [hU]; exact va_P_nil⟩⟩ rfl rfl hl.1 rfl (lv_room (Nat.le_of_ble_eq_true rfl)) dX4_waysWith_33 ⟨Nat.le_of_ble_eq_true rfl, Nat.le_of_ble_eq_true rfl⟩) ?_
      refine lv_ldc2 (v := (-1)) hx hb hown (hts _ qw833) dX4_waysWith_36 ?_
      refine lv_lxor hx hb dX4_waysWith_39 ?_
      refine lv_land hx hb dX4_waysWith_40 ?_
      obtain ⟨r5, er5, h⟩ := obind h
      refine call_M (va_runV (As := [.long (r3 &&& (r4 ^^^ (-1 : Int64)))]) (rest := []) ⟨hx, hb, hml, hown, hts⟩ (c_X2_waysToPave l z0 D t A B ((x_rest μ), (x_takes μ), (x_u1 μ), (x_u2 μ), (x_hsz μ), (x_hwin μ), (x_hway μ), (x_nsz μ), (x_nwin μ), (x_nway μ)) (r3 &&& (r4 ^^^ (-1 : Int64))) _ H.size er5) (kV hts qw249 qw250 qw251 qw6 qw252 ok_X2_waysToPave ⟨Nat.le_of_ble_eq_true rfl, Nat.le_of_ble_eq_true rfl⟩) ⟨PM.blind, va_recv hK (sub_X_V (μ := μ) hP) (ci := 3) (q0 := 0) rfl rfl, fun U hU hW => ⟨rfl, by rw [hU]; exact (hC.at hS hZ).warm hW, by rw [hU], by rw [hU]; exact (sub_X_V (μ := μ) hP), ⟨(subD_X_V (μ := μ) hD).1, fun _ _ h9 => Or.inl (in_map (L := (VL A B ((x_rest μ), (x_takes μ), (x_u1 μ), (x_u2 μ), (x_hsz μ), (x_hwin μ), (x_hway μ), (x_nsz μ), (x_nwin μ), (x_nway μ)))) rfl h9)⟩, fun q hq => hZ q (OA.ofD (subD_X_V (μ := μ) hD) rfl hSz q hq)⟩⟩ rfl rfl hl.1 rfl (lv_room (Nat.le_of_ble_eq_true rfl)) dX4_waysWith_41 ⟨Nat.le_of_ble_eq_true rfl, Nat.le_of_ble_eq_true rfl⟩) hS (OA.ofD (subD_X_V (μ := μ) hD) rfl hSz) (fun H locs hP1 hD1 hS _ hk1 => ?_)
      obtain ⟨hP, hD⟩ := back_X_V (μ := μ) hP hD hk1 (OA.ofD (subD_X_V (μ := μ) hD) rfl hSz) hP1 hD1
      have hP : va_P D vwCl (XW x0 s0 s1 e0 E A B G T t (x_length μ, x_codes μ, x_rest μ, r5.2.1, r5.2.2.1, r5.2.2.2.1, r5.2.2.2.2.1, r5.2.2.2.2.2.1, r5.2.2.2.2.2.2.1, r5.2.2.2.2.2.2.2.1, r5.2.2.2.2.2.2.2.2.1, r5.2.2.2.2.2.2.2.2.2, x_wide μ, x_high μ, x_pond μ, x_walls μ, x_paved μ, x_tc μ, x_flips μ, x_refused μ, x_names μ, x_sl μ, x_lmod μ, x_lsize μ)) H := hP
      have hD : va_D (OA (XL x0 s0 s1 e0 E A B G T μ) s.heap.size) (XW x0 s0 s1 e0 E A B G T t (x_length μ, x_codes μ, x_rest μ, r5.2.1, r5.2.2.1, r5.2.2.2.1, r5.2.2.2.2.1, r5.2.2.2.2.2.1, r5.2.2.2.2.2.2.1, r5.2.2.2.2.2.2.2.1, r5.2.2.2.2.2.2.2.2.1, r5.2.2.2.2.2.2.2.2.2, x_wide μ, x_high μ, x_pond μ, x_walls μ, x_paved μ, x_tc μ, x_flips μ, x_refused μ, x_names μ, x_sl μ, x_lmod μ, x_lsize μ)) := hD
      have hSz : s.heap.size ≤ H.size := hS.1
      exact absurd (Option.some.inj h) (fun z => by cases z)
    · have h := iteF hc h
      refine lv_iconst (v := (-1)) hx hb dX4_waysWith_17 (by decide) ?_
      exact absurd (Option.some.inj h) (fun z => by cases z)
  · replace h := sumR h
    obtain rfl := Sum.inr.inj (Option.some.inj h)
    refine call_X (vx_runS (As := [.int a3]) (rest := []) ⟨hx, hb, hml, hown, hts⟩ (x_X4_requireTurn l hl9 z0 D t a3 _ H.size er1) (kS hts qw612 qw613 qw1 qw614 ok_X4_requireTurn ⟨Nat.le_of_ble_eq_true rfl, Nat.le_of_ble_eq_true rfl⟩) ⟨PM.blind, fun U hU hW => ⟨rfl, by rw [hU]; exact (hC.at hS hZ).warm hW, by rw [hU], by rw [hU]; exact va_P_nil, ⟨(va_D_nil (A := OA [] s.heap.size)).1, fun _ _ h9 => Or.inl (in_map (L := []) rfl h9)⟩, fun q hq => hZ q (OA.nil hSz q hq)⟩⟩ rfl rfl hl.1 rfl (lv_room (Nat.le_of_ble_eq_true rfl)) dX4_waysWith_1 ⟨Nat.le_of_ble_eq_true rfl, Nat.le_of_ble_eq_true rfl⟩) hS (OA.nil hSz) (fun H locs q9 ce9 hP1 hD1 hS hsz1 hk1 hce hcv hcc => ?_)
    have hP : va_P D vwCl (XW x0 s0 s1 e0 E A B G T t μ) H := va_P.keptN hP hk1
    exact vx_out (fun x9 hx9 => (hT x9 hx9).elim) hlocks hce hcv hcc (fun t9 h8 _ => XM.mk2 hP hD hS h8) hS.2.2 (Nat.le_of_ble_eq_true rfl) (Nat.le_of_ble_eq_true rfl)

abbrev rm_X4_forced : Room := { frames := 6, cells := 0, slots := 0, locals := 137 }
theorem ok_X4_forced : okY yX4_forced 1 := ⟨by decide +kernel, by decide +kernel, by decide +kernel⟩
set_option maxHeartbeats 4000000 in
set_option maxRecDepth 100000 in
theorem c_X4_forced (l : Launch) (z0 : Nat) (D : va_G) (t : Nat → ClassId) (x0 : Nat) (s0 : Nat) (s1 : Nat) (e0 : Nat) (E : Nat → Nat) (A : Nat → Nat) (B : Nat → Nat) (G : Nat → Nat) (T : va_W) (μ : XS) (a1 : Int32) (res : Int32) (h : f_X4_forced μ a1 = some (.inl res)) : Met l yX4_forced (ws_ yX4_forced cX4_forced 3 (some .int)) rm_X4_forced (PR z0 D t [.ref (x0), .int a1] (XW x0 s0 s1 e0 E A B G T t μ)) (QR (some (.int res))) 0 0 FN := by
  refine Met.ofW (cc := cX4_forced) (maxL := 3) (ret := (some .int)) (by decide) rfl ?_
  intro p e s m args below meth c s₁ Bo hml hv
  obtain ⟨rfl, hC, hP⟩ := hv
  have hx := Bo.exec
  have hb := Bo.bytes
  have hr := Bo.returns
  have hts : ∀ w ∈ LA, w.before _ s = true := fun w hw => atoms_spec (ws := ws_ yX4_forced cX4_forced 3 (some .int)) Bo.pre w (List.mem_cons_of_mem _ hw)
  have hown : s.vm.findClass RX4 = some m.cls := findClass_of_methodNamed Bo.named
  have hlocks := Bo.notSynchronized
  have hK := hC.1
  have hl := lv_entry ([.ref (x0), .int a1]) (n := 3) (Nat.le_of_ble_eq_true rfl)
  rw [lg_entry_eq]
  generalize (lg_sl ([.ref (x0), .int a1]) ++ List.replicate (3 - (lg_sl ([.ref (x0), .int a1])).length) Slot.unset).toArray = ls at hl ⊢
  have hl : lv_has ls 3 [(0, .ref (x0)), (1, .int a1)] := hl
  unfold f_X4_forced at h
  refine lv_iload_n hx hb dX4_forced_0 rfl (lv_at hl 1 rfl) ?_
  refine lv_if_eq (tgt := 20) hx hb dX4_forced_1 (by decide) (fun hc => ?_) (fun hc => ?_)
  · have h := iteT hc h
    refine lv_aload_n hx hb dX4_forced_20 rfl (lv_at hl 0 rfl) ?_
    refine va_get hx hb hts inX4 hown hK hP 0 rfl rfl 4 (by decide) (hts _ qw159) (fun _ h9 => h9) rfl dX4_forced_21 ?_
    refine lv_iconst (v := (1)) hx hb dX4_forced_24 (by decide) ?_
    obtain ⟨r1, er1, h⟩ := obind h
    refine call_R (va_runV (As := [.int (1 : Int32)]) (rest := []) ⟨hx, hb, hml, hown, hts⟩ (c_X1_firstFreeWith l z0 D t G ((x_wide μ), (x_high μ), (x_pond μ), (x_walls μ), (x_paved μ), (x_tc μ), (x_flips μ), (x_refused μ), (x_names μ)) (1 : Int32) _ er1) (kV hts qw842 qw843 qw844 qw8 qw845 ok_X1_firstFreeWith ⟨Nat.le_of_ble_eq_true rfl, Nat.le_of_ble_eq_true rfl⟩) ⟨PR.blind, va_recv hK (sub_X_G (μ := μ) hP) (ci := 2) (q0 := 0) rfl rfl, fun U hU hW => ⟨rfl, by rw [hU]; exact hC.warm hW, by rw [hU]; exact (sub_X_G (μ := μ) hP)⟩⟩ rfl rfl hl.1 rfl (lv_room (Nat.le_of_ble_eq_true rfl)) dX4_forced_25 ⟨Nat.le_of_ble_eq_true rfl, Nat.le_of_ble_eq_true rfl⟩) ?_
    refine lv_istore_n (lv' := [(2, .int r1), (0, .ref (x0)), (1, .int a1)]) hx hb dX4_forced_28 rfl hl (by decide) rfl (fun ls hl => ?_)
    refine lv_iload_n hx hb dX4_forced_29 rfl (lv_at hl 0 rfl) ?_
    refine lv_iconst (v := (-1)) hx hb dX4_forced_30 (by decide) ?_
    refine lv_icmp_ne (tgt := 36) hx hb dX4_forced_31 (by decide) (fun hc => ?_) (fun hc => ?_)
    · have h := iteF hc h
      refine lv_iload_n hx hb dX4_forced_36 rfl (lv_at hl 2 rfl) ?_
      refine lv_if_ne (tgt := 47) hx hb dX4_forced_37 (by decide) (fun hc => ?_) (fun hc => ?_)
      · have h := iteF hc h
        refine lv_aload_n hx hb dX4_forced_47 rfl (lv_at hl 1 rfl) ?_
        refine va_get hx hb hts inX4 hown hK hP 0 rfl rfl 4 (by decide) (hts _ qw159) (fun _ h9 => h9) rfl dX4_forced_48 ?_
        refine lv_iload_n hx hb dX4_forced_51 rfl (lv_at hl 0 rfl) ?_
        obtain ⟨r2, er2, h⟩ := obind h
        refine call_R (va_runV (As := [.int r1]) (rest := []) ⟨hx, hb, hml, hown, hts⟩ (c_X1_firstCover l z0 D t G ((x_wide μ), (x_high μ), (x_pond μ), (x_walls μ), (x_paved μ), (x_tc μ), (x_flips μ), (x_refused μ), (x_names μ)) r1 _ er2) (kV hts qw848 qw849 qw850 qw8 qw851 ok_X1_firstCover ⟨Nat.le_of_ble_eq_true rfl, Nat.le_of_ble_eq_true rfl⟩) ⟨PR.blind, va_recv hK (sub_X_G (μ := μ) hP) (ci := 2) (q0 := 0) rfl rfl, fun U hU hW => ⟨rfl, by rw [hU]; exact hC.warm hW, by rw [hU]; exact (sub_X_G (μ := μ) hP)⟩⟩ rfl rfl hl.1 rfl (lv_room (Nat.le_of_ble_eq_true rfl)) dX4_forced_52 ⟨Nat.le_of_ble_eq_true rfl, Nat.le_of_ble_eq_true rfl⟩) ?_
        obtain rfl := Sum.inl.inj (Option.some.inj h)
        exact W.iret hx hb hr (fun t ht hW => ⟨rfl, ht⟩) (fun q hq => absurd hq List.not_mem_nil) dX4_forced_55
      · have h := iteT hc h
        refine lv_iload_n hx hb dX4_forced_40 rfl (lv_at hl 0 rfl) ?_
        obtain ⟨r3, er3, h⟩ := obind h
        refine call_R (va_runS (As := [.int r1]) (rest := []) ⟨hx, hb, hml, hown, hts⟩ (c_X4_cellName l z0 D t r1 _ er3) (kS hts qw370 qw371 qw1 qw372 ok_X4_cellName ⟨Nat.le_of_ble_eq_true rfl, Nat.le_of_ble_eq_true rfl⟩) ⟨PR.blind, fun U hU hW => ⟨rfl, by rw [hU]; exact hC.warm hW, by rw [hU]; exact va_P_nil⟩⟩ rfl rfl hl.1 rfl (lv_room (Nat.le_of_ble_eq_true rfl)) dX4_forced_41 ⟨Nat.le_of_ble_eq_true rfl, Nat.le_of_ble_eq_true rfl⟩) ?_
        refine lv_goto (tgt := 55) hx hb dX4_forced_44 (by decide) ?_
        obtain rfl := Sum.inl.inj (Option.some.inj h)
        exact W.iret hx hb hr (fun t ht hW => ⟨rfl, ht⟩) (fun q hq => absurd hq List.not_mem_nil) dX4_forced_55
    · have h := iteT hc h
      refine lv_iconst (v := (-1)) hx hb dX4_forced_34 (by decide) ?_
      obtain rfl := Sum.inl.inj (Option.some.inj h)
      exact W.iret hx hb hr (fun t ht hW => ⟨rfl, ht⟩) (fun q hq => absurd hq List.not_mem_nil) dX4_forced_35
  · have h := iteF hc h
    refine lv_iload_n hx hb dX4_forced_4 rfl (lv_at hl 1 rfl) ?_
    refine lv_iconst (v := (1)) hx hb dX4_forced_5 (by decide) ?_
    refine lv_icmp_eq (tgt := 20) hx hb dX4_forced_6 (by decide) (fun hc => ?_) (fun hc => ?_)
    · have h := iteT hc h
      refine lv_aload_n hx hb dX4_forced_20 rfl (lv_at hl 0 rfl) ?_
      refine va_get hx hb hts inX4 hown hK hP 0 rfl rfl 4 (by decide) (hts _ qw159) (fun _ h9 => h9) rfl dX4_forced_21 ?_
      refine lv_iconst (v := (1)) hx hb dX4_forced_24 (by decide) ?_
      obtain ⟨r4, er4, h⟩ := obind h
      refine call_R (va_runV (As := [.int (1 : Int32)]) (rest := []) ⟨hx, hb, hml, hown, hts⟩ (c_X1_firstFreeWith l z0 D t G ((x_wide μ), (x_high μ), (x_pond μ), (x_walls μ), (x_paved μ), (x_tc μ), (x_flips μ), (x_refused μ), (x_names μ)) (1 : Int32) _ er4) (kV hts qw842 qw843 qw844 qw8 qw845 ok_X1_firstFreeWith ⟨Nat.le_of_ble_eq_true rfl, Nat.le_of_ble_eq_true rfl⟩) ⟨PR.blind, va_recv hK (sub_X_G (μ := μ) hP) (ci := 2) (q0 := 0) rfl rfl, fun U hU hW => ⟨rfl, by rw [hU]; exact hC.warm hW, by rw [hU]; exact (sub_X_G (μ := μ) hP)⟩⟩ rfl rfl hl.1 rfl (lv_room (Nat.le_of_ble_eq_true rfl)) dX4_forced_25 ⟨Nat.le_of_ble_eq_true rfl, Nat.le_of_ble_eq_true rfl⟩) ?_
      refine lv_istore_n (lv' := [(2, .int r4), (0, .ref (x0)), (1, .int a1)]) hx hb dX4_forced_28 rfl hl (by decide) rfl (fun ls hl => ?_)
      refine lv_iload_n hx hb dX4_forced_29 rfl (lv_at hl 0 rfl) ?_
      refine lv_iconst (v := (-1)) hx hb dX4_forced_30 (by decide) ?_
      refine lv_icmp_ne (tgt := 36) hx hb dX4_forced_31 (by decide) (fun hc => ?_) (fun hc => ?_)
      · have h := iteF hc h
        refine lv_iload_n hx hb dX4_forced_36 rfl (lv_at hl 2 rfl) ?_
        refine lv_if_ne (tgt := 47) hx hb dX4_forced_37 (by decide) (fun hc => ?_) (fun hc => ?_)
        · have h := iteF hc h
          refine lv_aload_n hx hb dX4_forced_47 rfl (lv_at hl 1 rfl) ?_
          refine va_get hx hb hts inX4 hown hK hP 0 rfl rfl 4 (by decide) (hts _ qw159) (fun _ h9 => h9) rfl dX4_forced_48 ?_
          refine lv_iload_n hx hb dX4_forced_51 rfl (lv_at hl 0 rfl) ?_
          obtain ⟨r5, er5, h⟩ := obind h
          refine call_R (va_runV (As := [.int r4]) (rest := []) ⟨hx, hb, hml, hown, hts⟩ (c_X1_firstCover l z0 D t G ((x_wide μ), (x_high μ), (x_pond μ), (x_walls μ), (x_paved μ), (x_tc μ), (x_flips μ), (x_refused μ), (x_names μ)) r4 _ er5) (kV hts qw848 qw849 qw850 qw8 qw851 ok_X1_firstCover ⟨Nat.le_of_ble_eq_true rfl, Nat.le_of_ble_eq_true rfl⟩) ⟨PR.blind, va_recv hK (sub_X_G (μ := μ) hP) (ci := 2) (q0 := 0) rfl rfl, fun U hU hW => ⟨rfl, by rw [hU]; exact hC.warm hW, by rw [hU]; exact (sub_X_G (μ := μ) hP)⟩⟩ rfl rfl hl.1 rfl (lv_room (Nat.le_of_ble_eq_true rfl)) dX4_forced_52 ⟨Nat.le_of_ble_eq_true rfl, Nat.le_of_ble_eq_true rfl⟩) ?_
          obtain rfl := Sum.inl.inj (Option.some.inj h)
          exact W.iret hx hb hr (fun t ht hW => ⟨rfl, ht⟩) (fun q hq => absurd hq List.not_mem_nil) dX4_forced_55
        · have h := iteT hc h
          refine lv_iload_n hx hb dX4_forced_40 rfl (lv_at hl 0 rfl) ?_
          obtain ⟨r6, er6, h⟩ := obind h
          refine call_R (va_runS (As := [.int r4]) (rest := []) ⟨hx, hb, hml, hown, hts⟩ (c_X4_cellName l z0 D t r4 _ er6) (kS hts qw370 qw371 qw1 qw372 ok_X4_cellName ⟨Nat.le_of_ble_eq_true rfl, Nat.le_of_ble_eq_true rfl⟩) ⟨PR.blind, fun U hU hW => ⟨rfl, by rw [hU]; exact hC.warm hW, by rw [hU]; exact va_P_nil⟩⟩ rfl rfl hl.1 rfl (lv_room (Nat.le_of_ble_eq_true rfl)) dX4_forced_41 ⟨Nat.le_of_ble_eq_true rfl, Nat.le_of_ble_eq_true rfl⟩) ?_
          refine lv_goto (tgt := 55) hx hb dX4_forced_44 (by decide) ?_
          obtain rfl := Sum.inl.inj (Option.some.inj h)
          exact W.iret hx hb hr (fun t ht hW => ⟨rfl, ht⟩) (fun q hq => absurd hq List.not_mem_nil) dX4_forced_55
      · have h := iteT hc h
        refine lv_iconst (v := (-1)) hx hb dX4_forced_34 (by decide) ?_
        obtain rfl := Sum.inl.inj (Option.some.inj h)
        exact W.iret hx hb hr (fun t ht hW => ⟨rfl, ht⟩) (fun q hq => absurd hq List.not_mem_nil) dX4_forced_35
    · have h := iteF hc h
      exact absurd (Option.some.inj h) (fun z => by cases z)

abbrev rx_X4_forced : Room := { frames := 6, cells := 1, slots := 6, locals := 137 }
set_option maxHeartbeats 4000000 in
set_option maxRecDepth 100000 in
theorem x_X4_forced (l : Launch) (hl9 : l.stackTraces = false) (z0 : Nat) (D : va_G) (t : Nat → ClassId) (x0 : Nat) (s0 : Nat) (s1 : Nat) (e0 : Nat) (E : Nat → Nat) (A : Nat → Nat) (B : Nat → Nat) (G : Nat → Nat) (T : va_W) (μ : XS) (a1 : Int32) (xE : String) (sz : Nat) (h : f_X4_forced μ a1 = some (.inr xE)) : vx_Met l yX4_forced (ws_ yX4_forced cX4_forced 3 (some .int)) rx_X4_forced (PM z0 D t [.ref (x0), .int a1] (XW x0 s0 s1 e0 E A B G T t μ) (XL x0 s0 s1 e0 E A B G T μ) sz) (fun _ _ _ _ => False) (XM xE D (XW x0 s0 s1 e0 E A B G T t μ) (XL x0 s0 s1 e0 E A B G T μ) sz) 1 6 (OA (XL x0 s0 s1 e0 E A B G T μ) sz) := by
  refine vx_ofW (cc := cX4_forced) (maxL := 3) (ret := (some .int)) (by decide) rfl ?_
  intro p e s m args below meth c s₁ Bo hml hT hv
  obtain ⟨rfl, hC, hsz, hP, hD, hZ⟩ := hv
  have hx := Bo.exec
  have hb := Bo.bytes
  have hr := Bo.returns
  have hts : ∀ w ∈ LA, w.before _ s = true := fun w hw => atoms_spec (ws := ws_ yX4_forced cX4_forced 3 (some .int)) Bo.pre w (List.mem_cons_of_mem _ hw)
  have hown : s.vm.findClass RX4 = some m.cls := findClass_of_methodNamed Bo.named
  have hlocks := Bo.notSynchronized
  have hK := hC.1
  subst hsz
  have hl := lv_entry ([.ref (x0), .int a1]) (n := 3) (Nat.le_of_ble_eq_true rfl)
  rw [lg_entry_eq]
  generalize (lg_sl ([.ref (x0), .int a1]) ++ List.replicate (3 - (lg_sl ([.ref (x0), .int a1])).length) Slot.unset).toArray = ls at hl ⊢
  have hl : lv_has ls 3 [(0, .ref (x0)), (1, .int a1)] := hl
  suffices K9 : ∀ (H : Heap) (locs : List Loc), va_P D vwCl (XW x0 s0 s1 e0 E A B G T t μ) H → va_S (OA (XL x0 s0 s1 e0 E A B G T μ) s.heap.size) s.heap H locs → W p l e (headSpec (ws_ yX4_forced cX4_forced 3 (some .int)) rx_X4_forced).room s m ([.ref (x0), .int a1] : List Value).toArray below meth c H locs 0 0 (vx_MQ below (fun _ _ _ _ => False) (XM xE D (XW x0 s0 s1 e0 E A B G T t μ) (XL x0 s0 s1 e0 E A B G T μ) s.heap.size) ([.ref (x0), .int a1] : List Value).toArray s 1 6 (OA (XL x0 s0 s1 e0 E A B G T μ) s.heap.size)) (F0 m 0 ls []) from K9 s.heap [] hP va_S.rf
  intro H locs hP hS
  have hSz : s.heap.size ≤ H.size := hS.1
  unfold f_X4_forced at h
  refine lv_iload_n hx hb dX4_forced_0 rfl (lv_at hl 1 rfl) ?_
  refine lv_if_eq (tgt := 20) hx hb dX4_forced_1 (by decide) (fun hc => ?_) (fun hc => ?_)
  · have h := iteT hc h
    refine lv_aload_n hx hb dX4_forced_20 rfl (lv_at hl 0 rfl) ?_
    refine va_get hx hb hts inX4 hown hK hP 0 rfl rfl 4 (by decide) (hts _ qw159) (fun _ h9 => h9) rfl dX4_forced_21 ?_
    refine lv_iconst (v := (1)) hx hb dX4_forced_24 (by decide) ?_
    obtain ⟨r1, er1, h⟩ := obind h
    refine call_R (va_runV (As := [.int (1 : Int32)]) (rest := []) ⟨hx, hb, hml, hown, hts⟩ (c_X1_firstFreeWith l z0 D t G ((x_wide μ), (x_high μ), (x_pond μ), (x_walls μ), (x_paved μ), (x_tc μ), (x_flips μ), (x_refused μ), (x_names μ)) (1 : Int32) _ er1) (kV hts qw842 qw843 qw844 qw8 qw845 ok_X1_firstFreeWith ⟨Nat.le_of_ble_eq_true rfl, Nat.le_of_ble_eq_true rfl⟩) ⟨PR.blind, va_recv hK (sub_X_G (μ := μ) hP) (ci := 2) (q0 := 0) rfl rfl, fun U hU hW => ⟨rfl, by rw [hU]; exact (hC.at hS hZ).warm hW, by rw [hU]; exact (sub_X_G (μ := μ) hP)⟩⟩ rfl rfl hl.1 rfl (lv_room (Nat.le_of_ble_eq_true rfl)) dX4_forced_25 ⟨Nat.le_of_ble_eq_true rfl, Nat.le_of_ble_eq_true rfl⟩) ?_
    refine lv_istore_n (lv' := [(2, .int r1), (0, .ref (x0)), (1, .int a1)]) hx hb dX4_forced_28 rfl hl (by decide) rfl (fun ls hl => ?_)
    refine lv_iload_n hx hb dX4_forced_29 rfl (lv_at hl 0 rfl) ?_
    refine lv_iconst (v := (-1)) hx hb dX4_forced_30 (by decide) ?_
    refine lv_icmp_ne (tgt := 36) hx hb dX4_forced_31 (by decide) (fun hc => ?_) (fun hc => ?_)
    · have h := iteF hc h
      refine lv_iload_n hx hb dX4_forced_36 rfl (lv_at hl 2 rfl) ?_
      refine lv_if_ne (tgt := 47) hx hb dX4_forced_37 (by decide) (fun hc => ?_) (fun hc => ?_)
      · have h := iteF hc h
        refine lv_aload_n hx hb dX4_forced_47 rfl (lv_at hl 1 rfl) ?_
        refine va_get hx hb hts inX4 hown hK hP 0 rfl rfl 4 (by decide) (hts _ qw159) (fun _ h9 => h9) rfl dX4_forced_48 ?_
        refine lv_iload_n hx hb dX4_forced_51 rfl (lv_at hl 0 rfl) ?_
        obtain ⟨r2, er2, h⟩ := obind h
        refine call_R (va_runV (As := [.int r1]) (rest := []) ⟨hx, hb, hml, hown, hts⟩ (c_X1_firstCover l z0 D t G ((x_wide μ), (x_high μ), (x_pond μ), (x_walls μ), (x_paved μ), (x_tc μ), (x_flips μ), (x_refused μ), (x_names μ)) r1 _ er2) (kV hts qw848 qw849 qw850 qw8 qw851 ok_X1_firstCover ⟨Nat.le_of_ble_eq_true rfl, Nat.le_of_ble_eq_true rfl⟩) ⟨PR.blind, va_recv hK (sub_X_G (μ := μ) hP) (ci := 2) (q0 := 0) rfl rfl, fun U hU hW => ⟨rfl, by rw [hU]; exact (hC.at hS hZ).warm hW, by rw [hU]; exact (sub_X_G (μ := μ) hP)⟩⟩ rfl rfl hl.1 rfl (lv_room (Nat.le_of_ble_eq_true rfl)) dX4_forced_52 ⟨Nat.le_of_ble_eq_true rfl, Nat.le_of_ble_eq_true rfl⟩) ?_
        exact absurd (Option.some.inj h) (fun z => by cases z)
      · have h := iteT hc h
        refine lv_iload_n hx hb dX4_forced_40 rfl (lv_at hl 0 rfl) ?_
        obtain ⟨r3, er3, h⟩ := obind h
        refine call_R (va_runS (As := [.int r1]) (rest := []) ⟨hx, hb, hml, hown, hts⟩ (c_X4_cellName l z0 D t r1 _ er3) (kS hts qw370 qw371 qw1 qw372 ok_X4_cellName ⟨Nat.le_of_ble_eq_true rfl, Nat.le_of_ble_eq_true rfl⟩) ⟨PR.blind, fun U hU hW => ⟨rfl, by rw [hU]; exact (hC.at hS hZ).warm hW, by rw [hU]; exact va_P_nil⟩⟩ rfl rfl hl.1 rfl (lv_room (Nat.le_of_ble_eq_true rfl)) dX4_forced_41 ⟨Nat.le_of_ble_eq_true rfl, Nat.le_of_ble_eq_true rfl⟩) ?_
        refine lv_goto (tgt := 55) hx hb dX4_forced_44 (by decide) ?_
        exact absurd (Option.some.inj h) (fun z => by cases z)
    · have h := iteT hc h
      refine lv_iconst (v := (-1)) hx hb dX4_forced_34 (by decide) ?_
      exact absurd (Option.some.inj h) (fun z => by cases z)
  · have h := iteF hc h
    refine lv_iload_n hx hb dX4_forced_4 rfl (lv_at hl 1 rfl) ?_
    refine lv_iconst (v := (1)) hx hb dX4_forced_5 (by decide) ?_
    refine lv_icmp_eq (tgt := 20) hx hb dX4_forced_6 (by decide) (fun hc => ?_) (fun hc => ?_)
    · have h := iteT hc h
      refine lv_aload_n hx hb dX4_forced_20 rfl (lv_at hl 0 rfl) ?_
      refine va_get hx hb hts inX4 hown hK hP 0 rfl rfl 4 (by decide) (hts _ qw159) (fun _ h9 => h9) rfl dX4_forced_21 ?_
      refine lv_iconst (v := (1)) hx hb dX4_forced_24 (by decide) ?_
      obtain ⟨r4, er4, h⟩ := obind h
      refine call_R (va_runV (As := [.int (1 : Int32)]) (rest := []) ⟨hx, hb, hml, hown, hts⟩ (c_X1_firstFreeWith l z0 D t G ((x_wide μ), (x_high μ), (x_pond μ), (x_walls μ), (x_paved μ), (x_tc μ), (x_flips μ), (x_refused μ), (x_names μ)) (1 : Int32) _ er4) (kV hts qw842 qw843 qw844 qw8 qw845 ok_X1_firstFreeWith ⟨Nat.le_of_ble_eq_true rfl, Nat.le_of_ble_eq_true rfl⟩) ⟨PR.blind, va_recv hK (sub_X_G (μ := μ) hP) (ci := 2) (q0 := 0) rfl rfl, fun U hU hW => ⟨rfl, by rw [hU]; exact (hC.at hS hZ).warm hW, by rw [hU]; exact (sub_X_G (μ := μ) hP)⟩⟩ rfl rfl hl.1 rfl (lv_room (Nat.le_of_ble_eq_true rfl)) dX4_forced_25 ⟨Nat.le_of_ble_eq_true rfl, Nat.le_of_ble_eq_true rfl⟩) ?_
      refine lv_istore_n (lv' := [(2, .int r4), (0, .ref (x0)), (1, .int a1)]) hx hb dX4_forced_28 rfl hl (by decide) rfl (fun ls hl => ?_)
      refine lv_iload_n hx hb dX4_forced_29 rfl (lv_at hl 0 rfl) ?_
      refine lv_iconst (v := (-1)) hx hb dX4_forced_30 (by decide) ?_
      refine lv_icmp_ne (tgt := 36) hx hb dX4_forced_31 (by decide) (fun hc => ?_) (fun hc => ?_)
      · have h := iteF hc h
        refine lv_iload_n hx hb dX4_forced_36 rfl (lv_at hl 2 rfl) ?_
        refine lv_if_ne (tgt := 47) hx hb dX4_forced_37 (by decide) (fun hc => ?_) (fun hc => ?_)
        · have h := iteF hc h
          refine lv_aload_n hx hb dX4_forced_47 rfl (lv_at hl 1 rfl) ?_
          refine va_get hx hb hts inX4 hown hK hP 0 rfl rfl 4 (by decide) (hts _ qw159) (fun _ h9 => h9) rfl dX4_forced_48 ?_
          refine lv_iload_n hx hb dX4_forced_51 rfl (lv_at hl 0 rfl) ?_
          obtain ⟨r5, er5, h⟩ := obind h
          refine call_R (va_runV (As := [.int r4]) (rest := []) ⟨hx, hb, hml, hown, hts⟩ (c_X1_firstCover l z0 D t G ((x_wide μ), (x_high μ), (x_pond μ), (x_walls μ), (x_paved μ), (x_tc μ), (x_flips μ), (x_refused μ), (x_names μ)) r4 _ er5) (kV hts qw848 qw849 qw850 qw8 qw851 ok_X1_firstCover ⟨Nat.le_of_ble_eq_true rfl, Nat.le_of_ble_eq_true rfl⟩) ⟨PR.blind, va_recv hK (sub_X_G (μ := μ) hP) (ci := 2) (q0 := 0) rfl rfl, fun U hU hW => ⟨rfl, by rw [hU]; exact (hC.at hS hZ).warm hW, by rw [hU]; exact (sub_X_G (μ := μ) hP)⟩⟩ rfl rfl hl.1 rfl (lv_room (Nat.le_of_ble_eq_true rfl)) dX4_forced_52 ⟨Nat.le_of_ble_eq_true rfl, Nat.le_of_ble_eq_true rfl⟩) ?_
          exact absurd (Option.some.inj h) (fun z => by cases z)
        · have h := iteT hc h
          refine lv_iload_n hx hb dX4_forced_40 rfl (lv_at hl 0 rfl) ?_
          obtain ⟨r6, er6, h⟩ := obind h
          refine call_R (va_runS (As := [.int r4]) (rest := []) ⟨hx, hb, hml, hown, hts⟩ (c_X4_cellName l z0 D t r4 _ er6) (kS hts qw370 qw371 qw1 qw372 ok_X4_cellName ⟨Nat.le_of_ble_eq_true rfl, Nat.le_of_ble_eq_true rfl⟩) ⟨PR.blind, fun U hU hW => ⟨rfl, by rw [hU]; exact (hC.at hS hZ).warm hW, by rw [hU]; exact va_P_nil⟩⟩ rfl rfl hl.1 rfl (lv_room (Nat.le_of_ble_eq_true rfl)) dX4_forced_41 ⟨Nat.le_of_ble_eq_true rfl, Nat.le_of_ble_eq_true rfl⟩) ?_
          refine lv_goto (tgt := 55) hx hb dX4_forced_44 (by decide) ?_
          exact absurd (Option.some.inj h) (fun z => by cases z)
      · have h := iteT hc h
        refine lv_iconst (v := (-1)) hx hb dX4_forced_34 (by decide) ?_
        exact absurd (Option.some.inj h) (fun z => by cases z)
    · have h := iteF hc h
      obtain rfl := Sum.inr.inj (Option.some.inj h)
      obtain ⟨sa, hsa⟩ := hC.2.2.2.2.2.1 ("BentGardens", 273, "what is not 0 or 1") (by decide +kernel)
      refine vx_throwSW hx hb hl9 hown (cls := "java/lang/IllegalArgumentException") (names := ["java/lang/RuntimeException", "java/lang/Exception"]) (by decide) (by decide) (hts _ qw389) (hts _ qw16) hsa (at_words hts hC.2.1 at_IllegalArgumentException) ato_IllegalArgumentException (hC.2.2.2.2.2.2.2.1.narrow hZ) (hC.2.2.2.2.2.2.2.2.1.narrow hZ) hS (hl.1.trans hml.symm) dX4_forced_9 dX4_forced_12 dX4_forced_13 dX4_forced_16 dX4_forced_19 (fun x9 hx9 => (hT x9 hx9).elim) (Nat.le_of_ble_eq_true rfl) (Nat.le_of_ble_eq_true rfl) (Nat.le_of_ble_eq_true rfl) (Nat.le_of_ble_eq_true rfl) hlocks (fun t9 _ h8 h9 => XM.mk hP hD hS h8 h9) hS.2.2 (Nat.le_of_ble_eq_true rfl) (Nat.le_of_ble_eq_true rfl)

abbrev rm_X4_triple : Room := { frames := 7, cells := 0, slots := 0, locals := 140 }
theorem ok_X4_triple : okY yX4_triple 2 := ⟨by decide +kernel, by decide +kernel, by decide +kernel⟩
set_option maxHeartbeats 4000000 in
set_option maxRecDepth 100000 in
theorem c_X4_triple (l : Launch) (z0 : Nat) (D : va_G) (t : Nat → ClassId) (x0 : Nat) (s0 : Nat) (s1 : Nat) (e0 : Nat) (E : Nat → Nat) (A : Nat → Nat) (B : Nat → Nat) (G : Nat → Nat) (T : va_W) (μ : XS) (a1 : Int32) (a2 : Int32) (res : Int32) (h : f_X4_triple μ a1 a2 = some (.inl res)) : Met l yX4_triple (ws_ yX4_triple cX4_triple 4 (some .int)) rm_X4_triple (PR z0 D t [.ref (x0), .int a1, .int a2] (XW x0 s0 s1 e0 E A B G T t μ)) (QR (some (.int res))) 0 0 FN := by
  refine Met.ofW (cc := cX4_triple) (maxL := 4) (ret := (some .int)) (by decide) rfl ?_
  intro p e s m args below meth c s₁ Bo hml hv
  obtain ⟨rfl, hC, hP⟩ := hv
  have hx := Bo.exec
  have hb := Bo.bytes
  have hr := Bo.returns
  have hts : ∀ w ∈ LA, w.before _ s = true := fun w hw => atoms_spec (ws := ws_ yX4_triple cX4_triple 4 (some .int)) Bo.pre w (List.mem_cons_of_mem _ hw)
  have hown : s.vm.findClass RX4 = some m.cls := findClass_of_methodNamed Bo.named
  have hlocks := Bo.notSynchronized
  have hK := hC.1
  have hl := lv_entry ([.ref (x0), .int a1, .int a2]) (n := 4) (Nat.le_of_ble_eq_true rfl)
  rw [lg_entry_eq]
  generalize (lg_sl ([.ref (x0), .int a1, .int a2]) ++ List.replicate (4 - (lg_sl ([.ref (x0), .int a1, .int a2])).length) Slot.unset).toArray = ls at hl ⊢
  have hl : lv_has ls 4 [(0, .ref (x0)), (1, .int a1), (2, .int a2)] := hl
  unfold f_X4_triple at h
  refine lv_iload_n hx hb dX4_triple_0 rfl (lv_at hl 1 rfl) ?_
  refine lv_if_lt (tgt := 15) hx hb dX4_triple_1 (by decide) (fun hc => ?_) (fun hc => ?_)
  · have h := iteT hc h
    exact absurd (Option.some.inj h) (fun z => by cases z)
  · have h := iteF hc h
    refine lv_iload_n hx hb dX4_triple_4 rfl (lv_at hl 1 rfl) ?_
    refine lv_aload_n hx hb dX4_triple_5 rfl (lv_at hl 0 rfl) ?_
    refine va_get hx hb hts inX4 hown hK hP 0 rfl rfl 4 (by decide) (hts _ qw159) (fun _ h9 => h9) rfl dX4_triple_6 ?_
    refine va_get hx hb hts inX1 hown hK hP 13 rfl rfl 5 (by decide) (hts _ qw130) (fun _ h9 => h9) rfl dX4_triple_9 ?_
    refine lv_icmp_lt (tgt := 25) hx hb dX4_triple_12 (by decide) (fun hc => ?_) (fun hc => ?_)
    · have h := iteT hc h
      refine lv_iload_n hx hb dX4_triple_25 rfl (lv_at hl 2 rfl) ?_
      obtain ⟨r1o, er1, h⟩ := obind h
      rcases r1o with r1 | Er1
      · replace h := sumL h
        refine call_R (va_runS (As := [.int a2]) (rest := []) ⟨hx, hb, hml, hown, hts⟩ (c_X4_requireProperty l z0 D t a2 _ er1) (kS hts qw764 qw765 qw1 qw766 ok_X4_requireProperty ⟨Nat.le_of_ble_eq_true rfl, Nat.le_of_ble_eq_true rfl⟩) ⟨PR.blind, fun U hU hW => ⟨rfl, by rw [hU]; exact hC.warm hW, by rw [hU]; exact va_P_nil⟩⟩ rfl rfl hl.1 rfl (lv_room (Nat.le_of_ble_eq_true rfl)) dX4_triple_26 ⟨Nat.le_of_ble_eq_true rfl, Nat.le_of_ble_eq_true rfl⟩) ?_
        refine lv_aload_n hx hb dX4_triple_29 rfl (lv_at hl 0 rfl) ?_
        refine va_get hx hb hts inX4 hown hK hP 0 rfl rfl 4 (by decide) (hts _ qw159) (fun _ h9 => h9) rfl dX4_triple_30 ?_
        refine lv_iload_n hx hb dX4_triple_33 rfl (lv_at hl 1 rfl) ?_
        obtain ⟨r2, er2, h⟩ := obind h
        refine call_R (va_runV (As := [.int a1]) (rest := []) ⟨hx, hb, hml, hown, hts⟩ (c_X1_tripleName l z0 D t G ((x_wide μ), (x_high μ), (x_pond μ), (x_walls μ), (x_paved μ), (x_tc μ), (x_flips μ), (x_refused μ), (x_names μ)) a1 _ er2) (kV hts qw906 qw645 qw646 qw8 qw647 ok_X1_tripleName ⟨Nat.le_of_ble_eq_true rfl, Nat.le_of_ble_eq_true rfl⟩) ⟨PR.blind, va_recv hK (sub_X_G (μ := μ) hP) (ci := 2) (q0 := 0) rfl rfl, fun U hU hW => ⟨rfl, by rw [hU]; exact hC.warm hW, by rw [hU]; exact (sub_X_G (μ := μ) hP)⟩⟩ rfl rfl hl.1 rfl (lv_room (Nat.le_of_ble_eq_true rfl)) dX4_triple_34 ⟨Nat.le_of_ble_eq_true rfl, Nat.le_of_ble_eq_true rfl⟩) ?_
        refine lv_istore_n (lv' := [(3, .int r2), (0, .ref (x0)), (1, .int a1), (2, .int a2)]) hx hb dX4_triple_37 rfl hl (by decide) rfl (fun ls hl => ?_)
        refine lv_iload_n hx hb dX4_triple_38 rfl (lv_at hl 3 rfl) ?_
        refine lv_if_ne (tgt := 47) hx hb dX4_triple_39 (by decide) (fun hc => ?_) (fun hc => ?_)
        · have h := iteF hc h
          refine lv_iload_n hx hb dX4_triple_47 rfl (lv_at hl 3 rfl) ?_
          refine lv_iconst (v := (1)) hx hb dX4_triple_48 (by decide) ?_
          refine lv_icmp_ne (tgt := 59) hx hb dX4_triple_49 (by decide) (fun hc => ?_) (fun hc => ?_)
          · have h := iteF hc h
            refine lv_iload_n hx hb dX4_triple_59 rfl (lv_at hl 0 rfl) ?_
            obtain ⟨r3, er3, h⟩ := obind h
            refine call_R (va_runS (As := [.int r2]) (rest := []) ⟨hx, hb, hml, hown, hts⟩ (c_X4_turnOf l z0 D t r2 _ er3) (kS hts qw909 qw655 qw1 qw656 ok_X4_turnOf ⟨Nat.le_of_ble_eq_true rfl, Nat.le_of_ble_eq_true rfl⟩) ⟨PR.blind, fun U hU hW => ⟨rfl, by rw [hU]; exact hC.warm hW, by rw [hU]; exact va_P_nil⟩⟩ rfl rfl hl.1 rfl (lv_room (Nat.le_of_ble_eq_true rfl)) dX4_triple_60 ⟨Nat.le_of_ble_eq_true rfl, Nat.le_of_ble_eq_true rfl⟩) ?_
            obtain rfl := Sum.inl.inj (Option.some.inj h)
            exact W.iret hx hb hr (fun t ht hW => ⟨rfl, ht⟩) (fun q hq => absurd hq List.not_mem_nil) dX4_triple_63
          · have h := iteT hc h
            refine lv_iload_n hx hb dX4_triple_52 rfl (lv_at hl 0 rfl) ?_
            obtain ⟨r4, er4, h⟩ := obind h
            refine call_R (va_runS (As := [.int r2]) (rest := []) ⟨hx, hb, hml, hown, hts⟩ (c_X4_rowOf l z0 D t r2 _ er4) (kS hts qw908 qw652 qw1 qw653 ok_X4_rowOf ⟨Nat.le_of_ble_eq_true rfl, Nat.le_of_ble_eq_true rfl⟩) ⟨PR.blind, fun U hU hW => ⟨rfl, by rw [hU]; exact hC.warm hW, by rw [hU]; exact va_P_nil⟩⟩ rfl rfl hl.1 rfl (lv_room (Nat.le_of_ble_eq_true rfl)) dX4_triple_53 ⟨Nat.le_of_ble_eq_true rfl, Nat.le_of_ble_eq_true rfl⟩) ?_
            refine lv_goto (tgt := 63) hx hb dX4_triple_56 (by decide) ?_
            obtain rfl := Sum.inl.inj (Option.some.inj h)
            exact W.iret hx hb hr (fun t ht hW => ⟨rfl, ht⟩) (fun q hq => absurd hq List.not_mem_nil) dX4_triple_63
        · have h := iteT hc h
          refine lv_iload_n hx hb dX4_triple_42 rfl (lv_at hl 0 rfl) ?_
          obtain ⟨r5, er5, h⟩ := obind h
          refine call_R (va_runS (As := [.int r2]) (rest := []) ⟨hx, hb, hml, hown, hts⟩ (c_X4_columnOf l z0 D t r2 _ er5) (kS hts qw907 qw649 qw1 qw650 ok_X4_columnOf ⟨Nat.le_of_ble_eq_true rfl, Nat.le_of_ble_eq_true rfl⟩) ⟨PR.blind, fun U hU hW => ⟨rfl, by rw [hU]; exact hC.warm hW, by rw [hU]; exact va_P_nil⟩⟩ rfl rfl hl.1 rfl (lv_room (Nat.le_of_ble_eq_true rfl)) dX4_triple_43 ⟨Nat.le_of_ble_eq_true rfl, Nat.le_of_ble_eq_true rfl⟩) ?_
          obtain rfl := Sum.inl.inj (Option.some.inj h)
          exact W.iret hx hb hr (fun t ht hW => ⟨rfl, ht⟩) (fun q hq => absurd hq List.not_mem_nil) dX4_triple_46
      · replace h := sumR h
        exact absurd (Option.some.inj h) (fun z => by cases z)
    · have h := iteF hc h
      exact absurd (Option.some.inj h) (fun z => by cases z)

abbrev rx_X4_triple : Room := { frames := 7, cells := 1, slots := 6, locals := 140 }
set_option maxHeartbeats 4000000 in
set_option maxRecDepth 100000 in
theorem x_X4_triple (l : Launch) (hl9 : l.stackTraces = false) (z0 : Nat) (D : va_G) (t : Nat → ClassId) (x0 : Nat) (s0 : Nat) (s1 : Nat) (e0 : Nat) (E : Nat → Nat) (A : Nat → Nat) (B : Nat → Nat) (G : Nat → Nat) (T : va_W) (μ : XS) (a1 : Int32) (a2 : Int32) (xE : String) (sz : Nat) (h : f_X4_triple μ a1 a2 = some (.inr xE)) : vx_Met l yX4_triple (ws_ yX4_triple cX4_triple 4 (some .int)) rx_X4_triple (PM z0 D t [.ref (x0), .int a1, .int a2] (XW x0 s0 s1 e0 E A B G T t μ) (XL x0 s0 s1 e0 E A B G T μ) sz) (fun _ _ _ _ => False) (XM xE D (XW x0 s0 s1 e0 E A B G T t μ) (XL x0 s0 s1 e0 E A B G T μ) sz) 1 6 (OA (XL x0 s0 s1 e0 E A B G T μ) sz) := by
  refine vx_ofW (cc := cX4_triple) (maxL := 4) (ret := (some .int)) (by decide) rfl ?_
  intro p e s m args below meth c s₁ Bo hml hT hv
  obtain ⟨rfl, hC, hsz, hP, hD, hZ⟩ := hv
  have hx := Bo.exec
  have hb := Bo.bytes
  have hr := Bo.returns
  have hts : ∀ w ∈ LA, w.before _ s = true := fun w hw => atoms_spec (ws := ws_ yX4_triple cX4_triple 4 (some .int)) Bo.pre w (List.mem_cons_of_mem _ hw)
  have hown : s.vm.findClass RX4 = some m.cls := findClass_of_methodNamed Bo.named
  have hlocks := Bo.notSynchronized
  have hK := hC.1
  subst hsz
  have hl := lv_entry ([.ref (x0), .int a1, .int a2]) (n := 4) (Nat.le_of_ble_eq_true rfl)
  rw [lg_entry_eq]
  generalize (lg_sl ([.ref (x0), .int a1, .int a2]) ++ List.replicate (4 - (lg_sl ([.ref (x0), .int a1, .int a2])).length) Slot.unset).toArray = ls at hl ⊢
  have hl : lv_has ls 4 [(0, .ref (x0)), (1, .int a1), (2, .int a2)] := hl
  suffices K9 : ∀ (H : Heap) (locs : List Loc), va_P D vwCl (XW x0 s0 s1 e0 E A B G T t μ) H → va_S (OA (XL x0 s0 s1 e0 E A B G T μ) s.heap.size) s.heap H locs → W p l e (headSpec (ws_ yX4_triple cX4_triple 4 (some .int)) rx_X4_triple).room s m ([.ref (x0), .int a1, .int a2] : List Value).toArray below meth c H locs 0 0 (vx_MQ below (fun _ _ _ _ => False) (XM xE D (XW x0 s0 s1 e0 E A B G T t μ) (XL x0 s0 s1 e0 E A B G T μ) s.heap.size) ([.ref (x0), .int a1, .int a2] : List Value).toArray s 1 6 (OA (XL x0 s0 s1 e0 E A B G T μ) s.heap.size)) (F0 m 0 ls []) from K9 s.heap [] hP va_S.rf
  intro H locs hP hS
  have hSz : s.heap.size ≤ H.size := hS.1
  unfold f_X4_triple at h
  refine lv_iload_n hx hb dX4_triple_0 rfl (lv_at hl 1 rfl) ?_
  refine lv_if_lt (tgt := 15) hx hb dX4_triple_1 (by decide) (fun hc => ?_) (fun hc => ?_)
  · have h := iteT hc h
    obtain rfl := Sum.inr.inj (Option.some.inj h)
    obtain ⟨sa, hsa⟩ := hC.2.2.2.2.2.1 ("BentGardens", 235, "there is no such triple") (by decide +kernel)
    refine vx_throwS hx hb hl9 hown (cls := "java/lang/IndexOutOfBoundsException") (names := ["java/lang/RuntimeException", "java/lang/Exception"]) (by decide) (by decide) (hts _ qw562) (hts _ qw24) hsa (at_words hts hC.2.1 at_IndexOutOfBoundsException) ato_IndexOutOfBoundsException (hC.2.2.2.2.2.2.2.1.narrow hZ) (hC.2.2.2.2.2.2.2.2.1.narrow hZ) hS (hl.1.trans hml.symm) dX4_triple_15 dX4_triple_18 dX4_triple_19 dX4_triple_21 dX4_triple_24 (fun x9 hx9 => (hT x9 hx9).elim) (Nat.le_of_ble_eq_true rfl) (Nat.le_of_ble_eq_true rfl) (Nat.le_of_ble_eq_true rfl) (Nat.le_of_ble_eq_true rfl) hlocks (fun t9 _ h8 h9 => XM.mk hP hD hS h8 h9) hS.2.2 (Nat.le_of_ble_eq_true rfl) (Nat.le_of_ble_eq_true rfl)
  · have h := iteF hc h
    refine lv_iload_n hx hb dX4_triple_4 rfl (lv_at hl 1 rfl) ?_
    refine lv_aload_n hx hb dX4_triple_5 rfl (lv_at hl 0 rfl) ?_
    refine va_get hx hb hts inX4 hown hK hP 0 rfl rfl 4 (by decide) (hts _ qw159) (fun _ h9 => h9) rfl dX4_triple_6 ?_
    refine va_get hx hb hts inX1 hown hK hP 13 rfl rfl 5 (by decide) (hts _ qw130) (fun _ h9 => h9) rfl dX4_triple_9 ?_
    refine lv_icmp_lt (tgt := 25) hx hb dX4_triple_12 (by decide) (fun hc => ?_) (fun hc => ?_)
    · have h := iteT hc h
      refine lv_iload_n hx hb dX4_triple_25 rfl (lv_at hl 2 rfl) ?_
      obtain ⟨r1o, er1, h⟩ := obind h
      rcases r1o with r1 | Er1
      · replace h := sumL h
        refine call_R (va_runS (As := [.int a2]) (rest := []) ⟨hx, hb, hml, hown, hts⟩ (c_X4_requireProperty l z0 D t a2 _ er1) (kS hts qw764 qw765 qw1 qw766 ok_X4_requireProperty ⟨Nat.le_of_ble_eq_true rfl, Nat.le_of_ble_eq_true rfl⟩) ⟨PR.blind, fun U hU hW => ⟨rfl, by rw [hU]; exact (hC.at hS hZ).warm hW, by rw [hU]; exact va_P_nil⟩⟩ rfl rfl hl.1 rfl (lv_room (Nat.le_of_ble_eq_true rfl)) dX4_triple_26 ⟨Nat.le_of_ble_eq_true rfl, Nat.le_of_ble_eq_true rfl⟩) ?_
        refine lv_aload_n hx hb dX4_triple_29 rfl (lv_at hl 0 rfl) ?_
        refine va_get hx hb hts inX4 hown hK hP 0 rfl rfl 4 (by decide) (hts _ qw159) (fun _ h9 => h9) rfl dX4_triple_30 ?_
        refine lv_iload_n hx hb dX4_triple_33 rfl (lv_at hl 1 rfl) ?_
        obtain ⟨r2, er2, h⟩ := obind h
        refine call_R (va_runV (As := [.int a1]) (rest := []) ⟨hx, hb, hml, hown, hts⟩ (c_X1_tripleName l z0 D t G ((x_wide μ), (x_high μ), (x_pond μ), (x_walls μ), (x_paved μ), (x_tc μ), (x_flips μ), (x_refused μ), (x_names μ)) a1 _ er2) (kV hts qw906 qw645 qw646 qw8 qw647 ok_X1_tripleName ⟨Nat.le_of_ble_eq_true rfl, Nat.le_of_ble_eq_true rfl⟩) ⟨PR.blind, va_recv hK (sub_X_G (μ := μ) hP) (ci := 2) (q0 := 0) rfl rfl, fun U hU hW => ⟨rfl, by rw [hU]; exact (hC.at hS hZ).warm hW, by rw [hU]; exact (sub_X_G (μ := μ) hP)⟩⟩ rfl rfl hl.1 rfl (lv_room (Nat.le_of_ble_eq_true rfl)) dX4_triple_34 ⟨Nat.le_of_ble_eq_true rfl, Nat.le_of_ble_eq_true rfl⟩) ?_
        refine lv_istore_n (lv' := [(3, .int r2), (0, .ref (x0)), (1, .int a1), (2, .int a2)]) hx hb dX4_triple_37 rfl hl (by decide) rfl (fun ls hl => ?_)
        refine lv_iload_n hx hb dX4_triple_38 rfl (lv_at hl 3 rfl) ?_
        refine lv_if_ne (tgt := 47) hx hb dX4_triple_39 (by decide) (fun hc => ?_) (fun hc => ?_)
        · have h := iteF hc h
          refine lv_iload_n hx hb dX4_triple_47 rfl (lv_at hl 3 rfl) ?_
          refine lv_iconst (v := (1)) hx hb dX4_triple_48 (by decide) ?_
          refine lv_icmp_ne (tgt := 59) hx hb dX4_triple_49 (by decide) (fun hc => ?_) (fun hc => ?_)
          · have h := iteF hc h
            refine lv_iload_n hx hb dX4_triple_59 rfl (lv_at hl 0 rfl) ?_
            obtain ⟨r3, er3, h⟩ := obind h
            refine call_R (va_runS (As := [.int r2]) (rest := []) ⟨hx, hb, hml, hown, hts⟩ (c_X4_turnOf l z0 D t r2 _ er3) (kS hts qw909 qw655 qw1 qw656 ok_X4_turnOf ⟨Nat.le_of_ble_eq_true rfl, Nat.le_of_ble_eq_true rfl⟩) ⟨PR.blind, fun U hU hW => ⟨rfl, by rw [hU]; exact (hC.at hS hZ).warm hW, by rw [hU]; exact va_P_nil⟩⟩ rfl rfl hl.1 rfl (lv_room (Nat.le_of_ble_eq_true rfl)) dX4_triple_60 ⟨Nat.le_of_ble_eq_true rfl, Nat.le_of_ble_eq_true rfl⟩) ?_
            exact absurd (Option.some.inj h) (fun z => by cases z)
          · have h := iteT hc h
            refine lv_iload_n hx hb dX4_triple_52 rfl (lv_at hl 0 rfl) ?_
            obtain ⟨r4, er4, h⟩ := obind h
            refine call_R (va_runS (As := [.int r2]) (rest := []) ⟨hx, hb, hml, hown, hts⟩ (c_X4_rowOf l z0 D t r2 _ er4) (kS hts qw908 qw652 qw1 qw653 ok_X4_rowOf ⟨Nat.le_of_ble_eq_true rfl, Nat.le_of_ble_eq_true rfl⟩) ⟨PR.blind, fun U hU hW => ⟨rfl, by rw [hU]; exact (hC.at hS hZ).warm hW, by rw [hU]; exact va_P_nil⟩⟩ rfl rfl hl.1 rfl (lv_room (Nat.le_of_ble_eq_true rfl)) dX4_triple_53 ⟨Nat.le_of_ble_eq_true rfl, Nat.le_of_ble_eq_true rfl⟩) ?_
            refine lv_goto (tgt := 63) hx hb dX4_triple_56 (by decide) ?_
            exact absurd (Option.some.inj h) (fun z => by cases z)
        · have h := iteT hc h
          refine lv_iload_n hx hb dX4_triple_42 rfl (lv_at hl 0 rfl) ?_
          obtain ⟨r5, er5, h⟩ := obind h
          refine call_R (va_runS (As := [.int r2]) (rest := []) ⟨hx, hb, hml, hown, hts⟩ (c_X4_columnOf l z0 D t r2 _ er5) (kS hts qw907 qw649 qw1 qw650 ok_X4_columnOf ⟨Nat.le_of_ble_eq_true rfl, Nat.le_of_ble_eq_true rfl⟩) ⟨PR.blind, fun U hU hW => ⟨rfl, by rw [hU]; exact (hC.at hS hZ).warm hW, by rw [hU]; exact va_P_nil⟩⟩ rfl rfl hl.1 rfl (lv_room (Nat.le_of_ble_eq_true rfl)) dX4_triple_43 ⟨Nat.le_of_ble_eq_true rfl, Nat.le_of_ble_eq_true rfl⟩) ?_
          exact absurd (Option.some.inj h) (fun z => by cases z)
      · replace h := sumR h
        obtain rfl := Sum.inr.inj (Option.some.inj h)
        refine call_X (vx_runS (As := [.int a2]) (rest := []) ⟨hx, hb, hml, hown, hts⟩ (x_X4_requireProperty l hl9 z0 D t a2 _ H.size er1) (kS hts qw764 qw765 qw1 qw766 ok_X4_requireProperty ⟨Nat.le_of_ble_eq_true rfl, Nat.le_of_ble_eq_true rfl⟩) ⟨PM.blind, fun U hU hW => ⟨rfl, by rw [hU]; exact (hC.at hS hZ).warm hW, by rw [hU], by rw [hU]; exact va_P_nil, ⟨(va_D_nil (A := OA [] s.heap.size)).1, fun _ _ h9 => Or.inl (in_map (L := []) rfl h9)⟩, fun q hq => hZ q (OA.nil hSz q hq)⟩⟩ rfl rfl hl.1 rfl (lv_room (Nat.le_of_ble_eq_true rfl)) dX4_triple_26 ⟨Nat.le_of_ble_eq_true rfl, Nat.le_of_ble_eq_true rfl⟩) hS (OA.nil hSz) (fun H locs q9 ce9 hP1 hD1 hS hsz1 hk1 hce hcv hcc => ?_)
        have hP : va_P D vwCl (XW x0 s0 s1 e0 E A B G T t μ) H := va_P.keptN hP hk1
        exact vx_out (fun x9 hx9 => (hT x9 hx9).elim) hlocks hce hcv hcc (fun t9 h8 _ => XM.mk2 hP hD hS h8) hS.2.2 (Nat.le_of_ble_eq_true rfl) (Nat.le_of_ble_eq_true rfl)
    · have h := iteF hc h
      obtain rfl := Sum.inr.inj (Option.some.inj h)
      obtain ⟨sa, hsa⟩ := hC.2.2.2.2.2.1 ("BentGardens", 235, "there is no such triple") (by decide +kernel)
      refine vx_throwS hx hb hl9 hown (cls := "java/lang/IndexOutOfBoundsException") (names := ["java/lang/RuntimeException", "java/lang/Exception"]) (by decide) (by decide) (hts _ qw562) (hts _ qw24) hsa (at_words hts hC.2.1 at_IndexOutOfBoundsException) ato_IndexOutOfBoundsException (hC.2.2.2.2.2.2.2.1.narrow hZ) (hC.2.2.2.2.2.2.2.2.1.narrow hZ) hS (hl.1.trans hml.symm) dX4_triple_15 dX4_triple_18 dX4_triple_19 dX4_triple_21 dX4_triple_24 (fun x9 hx9 => (hT x9 hx9).elim) (Nat.le_of_ble_eq_true rfl) (Nat.le_of_ble_eq_true rfl) (Nat.le_of_ble_eq_true rfl) (Nat.le_of_ble_eq_true rfl) hlocks (fun t9 _ h8 h9 => XM.mk hP hD hS h8 h9) hS.2.2 (Nat.le_of_ble_eq_true rfl) (Nat.le_of_ble_eq_true rfl)

abbrev rm_X4_lonely : Room := { frames := 5, cells := 0, slots := 0, locals := 137 }
theorem ok_X4_lonely : okY yX4_lonely 0 := ⟨by decide +kernel, by decide +kernel, by decide +kernel⟩
set_option maxHeartbeats 4000000 in
set_option maxRecDepth 100000 in
theorem c_X4_lonely (l : Launch) (z0 : Nat) (D : va_G) (t : Nat → ClassId) (x0 : Nat) (s0 : Nat) (s1 : Nat) (e0 : Nat) (E : Nat → Nat) (A : Nat → Nat) (B : Nat → Nat) (G : Nat → Nat) (T : va_W) (μ : XS) (res : Int32) (h : f_X4_lonely μ = some res) : Met l yX4_lonely (ws_ yX4_lonely cX4_lonely 2 (some .int)) rm_X4_lonely (PR z0 D t [.ref (x0)] (XW x0 s0 s1 e0 E A B G T t μ)) (QR (some (.int res))) 0 0 FN := by
  refine Met.ofW (cc := cX4_lonely) (maxL := 2) (ret := (some .int)) (by decide) rfl ?_
  intro p e s m args below meth c s₁ Bo hml hv
  obtain ⟨rfl, hC, hP⟩ := hv
  have hx := Bo.exec
  have hb := Bo.bytes
  have hr := Bo.returns
  have hts : ∀ w ∈ LA, w.before _ s = true := fun w hw => atoms_spec (ws := ws_ yX4_lonely cX4_lonely 2 (some .int)) Bo.pre w (List.mem_cons_of_mem _ hw)
  have hown : s.vm.findClass RX4 = some m.cls := findClass_of_methodNamed Bo.named
  have hlocks := Bo.notSynchronized
  have hK := hC.1
  have hl := lv_entry ([.ref (x0)]) (n := 2) (Nat.le_of_ble_eq_true rfl)
  rw [lg_entry_eq]
  generalize (lg_sl ([.ref (x0)]) ++ List.replicate (2 - (lg_sl ([.ref (x0)])).length) Slot.unset).toArray = ls at hl ⊢
  have hl : lv_has ls 2 [(0, .ref (x0))] := hl
  unfold f_X4_lonely at h
  refine lv_aload_n hx hb dX4_lonely_0 rfl (lv_at hl 0 rfl) ?_
  refine va_get hx hb hts inX4 hown hK hP 0 rfl rfl 4 (by decide) (hts _ qw159) (fun _ h9 => h9) rfl dX4_lonely_1 ?_
  refine lv_iconst (v := (0)) hx hb dX4_lonely_4 (by decide) ?_
  obtain ⟨r1, er1, h⟩ := obind h
  refine call_R (va_runV (As := [.int (0 : Int32)]) (rest := []) ⟨hx, hb, hml, hown, hts⟩ (c_X1_firstFreeWith l z0 D t G ((x_wide μ), (x_high μ), (x_pond μ), (x_walls μ), (x_paved μ), (x_tc μ), (x_flips μ), (x_refused μ), (x_names μ)) (0 : Int32) _ er1) (kV hts qw842 qw843 qw844 qw8 qw845 ok_X1_firstFreeWith ⟨Nat.le_of_ble_eq_true rfl, Nat.le_of_ble_eq_true rfl⟩) ⟨PR.blind, va_recv hK (sub_X_G (μ := μ) hP) (ci := 2) (q0 := 0) rfl rfl, fun U hU hW => ⟨rfl, by rw [hU]; exact hC.warm hW, by rw [hU]; exact (sub_X_G (μ := μ) hP)⟩⟩ rfl rfl hl.1 rfl (lv_room (Nat.le_of_ble_eq_true rfl)) dX4_lonely_5 ⟨Nat.le_of_ble_eq_true rfl, Nat.le_of_ble_eq_true rfl⟩) ?_
  refine lv_istore_n (lv' := [(1, .int r1), (0, .ref (x0))]) hx hb dX4_lonely_8 rfl hl (by decide) rfl (fun ls hl => ?_)
  refine lv_iload_n hx hb dX4_lonely_9 rfl (lv_at hl 0 rfl) ?_
  refine lv_iconst (v := (-1)) hx hb dX4_lonely_10 (by decide) ?_
  refine lv_icmp_ne (tgt := 18) hx hb dX4_lonely_11 (by decide) (fun hc => ?_) (fun hc => ?_)
  · have h := iteF hc h
    refine lv_iload_n hx hb dX4_lonely_18 rfl (lv_at hl 0 rfl) ?_
    obtain ⟨r2, er2, h⟩ := obind h
    refine call_R (va_runS (As := [.int r1]) (rest := []) ⟨hx, hb, hml, hown, hts⟩ (c_X4_cellName l z0 D t r1 _ er2) (kS hts qw370 qw371 qw1 qw372 ok_X4_cellName ⟨Nat.le_of_ble_eq_true rfl, Nat.le_of_ble_eq_true rfl⟩) ⟨PR.blind, fun U hU hW => ⟨rfl, by rw [hU]; exact hC.warm hW, by rw [hU]; exact va_P_nil⟩⟩ rfl rfl hl.1 rfl (lv_room (Nat.le_of_ble_eq_true rfl)) dX4_lonely_19 ⟨Nat.le_of_ble_eq_true rfl, Nat.le_of_ble_eq_true rfl⟩) ?_
    obtain rfl := Option.some.inj h
    exact W.iret hx hb hr (fun t ht hW => ⟨rfl, ht⟩) (fun q hq => absurd hq List.not_mem_nil) dX4_lonely_22
  · have h := iteT hc h
    refine lv_iconst (v := (-1)) hx hb dX4_lonely_14 (by decide) ?_
    refine lv_goto (tgt := 22) hx hb dX4_lonely_15 (by decide) ?_
    obtain rfl := Option.some.inj h
    exact W.iret hx hb hr (fun t ht hW => ⟨rfl, ht⟩) (fun q hq => absurd hq List.not_mem_nil) dX4_lonely_22
