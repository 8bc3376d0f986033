/-! ===== p30: the law s own reader of the script ===== -/
abbrev rm_L_cell : Room := { frames := 0, cells := 0, slots := 0, locals := 0 }
theorem okL_cell : okY yL_cell 2 := ⟨by decide +kernel, by decide +kernel, by decide +kernel⟩
theorem scr_in {L : Nat} {i : Int32} (hL : L ≤ 260) (h0 : ¬ i < 0) (h : ¬ nI L ≤ i) : vp_in i L := by
  obtain ⟨j, hj, rfl⟩ := nI_of h0
  rw [nI_leI (by omega) hj] at h
  exact nI_in (by omega) (by omega)
set_option maxHeartbeats 4000000 in
theorem c_L_cell (l : Launch) {b L : Nat} {xs : Nat → Int32} (hL : L ≤ 260) (i v : Int32) (h : q_scr L xs i = some v) : Met l yL_cell (ws_ yL_cell cL_cell 2 (some .int)) rm_L_cell (PSC b L xs i) (QR (some (.int v))) 0 0 FN := by
  refine Met.ofW (cc := cL_cell) (maxL := 2) (ret := (some .int)) (by decide) rfl ?_
  intro p e s m args below meth c s₁ Bo hml hv
  obtain ⟨rfl, hX, hbl⟩ := hv
  have hx := Bo.exec
  have hb := Bo.bytes
  have hr := Bo.returns
  have hts : ∀ w ∈ LA, w.before _ s = true := fun w hw => atoms_spec (ws := ws_ yL_cell cL_cell 2 (some .int)) Bo.pre w (List.mem_cons_of_mem _ hw)
  have hown : s.vm.findClass RL = some m.cls := findClass_of_methodNamed Bo.named
  have hlocks := Bo.notSynchronized
  have hS : va_S (fun _ => False) s.heap s.heap [] := va_S.rf
  have hbA : ¬ (fun _ : Nat => False) b := fun z => z
  have hl := lv_entry ([.ref b, .int i]) (n := 2) (Nat.le_of_ble_eq_true rfl)
  rw [lg_entry_eq]
  generalize (lg_sl ([.ref b, .int i]) ++ List.replicate (2 - (lg_sl ([.ref b, .int i])).length) Slot.unset).toArray = ls at hl ⊢
  have hl : lv_has ls 2 [(0, .ref b), (1, .int i)] := hl
  unfold q_scr at h
  have h0 : ¬ i < 0 := fun z => by rw [if_pos z] at h; cases h
  rw [if_neg h0] at h
  obtain rfl := Option.some.inj h
  refine lv_iload_n hx hb dL_cell_0 rfl (lv_at hl 1 rfl) ?_
  refine lv_aload_n hx hb dL_cell_1 rfl (lv_at hl 0 rfl) ?_
  refine va_slen hx hb hX hbl hbA hS dL_cell_2 ?_
  refine lv_icmp_ge (tgt := 12) hx hb dL_cell_3 (by decide) (fun hc => ?_) (fun hc => ?_)
  · have hc : nI L ≤ i := hc
    rw [if_pos hc]
    refine lv_ldc (v := (44017)) hx hb hown (hts _ qw376) dL_cell_12 ?_
    refine lv_iload_n hx hb dL_cell_14 rfl (lv_at hl 1 rfl) ?_
    refine lv_sipush (v := (4096)) hx hb dL_cell_15 (by decide) ?_
    refine lv_irem hx hb dL_cell_18 (by decide) ?_
    refine lv_imul hx hb dL_cell_19 ?_
    refine lv_sipush (v := (241)) hx hb dL_cell_20 (by decide) ?_
    refine lv_iadd hx hb dL_cell_23 ?_
    refine lv_ldc (v := (2147483647)) hx hb hown (hts _ qw377) dL_cell_24 ?_
    refine lv_iand hx hb dL_cell_26 ?_
    exact W.iret hx hb hr (fun t ht hW => ⟨rfl, ht⟩) (fun q hq => absurd hq List.not_mem_nil) dL_cell_27
  · have hc : ¬ nI L ≤ i := hc
    rw [if_neg hc]
    refine lv_aload_n hx hb dL_cell_6 rfl (lv_at hl 0 rfl) ?_
    refine lv_iload_n hx hb dL_cell_7 rfl (lv_at hl 1 rfl) ?_
    refine va_sld hx hb hX hbl hbA hS (scr_in hL h0 hc) dL_cell_8 ?_
    refine lv_goto (tgt := 24) hx hb dL_cell_9 (by decide) ?_
    refine lv_ldc (v := (2147483647)) hx hb hown (hts _ qw377) dL_cell_24 ?_
    refine lv_iand hx hb dL_cell_26 ?_
    exact W.iret hx hb hr (fun t ht hW => ⟨rfl, ht⟩) (fun q hq => absurd hq List.not_mem_nil) dL_cell_27
