/-! ===== the law s loop: one turn ===== -/
theorem turn {p : Program} {l : Launch} {e : Env} {s : State} {m : MethodId} {below : List Frame} {meth : Method} {c : Code} {b L : Nat} {xs : Nat → Int32} {Q : State → Prop} {D : va_G} {t : Nat → ClassId} {x0 o : Nat} {A : Nat → Nat} (C0 : lw_At p s m meth c b L xs) (hC : CTX s.heap.size D t s s.heap) (hN : NC s) (hl9 : l.stackTraces = false) {i : Nat} (hi : i + 4 ≤ L) (hL : L ≤ 2048) {H : Heap} {locs : List Loc} {ls : Array Slot} (hI : LINV D t s b x0 o A (nI i) ls H locs) {cells slots : Nat} (hc1 : cells + 6 ≤ 601024) (hc2 : slots + 81 ≤ 7293034) (kk : ∀ ls H locs, LINV D t s b x0 o A (nI i) ls H locs → W p l e room_1 s m #[Value.ref b] below meth c H locs (cells + 6) (slots + 81) Q (F0 m 1560 ls [])) : W p l e room_1 s m #[Value.ref b] below meth c H locs cells slots Q (F0 m 32 ls []) := by
  have C := C0
  have hI2 := hI
  obtain ⟨hx, hb, -, -, -, -, hX, hbl, -, -⟩ := C0
  obtain ⟨f, w, μ, hl, hP, hD, hS, hw⟩ := hI
  have hZ : ∀ q, OA [] s.heap.size q → s.heap.size ≤ q := fun q h => h.elim (fun z => nomatch z) id
  have hbA : ¬ OA [] s.heap.size b := fun z => absurd hbl (Nat.not_lt.mpr (hZ b z))
  refine lv_aload_n hx hb dL_law_32 rfl (lv_at hl 1 rfl) ?_
  refine lv_iload hx hb dL_law_33 (lv_at hl 0 rfl) ?_
  refine va_sld hx hb hX hbl hbA hS (vin_at (i := i) (k := 0) (by omega) hL) dL_law_35 ?_
  refine lv_bipush (v := 31) hx hb dL_law_36 (by decide) ?_
  refine lv_iand hx hb dL_law_38 ?_
  obtain ⟨n, hn, e9⟩ := and31 (xs (nI (i + 0)).toNatClampNeg)
  refine topI e9.symm ?_
  exact disp C hC hN hl9 hi hL hI2 hc1 hc2 kk hn
