/-! ===== the law s loop, its end and its start ===== -/
theorem law_end {p : Program} {l : Launch} {e : Env} {s : State} {m : MethodId} {below : List Frame} {meth : Method} {c : Code} {b L : Nat} {xs : Nat → Int32} (C0 : lw_At p s m meth c b L xs) {H : Heap} {locs : List Loc} {ls : Array Slot} {cells slots : Nat} (hS : va_S (OA [] s.heap.size) s.heap H locs) (hc1 : cells ≤ 601024) (hc2 : slots ≤ 7293034) : W p l e room_1 s m #[Value.ref b] below meth c H locs cells slots (lw_Z below #[Value.ref b] s) (F0 m 1566 ls []) := by
  obtain ⟨hx, hb, hr, -, -, -, -, -, hlocks, -⟩ := C0
  have hZ : ∀ q, OA [] s.heap.size q → s.heap.size ≤ q := fun q h => h.elim (fun z => nomatch z) id
  refine va_forget (fun q hq => hZ _ (hS.2.2 q hq)) ?_
  refine W.widen (k := 601024) (n := 7293034) hc1 hc2 ?_
  refine lv_iconst (v := 1) hx hb dL_law_1566 (by decide) ?_
  exact W.base (lw_ret (Drawn.sameBut.refl s.drawn lw_cs) hx hb hr hlocks dL_law_1567)
theorem low4 {i L : Nat} (hi : i ≤ L) (hL : L ≤ 2048) (h : ¬ nI L - nI 4 < nI i) : i + 4 ≤ L := by
  by_cases h4 : 4 ≤ L
  · rw [pk_sub h4, nI_ltI (by omega) (by omega)] at h
    omega
  · refine absurd ?_ h
    have h0 : nI 0 ≤ nI i := Int32.not_lt.mp (nI_nlt (Nat.zero_le i) (by omega))
    have h1 : nI L - nI 4 < nI 0 := by
      rcases (show L = 0 ∨ L = 1 ∨ L = 2 ∨ L = 3 by omega) with rfl | rfl | rfl | rfl <;> decide
    exact Int32.lt_of_lt_of_le h1 h0
theorem law_go {p : Program} {l : Launch} {e : Env} {s : State} {m : MethodId} {below : List Frame} {meth : Method} {c : Code} {b L : Nat} {xs : Nat → Int32} {D : va_G} {t : Nat → ClassId} {x0 o : Nat} {A : Nat → Nat} (C0 : lw_At p s m meth c b L xs) (hC : CTX s.heap.size D t s s.heap) (hN : NC s) (hl9 : l.stackTraces = false) (hL : L ≤ 2048) : ∀ (d i : Nat) (H : Heap) (locs : List Loc) (ls : Array Slot) (cells slots : Nat), i ≤ L → L < i + 4 * d + 4 → LINV D t s b x0 o A (nI i) ls H locs → cells + 6 * d ≤ 601024 → slots + 81 * d ≤ 7293034 → W p l e room_1 s m #[Value.ref b] below meth c H locs cells slots (lw_Z below #[Value.ref b] s) (F0 m 23 ls []) := by
  have C := C0
  obtain ⟨hx, hb, -, -, -, -, hX, hbl, -, -⟩ := C
  have hZ : ∀ q, OA [] s.heap.size q → s.heap.size ≤ q := fun q h => h.elim (fun z => nomatch z) id
  have hbA : ¬ OA [] s.heap.size b := fun z => absurd hbl (Nat.not_lt.mpr (hZ b z))
  intro d
  induction d with
  | zero =>
    intro i H locs ls cells slots hiL hd hI hc1 hc2
    obtain ⟨f, w, μ, hl, hP, hD, hS, hw⟩ := hI
    refine lv_iload hx hb dL_law_23 (lv_at hl 0 rfl) ?_
    refine lv_aload_n hx hb dL_law_25 rfl (lv_at hl 1 rfl) ?_
    refine va_slen hx hb hX hbl hbA hS dL_law_26 ?_
    refine lv_iconst (v := nI 4) hx hb dL_law_27 (by decide) ?_
    refine lv_isub hx hb dL_law_28 ?_
    refine lv_icmp_gt (tgt := 1566) hx hb dL_law_29 (by decide) (fun hc => law_end C0 hS (by omega) (by omega)) (fun hc => ?_)
    have := low4 hiL hL hc
    omega
  | succ d ih =>
    intro i H locs ls cells slots hiL hd hI hc1 hc2
    have hI2 := hI
    obtain ⟨f, w, μ, hl, hP, hD, hS, hw⟩ := hI
    refine lv_iload hx hb dL_law_23 (lv_at hl 0 rfl) ?_
    refine lv_aload_n hx hb dL_law_25 rfl (lv_at hl 1 rfl) ?_
    refine va_slen hx hb hX hbl hbA hS dL_law_26 ?_
    refine lv_iconst (v := nI 4) hx hb dL_law_27 (by decide) ?_
    refine lv_isub hx hb dL_law_28 ?_
    refine lv_icmp_gt (tgt := 1566) hx hb dL_law_29 (by decide) (fun hc => law_end C0 hS (by omega) (by omega)) (fun hc => ?_)
    have h4 := low4 hiL hL hc
    refine turn C0 hC hN hl9 h4 hL hI2 (by omega) (by omega) (fun ls H locs hI => ?_)
    obtain ⟨f, w, μ, hl, hP, hD, hS, hw⟩ := hI
    refine lv_iinc (v := nI (i + 4)) (lv' := [(4, .int (nI (i + 4))), (0, .ref b), (1, .ref x0), (2, .ref (A 0)), (3, .ref o)]) hx hb dL_law_1560 hl (k := 0) rfl (nI_add i 4) (by decide) rfl (fun ls hl => ?_)
    refine lv_goto (tgt := 23) hx hb dL_law_1563 (by decide) ?_
    exact ih (i + 4) H locs ls (cells + 6) (slots + 81) h4 (by omega) ⟨f, w, μ, hl, hP, hD, hS, hw⟩ (by omega) (by omega)
