/-! ===== the law's entry: the context, out of the tables' words and what is given ===== -/
section ENT
variable {s : State} {args : Array Value}
theorem ent_arr {ty : FieldType} (h : (Cond.arrayClass ty).before args s = true) : ∃ cA, ArrOfT s cA ty ∧ s.vm.findClass ("[" ++ ty.toString) = some cA := by
  obtain ⟨cA, kA, comp, h1, h2, h3⟩ := Cond.arrayClass_spec h
  exact ⟨cA, fun n z => ⟨fun k h => (by cases h), kA, h2, comp, h3⟩, h1⟩
theorem ent_obj {C : String} (h : (Cond.arrayOver (.object C)).before args s = true) : ∃ cA, ArrOfT s cA (.object C) ∧ va_RA s cA (.object C) := by
  obtain ⟨comp, cA, kA, h1, -, h2, h3, h4⟩ := Cond.arrayOver_spec h
  exact ⟨cA, fun n z => ⟨fun k h => (by cases h), kA, h2, comp, h3⟩, kA, comp, h2, h3, h1, h4⟩
theorem ent_arr2 {ty : FieldType} (h : (Cond.arrayOver (.array ty)).before args s = true) : ∃ cA, ArrOfT s cA (.array ty) ∧ s.vm.findClass ("[" ++ (FieldType.array ty).toString) = some cA := by
  obtain ⟨comp, cA, kA, h1, -, h2, h3, h4⟩ := arrayOver_specB h
  exact ⟨cA, fun n z => ⟨fun k h => (by cases h), kA, h2, comp, h3⟩, h4⟩
def hgb (g : Cond) : Bool := decide (g ∈ lw_tbl)
theorem ent_tbl : hgb (.arrayOver (.object "BentGardens$Garden")) = true ∧ hgb (.arrayOver (.object "java/lang/Object")) = true ∧ hgb (.arrayOver (.array .int)) = true ∧ hgb (.laysStatic "BentGardens" "SHAPES" "[J") = true ∧ hgb (.laysStatic "java/lang/Throwable" "SUPPRESSED_SENTINEL" "Ljava/util/List;") = true ∧ hgb (.laysStatic "java/lang/Throwable" "UNASSIGNED_STACK" "[Ljava/lang/StackTraceElement;") = true ∧ hgb (.laysStatic "java/util/ArrayList" "DEFAULTCAPACITY_EMPTY_ELEMENTDATA" "[Ljava/lang/Object;") = true := by decide +kernel
theorem ent_strs : STR.all (fun q => hgb (.stringRef q.1 q.2.1 q.2.2) && decide (q.1 = RX4)) = true := by decide +kernel
theorem entK (hts : ∀ w ∈ lw_tbl, w.before args s = true) : ∃ (D : va_G) (t : Nat → ClassId), ∀ te, va_K D vwCl (TY (fun k => if k = 100 then te else t k)) s := by
  have hta : ∀ w ∈ LA, w.before args s = true := fun w hw => hts w (LA_tbl w hw)
  obtain ⟨c0, i0, u0⟩ := u_known hta inJx4a65c (hta _ qw34)
  obtain ⟨c1, i1, u1⟩ := u_known hta inX0 (hta _ qw62)
  obtain ⟨c2, i2, u2⟩ := u_known hta inX1 (hta _ qw114)
  obtain ⟨c3, i3, u3⟩ := u_known hta inX2 (hta _ qw77)
  obtain ⟨c4, i4, u4⟩ := u_known hta inX3 (hta _ qw176)
  obtain ⟨c5, i5, u5⟩ := u_known hta inX4 (hta _ qw26)
  obtain ⟨c6, i6, u6⟩ := u_known hta inX6 (hta _ qw85)
  obtain ⟨a0, v0, w0⟩ := ent_arr (hta _ qw75)
  obtain ⟨a3, v3, w3⟩ := ent_obj (hts _ (of_decide_eq_true ent_tbl.1))
  obtain ⟨a4, v4, w4⟩ := ent_obj (hts _ (of_decide_eq_true ent_tbl.2.1))
  obtain ⟨a5, v5, w5⟩ := ent_arr2 (hts _ (of_decide_eq_true ent_tbl.2.2.1))
  obtain ⟨a6, v6, w6⟩ := ent_arr (hta _ qw943)
  refine ⟨(fun c => if c = 0 then c0 else if c = 1 then c1 else if c = 2 then c2 else if c = 3 then c3 else if c = 4 then c4 else if c = 5 then c5 else c6, fun c => if c = 0 then i0 else if c = 1 then i1 else if c = 2 then i2 else if c = 3 then i3 else if c = 4 then i4 else if c = 5 then i5 else i6), fun k => if k = 0 then a0 else if k = 1 then a0 else if k = 2 then a0 else if k = 3 then a3 else if k = 4 then a4 else if k = 5 then a5 else a6, fun te => ⟨fun c q hq => ?_, fun k q hq => ?_⟩⟩
  · rcases c with _ | _ | _ | _ | _ | _ | _ | c
    · obtain rfl := Option.some.inj (show some (RJx4a65c, TJx4a65c, 3) = some q from hq); exact u0
    · obtain rfl := Option.some.inj (show some (RX0, TX0, 2) = some q from hq); exact u1
    · obtain rfl := Option.some.inj (show some (RX1, TX1, 9) = some q from hq); exact u2
    · obtain rfl := Option.some.inj (show some (RX2, TX2, 4) = some q from hq); exact u3
    · obtain rfl := Option.some.inj (show some (RX3, TX3, 5) = some q from hq); exact u4
    · obtain rfl := Option.some.inj (show some (RX4, TX4, 5) = some q from hq); exact u5
    · obtain rfl := Option.some.inj (show some (RX6, TX6, 3) = some q from hq); exact u6
    · cases (show none = some q from hq)
  · rcases k with _ | _ | _ | _ | _ | _ | _ | k
    · obtain rfl := Option.some.inj (show some (a0, FieldType.int) = some q from hq); exact ⟨v0, w0⟩
    · obtain rfl := Option.some.inj (show some (a0, FieldType.int) = some q from hq); exact ⟨v0, w0⟩
    · obtain rfl := Option.some.inj (show some (a0, FieldType.int) = some q from hq); exact ⟨v0, w0⟩
    · obtain rfl := Option.some.inj (show some (a3, FieldType.object "BentGardens$Garden") = some q from hq); exact ⟨v3, w3⟩
    · obtain rfl := Option.some.inj (show some (a4, FieldType.object "java/lang/Object") = some q from hq); exact ⟨v4, w4⟩
    · obtain rfl := Option.some.inj (show some (a5, FieldType.array .int) = some q from hq); exact ⟨v5, w5⟩
    · obtain rfl := Option.some.inj (show some (a6, FieldType.long) = some q from hq); exact ⟨v6, w6⟩
    · cases (show none = some q from hq)
theorem entS (hts : ∀ w ∈ lw_tbl, w.before args s = true) : ∀ q ∈ STR, ∃ sa, vk_R q.1 q.2.1 q.2.2 sa s := by
  intro q hq
  have hta : ∀ w ∈ LA, w.before args s = true := fun w hw => hts w (LA_tbl w hw)
  have h := List.all_eq_true.mp ent_strs q hq
  rw [Bool.and_eq_true, decide_eq_true_eq] at h
  have h1 := hts _ (of_decide_eq_true h.1)
  obtain ⟨c5, i5, u5⟩ := u_known hta inX4 (hta _ qw26)
  obtain ⟨k, cf, i, a, -, -, -, -, -, e⟩ := Cond.stringRef_spec (cls := q.1) (by rw [h.2]; exact u5.2.1) h1
  exact ⟨a, vk_R.of h1 e⟩
theorem entST (hts : ∀ w ∈ lw_tbl, w.before args s = true) (hgv : (Jvm.Cond.and given_1 narrow_1).before args s = true) : ∃ te, ST s.heap.size te s s.heap := by
  have hta : ∀ w ∈ LA, w.before args s = true := fun w hw => hts w (LA_tbl w hw)
  have hg := flat_of_before _ hgv
  have hA : ∀ a : Nat, a < s.heap.size → ¬ STA s.heap.size a := fun a h z => Nat.not_le.mpr h z
  obtain ⟨ts, e1, e2⟩ := va_Tof (tm := .static "BentGardens" "SHAPES" "[J") (ty := .long) (N := 4) (f := fun j => .long (shp j)) (by decide) (hg _ (by decide +kernel)) (va_eqt (hg (.eq (.length (.static "BentGardens" "SHAPES" "[J")) (.int 4)) (by decide +kernel))) (fun j hj => by
    rcases (show j = 0 ∨ j = 1 ∨ j = 2 ∨ j = 3 by omega) with rfl | rfl | rfl | rfl
    · exact va_eqtl (hg (.eq (.elem (.static "BentGardens" "SHAPES" "[J") (.int 0)) (.long 770)) (by decide +kernel))
    · exact va_eqtl (hg (.eq (.elem (.static "BentGardens" "SHAPES" "[J") (.int 1)) (.long 769)) (by decide +kernel))
    · exact va_eqtl (hg (.eq (.elem (.static "BentGardens" "SHAPES" "[J") (.int 2)) (.long 259)) (by decide +kernel))
    · exact va_eqtl (hg (.eq (.elem (.static "BentGardens" "SHAPES" "[J") (.int 3)) (.long 515)) (by decide +kernel))) hA
  obtain ⟨te, f1, f2⟩ := va_Tof (tm := .static "java/util/ArrayList" "DEFAULTCAPACITY_EMPTY_ELEMENTDATA" "[Ljava/lang/Object;") (ty := .object "java/lang/Object") (N := 0) (f := fun _ => .null) (by decide) (hg _ (by decide +kernel)) (va_eqt (hg (.eq (.length (.static "java/util/ArrayList" "DEFAULTCAPACITY_EMPTY_ELEMENTDATA" "[Ljava/lang/Object;")) (.int 0)) (by decide +kernel))) (fun j hj => absurd hj (Nat.not_lt_zero j)) hA
  exact ⟨te, ⟨ts, va_Zof (hts _ (of_decide_eq_true ent_tbl.2.2.2.1)) (hta _ qw1) e1 hA, e2⟩, vx_Zqof (hts _ (of_decide_eq_true ent_tbl.2.2.2.2.2.1)) (hta _ qw9) (hg _ (by decide +kernel)) hA, vx_Zqof (hts _ (of_decide_eq_true ent_tbl.2.2.2.2.1)) (hta _ qw9) (hg _ (by decide +kernel)) hA, va_Zof (hts _ (of_decide_eq_true ent_tbl.2.2.2.2.2.2)) (hta _ qw4) f1 hA, f2⟩
theorem ent_law (hts : ∀ w ∈ lw_tbl, w.before args s = true) (hgv : (Jvm.Cond.and given_1 narrow_1).before args s = true) : ∃ (D : va_G) (t : Nat → ClassId), CTX s.heap.size D t s s.heap ∧ NC s := by
  have hg := flat_of_before _ hgv
  obtain ⟨D, t, hK⟩ := entK hts
  obtain ⟨te, hT⟩ := entST hts hgv
  refine ⟨D, fun k => if k = 100 then te else t k, ⟨hK te, fun w hw => ?_, va_AOA.of (hts _ (of_decide_eq_true ent_tbl.2.2.1)), va_AO.of (hts _ (of_decide_eq_true ent_tbl.2.1)), va_AO.of (hts _ (of_decide_eq_true ent_tbl.1)), entS hts, hT⟩, va_Nc.of (hg (.not (.castable ISE IAE)) (by decide +kernel)), va_Nc.of (hg (.not (.castable ISE IOE)) (by decide +kernel)), va_Nc.of (hg (.not (.castable IAE IOE)) (by decide +kernel))⟩
  have h1 := hts w (List.mem_filter.mp hw).1
  have h2 : isNest w = true := (List.mem_filter.mp hw).2
  exact va_Nw.of (by cases w <;> first | rfl | (exact absurd h2 (by decide)) | (simp [isNest] at h2)) h1
end ENT
