/-! contracts of methods that make cells -/
def QE {β : Type} (vf : β → Option Value) (D : va_G) (wf : β → va_W) (L : List Nat) (sz : Nat) : Array Value → State → Outcome → State → Prop := fun _ st o t => ∃ b, o = .returned (vf b) ∧ va_P D vwCl (wf b) t.heap ∧ va_D (OA L sz) (wf b) ∧ va_F (OA L sz) st t
def gA (a b : Nat) : Nat → Nat := fun i => if i = 0 then a else b
def γ0 : GS := (4, 4, 0, 0, 0, 0, 0, 0, fun _ => 0)
theorem KA_eq {D : va_G} {t : Nat → ClassId} {s : State} {k : Nat} {ty : FieldType} {cA : ClassId} (hK : va_K D vwCl (TY t) s) (hK9 : va_K D vwCl (TY t ++ [(cA, ty)]) s) (hk : (TY t)[k]? = some (t k, ty)) : cA = t k := by
  have h1 := (hK.2 k _ hk).2
  have h2 := (hK9.2 7 _ (by rfl)).2
  dsimp only at h1 h2
  cases ty with
  | object C =>
    obtain ⟨_, _, _, _, _, e1⟩ := h1
    obtain ⟨_, _, _, _, _, e2⟩ := h2
    exact Option.some.inj (e2.symm.trans e1)
  | _ => exact Option.some.inj (h2.symm.trans h1)
theorem cell_ext {c : ClassId} {f g : Nat → Int32} {n : Nat} (h : ∀ j, j < n → f j = g j) : vp_cell c (n, .inl f) = vp_cell c (n, .inl g) := by
  rw [vp_cell_i, vp_cell_i]
  unfold arrV
  congr 2
  funext j
  exact congrArg Value.int (h j.val j.isLt)
theorem va_P.cong {D : va_G} {cl : List vw_C} {ws : va_W} {H : Heap} (hP : va_P D cl ws H) (k : Nat) {a n : Nat} {cA : ClassId} {f g : Nat → Int32} (he : ws[k]? = some (a, .inl (cA, (n, .inl f)))) (h : ∀ j, j < n → f j = g j) : va_P D cl (ws.set k (a, .inl (cA, (n, .inl g)))) H := by
  intro i q hq
  by_cases hi : i = k
  · subst hi
    rw [List.getElem?_set_self (List.getElem?_eq_some_iff.mp he).1] at hq
    cases hq
    have h1 := hP i _ he
    show H[a]? = some (vp_cell cA (n, .inl g))
    rw [← cell_ext h]
    exact h1
  · rw [List.getElem?_set_ne (Ne.symm hi)] at hq
    exact hP i q hq
section KE
variable {p : Program} {l : Launch} {e : Env} {R : Room} {s : State} {m : MethodId} {args : Array Value} {below : List Frame} {meth : Method} {c : Code} {H : Heap} {locs : List Loc} {cells slots : Nat} {Q : State → Prop}
variable {ls : Array Slot} {pc : Nat} {st0 rest : List Value} {D : va_G}
theorem call_E {β : Type} {vf : β → Option Value} {wf : β → va_W} {L1 : List Nat} {A0 : Nat → Prop} {H0 : Heap} {mc ms : Nat} (hr : va_Run p l e R s m args below meth c H locs cells slots mc ms (F0 m pc ls st0) rest (fun st o t => ∃ b, o = .returned (vf b) ∧ va_P D vwCl (wf b) t.heap ∧ va_D (OA L1 H.size) (wf b) ∧ va_F (OA L1 H.size) st t) (OA L1 H.size)) (hS : va_S A0 H0 H locs) (hA : ∀ q, OA L1 H.size q → A0 q)
    (kk : ∀ (b : β) (H1 : Heap) (locs1 : List Loc), va_P D vwCl (wf b) H1 → va_D (OA L1 H.size) (wf b) → va_S A0 H0 H1 locs1 → H.size ≤ H1.size → (∀ q : Nat, q < H.size → ¬ OA L1 H.size q → H1[q]? = H[q]?) → W p l e R s m args below meth c H1 locs1 (cells + mc) (slots + ms) Q (F0 m (pc + 3) ls ((vf b).toList ++ rest))) : W p l e R s m args below meth c H locs cells slots Q (F0 m pc ls st0) := by
  intro T hT X
  obtain ⟨v', st₀, t, T', L, h0, X', hL, e1, e2, ⟨b, hv, hP, hD, hF⟩, st⟩ := hr T hT X
  cases hv
  have hF1 : H.size ≤ T'.heap.size := by rw [e1, ← h0]; exact hF.1
  have hF2 : ∀ q : Nat, q < H.size → ¬ OA L1 H.size q → T'.heap[q]? = H[q]? := fun q h1 h2 => by rw [e1, ← h0]; exact hF.2 q (by rw [h0]; exact h1) h2
  have hS1 : va_S A0 H0 T'.heap (locs ++ L) := ⟨Nat.le_trans hS.1 hF1, fun q h1 h2 => (hF2 q (Nat.lt_of_lt_of_le h1 hS.1) (fun z => h2 (hA q z))).trans (hS.2.1 q h1 h2), fun l hl => (List.mem_append.mp hl).elim (hS.2.2 l) (fun z => hA _ (hL l z))⟩
  obtain ⟨t2, a1, b1⟩ := kk b T'.heap (locs ++ L) (by rw [e1]; exact hP) hD hS1 hF1 hF2 T' rfl X'
  exact ⟨t2, st t2 a1, b1⟩
end KE
abbrev rm_X1_init : Room := { frames := 1, cells := 1, slots := 21, locals := 40 }
theorem ok_X1_init : okY yX1_init 0 := ⟨by decide +kernel, by decide +kernel, by decide +kernel⟩
set_option maxHeartbeats 4000000 in
set_option maxRecDepth 100000 in
theorem c_X1_init (l : Launch) (z0 : Nat) (D : va_G) (t : Nat → ClassId) (g0 : Nat) (sz : Nat) : Met l yX1_init (ws_ yX1_init cX1_init 1 none) rm_X1_init (PM z0 D t [.ref g0] [(g0, .inr (2, [.int (0 : Int32), .int (0 : Int32), .int (0 : Int32), .long (0 : Int64), .long (0 : Int64), .int (0 : Int32), .int (0 : Int32), .int (0 : Int32), .null]))] [g0] sz) (QE (fun _ : Nat => none) D (fun q => GW (gA g0 q) t γ0) [g0] sz) 1 21 (OA [g0] sz) := by
  refine Met.ofW (cc := cX1_init) (maxL := 1) (ret := none) (by decide) rfl ?_
  intro p e s m args below meth c s₁ Bo hml hv
  obtain ⟨rfl, hC, hsz, hP, hD, hZ⟩ := hv
  have hx := Bo.exec
  have hb := Bo.bytes
  have hr := Bo.returns
  have hts : ∀ w ∈ LA, w.before _ s = true := fun w hw => atoms_spec (ws := ws_ yX1_init cX1_init 1 none) Bo.pre w (List.mem_cons_of_mem _ hw)
  have hown : s.vm.findClass RX1 = some m.cls := findClass_of_methodNamed Bo.named
  have hlocks := Bo.notSynchronized
  have hK := hC.1
  have hin : meth.name = "<init>" := (name_of_methodNamed Bo.named Bo.method).1
  subst hsz
  obtain ⟨L0, hL0⟩ : ∃ L0, L0 = [g0] := ⟨_, rfl⟩
  rw [← hL0] at hD hZ ⊢
  have hS : va_S (OA L0 s.heap.size) s.heap s.heap [] := va_S.rf
  suffices K9 : ∀ (H : Heap), va_P D vwCl [(g0, .inr (2, [.int (0 : Int32), .int (0 : Int32), .int (0 : Int32), .long (0 : Int64), .long (0 : Int64), .int (0 : Int32), .int (0 : Int32), .int (0 : Int32), .null]))] H → va_S (OA L0 s.heap.size) s.heap H [] → W p l e (headSpec (ws_ yX1_init cX1_init 1 none) rm_X1_init).room s m ([.ref g0] : List Value).toArray below meth c H [] 0 0 (MQ below (QE (fun _ : Nat => none) D (fun q => GW (gA g0 q) t γ0) L0 s.heap.size) ([.ref g0] : List Value).toArray s 1 21 (OA L0 s.heap.size)) (entryFrame m ([.ref g0] : List Value).toArray 1) from K9 s.heap hP hS
  intro H hP hS
  have hSz : s.heap.size ≤ H.size := hS.1
  have hl := lv_entry ([.ref g0]) (n := 1) (Nat.le_of_ble_eq_true rfl)
  rw [lg_entry_eq]
  generalize (lg_sl ([.ref g0]) ++ List.replicate (1 - (lg_sl ([.ref g0])).length) Slot.unset).toArray = ls at hl ⊢
  have hl : lv_has ls 1 [(0, .ref g0)] := hl
  refine lv_aload_n hx hb dX1_init_0 rfl (lv_at hl 0 rfl) ?_
  refine W.objInit hx hb hown (hts _ qw120) (hts _ qw33) (hts _ qw34) rfl (by rw [hml]; exact hl.1) rfl dX1_init_1 (Nat.le_of_ble_eq_true rfl) (Nat.le_of_ble_eq_true rfl) ?_
  refine W.eq (g2 := F0 m 4 ls []) rfl ?_
  refine lv_aload_n hx hb dX1_init_4 rfl (lv_at hl 0 rfl) ?_
  refine lv_iconst (v := (4)) hx hb dX1_init_5 (by decide) ?_
  refine va_put (D := D) (ci := 2) (v := .int (4 : Int32)) (ty := .int) hx hb hts inX1 tyX1 tyX1_ok nmX1 hown hK hP hD hS 0 rfl rfl 0 (by decide) (hts _ qw121) (fun _ h9 => h9) rfl (by decide +kernel) rfl rfl (Nat.le_of_ble_eq_true rfl) dX1_init_6 (fun H locs hP hD hS => ?_)
  have hP : va_P D vwCl ([(g0, .inr (2, [.int (4 : Int32), .int (0 : Int32), .int (0 : Int32), .long (0 : Int64), .long (0 : Int64), .int (0 : Int32), .int (0 : Int32), .int (0 : Int32), .null]))] : va_W) H := hP
  have hD : va_D (OA L0 s.heap.size) ([(g0, .inr (2, [.int (4 : Int32), .int (0 : Int32), .int (0 : Int32), .long (0 : Int64), .long (0 : Int64), .int (0 : Int32), .int (0 : Int32), .int (0 : Int32), .null]))] : va_W) := hD
  have hSz : s.heap.size ≤ H.size := hS.1
  refine lv_aload_n hx hb dX1_init_9 rfl (lv_at hl 0 rfl) ?_
  refine lv_iconst (v := (4)) hx hb dX1_init_10 (by decide) ?_
  refine va_put (D := D) (ci := 2) (v := .int (4 : Int32)) (ty := .int) hx hb hts inX1 tyX1 tyX1_ok nmX1 hown hK hP hD hS 0 rfl rfl 1 (by decide) (hts _ qw123) (fun _ h9 => h9) rfl (by decide +kernel) rfl rfl (Nat.le_of_ble_eq_true rfl) dX1_init_11 (fun H locs hP hD hS => ?_)
  have hP : va_P D vwCl ([(g0, .inr (2, [.int (4 : Int32), .int (4 : Int32), .int (0 : Int32), .long (0 : Int64), .long (0 : Int64), .int (0 : Int32), .int (0 : Int32), .int (0 : Int32), .null]))] : va_W) H := hP
  have hD : va_D (OA L0 s.heap.size) ([(g0, .inr (2, [.int (4 : Int32), .int (4 : Int32), .int (0 : Int32), .long (0 : Int64), .long (0 : Int64), .int (0 : Int32), .int (0 : Int32), .int (0 : Int32), .null]))] : va_W) := hD
  have hSz : s.heap.size ≤ H.size := hS.1
  refine lv_aload_n hx hb dX1_init_14 rfl (lv_at hl 0 rfl) ?_
  refine lv_iconst (v := (0)) hx hb dX1_init_15 (by decide) ?_
  refine va_put (D := D) (ci := 2) (v := .int (0 : Int32)) (ty := .int) hx hb hts inX1 tyX1 tyX1_ok nmX1 hown hK hP hD hS 0 rfl rfl 2 (by decide) (hts _ qw125) (fun _ h9 => h9) rfl (by decide +kernel) rfl rfl (Nat.le_of_ble_eq_true rfl) dX1_init_16 (fun H locs hP hD hS => ?_)
  have hP : va_P D vwCl ([(g0, .inr (2, [.int (4 : Int32), .int (4 : Int32), .int (0 : Int32), .long (0 : Int64), .long (0 : Int64), .int (0 : Int32), .int (0 : Int32), .int (0 : Int32), .null]))] : va_W) H := hP
  have hD : va_D (OA L0 s.heap.size) ([(g0, .inr (2, [.int (4 : Int32), .int (4 : Int32), .int (0 : Int32), .long (0 : Int64), .long (0 : Int64), .int (0 : Int32), .int (0 : Int32), .int (0 : Int32), .null]))] : va_W) := hD
  have hSz : s.heap.size ≤ H.size := hS.1
  refine lv_aload_n hx hb dX1_init_19 rfl (lv_at hl 0 rfl) ?_
  refine lv_lconst (v := (0)) hx hb dX1_init_20 (by decide) ?_
  refine va_put (D := D) (ci := 2) (v := .long (0 : Int64)) (ty := .long) hx hb hts inX1 tyX1 tyX1_ok nmX1 hown hK hP hD hS 0 rfl rfl 3 (by decide) (hts _ qw127) (fun _ h9 => h9) rfl (by decide +kernel) rfl rfl (Nat.le_of_ble_eq_true rfl) dX1_init_21 (fun H locs hP hD hS => ?_)
  have hP : va_P D vwCl ([(g0, .inr (2, [.int (4 : Int32), .int (4 : Int32), .int (0 : Int32), .long (0 : Int64), .long (0 : Int64), .int (0 : Int32), .int (0 : Int32), .int (0 : Int32), .null]))] : va_W) H := hP
  have hD : va_D (OA L0 s.heap.size) ([(g0, .inr (2, [.int (4 : Int32), .int (4 : Int32), .int (0 : Int32), .long (0 : Int64), .long (0 : Int64), .int (0 : Int32), .int (0 : Int32), .int (0 : Int32), .null]))] : va_W) := hD
  have hSz : s.heap.size ≤ H.size := hS.1
  refine lv_aload_n hx hb dX1_init_24 rfl (lv_at hl 0 rfl) ?_
  refine lv_lconst (v := (0)) hx hb dX1_init_25 (by decide) ?_
  refine va_put (D := D) (ci := 2) (v := .long (0 : Int64)) (ty := .long) hx hb hts inX1 tyX1 tyX1_ok nmX1 hown hK hP hD hS 0 rfl rfl 4 (by decide) (hts _ qw129) (fun _ h9 => h9) rfl (by decide +kernel) rfl rfl (Nat.le_of_ble_eq_true rfl) dX1_init_26 (fun H locs hP hD hS => ?_)
  have hP : va_P D vwCl ([(g0, .inr (2, [.int (4 : Int32), .int (4 : Int32), .int (0 : Int32), .long (0 : Int64), .long (0 : Int64), .int (0 : Int32), .int (0 : Int32), .int (0 : Int32), .null]))] : va_W) H := hP
  have hD : va_D (OA L0 s.heap.size) ([(g0, .inr (2, [.int (4 : Int32), .int (4 : Int32), .int (0 : Int32), .long (0 : Int64), .long (0 : Int64), .int (0 : Int32), .int (0 : Int32), .int (0 : Int32), .null]))] : va_W) := hD
  have hSz : s.heap.size ≤ H.size := hS.1
  refine lv_aload_n hx hb dX1_init_29 rfl (lv_at hl 0 rfl) ?_
  refine lv_iconst (v := (0)) hx hb dX1_init_30 (by decide) ?_
  refine va_put (D := D) (ci := 2) (v := .int (0 : Int32)) (ty := .int) hx hb hts inX1 tyX1 tyX1_ok nmX1 hown hK hP hD hS 0 rfl rfl 5 (by decide) (hts _ qw131) (fun _ h9 => h9) rfl (by decide +kernel) rfl rfl (Nat.le_of_ble_eq_true rfl) dX1_init_31 (fun H locs hP hD hS => ?_)
  have hP : va_P D vwCl ([(g0, .inr (2, [.int (4 : Int32), .int (4 : Int32), .int (0 : Int32), .long (0 : Int64), .long (0 : Int64), .int (0 : Int32), .int (0 : Int32), .int (0 : Int32), .null]))] : va_W) H := hP
  have hD : va_D (OA L0 s.heap.size) ([(g0, .inr (2, [.int (4 : Int32), .int (4 : Int32), .int (0 : Int32), .long (0 : Int64), .long (0 : Int64), .int (0 : Int32), .int (0 : Int32), .int (0 : Int32), .null]))] : va_W) := hD
  have hSz : s.heap.size ≤ H.size := hS.1
  refine lv_aload_n hx hb dX1_init_34 rfl (lv_at hl 0 rfl) ?_
  refine lv_iconst (v := (0)) hx hb dX1_init_35 (by decide) ?_
  refine va_put (D := D) (ci := 2) (v := .int (0 : Int32)) (ty := .int) hx hb hts inX1 tyX1 tyX1_ok nmX1 hown hK hP hD hS 0 rfl rfl 6 (by decide) (hts _ qw133) (fun _ h9 => h9) rfl (by decide +kernel) rfl rfl (Nat.le_of_ble_eq_true rfl) dX1_init_36 (fun H locs hP hD hS => ?_)
  have hP : va_P D vwCl ([(g0, .inr (2, [.int (4 : Int32), .int (4 : Int32), .int (0 : Int32), .long (0 : Int64), .long (0 : Int64), .int (0 : Int32), .int (0 : Int32), .int (0 : Int32), .null]))] : va_W) H := hP
  have hD : va_D (OA L0 s.heap.size) ([(g0, .inr (2, [.int (4 : Int32), .int (4 : Int32), .int (0 : Int32), .long (0 : Int64), .long (0 : Int64), .int (0 : Int32), .int (0 : Int32), .int (0 : Int32), .null]))] : va_W) := hD
  have hSz : s.heap.size ≤ H.size := hS.1
  refine lv_aload_n hx hb dX1_init_39 rfl (lv_at hl 0 rfl) ?_
  refine lv_iconst (v := (0)) hx hb dX1_init_40 (by decide) ?_
  refine va_put (D := D) (ci := 2) (v := .int (0 : Int32)) (ty := .int) hx hb hts inX1 tyX1 tyX1_ok nmX1 hown hK hP hD hS 0 rfl rfl 7 (by decide) (hts _ qw135) (fun _ h9 => h9) rfl (by decide +kernel) rfl rfl (Nat.le_of_ble_eq_true rfl) dX1_init_41 (fun H locs hP hD hS => ?_)
  have hP : va_P D vwCl ([(g0, .inr (2, [.int (4 : Int32), .int (4 : Int32), .int (0 : Int32), .long (0 : Int64), .long (0 : Int64), .int (0 : Int32), .int (0 : Int32), .int (0 : Int32), .null]))] : va_W) H := hP
  have hD : va_D (OA L0 s.heap.size) ([(g0, .inr (2, [.int (4 : Int32), .int (4 : Int32), .int (0 : Int32), .long (0 : Int64), .long (0 : Int64), .int (0 : Int32), .int (0 : Int32), .int (0 : Int32), .null]))] : va_W) := hD
  have hSz : s.heap.size ≤ H.size := hS.1
  refine lv_aload_n hx hb dX1_init_44 rfl (lv_at hl 0 rfl) ?_
  refine lv_bipush (v := (21)) hx hb dX1_init_45 (by decide) ?_
  refine va_newa (atype := .int) (ty := .int) (N' := 21) (a0 := (21, .inl (fun _ => 0))) hx hb (hts _ qw77) rfl hK hP hD hS OA.new (fun _ => rfl) (by decide) (by decide) (Nat.le_of_ble_eq_true rfl) (Nat.le_of_ble_eq_true rfl) (Nat.le_of_ble_eq_true rfl) dX1_init_47 (fun q1 cA2 H hK9 hP hD hS => ?_)
  obtain rfl : cA2 = t 0 := KA_eq (k := 0) hK hK9 rfl
  have hP : va_P D vwCl ([(g0, .inr (2, [.int (4 : Int32), .int (4 : Int32), .int (0 : Int32), .long (0 : Int64), .long (0 : Int64), .int (0 : Int32), .int (0 : Int32), .int (0 : Int32), .null])), (q1, .inl (t 0, (21, .inl (fun _ => 0))))] : va_W) H := hP
  have hD : va_D (OA L0 s.heap.size) ([(g0, .inr (2, [.int (4 : Int32), .int (4 : Int32), .int (0 : Int32), .long (0 : Int64), .long (0 : Int64), .int (0 : Int32), .int (0 : Int32), .int (0 : Int32), .null])), (q1, .inl (t 0, (21, .inl (fun _ => 0))))] : va_W) := hD
  have hSz : s.heap.size ≤ H.size := hS.1
  refine W.widen (k := 1) (n := 21) (by omega) (by omega) ?_
  refine va_putF (D := D) (ci := 2) (v := .ref q1) (ty := (.array .int)) hx hb hts inX1 tyX1 tyX1_ok nmX1 hown hK hP hD hS 0 rfl rfl 8 (by decide) (hts _ qw137) (fun _ h9 => h9) rfl hin rfl (by decide +kernel) rfl rfl (Nat.le_of_ble_eq_true rfl) dX1_init_49 (fun H locs hP hD hS => ?_)
  have hP : va_P D vwCl ([(g0, .inr (2, [.int (4 : Int32), .int (4 : Int32), .int (0 : Int32), .long (0 : Int64), .long (0 : Int64), .int (0 : Int32), .int (0 : Int32), .int (0 : Int32), .ref q1])), (q1, .inl (t 0, (21, .inl (fun _ => 0))))] : va_W) H := hP
  have hD : va_D (OA L0 s.heap.size) ([(g0, .inr (2, [.int (4 : Int32), .int (4 : Int32), .int (0 : Int32), .long (0 : Int64), .long (0 : Int64), .int (0 : Int32), .int (0 : Int32), .int (0 : Int32), .ref q1])), (q1, .inl (t 0, (21, .inl (fun _ => 0))))] : va_W) := hD
  have hSz : s.heap.size ≤ H.size := hS.1
  exact W.vret hx hb hr (fun t9 ht hW => ⟨q1, rfl, by rw [ht]; exact hP, hD, hS.F ht⟩) hS.2.2 dX1_init_52

abbrev rm_X3_init : Room := { frames := 1, cells := 0, slots := 0, locals := 40 }
theorem ok_X3_init : okY yX3_init 0 := ⟨by decide +kernel, by decide +kernel, by decide +kernel⟩
set_option maxHeartbeats 4000000 in
set_option maxRecDepth 100000 in
theorem c_X3_init (l : Launch) (z0 : Nat) (D : va_G) (t : Nat → ClassId) (g0 : Nat) (sz : Nat) : Met l yX3_init (ws_ yX3_init cX3_init 1 none) rm_X3_init (PM z0 D t [.ref g0] [(g0, .inr (4, [.int (0 : Int32), .int (0 : Int32), .int (0 : Int32), .long (0 : Int64), .int (0 : Int32)]))] [g0] sz) (QE (fun _ : Unit => none) D (fun _ => RDW g0 t (8, 0, -1, 0, 0)) [g0] sz) 0 0 (OA [g0] sz) := by
  refine Met.ofW (cc := cX3_init) (maxL := 1) (ret := none) (by decide) rfl ?_
  intro p e s m args below meth c s₁ Bo hml hv
  obtain ⟨rfl, hC, hsz, hP, hD, hZ⟩ := hv
  have hx := Bo.exec
  have hb := Bo.bytes
  have hr := Bo.returns
  have hts : ∀ w ∈ LA, w.before _ s = true := fun w hw => atoms_spec (ws := ws_ yX3_init cX3_init 1 none) Bo.pre w (List.mem_cons_of_mem _ hw)
  have hown : s.vm.findClass RX3 = some m.cls := findClass_of_methodNamed Bo.named
  have hlocks := Bo.notSynchronized
  have hK := hC.1
  have hin : meth.name = "<init>" := (name_of_methodNamed Bo.named Bo.method).1
  subst hsz
  obtain ⟨L0, hL0⟩ : ∃ L0, L0 = [g0] := ⟨_, rfl⟩
  rw [← hL0] at hD hZ ⊢
  have hS : va_S (OA L0 s.heap.size) s.heap s.heap [] := va_S.rf
  suffices K9 : ∀ (H : Heap), va_P D vwCl [(g0, .inr (4, [.int (0 : Int32), .int (0 : Int32), .int (0 : Int32), .long (0 : Int64), .int (0 : Int32)]))] H → va_S (OA L0 s.heap.size) s.heap H [] → W p l e (headSpec (ws_ yX3_init cX3_init 1 none) rm_X3_init).room s m ([.ref g0] : List Value).toArray below meth c H [] 0 0 (MQ below (QE (fun _ : Unit => none) D (fun _ => RDW g0 t (8, 0, -1, 0, 0)) L0 s.heap.size) ([.ref g0] : List Value).toArray s 0 0 (OA L0 s.heap.size)) (entryFrame m ([.ref g0] : List Value).toArray 1) from K9 s.heap hP hS
  intro H hP hS
  have hSz : s.heap.size ≤ H.size := hS.1
  have hl := lv_entry ([.ref g0]) (n := 1) (Nat.le_of_ble_eq_true rfl)
  rw [lg_entry_eq]
  generalize (lg_sl ([.ref g0]) ++ List.replicate (1 - (lg_sl ([.ref g0])).length) Slot.unset).toArray = ls at hl ⊢
  have hl : lv_has ls 1 [(0, .ref g0)] := hl
  refine lv_aload_n hx hb dX3_init_0 rfl (lv_at hl 0 rfl) ?_
  refine W.objInit hx hb hown (hts _ qw186) (hts _ qw33) (hts _ qw34) rfl (by rw [hml]; exact hl.1) rfl dX3_init_1 (Nat.le_of_ble_eq_true rfl) (Nat.le_of_ble_eq_true rfl) ?_
  refine W.eq (g2 := F0 m 4 ls []) rfl ?_
  refine lv_aload_n hx hb dX3_init_4 rfl (lv_at hl 0 rfl) ?_
  refine lv_bipush (v := (8)) hx hb dX3_init_5 (by decide) ?_
  refine va_put (D := D) (ci := 4) (v := .int (8 : Int32)) (ty := .int) hx hb hts inX3 tyX3 tyX3_ok nmX3 hown hK hP hD hS 0 rfl rfl 0 (by decide) (hts _ qw187) (fun _ h9 => h9) rfl (by decide +kernel) rfl rfl (Nat.le_of_ble_eq_true rfl) dX3_init_7 (fun H locs hP hD hS => ?_)
  have hP : va_P D vwCl ([(g0, .inr (4, [.int (8 : Int32), .int (0 : Int32), .int (0 : Int32), .long (0 : Int64), .int (0 : Int32)]))] : va_W) H := hP
  have hD : va_D (OA L0 s.heap.size) ([(g0, .inr (4, [.int (8 : Int32), .int (0 : Int32), .int (0 : Int32), .long (0 : Int64), .int (0 : Int32)]))] : va_W) := hD
  have hSz : s.heap.size ≤ H.size := hS.1
  refine lv_aload_n hx hb dX3_init_10 rfl (lv_at hl 0 rfl) ?_
  refine lv_iconst (v := (0)) hx hb dX3_init_11 (by decide) ?_
  refine va_put (D := D) (ci := 4) (v := .int (0 : Int32)) (ty := .int) hx hb hts inX3 tyX3 tyX3_ok nmX3 hown hK hP hD hS 0 rfl rfl 1 (by decide) (hts _ qw189) (fun _ h9 => h9) rfl (by decide +kernel) rfl rfl (Nat.le_of_ble_eq_true rfl) dX3_init_12 (fun H locs hP hD hS => ?_)
  have hP : va_P D vwCl ([(g0, .inr (4, [.int (8 : Int32), .int (0 : Int32), .int (0 : Int32), .long (0 : Int64), .int (0 : Int32)]))] : va_W) H := hP
  have hD : va_D (OA L0 s.heap.size) ([(g0, .inr (4, [.int (8 : Int32), .int (0 : Int32), .int (0 : Int32), .long (0 : Int64), .int (0 : Int32)]))] : va_W) := hD
  have hSz : s.heap.size ≤ H.size := hS.1
  refine lv_aload_n hx hb dX3_init_15 rfl (lv_at hl 0 rfl) ?_
  refine lv_iconst (v := (-1)) hx hb dX3_init_16 (by decide) ?_
  refine va_put (D := D) (ci := 4) (v := .int (-1 : Int32)) (ty := .int) hx hb hts inX3 tyX3 tyX3_ok nmX3 hown hK hP hD hS 0 rfl rfl 2 (by decide) (hts _ qw191) (fun _ h9 => h9) rfl (by decide +kernel) rfl rfl (Nat.le_of_ble_eq_true rfl) dX3_init_17 (fun H locs hP hD hS => ?_)
  have hP : va_P D vwCl ([(g0, .inr (4, [.int (8 : Int32), .int (0 : Int32), .int (-1 : Int32), .long (0 : Int64), .int (0 : Int32)]))] : va_W) H := hP
  have hD : va_D (OA L0 s.heap.size) ([(g0, .inr (4, [.int (8 : Int32), .int (0 : Int32), .int (-1 : Int32), .long (0 : Int64), .int (0 : Int32)]))] : va_W) := hD
  have hSz : s.heap.size ≤ H.size := hS.1
  refine lv_aload_n hx hb dX3_init_20 rfl (lv_at hl 0 rfl) ?_
  refine lv_lconst (v := (0)) hx hb dX3_init_21 (by decide) ?_
  refine va_put (D := D) (ci := 4) (v := .long (0 : Int64)) (ty := .long) hx hb hts inX3 tyX3 tyX3_ok nmX3 hown hK hP hD hS 0 rfl rfl 3 (by decide) (hts _ qw193) (fun _ h9 => h9) rfl (by decide +kernel) rfl rfl (Nat.le_of_ble_eq_true rfl) dX3_init_22 (fun H locs hP hD hS => ?_)
  have hP : va_P D vwCl ([(g0, .inr (4, [.int (8 : Int32), .int (0 : Int32), .int (-1 : Int32), .long (0 : Int64), .int (0 : Int32)]))] : va_W) H := hP
  have hD : va_D (OA L0 s.heap.size) ([(g0, .inr (4, [.int (8 : Int32), .int (0 : Int32), .int (-1 : Int32), .long (0 : Int64), .int (0 : Int32)]))] : va_W) := hD
  have hSz : s.heap.size ≤ H.size := hS.1
  refine lv_aload_n hx hb dX3_init_25 rfl (lv_at hl 0 rfl) ?_
  refine lv_iconst (v := (0)) hx hb dX3_init_26 (by decide) ?_
  refine va_put (D := D) (ci := 4) (v := .int (0 : Int32)) (ty := .int) hx hb hts inX3 tyX3 tyX3_ok nmX3 hown hK hP hD hS 0 rfl rfl 4 (by decide) (hts _ qw195) (fun _ h9 => h9) rfl (by decide +kernel) rfl rfl (Nat.le_of_ble_eq_true rfl) dX3_init_27 (fun H locs hP hD hS => ?_)
  have hP : va_P D vwCl ([(g0, .inr (4, [.int (8 : Int32), .int (0 : Int32), .int (-1 : Int32), .long (0 : Int64), .int (0 : Int32)]))] : va_W) H := hP
  have hD : va_D (OA L0 s.heap.size) ([(g0, .inr (4, [.int (8 : Int32), .int (0 : Int32), .int (-1 : Int32), .long (0 : Int64), .int (0 : Int32)]))] : va_W) := hD
  have hSz : s.heap.size ≤ H.size := hS.1
  exact W.vret hx hb hr (fun t9 ht hW => ⟨(), rfl, by rw [ht]; exact hP, hD, hS.F ht⟩) hS.2.2 dX3_init_30

abbrev rm_X0_init : Room := { frames := 1, cells := 1, slots := 71, locals := 40 }
theorem ok_X0_init : okY yX0_init 0 := ⟨by decide +kernel, by decide +kernel, by decide +kernel⟩
set_option maxHeartbeats 4000000 in
set_option maxRecDepth 100000 in
theorem c_X0_init (l : Launch) (z0 : Nat) (D : va_G) (t : Nat → ClassId) (g0 : Nat) (sz : Nat) : Met l yX0_init (ws_ yX0_init cX0_init 1 none) rm_X0_init (PM z0 D t [.ref g0] [(g0, .inr (1, [.int (0 : Int32), .null]))] [g0] sz) (QE (fun _ : Nat => none) D (fun q => BW (gA g0 q) t (0, fun _ => 0)) [g0] sz) 1 71 (OA [g0] sz) := by
  refine Met.ofW (cc := cX0_init) (maxL := 1) (ret := none) (by decide) rfl ?_
  intro p e s m args below meth c s₁ Bo hml hv
  obtain ⟨rfl, hC, hsz, hP, hD, hZ⟩ := hv
  have hx := Bo.exec
  have hb := Bo.bytes
  have hr := Bo.returns
  have hts : ∀ w ∈ LA, w.before _ s = true := fun w hw => atoms_spec (ws := ws_ yX0_init cX0_init 1 none) Bo.pre w (List.mem_cons_of_mem _ hw)
  have hown : s.vm.findClass RX0 = some m.cls := findClass_of_methodNamed Bo.named
  have hlocks := Bo.notSynchronized
  have hK := hC.1
  have hin : meth.name = "<init>" := (name_of_methodNamed Bo.named Bo.method).1
  subst hsz
  obtain ⟨L0, hL0⟩ : ∃ L0, L0 = [g0] := ⟨_, rfl⟩
  rw [← hL0] at hD hZ ⊢
  have hS : va_S (OA L0 s.heap.size) s.heap s.heap [] := va_S.rf
  suffices K9 : ∀ (H : Heap), va_P D vwCl [(g0, .inr (1, [.int (0 : Int32), .null]))] H → va_S (OA L0 s.heap.size) s.heap H [] → W p l e (headSpec (ws_ yX0_init cX0_init 1 none) rm_X0_init).room s m ([.ref g0] : List Value).toArray below meth c H [] 0 0 (MQ below (QE (fun _ : Nat => none) D (fun q => BW (gA g0 q) t (0, fun _ => 0)) L0 s.heap.size) ([.ref g0] : List Value).toArray s 1 71 (OA L0 s.heap.size)) (entryFrame m ([.ref g0] : List Value).toArray 1) from K9 s.heap hP hS
  intro H hP hS
  have hSz : s.heap.size ≤ H.size := hS.1
  have hl := lv_entry ([.ref g0]) (n := 1) (Nat.le_of_ble_eq_true rfl)
  rw [lg_entry_eq]
  generalize (lg_sl ([.ref g0]) ++ List.replicate (1 - (lg_sl ([.ref g0])).length) Slot.unset).toArray = ls at hl ⊢
  have hl : lv_has ls 1 [(0, .ref g0)] := hl
  refine lv_aload_n hx hb dX0_init_0 rfl (lv_at hl 0 rfl) ?_
  refine W.objInit hx hb hown (hts _ qw68) (hts _ qw33) (hts _ qw34) rfl (by rw [hml]; exact hl.1) rfl dX0_init_1 (Nat.le_of_ble_eq_true rfl) (Nat.le_of_ble_eq_true rfl) ?_
  refine W.eq (g2 := F0 m 4 ls []) rfl ?_
  refine lv_aload_n hx hb dX0_init_4 rfl (lv_at hl 0 rfl) ?_
  refine lv_iconst (v := (0)) hx hb dX0_init_5 (by decide) ?_
  refine va_put (D := D) (ci := 1) (v := .int (0 : Int32)) (ty := .int) hx hb hts inX0 tyX0 tyX0_ok nmX0 hown hK hP hD hS 0 rfl rfl 0 (by decide) (hts _ qw69) (fun _ h9 => h9) rfl (by decide +kernel) rfl rfl (Nat.le_of_ble_eq_true rfl) dX0_init_6 (fun H locs hP hD hS => ?_)
  have hP : va_P D vwCl ([(g0, .inr (1, [.int (0 : Int32), .null]))] : va_W) H := hP
  have hD : va_D (OA L0 s.heap.size) ([(g0, .inr (1, [.int (0 : Int32), .null]))] : va_W) := hD
  have hSz : s.heap.size ≤ H.size := hS.1
  refine lv_aload_n hx hb dX0_init_9 rfl (lv_at hl 0 rfl) ?_
  refine lv_bipush (v := (71)) hx hb dX0_init_10 (by decide) ?_
  refine va_newa (atype := .int) (ty := .int) (N' := 71) (a0 := (71, .inl (fun _ => 0))) hx hb (hts _ qw77) rfl hK hP hD hS OA.new (fun _ => rfl) (by decide) (by decide) (Nat.le_of_ble_eq_true rfl) (Nat.le_of_ble_eq_true rfl) (Nat.le_of_ble_eq_true rfl) dX0_init_12 (fun q1 cA2 H hK9 hP hD hS => ?_)
  obtain rfl : cA2 = t 0 := KA_eq (k := 0) hK hK9 rfl
  have hP : va_P D vwCl ([(g0, .inr (1, [.int (0 : Int32), .null])), (q1, .inl (t 0, (71, .inl (fun _ => 0))))] : va_W) H := hP
  have hD : va_D (OA L0 s.heap.size) ([(g0, .inr (1, [.int (0 : Int32), .null])), (q1, .inl (t 0, (71, .inl (fun _ => 0))))] : va_W) := hD
  have hSz : s.heap.size ≤ H.size := hS.1
  refine W.widen (k := 1) (n := 71) (by omega) (by omega) ?_
  refine va_putF (D := D) (ci := 1) (v := .ref q1) (ty := (.array .int)) hx hb hts inX0 tyX0 tyX0_ok nmX0 hown hK hP hD hS 0 rfl rfl 1 (by decide) (hts _ qw71) (fun _ h9 => h9) rfl hin rfl (by decide +kernel) rfl rfl (Nat.le_of_ble_eq_true rfl) dX0_init_14 (fun H locs hP hD hS => ?_)
  have hP : va_P D vwCl ([(g0, .inr (1, [.int (0 : Int32), .ref q1])), (q1, .inl (t 0, (71, .inl (fun _ => 0))))] : va_W) H := hP
  have hD : va_D (OA L0 s.heap.size) ([(g0, .inr (1, [.int (0 : Int32), .ref q1])), (q1, .inl (t 0, (71, .inl (fun _ => 0))))] : va_W) := hD
  have hSz : s.heap.size ≤ H.size := hS.1
  exact W.vret hx hb hr (fun t9 ht hW => ⟨q1, rfl, by rw [ht]; exact hP, hD, hS.F ht⟩) hS.2.2 dX0_init_17

abbrev rm_X1_copied : Room := { frames := 3, cells := 2, slots := 30, locals := 100 }
theorem ok_X1_copied : okY yX1_copied 0 := ⟨by decide +kernel, by decide +kernel, by decide +kernel⟩
set_option maxHeartbeats 4000000 in
set_option maxRecDepth 100000 in
theorem c_X1_copied (l : Launch) (z0 : Nat) (D : va_G) (t : Nat → ClassId) (G : Nat → Nat) (γ : GS) (sz : Nat) : Met l yX1_copied (ws_ yX1_copied cX1_copied 2 (some (.object "BentGardens$Garden"))) rm_X1_copied (PM z0 D t [.ref (G 0)] (GW G t γ) [G 0, G 1] sz) (QE (fun b : Nat × Nat => some (.ref b.1)) D (fun b => GW G t γ ++ GW (gA b.1 b.2) t γ) [G 0, G 1] sz) 2 30 (OA [G 0, G 1] sz) := by
  refine Met.ofW (cc := cX1_copied) (maxL := 2) (ret := (some (.object "BentGardens$Garden"))) (by decide) rfl ?_
  intro p e s m args below meth c s₁ Bo hml hv
  obtain ⟨rfl, hC, hsz, hP, hD, hZ⟩ := hv
  have hx := Bo.exec
  have hb := Bo.bytes
  have hr := Bo.returns
  have hts : ∀ w ∈ LA, w.before _ s = true := fun w hw => atoms_spec (ws := ws_ yX1_copied cX1_copied 2 (some (.object "BentGardens$Garden"))) Bo.pre w (List.mem_cons_of_mem _ hw)
  have hown : s.vm.findClass RX1 = some m.cls := findClass_of_methodNamed Bo.named
  have hlocks := Bo.notSynchronized
  have hK := hC.1
  subst hsz
  obtain ⟨L0, hL0⟩ : ∃ L0, L0 = [G 0, G 1] := ⟨_, rfl⟩
  rw [← hL0] at hD hZ ⊢
  have hS : va_S (OA L0 s.heap.size) s.heap s.heap [] := va_S.rf
  suffices K9 : ∀ (H : Heap), va_P D vwCl (GW G t γ) H → va_S (OA L0 s.heap.size) s.heap H [] → W p l e (headSpec (ws_ yX1_copied cX1_copied 2 (some (.object "BentGardens$Garden"))) rm_X1_copied).room s m ([.ref (G 0)] : List Value).toArray below meth c H [] 0 0 (MQ below (QE (fun b : Nat × Nat => some (.ref b.1)) D (fun b => GW G t γ ++ GW (gA b.1 b.2) t γ) L0 s.heap.size) ([.ref (G 0)] : List Value).toArray s 2 30 (OA L0 s.heap.size)) (entryFrame m ([.ref (G 0)] : List Value).toArray 2) from K9 s.heap hP hS
  intro H hP hS
  have hSz : s.heap.size ≤ H.size := hS.1
  have hl := lv_entry ([.ref (G 0)]) (n := 2) (Nat.le_of_ble_eq_true rfl)
  rw [lg_entry_eq]
  generalize (lg_sl ([.ref (G 0)]) ++ List.replicate (2 - (lg_sl ([.ref (G 0)])).length) Slot.unset).toArray = ls at hl ⊢
  have hl : lv_has ls 2 [(0, .ref (G 0))] := hl
  refine va_new (ci := 2) (fs := [.int (0 : Int32), .int (0 : Int32), .int (0 : Int32), .long (0 : Int64), .long (0 : Int64), .int (0 : Int32), .int (0 : Int32), .int (0 : Int32), .null]) hx hb hts inX1 tyX1 tyX1_ok hown (hts _ qw687) (hts _ qw116) (hts _ qw8) hK hP hD hS OA.new rfl (fun j hj => by rcases (show j = 0 ∨ j = 1 ∨ j = 2 ∨ j = 3 ∨ j = 4 ∨ j = 5 ∨ j = 6 ∨ j = 7 ∨ j = 8 by omega) with rfl | rfl | rfl | rfl | rfl | rfl | rfl | rfl | rfl <;> rfl) (Nat.le_of_ble_eq_true rfl) (Nat.le_of_ble_eq_true rfl) dX1_copied_0 (fun q1 H hP hD hS => ?_)
  have hP : va_P D vwCl ([((G 0), .inr (2, [.int (g_wide γ), .int (g_high γ), .int (g_pond γ), .long (g_walls γ), .long (g_paved γ), .int (g_tc γ), .int (g_flips γ), .int (g_refused γ), .ref (G 1)])), ((G 1), .inl (t 0, (21, .inl (g_names γ)))), (q1, .inr (2, [.int (0 : Int32), .int (0 : Int32), .int (0 : Int32), .long (0 : Int64), .long (0 : Int64), .int (0 : Int32), .int (0 : Int32), .int (0 : Int32), .null]))] : va_W) H := hP
  have hD : va_D (OA L0 s.heap.size) ([((G 0), .inr (2, [.int (g_wide γ), .int (g_high γ), .int (g_pond γ), .long (g_walls γ), .long (g_paved γ), .int (g_tc γ), .int (g_flips γ), .int (g_refused γ), .ref (G 1)])), ((G 1), .inl (t 0, (21, .inl (g_names γ)))), (q1, .inr (2, [.int (0 : Int32), .int (0 : Int32), .int (0 : Int32), .long (0 : Int64), .long (0 : Int64), .int (0 : Int32), .int (0 : Int32), .int (0 : Int32), .null]))] : va_W) := hD
  have hSz : s.heap.size ≤ H.size := hS.1
  refine W.widen (k := 1) (n := 9) (by omega) (by omega) ?_
  refine lv_dup hx hb dX1_copied_3 rfl ?_
  refine call_E (va_runI (As := []) (rest := [.ref q1]) ⟨hx, hb, hml, hown, hts⟩ (c_X1_init l z0 D t q1 H.size) (kI hts qw688 qw118 qw8 qw119 rfl ok_X1_init ⟨Nat.le_of_ble_eq_true rfl, Nat.le_of_ble_eq_true rfl⟩) ⟨PM.blind, fun U hU hW => ⟨rfl, by rw [hU]; exact (hC.at hS hZ).warm hW, by rw [hU], by rw [hU]; exact (hP.sub (ws' := [(q1, .inr (2, [.int (0 : Int32), .int (0 : Int32), .int (0 : Int32), .long (0 : Int64), .long (0 : Int64), .int (0 : Int32), .int (0 : Int32), .int (0 : Int32), .null]))]) [2] rfl), ⟨(hD.sub (ws' := [(q1, .inr (2, [.int (0 : Int32), .int (0 : Int32), .int (0 : Int32), .long (0 : Int64), .long (0 : Int64), .int (0 : Int32), .int (0 : Int32), .int (0 : Int32), .null]))]) [2] (by decide) rfl).1, fun _ _ h9 => Or.inl (in_map (L := [q1]) rfl h9)⟩, fun q hq => hZ q (OA.ofD (hD.sub (ws' := [(q1, .inr (2, [.int (0 : Int32), .int (0 : Int32), .int (0 : Int32), .long (0 : Int64), .long (0 : Int64), .int (0 : Int32), .int (0 : Int32), .int (0 : Int32), .null]))]) [2] (by decide) rfl) rfl hSz q hq)⟩⟩ rfl rfl hl.1 rfl (lv_room (Nat.le_of_ble_eq_true rfl)) dX1_copied_4 ⟨Nat.le_of_ble_eq_true rfl, Nat.le_of_ble_eq_true rfl⟩) hS (OA.ofD (hD.sub (ws' := [(q1, .inr (2, [.int (0 : Int32), .int (0 : Int32), .int (0 : Int32), .long (0 : Int64), .long (0 : Int64), .int (0 : Int32), .int (0 : Int32), .int (0 : Int32), .null]))]) [2] (by decide) rfl) rfl hSz) (fun b9 H locs hP1 hD1 hS _ hk1 => ?_)
  obtain ⟨q2, rfl⟩ : ∃ z, z = b9 := ⟨_, rfl⟩
  obtain ⟨hP, hD⟩ := va_back (wr := [((G 0), .inr (2, [.int (g_wide γ), .int (g_high γ), .int (g_pond γ), .long (g_walls γ), .long (g_paved γ), .int (g_tc γ), .int (g_flips γ), .int (g_refused γ), .ref (G 1)])), ((G 1), .inl (t 0, (21, .inl (g_names γ))))]) (w1 := ([(q1, .inr (2, [.int (4 : Int32), .int (4 : Int32), .int (0 : Int32), .long (0 : Int64), .long (0 : Int64), .int (0 : Int32), .int (0 : Int32), .int (0 : Int32), .ref q2])), (q2, .inl (t 0, (21, .inl (fun _ => 0))))] : va_W)) (ws' := ([((G 0), .inr (2, [.int (g_wide γ), .int (g_high γ), .int (g_pond γ), .long (g_walls γ), .long (g_paved γ), .int (g_tc γ), .int (g_flips γ), .int (g_refused γ), .ref (G 1)])), ((G 1), .inl (t 0, (21, .inl (g_names γ)))), (q1, .inr (2, [.int (4 : Int32), .int (4 : Int32), .int (0 : Int32), .long (0 : Int64), .long (0 : Int64), .int (0 : Int32), .int (0 : Int32), .int (0 : Int32), .ref q2])), (q2, .inl (t 0, (21, .inl (fun _ => 0))))] : va_W)) hP hD [2] [0, 1] rfl rfl (by decide) (by decide) hk1 (OA.ofD (hD.sub (ws' := [(q1, .inr (2, [.int (0 : Int32), .int (0 : Int32), .int (0 : Int32), .long (0 : Int64), .long (0 : Int64), .int (0 : Int32), .int (0 : Int32), .int (0 : Int32), .null]))]) [2] (by decide) rfl) rfl hSz) hP1 hD1 [0, 1, 2, 3] rfl (by decide)
  have hP : va_P D vwCl ([((G 0), .inr (2, [.int (g_wide γ), .int (g_high γ), .int (g_pond γ), .long (g_walls γ), .long (g_paved γ), .int (g_tc γ), .int (g_flips γ), .int (g_refused γ), .ref (G 1)])), ((G 1), .inl (t 0, (21, .inl (g_names γ)))), (q1, .inr (2, [.int (4 : Int32), .int (4 : Int32), .int (0 : Int32), .long (0 : Int64), .long (0 : Int64), .int (0 : Int32), .int (0 : Int32), .int (0 : Int32), .ref q2])), (q2, .inl (t 0, (21, .inl (fun _ => 0))))] : va_W) H := hP
  have hD : va_D (OA L0 s.heap.size) ([((G 0), .inr (2, [.int (g_wide γ), .int (g_high γ), .int (g_pond γ), .long (g_walls γ), .long (g_paved γ), .int (g_tc γ), .int (g_flips γ), .int (g_refused γ), .ref (G 1)])), ((G 1), .inl (t 0, (21, .inl (g_names γ)))), (q1, .inr (2, [.int (4 : Int32), .int (4 : Int32), .int (0 : Int32), .long (0 : Int64), .long (0 : Int64), .int (0 : Int32), .int (0 : Int32), .int (0 : Int32), .ref q2])), (q2, .inl (t 0, (21, .inl (fun _ => 0))))] : va_W) := hD
  have hSz : s.heap.size ≤ H.size := hS.1
  refine W.widen (k := 2) (n := 30) (by omega) (by omega) ?_
  refine lv_astore_n (lv' := [(1, .ref q1), (0, .ref (G 0))]) hx hb dX1_copied_7 rfl hl (by decide) rfl (fun ls hl => ?_)
  refine lv_aload_n hx hb dX1_copied_8 rfl (lv_at hl 0 rfl) ?_
  refine lv_aload_n hx hb dX1_copied_9 rfl (lv_at hl 1 rfl) ?_
  refine va_get hx hb hts inX1 hown hK hP 0 rfl rfl 0 (by decide) (hts _ qw121) (fun _ h9 => h9) rfl dX1_copied_10 ?_
  refine va_put (D := D) (ci := 2) (v := .int (g_wide γ)) (ty := .int) hx hb hts inX1 tyX1 tyX1_ok nmX1 hown hK hP hD hS 2 rfl rfl 0 (by decide) (hts _ qw121) (fun _ h9 => h9) rfl (by decide +kernel) rfl rfl (Nat.le_of_ble_eq_true rfl) dX1_copied_13 (fun H locs hP hD hS => ?_)
  have hP : va_P D vwCl ([((G 0), .inr (2, [.int (g_wide γ), .int (g_high γ), .int (g_pond γ), .long (g_walls γ), .long (g_paved γ), .int (g_tc γ), .int (g_flips γ), .int (g_refused γ), .ref (G 1)])), ((G 1), .inl (t 0, (21, .inl (g_names γ)))), (q1, .inr (2, [.int (g_wide γ), .int (4 : Int32), .int (0 : Int32), .long (0 : Int64), .long (0 : Int64), .int (0 : Int32), .int (0 : Int32), .int (0 : Int32), .ref q2])), (q2, .inl (t 0, (21, .inl (fun _ => 0))))] : va_W) H := hP
  have hD : va_D (OA L0 s.heap.size) ([((G 0), .inr (2, [.int (g_wide γ), .int (g_high γ), .int (g_pond γ), .long (g_walls γ), .long (g_paved γ), .int (g_tc γ), .int (g_flips γ), .int (g_refused γ), .ref (G 1)])), ((G 1), .inl (t 0, (21, .inl (g_names γ)))), (q1, .inr (2, [.int (g_wide γ), .int (4 : Int32), .int (0 : Int32), .long (0 : Int64), .long (0 : Int64), .int (0 : Int32), .int (0 : Int32), .int (0 : Int32), .ref q2])), (q2, .inl (t 0, (21, .inl (fun _ => 0))))] : va_W) := hD
  have hSz : s.heap.size ≤ H.size := hS.1
  refine lv_aload_n hx hb dX1_copied_16 rfl (lv_at hl 0 rfl) ?_
  refine lv_aload_n hx hb dX1_copied_17 rfl (lv_at hl 1 rfl) ?_
  refine va_get hx hb hts inX1 hown hK hP 0 rfl rfl 1 (by decide) (hts _ qw123) (fun _ h9 => h9) rfl dX1_copied_18 ?_
  refine va_put (D := D) (ci := 2) (v := .int (g_high γ)) (ty := .int) hx hb hts inX1 tyX1 tyX1_ok nmX1 hown hK hP hD hS 2 rfl rfl 1 (by decide) (hts _ qw123) (fun _ h9 => h9) rfl (by decide +kernel) rfl rfl (Nat.le_of_ble_eq_true rfl) dX1_copied_21 (fun H locs hP hD hS => ?_)
  have hP : va_P D vwCl ([((G 0), .inr (2, [.int (g_wide γ), .int (g_high γ), .int (g_pond γ), .long (g_walls γ), .long (g_paved γ), .int (g_tc γ), .int (g_flips γ), .int (g_refused γ), .ref (G 1)])), ((G 1), .inl (t 0, (21, .inl (g_names γ)))), (q1, .inr (2, [.int (g_wide γ), .int (g_high γ), .int (0 : Int32), .long (0 : Int64), .long (0 : Int64), .int (0 : Int32), .int (0 : Int32), .int (0 : Int32), .ref q2])), (q2, .inl (t 0, (21, .inl (fun _ => 0))))] : va_W) H := hP
  have hD : va_D (OA L0 s.heap.size) ([((G 0), .inr (2, [.int (g_wide γ), .int (g_high γ), .int (g_pond γ), .long (g_walls γ), .long (g_paved γ), .int (g_tc γ), .int (g_flips γ), .int (g_refused γ), .ref (G 1)])), ((G 1), .inl (t 0, (21, .inl (g_names γ)))), (q1, .inr (2, [.int (g_wide γ), .int (g_high γ), .int (0 : Int32), .long (0 : Int64), .long (0 : Int64), .int (0 : Int32), .int (0 : Int32), .int (0 : Int32), .ref q2])), (q2, .inl (t 0, (21, .inl (fun _ => 0))))] : va_W) := hD
  have hSz : s.heap.size ≤ H.size := hS.1
  refine lv_aload_n hx hb dX1_copied_24 rfl (lv_at hl 0 rfl) ?_
  refine lv_aload_n hx hb dX1_copied_25 rfl (lv_at hl 1 rfl) ?_
  refine va_get hx hb hts inX1 hown hK hP 0 rfl rfl 2 (by decide) (hts _ qw125) (fun _ h9 => h9) rfl dX1_copied_26 ?_
  refine va_put (D := D) (ci := 2) (v := .int (g_pond γ)) (ty := .int) hx hb hts inX1 tyX1 tyX1_ok nmX1 hown hK hP hD hS 2 rfl rfl 2 (by decide) (hts _ qw125) (fun _ h9 => h9) rfl (by decide +kernel) rfl rfl (Nat.le_of_ble_eq_true rfl) dX1_copied_29 (fun H locs hP hD hS => ?_)
  have hP : va_P D vwCl ([((G 0), .inr (2, [.int (g_wide γ), .int (g_high γ), .int (g_pond γ), .long (g_walls γ), .long (g_paved γ), .int (g_tc γ), .int (g_flips γ), .int (g_refused γ), .ref (G 1)])), ((G 1), .inl (t 0, (21, .inl (g_names γ)))), (q1, .inr (2, [.int (g_wide γ), .int (g_high γ), .int (g_pond γ), .long (0 : Int64), .long (0 : Int64), .int (0 : Int32), .int (0 : Int32), .int (0 : Int32), .ref q2])), (q2, .inl (t 0, (21, .inl (fun _ => 0))))] : va_W) H := hP
  have hD : va_D (OA L0 s.heap.size) ([((G 0), .inr (2, [.int (g_wide γ), .int (g_high γ), .int (g_pond γ), .long (g_walls γ), .long (g_paved γ), .int (g_tc γ), .int (g_flips γ), .int (g_refused γ), .ref (G 1)])), ((G 1), .inl (t 0, (21, .inl (g_names γ)))), (q1, .inr (2, [.int (g_wide γ), .int (g_high γ), .int (g_pond γ), .long (0 : Int64), .long (0 : Int64), .int (0 : Int32), .int (0 : Int32), .int (0 : Int32), .ref q2])), (q2, .inl (t 0, (21, .inl (fun _ => 0))))] : va_W) := hD
  have hSz : s.heap.size ≤ H.size := hS.1
  refine lv_aload_n hx hb dX1_copied_32 rfl (lv_at hl 0 rfl) ?_
  refine lv_aload_n hx hb dX1_copied_33 rfl (lv_at hl 1 rfl) ?_
  refine va_get hx hb hts inX1 hown hK hP 0 rfl rfl 3 (by decide) (hts _ qw127) (fun _ h9 => h9) rfl dX1_copied_34 ?_
  refine va_put (D := D) (ci := 2) (v := .long (g_walls γ)) (ty := .long) hx hb hts inX1 tyX1 tyX1_ok nmX1 hown hK hP hD hS 2 rfl rfl 3 (by decide) (hts _ qw127) (fun _ h9 => h9) rfl (by decide +kernel) rfl rfl (Nat.le_of_ble_eq_true rfl) dX1_copied_37 (fun H locs hP hD hS => ?_)
  have hP : va_P D vwCl ([((G 0), .inr (2, [.int (g_wide γ), .int (g_high γ), .int (g_pond γ), .long (g_walls γ), .long (g_paved γ), .int (g_tc γ), .int (g_flips γ), .int (g_refused γ), .ref (G 1)])), ((G 1), .inl (t 0, (21, .inl (g_names γ)))), (q1, .inr (2, [.int (g_wide γ), .int (g_high γ), .int (g_pond γ), .long (g_walls γ), .long (0 : Int64), .int (0 : Int32), .int (0 : Int32), .int (0 : Int32), .ref q2])), (q2, .inl (t 0, (21, .inl (fun _ => 0))))] : va_W) H := hP
  have hD : va_D (OA L0 s.heap.size) ([((G 0), .inr (2, [.int (g_wide γ), .int (g_high γ), .int (g_pond γ), .long (g_walls γ), .long (g_paved γ), .int (g_tc γ), .int (g_flips γ), .int (g_refused γ), .ref (G 1)])), ((G 1), .inl (t 0, (21, .inl (g_names γ)))), (q1, .inr (2, [.int (g_wide γ), .int (g_high γ), .int (g_pond γ), .long (g_walls γ), .long (0 : Int64), .int (0 : Int32), .int (0 : Int32), .int (0 : Int32), .ref q2])), (q2, .inl (t 0, (21, .inl (fun _ => 0))))] : va_W) := hD
  have hSz : s.heap.size ≤ H.size := hS.1
  refine lv_aload_n hx hb dX1_copied_40 rfl (lv_at hl 0 rfl) ?_
  refine lv_aload_n hx hb dX1_copied_41 rfl (lv_at hl 1 rfl) ?_
  refine va_get hx hb hts inX1 hown hK hP 0 rfl rfl 4 (by decide) (hts _ qw129) (fun _ h9 => h9) rfl dX1_copied_42 ?_
  refine va_put (D := D) (ci := 2) (v := .long (g_paved γ)) (ty := .long) hx hb hts inX1 tyX1 tyX1_ok nmX1 hown hK hP hD hS 2 rfl rfl 4 (by decide) (hts _ qw129) (fun _ h9 => h9) rfl (by decide +kernel) rfl rfl (Nat.le_of_ble_eq_true rfl) dX1_copied_45 (fun H locs hP hD hS => ?_)
  have hP : va_P D vwCl ([((G 0), .inr (2, [.int (g_wide γ), .int (g_high γ), .int (g_pond γ), .long (g_walls γ), .long (g_paved γ), .int (g_tc γ), .int (g_flips γ), .int (g_refused γ), .ref (G 1)])), ((G 1), .inl (t 0, (21, .inl (g_names γ)))), (q1, .inr (2, [.int (g_wide γ), .int (g_high γ), .int (g_pond γ), .long (g_walls γ), .long (g_paved γ), .int (0 : Int32), .int (0 : Int32), .int (0 : Int32), .ref q2])), (q2, .inl (t 0, (21, .inl (fun _ => 0))))] : va_W) H := hP
  have hD : va_D (OA L0 s.heap.size) ([((G 0), .inr (2, [.int (g_wide γ), .int (g_high γ), .int (g_pond γ), .long (g_walls γ), .long (g_paved γ), .int (g_tc γ), .int (g_flips γ), .int (g_refused γ), .ref (G 1)])), ((G 1), .inl (t 0, (21, .inl (g_names γ)))), (q1, .inr (2, [.int (g_wide γ), .int (g_high γ), .int (g_pond γ), .long (g_walls γ), .long (g_paved γ), .int (0 : Int32), .int (0 : Int32), .int (0 : Int32), .ref q2])), (q2, .inl (t 0, (21, .inl (fun _ => 0))))] : va_W) := hD
  have hSz : s.heap.size ≤ H.size := hS.1
  refine lv_aload_n hx hb dX1_copied_48 rfl (lv_at hl 0 rfl) ?_
  refine lv_aload_n hx hb dX1_copied_49 rfl (lv_at hl 1 rfl) ?_
  refine va_get hx hb hts inX1 hown hK hP 0 rfl rfl 5 (by decide) (hts _ qw131) (fun _ h9 => h9) rfl dX1_copied_50 ?_
  refine va_put (D := D) (ci := 2) (v := .int (g_tc γ)) (ty := .int) hx hb hts inX1 tyX1 tyX1_ok nmX1 hown hK hP hD hS 2 rfl rfl 5 (by decide) (hts _ qw131) (fun _ h9 => h9) rfl (by decide +kernel) rfl rfl (Nat.le_of_ble_eq_true rfl) dX1_copied_53 (fun H locs hP hD hS => ?_)
  have hP : va_P D vwCl ([((G 0), .inr (2, [.int (g_wide γ), .int (g_high γ), .int (g_pond γ), .long (g_walls γ), .long (g_paved γ), .int (g_tc γ), .int (g_flips γ), .int (g_refused γ), .ref (G 1)])), ((G 1), .inl (t 0, (21, .inl (g_names γ)))), (q1, .inr (2, [.int (g_wide γ), .int (g_high γ), .int (g_pond γ), .long (g_walls γ), .long (g_paved γ), .int (g_tc γ), .int (0 : Int32), .int (0 : Int32), .ref q2])), (q2, .inl (t 0, (21, .inl (fun _ => 0))))] : va_W) H := hP
  have hD : va_D (OA L0 s.heap.size) ([((G 0), .inr (2, [.int (g_wide γ), .int (g_high γ), .int (g_pond γ), .long (g_walls γ), .long (g_paved γ), .int (g_tc γ), .int (g_flips γ), .int (g_refused γ), .ref (G 1)])), ((G 1), .inl (t 0, (21, .inl (g_names γ)))), (q1, .inr (2, [.int (g_wide γ), .int (g_high γ), .int (g_pond γ), .long (g_walls γ), .long (g_paved γ), .int (g_tc γ), .int (0 : Int32), .int (0 : Int32), .ref q2])), (q2, .inl (t 0, (21, .inl (fun _ => 0))))] : va_W) := hD
  have hSz : s.heap.size ≤ H.size := hS.1
  refine lv_aload_n hx hb dX1_copied_56 rfl (lv_at hl 0 rfl) ?_
  refine lv_aload_n hx hb dX1_copied_57 rfl (lv_at hl 1 rfl) ?_
  refine va_get hx hb hts inX1 hown hK hP 0 rfl rfl 6 (by decide) (hts _ qw133) (fun _ h9 => h9) rfl dX1_copied_58 ?_
  refine va_put (D := D) (ci := 2) (v := .int (g_flips γ)) (ty := .int) hx hb hts inX1 tyX1 tyX1_ok nmX1 hown hK hP hD hS 2 rfl rfl 6 (by decide) (hts _ qw133) (fun _ h9 => h9) rfl (by decide +kernel) rfl rfl (Nat.le_of_ble_eq_true rfl) dX1_copied_61 (fun H locs hP hD hS => ?_)
  have hP : va_P D vwCl ([((G 0), .inr (2, [.int (g_wide γ), .int (g_high γ), .int (g_pond γ), .long (g_walls γ), .long (g_paved γ), .int (g_tc γ), .int (g_flips γ), .int (g_refused γ), .ref (G 1)])), ((G 1), .inl (t 0, (21, .inl (g_names γ)))), (q1, .inr (2, [.int (g_wide γ), .int (g_high γ), .int (g_pond γ), .long (g_walls γ), .long (g_paved γ), .int (g_tc γ), .int (g_flips γ), .int (0 : Int32), .ref q2])), (q2, .inl (t 0, (21, .inl (fun _ => 0))))] : va_W) H := hP
  have hD : va_D (OA L0 s.heap.size) ([((G 0), .inr (2, [.int (g_wide γ), .int (g_high γ), .int (g_pond γ), .long (g_walls γ), .long (g_paved γ), .int (g_tc γ), .int (g_flips γ), .int (g_refused γ), .ref (G 1)])), ((G 1), .inl (t 0, (21, .inl (g_names γ)))), (q1, .inr (2, [.int (g_wide γ), .int (g_high γ), .int (g_pond γ), .long (g_walls γ), .long (g_paved γ), .int (g_tc γ), .int (g_flips γ), .int (0 : Int32), .ref q2])), (q2, .inl (t 0, (21, .inl (fun _ => 0))))] : va_W) := hD
  have hSz : s.heap.size ≤ H.size := hS.1
  refine lv_aload_n hx hb dX1_copied_64 rfl (lv_at hl 0 rfl) ?_
  refine lv_aload_n hx hb dX1_copied_65 rfl (lv_at hl 1 rfl) ?_
  refine va_get hx hb hts inX1 hown hK hP 0 rfl rfl 7 (by decide) (hts _ qw135) (fun _ h9 => h9) rfl dX1_copied_66 ?_
  refine va_put (D := D) (ci := 2) (v := .int (g_refused γ)) (ty := .int) hx hb hts inX1 tyX1 tyX1_ok nmX1 hown hK hP hD hS 2 rfl rfl 7 (by decide) (hts _ qw135) (fun _ h9 => h9) rfl (by decide +kernel) rfl rfl (Nat.le_of_ble_eq_true rfl) dX1_copied_69 (fun H locs hP hD hS => ?_)
  have hP : va_P D vwCl ([((G 0), .inr (2, [.int (g_wide γ), .int (g_high γ), .int (g_pond γ), .long (g_walls γ), .long (g_paved γ), .int (g_tc γ), .int (g_flips γ), .int (g_refused γ), .ref (G 1)])), ((G 1), .inl (t 0, (21, .inl (g_names γ)))), (q1, .inr (2, [.int (g_wide γ), .int (g_high γ), .int (g_pond γ), .long (g_walls γ), .long (g_paved γ), .int (g_tc γ), .int (g_flips γ), .int (g_refused γ), .ref q2])), (q2, .inl (t 0, (21, .inl (fun _ => 0))))] : va_W) H := hP
  have hD : va_D (OA L0 s.heap.size) ([((G 0), .inr (2, [.int (g_wide γ), .int (g_high γ), .int (g_pond γ), .long (g_walls γ), .long (g_paved γ), .int (g_tc γ), .int (g_flips γ), .int (g_refused γ), .ref (G 1)])), ((G 1), .inl (t 0, (21, .inl (g_names γ)))), (q1, .inr (2, [.int (g_wide γ), .int (g_high γ), .int (g_pond γ), .long (g_walls γ), .long (g_paved γ), .int (g_tc γ), .int (g_flips γ), .int (g_refused γ), .ref q2])), (q2, .inl (t 0, (21, .inl (fun _ => 0))))] : va_W) := hD
  have hSz : s.heap.size ≤ H.size := hS.1
  refine lv_aload_n hx hb dX1_copied_72 rfl (lv_at hl 1 rfl) ?_
  refine va_get hx hb hts inX1 hown hK hP 0 rfl rfl 8 (by decide) (hts _ qw137) (fun _ h9 => h9) rfl dX1_copied_73 ?_
  refine lv_iconst (v := (0)) hx hb dX1_copied_76 (by decide) ?_
  refine lv_aload_n hx hb dX1_copied_77 rfl (lv_at hl 0 rfl) ?_
  refine va_get hx hb hts inX1 hown hK hP 2 rfl rfl 8 (by decide) (hts _ qw137) (fun _ h9 => h9) rfl dX1_copied_78 ?_
  refine lv_iconst (v := (0)) hx hb dX1_copied_81 (by decide) ?_
  refine lv_bipush (v := (21)) hx hb dX1_copied_82 (by decide) ?_
  refine va_copyi hx hb (hml.trans hl.1.symm) hown (hts _ qw689) (hts _ qw682) (hts _ qw681) (hts _ qw16) hK hP hD hS 1 3 0 0 rfl rfl rfl rfl rfl (by decide) (by decide) (by decide) (by decide) (by decide) (fun _ _ => rfl) (Nat.le_of_ble_eq_true rfl) (Nat.le_of_ble_eq_true rfl) dX1_copied_84 (fun H locs hP hD hS => ?_)
  have hP : va_P D vwCl ([((G 0), .inr (2, [.int (g_wide γ), .int (g_high γ), .int (g_pond γ), .long (g_walls γ), .long (g_paved γ), .int (g_tc γ), .int (g_flips γ), .int (g_refused γ), .ref (G 1)])), ((G 1), .inl (t 0, (21, .inl (g_names γ)))), (q1, .inr (2, [.int (g_wide γ), .int (g_high γ), .int (g_pond γ), .long (g_walls γ), .long (g_paved γ), .int (g_tc γ), .int (g_flips γ), .int (g_refused γ), .ref q2])), (q2, .inl (t 0, (21, .inl (va_cpy (g_names γ) (fun _ => 0) 0 0 21))))] : va_W) H := hP
  have hD : va_D (OA L0 s.heap.size) ([((G 0), .inr (2, [.int (g_wide γ), .int (g_high γ), .int (g_pond γ), .long (g_walls γ), .long (g_paved γ), .int (g_tc γ), .int (g_flips γ), .int (g_refused γ), .ref (G 1)])), ((G 1), .inl (t 0, (21, .inl (g_names γ)))), (q1, .inr (2, [.int (g_wide γ), .int (g_high γ), .int (g_pond γ), .long (g_walls γ), .long (g_paved γ), .int (g_tc γ), .int (g_flips γ), .int (g_refused γ), .ref q2])), (q2, .inl (t 0, (21, .inl (va_cpy (g_names γ) (fun _ => 0) 0 0 21))))] : va_W) := hD
  have hSz : s.heap.size ≤ H.size := hS.1
  refine lv_aload_n hx hb dX1_copied_87 rfl (lv_at hl 0 rfl) ?_
  have hP := va_P.cong hP 3 rfl (g := g_names γ) (fun j hj => by simp [va_cpy, hj])
  refine W.widen (k := 2) (n := 30) (by omega) (by omega) ?_
  exact W.aret hx hb hr (Or.inl ⟨_, rfl⟩) (Or.inr ⟨_, rfl⟩) (fun t9 ht hW => ⟨(q1, q2), rfl, by rw [ht]; exact hP, hD.addr rfl, hS.F ht⟩) hS.2.2 dX1_copied_88
