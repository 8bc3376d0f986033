/-! the first objects -/
def gL (l : List Nat) : Nat → Nat := fun i => l.getD i 0
abbrev X2B : Type := Nat × Nat × (Nat → Nat) × (Nat → Nat) × (Nat → Nat)
def v0S (u1 u2 : Nat → Nat) : VS := (fun _ _ => 0, fun _ => 0, u1, u2, 0, fun _ => 0, fun _ => 0, 0, fun _ => 0, fun _ => 0)
def m0S : MS := (fun _ => 0, 0, fun _ => 0, 0, fun _ => 0, 0, 0, fun _ => 0, fun _ => 0, fun _ => 0)
def x0S (u1 u2 : Nat → Nat) : XS := (0, fun _ => 0, fun _ _ => 0, fun _ => 0, u1, u2, 0, fun _ => 0, fun _ => 0, 0, fun _ => 0, fun _ => 0, 4, 4, 0, 0, 0, 0, 0, 0, fun _ => 0, fun _ => none, 0, 0)
abbrev X4B : Type := Nat × Nat × (Nat → Nat) × (Nat → Nat) × (Nat → Nat) × (Nat → Nat) × (Nat → Nat) × (Nat → Nat)
theorem pl_rows {N : Nat} {r : Nat → Nat} {f : Nat → va_E} {e : va_E} : va_pl ([] ++ (List.range N).map r) (vr_up f ((List.range N).map r) e) = (List.range N).map (fun i => (r i, e)) := by
  unfold va_pl
  rw [List.nil_append, List.map_map]
  exact List.map_congr_left (fun i hi => by show (r i, _) = _; rw [vr_up_in (List.mem_map.mpr ⟨i, hi, rfl⟩)])
theorem va_P_iff {D : va_G} {ws : va_W} {H : Heap} : va_P D vwCl ws H ↔ ∀ q ∈ ws, va_at D vwCl q H :=
  ⟨fun h q hq => by obtain ⟨k, hk⟩ := List.getElem?_of_mem hq; exact h k q hk, fun h k q hk => h q (List.mem_of_getElem? hk)⟩
theorem va_D_iff {A : Nat → Prop} {ws : va_W} : va_D A ws ↔ (ws.map Prod.fst).Nodup ∧ ∀ q ∈ ws, A q.1 := by
  constructor
  · intro h
    refine ⟨?_, fun q hq => by obtain ⟨k, hk⟩ := List.getElem?_of_mem hq; exact h.2 k q hk⟩
    rw [List.Nodup, List.pairwise_iff_getElem]
    intro i j hi hj hij he
    rw [List.getElem_map, List.getElem_map] at he
    rw [List.length_map] at hi hj
    have := h.1 i j _ _ (List.getElem?_eq_getElem hi) (List.getElem?_eq_getElem hj) he
    omega
  · rintro ⟨h1, h2⟩
    refine ⟨?_, fun k q hk => h2 q (List.mem_of_getElem? hk)⟩
    intro i j p q hi hj he
    rw [List.Nodup, List.pairwise_iff_getElem] at h1
    obtain ⟨hi', e1⟩ := List.getElem?_eq_some_iff.mp hi
    obtain ⟨hj', e2⟩ := List.getElem?_eq_some_iff.mp hj
    rcases Nat.lt_trichotomy i j with h | h | h
    · exact absurd (by rw [List.getElem_map, List.getElem_map, e1, e2]; exact he) (h1 i j (by rw [List.length_map]; exact hi') (by rw [List.length_map]; exact hj') h)
    · exact h
    · exact absurd (by rw [List.getElem_map, List.getElem_map, e1, e2]; exact he.symm) (h1 j i (by rw [List.length_map]; exact hj') (by rw [List.length_map]; exact hi') h)
theorem va_backT {A0 : Nat → Prop} {D : va_G} {ws wr w1 : va_W} {Lc : List Nat} {H H1 : Heap} (hP : va_P D vwCl ws H) (hD : va_D A0 ws) (isC isR : List Nat) (hC : isC.map (fun i => (ws[i]?).map Prod.fst) = Lc.map some) (hR : isR.map (fun i => ws[i]?) = wr.map some) (hn : va_nd isR = true) (hdis : ∀ i ∈ isR, i ∉ isC)
    (hk : ∀ q : Nat, q < H.size → ¬ OA Lc H.size q → H1[q]? = H[q]?) (hA : ∀ q, OA Lc H.size q → A0 q) (hP1 : va_P D vwCl w1 H1) (hD1 : va_D (OA Lc H.size) w1) : va_P D vwCl (wr ++ w1) H1 ∧ va_D A0 (wr ++ w1) := by
  have apart : ∀ (k : Nat) (q : Nat × va_E), wr[k]? = some q → q.1 < H.size ∧ ¬ OA Lc H.size q.1 := by
    intro k q hq
    have h1 : (isR.map (fun i => ws[i]?))[k]? = some (some q) := by rw [hR, List.getElem?_map, hq]; rfl
    rw [List.getElem?_map] at h1
    cases hi : isR[k]? with
    | none => rw [hi] at h1; cases h1
    | some i =>
      rw [hi] at h1
      have h2 : ws[i]? = some q := Option.some.inj h1
      have hl := (hP i q h2).lt
      refine ⟨hl, fun h => ?_⟩
      rcases h with h | h
      · obtain ⟨k2, hk2⟩ := List.getElem?_of_mem h
        have h3 : (isC.map (fun i => (ws[i]?).map Prod.fst))[k2]? = some (some q.1) := by rw [hC, List.getElem?_map, hk2]; rfl
        rw [List.getElem?_map] at h3
        cases hj : isC[k2]? with
        | none => rw [hj] at h3; cases h3
        | some j =>
          rw [hj] at h3
          have h4 : (ws[j]?).map Prod.fst = some q.1 := Option.some.inj h3
          cases hw : ws[j]? with
          | none => rw [hw] at h4; cases h4
          | some p =>
            rw [hw] at h4
            have h5 : p.1 = q.1 := Option.some.inj h4
            have hij := hD.1 i j q p h2 hw h5.symm
            subst hij
            exact hdis i (List.mem_of_getElem? hi) (List.mem_of_getElem? hj)
      · omega
  have at' : ∀ (k : Nat) (q : Nat × va_E), wr[k]? = some q → ∃ i : Nat, ws[i]? = some q := by
    intro k q hq
    have h1 : (isR.map (fun i => ws[i]?))[k]? = some (some q) := by rw [hR, List.getElem?_map, hq]; rfl
    rw [List.getElem?_map] at h1
    cases hi : isR[k]? with
    | none => rw [hi] at h1; cases h1
    | some i => rw [hi] at h1; exact ⟨i, Option.some.inj h1⟩
  have hPj : va_P D vwCl (wr ++ w1) H1 := va_P.app (fun k q hq => by
    obtain ⟨i, h2⟩ := at' k q hq
    obtain ⟨g1, g2⟩ := apart k q hq
    exact (hP i q h2).kept (hk q.1 g1 g2)) hP1
  have hDj : va_D A0 (wr ++ w1) := va_D.app (hD.sub isR hn hR) (hD1.weaken (fun k q _ h => hA q.1 h)) (fun i j x y hx hy hxy => (apart i x hx).2 (by rw [hxy]; exact hD1.2 j y hy))
  exact ⟨hPj, hDj⟩
theorem va_backX {A0 : Nat → Prop} {D : va_G} {X K wr w1 : va_W} {Lc : List Nat} {H H1 : Heap} (hP : va_P D vwCl (X ++ K) H) (hD : va_D A0 (X ++ K)) (isC isR : List Nat) (hC : isC.map (fun i => (X[i]?).map Prod.fst) = Lc.map some) (hR : isR.map (fun i => X[i]?) = wr.map some) (hn : va_nd isR = true) (hdis : ∀ i ∈ isR, i ∉ isC)
    (hk : ∀ q : Nat, q < H.size → ¬ OA Lc H.size q → H1[q]? = H[q]?) (hA : ∀ q, OA Lc H.size q → A0 q) (hP1 : va_P D vwCl w1 H1) (hD1 : va_D (OA Lc H.size) w1) : va_P D vwCl ((wr ++ w1) ++ K) H1 ∧ va_D A0 ((wr ++ w1) ++ K) := by
  obtain ⟨n1, n2⟩ := va_D_iff.mp hD
  rw [List.map_append] at n1
  obtain ⟨m1, m2, m3⟩ := List.nodup_append.mp n1
  have hPX : va_P D vwCl X H := va_P_iff.mpr (fun q hq => va_P_iff.mp hP q (List.mem_append_left _ hq))
  have hDX : va_D A0 X := va_D_iff.mpr ⟨m1, fun q hq => n2 q (List.mem_append_left _ hq)⟩
  have hDK : va_D A0 K := va_D_iff.mpr ⟨m2, fun q hq => n2 q (List.mem_append_right _ hq)⟩
  obtain ⟨p1, d1⟩ := va_backT hPX hDX isC isR hC hR hn hdis hk hA hP1 hD1
  have hLc : ∀ a ∈ Lc, a ∈ X.map Prod.fst := by
    intro a ha
    have h0 : some a ∈ Lc.map some := List.mem_map.mpr ⟨a, ha, rfl⟩
    rw [← hC] at h0
    obtain ⟨i, -, h1⟩ := List.mem_map.mp h0
    cases hw : X[i]? with
    | none => rw [hw] at h1; cases h1
    | some p => rw [hw] at h1; exact List.mem_map.mpr ⟨p, List.mem_of_getElem? hw, Option.some.inj h1⟩
  have hKa : ∀ q ∈ K, q.1 < H.size ∧ ¬ OA Lc H.size q.1 := fun q hq => by
    obtain ⟨k, hk9⟩ := List.getElem?_of_mem (List.mem_append_right X hq)
    have hl := (hP k q hk9).lt
    refine ⟨hl, ?_⟩
    rintro (z | z)
    · exact m3 _ (hLc _ z) _ (List.mem_map.mpr ⟨q, hq, rfl⟩) rfl
    · omega
  refine ⟨va_P.app p1 (va_P_iff.mpr fun q hq => ?_), va_D.app d1 hDK fun i j p q hp hq he => ?_⟩
  · exact (va_P_iff.mp hP q (List.mem_append_right _ hq)).kept (hk q.1 (hKa q hq).1 (hKa q hq).2)
  · have hqK := List.mem_of_getElem? hq
    rcases List.mem_append.mp (List.mem_of_getElem? hp) with h | h
    · have h0 : some p ∈ wr.map some := List.mem_map.mpr ⟨p, h, rfl⟩
      rw [← hR] at h0
      obtain ⟨i9, -, h1⟩ := List.mem_map.mp h0
      exact m3 _ (List.mem_map.mpr ⟨p, List.mem_of_getElem? h1, rfl⟩) _ (List.mem_map.mpr ⟨q, hqK, rfl⟩) he
    · exact (hKa q hqK).2 (he ▸ (va_D_iff.mp hD1).2 p h)
abbrev rm_X6_init : Room := { frames := 1, cells := 2, slots := 1024, locals := 40 }
theorem ok_X6_init : okY yX6_init 0 := ⟨by decide +kernel, by decide +kernel, by decide +kernel⟩
set_option maxHeartbeats 4000000 in
set_option maxRecDepth 100000 in
theorem c_X6_init (l : Launch) (z0 : Nat) (D : va_G) (t : Nat → ClassId) (g0 : Nat) (sz : Nat) : Met l yX6_init (ws_ yX6_init cX6_init 1 none) rm_X6_init (PM z0 D t [.ref g0] [(g0, .inr (7, [.int (0 : Int32), .null, .null]))] [g0] sz) (QE (fun _ : Nat × Nat => none) D (fun b => REW (gL [g0, b.1, b.2]) t (0, fun _ => 0, fun _ => 0)) [g0] sz) 2 1024 (OA [g0] sz) := by
  refine Met.ofW (cc := cX6_init) (maxL := 1) (ret := none) (by decide) rfl ?_
  intro p e s m args below meth c s₁ Bo hml hv
  obtain ⟨rfl, hC, hsz, hP, hD, hZ⟩ := hv
  have hx := Bo.exec
  have hb := Bo.bytes
  have hr := Bo.returns
  have hts : ∀ w ∈ LA, w.before _ s = true := fun w hw => atoms_spec (ws := ws_ yX6_init cX6_init 1 none) Bo.pre w (List.mem_cons_of_mem _ hw)
  have hown : s.vm.findClass RX6 = some m.cls := findClass_of_methodNamed Bo.named
  have hlocks := Bo.notSynchronized
  have hK := hC.1
  have hin : meth.name = "<init>" := (name_of_methodNamed Bo.named Bo.method).1
  subst hsz
  obtain ⟨L0, hL0⟩ : ∃ L0, L0 = [g0] := ⟨_, rfl⟩
  rw [← hL0] at hD hZ ⊢
  have hS : va_S (OA L0 s.heap.size) s.heap s.heap [] := va_S.rf
  suffices K9 : ∀ (H : Heap), va_P D vwCl [(g0, .inr (7, [.int (0 : Int32), .null, .null]))] H → va_S (OA L0 s.heap.size) s.heap H [] → W p l e (headSpec (ws_ yX6_init cX6_init 1 none) rm_X6_init).room s m ([.ref g0] : List Value).toArray below meth c H [] 0 0 (MQ below (QE (fun _ : Nat × Nat => none) D (fun b => REW (gL [g0, b.1, b.2]) t (0, fun _ => 0, fun _ => 0)) L0 s.heap.size) ([.ref g0] : List Value).toArray s 2 1024 (OA L0 s.heap.size)) (entryFrame m ([.ref g0] : List Value).toArray 1) from K9 s.heap hP hS
  intro H hP hS
  have hSz : s.heap.size ≤ H.size := hS.1
  have hl := lv_entry ([.ref g0]) (n := 1) (Nat.le_of_ble_eq_true rfl)
  rw [lg_entry_eq]
  generalize (lg_sl ([.ref g0]) ++ List.replicate (1 - (lg_sl ([.ref g0])).length) Slot.unset).toArray = ls at hl ⊢
  have hl : lv_has ls 1 [(0, .ref g0)] := hl
  refine lv_aload_n hx hb dX6_init_0 rfl (lv_at hl 0 rfl) ?_
  refine W.objInit hx hb hown (hts _ qw91) (hts _ qw33) (hts _ qw34) rfl (by rw [hml]; exact hl.1) rfl dX6_init_1 (Nat.le_of_ble_eq_true rfl) (Nat.le_of_ble_eq_true rfl) ?_
  refine W.eq (g2 := F0 m 4 ls []) rfl ?_
  refine lv_aload_n hx hb dX6_init_4 rfl (lv_at hl 0 rfl) ?_
  refine lv_iconst (v := (0)) hx hb dX6_init_5 (by decide) ?_
  refine va_put (D := D) (ci := 7) (v := .int (0 : Int32)) (ty := .int) hx hb hts inX6 tyX6 tyX6_ok nmX6 hown hK hP hD hS 0 rfl rfl 0 (by decide) (hts _ qw92) (fun _ h9 => h9) rfl (by decide +kernel) rfl rfl (Nat.le_of_ble_eq_true rfl) dX6_init_6 (fun H locs hP hD hS => ?_)
  have hP : va_P D vwCl ([(g0, .inr (7, [.int (0 : Int32), .null, .null]))] : va_W) H := hP
  have hD : va_D (OA L0 s.heap.size) ([(g0, .inr (7, [.int (0 : Int32), .null, .null]))] : va_W) := hD
  have hSz : s.heap.size ≤ H.size := hS.1
  refine lv_aload_n hx hb dX6_init_9 rfl (lv_at hl 0 rfl) ?_
  refine lv_sipush (v := (512)) hx hb dX6_init_10 (by decide) ?_
  refine va_newa (atype := .int) (ty := .int) (N' := 512) (a0 := (512, .inl (fun _ => 0))) hx hb (hts _ qw77) rfl hK hP hD hS OA.new (fun _ => rfl) (by decide) (by decide) (Nat.le_of_ble_eq_true rfl) (Nat.le_of_ble_eq_true rfl) (Nat.le_of_ble_eq_true rfl) dX6_init_13 (fun q1 cA9 H hK9 hP hD hS => ?_)
  obtain rfl : cA9 = t 0 := KA_eq (k := 0) hK hK9 rfl
  have hP : va_P D vwCl ([(g0, .inr (7, [.int (0 : Int32), .null, .null])), (q1, .inl (t 0, (512, .inl (fun _ => 0))))] : va_W) H := hP
  have hD : va_D (OA L0 s.heap.size) ([(g0, .inr (7, [.int (0 : Int32), .null, .null])), (q1, .inl (t 0, (512, .inl (fun _ => 0))))] : va_W) := hD
  have hSz : s.heap.size ≤ H.size := hS.1
  refine W.widen (k := 1) (n := 512) (by omega) (by omega) ?_
  refine va_putF (D := D) (ci := 7) (v := .ref q1) (ty := (.array .int)) hx hb hts inX6 tyX6 tyX6_ok nmX6 hown hK hP hD hS 0 rfl rfl 1 (by decide) (hts _ qw94) (fun _ h9 => h9) rfl hin rfl (by decide +kernel) rfl rfl (Nat.le_of_ble_eq_true rfl) dX6_init_15 (fun H locs hP hD hS => ?_)
  have hP : va_P D vwCl ([(g0, .inr (7, [.int (0 : Int32), .ref q1, .null])), (q1, .inl (t 0, (512, .inl (fun _ => 0))))] : va_W) H := hP
  have hD : va_D (OA L0 s.heap.size) ([(g0, .inr (7, [.int (0 : Int32), .ref q1, .null])), (q1, .inl (t 0, (512, .inl (fun _ => 0))))] : va_W) := hD
  have hSz : s.heap.size ≤ H.size := hS.1
  refine lv_aload_n hx hb dX6_init_18 rfl (lv_at hl 0 rfl) ?_
  refine lv_sipush (v := (512)) hx hb dX6_init_19 (by decide) ?_
  refine va_newa (atype := .int) (ty := .int) (N' := 512) (a0 := (512, .inl (fun _ => 0))) hx hb (hts _ qw77) rfl hK hP hD hS OA.new (fun _ => rfl) (by decide) (by decide) (Nat.le_of_ble_eq_true rfl) (Nat.le_of_ble_eq_true rfl) (Nat.le_of_ble_eq_true rfl) dX6_init_22 (fun q2 cA9 H hK9 hP hD hS => ?_)
  obtain rfl : cA9 = t 0 := KA_eq (k := 0) hK hK9 rfl
  have hP : va_P D vwCl ([(g0, .inr (7, [.int (0 : Int32), .ref q1, .null])), (q1, .inl (t 0, (512, .inl (fun _ => 0)))), (q2, .inl (t 0, (512, .inl (fun _ => 0))))] : va_W) H := hP
  have hD : va_D (OA L0 s.heap.size) ([(g0, .inr (7, [.int (0 : Int32), .ref q1, .null])), (q1, .inl (t 0, (512, .inl (fun _ => 0)))), (q2, .inl (t 0, (512, .inl (fun _ => 0))))] : va_W) := hD
  have hSz : s.heap.size ≤ H.size := hS.1
  refine W.widen (k := 2) (n := 1024) (by omega) (by omega) ?_
  refine va_putF (D := D) (ci := 7) (v := .ref q2) (ty := (.array .int)) hx hb hts inX6 tyX6 tyX6_ok nmX6 hown hK hP hD hS 0 rfl rfl 2 (by decide) (hts _ qw95) (fun _ h9 => h9) rfl hin rfl (by decide +kernel) rfl rfl (Nat.le_of_ble_eq_true rfl) dX6_init_24 (fun H locs hP hD hS => ?_)
  have hP : va_P D vwCl ([(g0, .inr (7, [.int (0 : Int32), .ref q1, .ref q2])), (q1, .inl (t 0, (512, .inl (fun _ => 0)))), (q2, .inl (t 0, (512, .inl (fun _ => 0))))] : va_W) H := hP
  have hD : va_D (OA L0 s.heap.size) ([(g0, .inr (7, [.int (0 : Int32), .ref q1, .ref q2])), (q1, .inl (t 0, (512, .inl (fun _ => 0)))), (q2, .inl (t 0, (512, .inl (fun _ => 0))))] : va_W) := hD
  have hSz : s.heap.size ≤ H.size := hS.1
  exact W.vret hx hb hr (fun t9 ht hW => ⟨(q1, q2), rfl, by rw [ht]; exact hP, hD, hS.F ht⟩) hS.2.2 dX6_init_27

abbrev rm_X2_init : Room := { frames := 3, cells := 73, slots := 35403, locals := 100 }
theorem ok_X2_init : okY yX2_init 0 := ⟨by decide +kernel, by decide +kernel, by decide +kernel⟩
set_option maxHeartbeats 4000000 in
set_option maxRecDepth 100000 in
theorem c_X2_init (l : Launch) (z0 : Nat) (D : va_G) (t : Nat → ClassId) (g0 : Nat) (sz : Nat) : Met l yX2_init (ws_ yX2_init cX2_init 1 none) rm_X2_init (PM z0 D t [.ref g0] [(g0, .inr (3, [.null, .null, .null, .null]))] [g0] sz) (QE (fun _ : X2B => none) D (fun b => VW (gL [g0, b.1, b.2.1]) b.2.2.1 t (v0S b.2.2.2.1 b.2.2.2.2)) [g0] sz) 73 35403 (OA [g0] sz) := by
  refine Met.ofW (cc := cX2_init) (maxL := 1) (ret := none) (by decide) rfl ?_
  intro p e s m args below meth c s₁ Bo hml hv
  obtain ⟨rfl, hC, hsz, hP, hD, hZ⟩ := hv
  have hx := Bo.exec
  have hb := Bo.bytes
  have hr := Bo.returns
  have hts : ∀ w ∈ LA, w.before _ s = true := fun w hw => atoms_spec (ws := ws_ yX2_init cX2_init 1 none) Bo.pre w (List.mem_cons_of_mem _ hw)
  have hown : s.vm.findClass RX2 = some m.cls := findClass_of_methodNamed Bo.named
  have hlocks := Bo.notSynchronized
  have hK := hC.1
  have hin : meth.name = "<init>" := (name_of_methodNamed Bo.named Bo.method).1
  subst hsz
  obtain ⟨L0, hL0⟩ : ∃ L0, L0 = [g0] := ⟨_, rfl⟩
  rw [← hL0] at hD hZ ⊢
  have hS : va_S (OA L0 s.heap.size) s.heap s.heap [] := va_S.rf
  suffices K9 : ∀ (H : Heap), va_P D vwCl [(g0, .inr (3, [.null, .null, .null, .null]))] H → va_S (OA L0 s.heap.size) s.heap H [] → W p l e (headSpec (ws_ yX2_init cX2_init 1 none) rm_X2_init).room s m ([.ref g0] : List Value).toArray below meth c H [] 0 0 (MQ below (QE (fun _ : X2B => none) D (fun b => VW (gL [g0, b.1, b.2.1]) b.2.2.1 t (v0S b.2.2.2.1 b.2.2.2.2)) L0 s.heap.size) ([.ref g0] : List Value).toArray s 73 35403 (OA L0 s.heap.size)) (entryFrame m ([.ref g0] : List Value).toArray 1) from K9 s.heap hP hS
  intro H hP hS
  have hSz : s.heap.size ≤ H.size := hS.1
  have hl := lv_entry ([.ref g0]) (n := 1) (Nat.le_of_ble_eq_true rfl)
  rw [lg_entry_eq]
  generalize (lg_sl ([.ref g0]) ++ List.replicate (1 - (lg_sl ([.ref g0])).length) Slot.unset).toArray = ls at hl ⊢
  have hl : lv_has ls 1 [(0, .ref g0)] := hl
  refine lv_aload_n hx hb dX2_init_0 rfl (lv_at hl 0 rfl) ?_
  refine W.objInit hx hb hown (hts _ qw83) (hts _ qw33) (hts _ qw34) rfl (by rw [hml]; exact hl.1) rfl dX2_init_1 (Nat.le_of_ble_eq_true rfl) (Nat.le_of_ble_eq_true rfl) ?_
  refine W.eq (g2 := F0 m 4 ls []) rfl ?_
  refine lv_aload_n hx hb dX2_init_4 rfl (lv_at hl 0 rfl) ?_
  refine lv_bipush (v := (65)) hx hb dX2_init_5 (by decide) ?_
  refine lv_sipush (v := (512)) hx hb dX2_init_7 (by decide) ?_
  refine va_mna (X := [(g0, .inr (3, [.null, .null, .null, .null]))]) (L := []) (f := fun _ => .inl (t 0, (0, .inl (fun _ => 0)))) (ty := .int) (cy := t 0) (N' := 65) (K' := 512) (z := (512, .inl (fun _ => 0))) hx hb hown (hts _ qw84) hC.2.2.1 (hts _ qw77) (hK.2 0 _ rfl).2 hK hP hD hS OA.new (by decide) (by decide) rfl rfl (by decide) (by decide) (by decide) rfl rfl (Nat.le_of_ble_eq_true rfl) (Nat.le_of_ble_eq_true rfl) (fun _ => rfl) dX2_init_10 (fun q1 r cA1 H hinj hfr hK9 hP hD hS => ?_)
  obtain rfl : cA1 = t 5 := KA_eq (k := 5) hK hK9 rfl
  rw [pl_rows] at hP hD
  have hP : va_P D vwCl ([(g0, .inr (3, [.null, .null, .null, .null])), (q1, .inl (t 5, (65, .inr (.inr (.inr (.inr (fun i => if i < 65 then some (r i) else none)))))))] ++ ((List.range 65).map (fun i => (r i, .inl (t 0, (512, .inl (fun _ => 0)))))) : va_W) H := hP
  have hD : va_D (OA L0 s.heap.size) ([(g0, .inr (3, [.null, .null, .null, .null])), (q1, .inl (t 5, (65, .inr (.inr (.inr (.inr (fun i => if i < 65 then some (r i) else none)))))))] ++ ((List.range 65).map (fun i => (r i, .inl (t 0, (512, .inl (fun _ => 0)))))) : va_W) := hD
  have hSz : s.heap.size ≤ H.size := hS.1
  refine W.widen (k := 66) (n := 33345) (by omega) (by omega) ?_
  refine va_putF (D := D) (ci := 3) (v := .ref q1) (ty := (.array (.array .int))) hx hb hts inX2 tyX2 tyX2_ok nmX2 hown hK hP hD hS 0 rfl rfl 0 (by decide) (hts _ qw103) (fun _ h9 => h9) rfl hin rfl (by decide +kernel) rfl rfl (Nat.le_of_ble_eq_true rfl) dX2_init_14 (fun H locs hP hD hS => ?_)
  have hP : va_P D vwCl ([(g0, .inr (3, [.ref q1, .null, .null, .null])), (q1, .inl (t 5, (65, .inr (.inr (.inr (.inr (fun i => if i < 65 then some (r i) else none)))))))] ++ ((List.range 65).map (fun i => (r i, .inl (t 0, (512, .inl (fun _ => 0)))))) : va_W) H := hP
  have hD : va_D (OA L0 s.heap.size) ([(g0, .inr (3, [.ref q1, .null, .null, .null])), (q1, .inl (t 5, (65, .inr (.inr (.inr (.inr (fun i => if i < 65 then some (r i) else none)))))))] ++ ((List.range 65).map (fun i => (r i, .inl (t 0, (512, .inl (fun _ => 0)))))) : va_W) := hD
  have hSz : s.heap.size ≤ H.size := hS.1
  refine lv_aload_n hx hb dX2_init_17 rfl (lv_at hl 0 rfl) ?_
  refine lv_iconst (v := (4)) hx hb dX2_init_18 (by decide) ?_
  refine va_newa (atype := .int) (ty := .int) (N' := 4) (a0 := (4, .inl (fun _ => 0))) hx hb (hts _ qw77) rfl hK hP hD hS OA.new (fun _ => rfl) (by decide) (by decide) (Nat.le_of_ble_eq_true rfl) (Nat.le_of_ble_eq_true rfl) (Nat.le_of_ble_eq_true rfl) dX2_init_19 (fun q2 cA9 H hK9 hP hD hS => ?_)
  obtain rfl : cA9 = t 0 := KA_eq (k := 0) hK hK9 rfl
  have hP := hP.swap
  have hD := hD.swap
  have hP : va_P D vwCl ([(g0, .inr (3, [.ref q1, .null, .null, .null])), (q1, .inl (t 5, (65, .inr (.inr (.inr (.inr (fun i => if i < 65 then some (r i) else none))))))), (q2, .inl (t 0, (4, .inl (fun _ => 0))))] ++ ((List.range 65).map (fun i => (r i, .inl (t 0, (512, .inl (fun _ => 0)))))) : va_W) H := hP
  have hD : va_D (OA L0 s.heap.size) ([(g0, .inr (3, [.ref q1, .null, .null, .null])), (q1, .inl (t 5, (65, .inr (.inr (.inr (.inr (fun i => if i < 65 then some (r i) else none))))))), (q2, .inl (t 0, (4, .inl (fun _ => 0))))] ++ ((List.range 65).map (fun i => (r i, .inl (t 0, (512, .inl (fun _ => 0)))))) : va_W) := hD
  have hSz : s.heap.size ≤ H.size := hS.1
  refine W.widen (k := 67) (n := 33349) (by omega) (by omega) ?_
  refine va_putF (D := D) (ci := 3) (v := .ref q2) (ty := (.array .int)) hx hb hts inX2 tyX2 tyX2_ok nmX2 hown hK hP hD hS 0 rfl rfl 1 (by decide) (hts _ qw104) (fun _ h9 => h9) rfl hin rfl (by decide +kernel) rfl rfl (Nat.le_of_ble_eq_true rfl) dX2_init_21 (fun H locs hP hD hS => ?_)
  have hP : va_P D vwCl ([(g0, .inr (3, [.ref q1, .ref q2, .null, .null])), (q1, .inl (t 5, (65, .inr (.inr (.inr (.inr (fun i => if i < 65 then some (r i) else none))))))), (q2, .inl (t 0, (4, .inl (fun _ => 0))))] ++ ((List.range 65).map (fun i => (r i, .inl (t 0, (512, .inl (fun _ => 0)))))) : va_W) H := hP
  have hD : va_D (OA L0 s.heap.size) ([(g0, .inr (3, [.ref q1, .ref q2, .null, .null])), (q1, .inl (t 5, (65, .inr (.inr (.inr (.inr (fun i => if i < 65 then some (r i) else none))))))), (q2, .inl (t 0, (4, .inl (fun _ => 0))))] ++ ((List.range 65).map (fun i => (r i, .inl (t 0, (512, .inl (fun _ => 0)))))) : va_W) := hD
  have hSz : s.heap.size ≤ H.size := hS.1
  refine lv_aload_n hx hb dX2_init_24 rfl (lv_at hl 0 rfl) ?_
  refine va_new (ci := 7) (fs := [.int (0 : Int32), .null, .null]) hx hb hts inX6 tyX6 tyX6_ok hown (hts _ qw86) (hts _ qw87) (hts _ qw7) hK hP hD hS OA.new rfl (fun j hj => by rcases (show j = 0 ∨ j = 1 ∨ j = 2 by omega) with rfl | rfl | rfl <;> rfl) (Nat.le_of_ble_eq_true rfl) (Nat.le_of_ble_eq_true rfl) dX2_init_25 (fun q3 H hP hD hS => ?_)
  have hP := hP.swap
  have hD := hD.swap
  have hP : va_P D vwCl ([(g0, .inr (3, [.ref q1, .ref q2, .null, .null])), (q1, .inl (t 5, (65, .inr (.inr (.inr (.inr (fun i => if i < 65 then some (r i) else none))))))), (q2, .inl (t 0, (4, .inl (fun _ => 0)))), (q3, .inr (7, [.int (0 : Int32), .null, .null]))] ++ ((List.range 65).map (fun i => (r i, .inl (t 0, (512, .inl (fun _ => 0)))))) : va_W) H := hP
  have hD : va_D (OA L0 s.heap.size) ([(g0, .inr (3, [.ref q1, .ref q2, .null, .null])), (q1, .inl (t 5, (65, .inr (.inr (.inr (.inr (fun i => if i < 65 then some (r i) else none))))))), (q2, .inl (t 0, (4, .inl (fun _ => 0)))), (q3, .inr (7, [.int (0 : Int32), .null, .null]))] ++ ((List.range 65).map (fun i => (r i, .inl (t 0, (512, .inl (fun _ => 0)))))) : va_W) := hD
  have hSz : s.heap.size ≤ H.size := hS.1
  refine W.widen (k := 68) (n := 33352) (by omega) (by omega) ?_
  refine lv_dup hx hb dX2_init_28 rfl ?_
  refine call_E (va_runIN (As := []) (rest := [.ref q3, .ref g0]) ⟨hx, hb, hml, hown, hts⟩ (c_X6_init l z0 D t q3 H.size) ⟨kN hts (hC.2.1 _ qw88) qw7 qw90 ok_X6_init ⟨Nat.le_of_ble_eq_true rfl, Nat.le_of_ble_eq_true rfl⟩, rfl, hts _ qw89⟩ ⟨PM.blind, fun U hU hW => ⟨rfl, by rw [hU]; exact (hC.at hS hZ).warm hW, by rw [hU], by rw [hU]; exact (hP.sub (ws' := [(q3, .inr (7, [.int (0 : Int32), .null, .null]))]) [3] rfl), ⟨(hD.sub (ws' := [(q3, .inr (7, [.int (0 : Int32), .null, .null]))]) [3] (by decide) rfl).1, fun _ _ h9 => Or.inl (in_map (L := [q3]) rfl h9)⟩, fun q hq => hZ q (OA.ofD (hD.sub (ws' := [(q3, .inr (7, [.int (0 : Int32), .null, .null]))]) [3] (by decide) rfl) rfl hSz q hq)⟩⟩ rfl rfl hl.1 rfl (lv_room (Nat.le_of_ble_eq_true rfl)) dX2_init_29 ⟨Nat.le_of_ble_eq_true rfl, Nat.le_of_ble_eq_true rfl⟩) hS (OA.ofD (hD.sub (ws' := [(q3, .inr (7, [.int (0 : Int32), .null, .null]))]) [3] (by decide) rfl) rfl hSz) (fun b9 H locs hP1 hD1 hS _ hk1 => ?_)
  obtain ⟨q4, q5⟩ := b9
  obtain ⟨hP, hD⟩ := va_backX (X := [(g0, .inr (3, [.ref q1, .ref q2, .null, .null])), (q1, .inl (t 5, (65, .inr (.inr (.inr (.inr (fun i => if i < 65 then some (r i) else none))))))), (q2, .inl (t 0, (4, .inl (fun _ => 0)))), (q3, .inr (7, [.int (0 : Int32), .null, .null]))]) (K := ((List.range 65).map (fun i => (r i, .inl (t 0, (512, .inl (fun _ => 0))))))) (wr := [(g0, .inr (3, [.ref q1, .ref q2, .null, .null])), (q1, .inl (t 5, (65, .inr (.inr (.inr (.inr (fun i => if i < 65 then some (r i) else none))))))), (q2, .inl (t 0, (4, .inl (fun _ => 0))))]) (w1 := ([(q3, .inr (7, [.int (0 : Int32), .ref q4, .ref q5])), (q4, .inl (t 0, (512, .inl (fun _ => 0)))), (q5, .inl (t 0, (512, .inl (fun _ => 0))))] : va_W)) hP hD [3] [0, 1, 2] rfl rfl (by decide) (by decide) hk1 (OA.ofD (hD.sub (ws' := [(q3, .inr (7, [.int (0 : Int32), .null, .null]))]) [3] (by decide) rfl) rfl hSz) hP1 hD1
  have hP : va_P D vwCl ([(g0, .inr (3, [.ref q1, .ref q2, .null, .null])), (q1, .inl (t 5, (65, .inr (.inr (.inr (.inr (fun i => if i < 65 then some (r i) else none))))))), (q2, .inl (t 0, (4, .inl (fun _ => 0)))), (q3, .inr (7, [.int (0 : Int32), .ref q4, .ref q5])), (q4, .inl (t 0, (512, .inl (fun _ => 0)))), (q5, .inl (t 0, (512, .inl (fun _ => 0))))] ++ ((List.range 65).map (fun i => (r i, .inl (t 0, (512, .inl (fun _ => 0)))))) : va_W) H := hP
  have hD : va_D (OA L0 s.heap.size) ([(g0, .inr (3, [.ref q1, .ref q2, .null, .null])), (q1, .inl (t 5, (65, .inr (.inr (.inr (.inr (fun i => if i < 65 then some (r i) else none))))))), (q2, .inl (t 0, (4, .inl (fun _ => 0)))), (q3, .inr (7, [.int (0 : Int32), .ref q4, .ref q5])), (q4, .inl (t 0, (512, .inl (fun _ => 0)))), (q5, .inl (t 0, (512, .inl (fun _ => 0))))] ++ ((List.range 65).map (fun i => (r i, .inl (t 0, (512, .inl (fun _ => 0)))))) : va_W) := hD
  have hSz : s.heap.size ≤ H.size := hS.1
  refine W.widen (k := 70) (n := 34376) (by omega) (by omega) ?_
  refine va_put (D := D) (ci := 3) (v := .ref q3) (ty := (.object "BentGardens$Reached")) hx hb hts inX2 tyX2 tyX2_ok nmX2 hown hK hP hD hS 0 rfl rfl 2 (by decide) (hts _ qw105) (fun _ h9 => h9) rfl (by decide +kernel) rfl rfl (Nat.le_of_ble_eq_true rfl) dX2_init_32 (fun H locs hP hD hS => ?_)
  have hP : va_P D vwCl ([(g0, .inr (3, [.ref q1, .ref q2, .ref q3, .null])), (q1, .inl (t 5, (65, .inr (.inr (.inr (.inr (fun i => if i < 65 then some (r i) else none))))))), (q2, .inl (t 0, (4, .inl (fun _ => 0)))), (q3, .inr (7, [.int (0 : Int32), .ref q4, .ref q5])), (q4, .inl (t 0, (512, .inl (fun _ => 0)))), (q5, .inl (t 0, (512, .inl (fun _ => 0))))] ++ ((List.range 65).map (fun i => (r i, .inl (t 0, (512, .inl (fun _ => 0)))))) : va_W) H := hP
  have hD : va_D (OA L0 s.heap.size) ([(g0, .inr (3, [.ref q1, .ref q2, .ref q3, .null])), (q1, .inl (t 5, (65, .inr (.inr (.inr (.inr (fun i => if i < 65 then some (r i) else none))))))), (q2, .inl (t 0, (4, .inl (fun _ => 0)))), (q3, .inr (7, [.int (0 : Int32), .ref q4, .ref q5])), (q4, .inl (t 0, (512, .inl (fun _ => 0)))), (q5, .inl (t 0, (512, .inl (fun _ => 0))))] ++ ((List.range 65).map (fun i => (r i, .inl (t 0, (512, .inl (fun _ => 0)))))) : va_W) := hD
  have hSz : s.heap.size ≤ H.size := hS.1
  refine lv_aload_n hx hb dX2_init_35 rfl (lv_at hl 0 rfl) ?_
  refine va_new (ci := 7) (fs := [.int (0 : Int32), .null, .null]) hx hb hts inX6 tyX6 tyX6_ok hown (hts _ qw86) (hts _ qw87) (hts _ qw7) hK hP hD hS OA.new rfl (fun j hj => by rcases (show j = 0 ∨ j = 1 ∨ j = 2 by omega) with rfl | rfl | rfl <;> rfl) (Nat.le_of_ble_eq_true rfl) (Nat.le_of_ble_eq_true rfl) dX2_init_36 (fun q6 H hP hD hS => ?_)
  have hP := hP.swap
  have hD := hD.swap
  have hP : va_P D vwCl ([(g0, .inr (3, [.ref q1, .ref q2, .ref q3, .null])), (q1, .inl (t 5, (65, .inr (.inr (.inr (.inr (fun i => if i < 65 then some (r i) else none))))))), (q2, .inl (t 0, (4, .inl (fun _ => 0)))), (q3, .inr (7, [.int (0 : Int32), .ref q4, .ref q5])), (q4, .inl (t 0, (512, .inl (fun _ => 0)))), (q5, .inl (t 0, (512, .inl (fun _ => 0)))), (q6, .inr (7, [.int (0 : Int32), .null, .null]))] ++ ((List.range 65).map (fun i => (r i, .inl (t 0, (512, .inl (fun _ => 0)))))) : va_W) H := hP
  have hD : va_D (OA L0 s.heap.size) ([(g0, .inr (3, [.ref q1, .ref q2, .ref q3, .null])), (q1, .inl (t 5, (65, .inr (.inr (.inr (.inr (fun i => if i < 65 then some (r i) else none))))))), (q2, .inl (t 0, (4, .inl (fun _ => 0)))), (q3, .inr (7, [.int (0 : Int32), .ref q4, .ref q5])), (q4, .inl (t 0, (512, .inl (fun _ => 0)))), (q5, .inl (t 0, (512, .inl (fun _ => 0)))), (q6, .inr (7, [.int (0 : Int32), .null, .null]))] ++ ((List.range 65).map (fun i => (r i, .inl (t 0, (512, .inl (fun _ => 0)))))) : va_W) := hD
  have hSz : s.heap.size ≤ H.size := hS.1
  refine W.widen (k := 71) (n := 34379) (by omega) (by omega) ?_
  refine lv_dup hx hb dX2_init_39 rfl ?_
  refine call_E (va_runIN (As := []) (rest := [.ref q6, .ref g0]) ⟨hx, hb, hml, hown, hts⟩ (c_X6_init l z0 D t q6 H.size) ⟨kN hts (hC.2.1 _ qw88) qw7 qw90 ok_X6_init ⟨Nat.le_of_ble_eq_true rfl, Nat.le_of_ble_eq_true rfl⟩, rfl, hts _ qw89⟩ ⟨PM.blind, fun U hU hW => ⟨rfl, by rw [hU]; exact (hC.at hS hZ).warm hW, by rw [hU], by rw [hU]; exact (hP.sub (ws' := [(q6, .inr (7, [.int (0 : Int32), .null, .null]))]) [6] rfl), ⟨(hD.sub (ws' := [(q6, .inr (7, [.int (0 : Int32), .null, .null]))]) [6] (by decide) rfl).1, fun _ _ h9 => Or.inl (in_map (L := [q6]) rfl h9)⟩, fun q hq => hZ q (OA.ofD (hD.sub (ws' := [(q6, .inr (7, [.int (0 : Int32), .null, .null]))]) [6] (by decide) rfl) rfl hSz q hq)⟩⟩ rfl rfl hl.1 rfl (lv_room (Nat.le_of_ble_eq_true rfl)) dX2_init_40 ⟨Nat.le_of_ble_eq_true rfl, Nat.le_of_ble_eq_true rfl⟩) hS (OA.ofD (hD.sub (ws' := [(q6, .inr (7, [.int (0 : Int32), .null, .null]))]) [6] (by decide) rfl) rfl hSz) (fun b9 H locs hP1 hD1 hS _ hk1 => ?_)
  obtain ⟨q7, q8⟩ := b9
  obtain ⟨hP, hD⟩ := va_backX (X := [(g0, .inr (3, [.ref q1, .ref q2, .ref q3, .null])), (q1, .inl (t 5, (65, .inr (.inr (.inr (.inr (fun i => if i < 65 then some (r i) else none))))))), (q2, .inl (t 0, (4, .inl (fun _ => 0)))), (q3, .inr (7, [.int (0 : Int32), .ref q4, .ref q5])), (q4, .inl (t 0, (512, .inl (fun _ => 0)))), (q5, .inl (t 0, (512, .inl (fun _ => 0)))), (q6, .inr (7, [.int (0 : Int32), .null, .null]))]) (K := ((List.range 65).map (fun i => (r i, .inl (t 0, (512, .inl (fun _ => 0))))))) (wr := [(g0, .inr (3, [.ref q1, .ref q2, .ref q3, .null])), (q1, .inl (t 5, (65, .inr (.inr (.inr (.inr (fun i => if i < 65 then some (r i) else none))))))), (q2, .inl (t 0, (4, .inl (fun _ => 0)))), (q3, .inr (7, [.int (0 : Int32), .ref q4, .ref q5])), (q4, .inl (t 0, (512, .inl (fun _ => 0)))), (q5, .inl (t 0, (512, .inl (fun _ => 0))))]) (w1 := ([(q6, .inr (7, [.int (0 : Int32), .ref q7, .ref q8])), (q7, .inl (t 0, (512, .inl (fun _ => 0)))), (q8, .inl (t 0, (512, .inl (fun _ => 0))))] : va_W)) hP hD [6] [0, 1, 2, 3, 4, 5] rfl rfl (by decide) (by decide) hk1 (OA.ofD (hD.sub (ws' := [(q6, .inr (7, [.int (0 : Int32), .null, .null]))]) [6] (by decide) rfl) rfl hSz) hP1 hD1
  have hP : va_P D vwCl ([(g0, .inr (3, [.ref q1, .ref q2, .ref q3, .null])), (q1, .inl (t 5, (65, .inr (.inr (.inr (.inr (fun i => if i < 65 then some (r i) else none))))))), (q2, .inl (t 0, (4, .inl (fun _ => 0)))), (q3, .inr (7, [.int (0 : Int32), .ref q4, .ref q5])), (q4, .inl (t 0, (512, .inl (fun _ => 0)))), (q5, .inl (t 0, (512, .inl (fun _ => 0)))), (q6, .inr (7, [.int (0 : Int32), .ref q7, .ref q8])), (q7, .inl (t 0, (512, .inl (fun _ => 0)))), (q8, .inl (t 0, (512, .inl (fun _ => 0))))] ++ ((List.range 65).map (fun i => (r i, .inl (t 0, (512, .inl (fun _ => 0)))))) : va_W) H := hP
  have hD : va_D (OA L0 s.heap.size) ([(g0, .inr (3, [.ref q1, .ref q2, .ref q3, .null])), (q1, .inl (t 5, (65, .inr (.inr (.inr (.inr (fun i => if i < 65 then some (r i) else none))))))), (q2, .inl (t 0, (4, .inl (fun _ => 0)))), (q3, .inr (7, [.int (0 : Int32), .ref q4, .ref q5])), (q4, .inl (t 0, (512, .inl (fun _ => 0)))), (q5, .inl (t 0, (512, .inl (fun _ => 0)))), (q6, .inr (7, [.int (0 : Int32), .ref q7, .ref q8])), (q7, .inl (t 0, (512, .inl (fun _ => 0)))), (q8, .inl (t 0, (512, .inl (fun _ => 0))))] ++ ((List.range 65).map (fun i => (r i, .inl (t 0, (512, .inl (fun _ => 0)))))) : va_W) := hD
  have hSz : s.heap.size ≤ H.size := hS.1
  refine W.widen (k := 73) (n := 35403) (by omega) (by omega) ?_
  refine va_put (D := D) (ci := 3) (v := .ref q6) (ty := (.object "BentGardens$Reached")) hx hb hts inX2 tyX2 tyX2_ok nmX2 hown hK hP hD hS 0 rfl rfl 3 (by decide) (hts _ qw106) (fun _ h9 => h9) rfl (by decide +kernel) rfl rfl (Nat.le_of_ble_eq_true rfl) dX2_init_43 (fun H locs hP hD hS => ?_)
  have hP : va_P D vwCl ([(g0, .inr (3, [.ref q1, .ref q2, .ref q3, .ref q6])), (q1, .inl (t 5, (65, .inr (.inr (.inr (.inr (fun i => if i < 65 then some (r i) else none))))))), (q2, .inl (t 0, (4, .inl (fun _ => 0)))), (q3, .inr (7, [.int (0 : Int32), .ref q4, .ref q5])), (q4, .inl (t 0, (512, .inl (fun _ => 0)))), (q5, .inl (t 0, (512, .inl (fun _ => 0)))), (q6, .inr (7, [.int (0 : Int32), .ref q7, .ref q8])), (q7, .inl (t 0, (512, .inl (fun _ => 0)))), (q8, .inl (t 0, (512, .inl (fun _ => 0))))] ++ ((List.range 65).map (fun i => (r i, .inl (t 0, (512, .inl (fun _ => 0)))))) : va_W) H := hP
  have hD : va_D (OA L0 s.heap.size) ([(g0, .inr (3, [.ref q1, .ref q2, .ref q3, .ref q6])), (q1, .inl (t 5, (65, .inr (.inr (.inr (.inr (fun i => if i < 65 then some (r i) else none))))))), (q2, .inl (t 0, (4, .inl (fun _ => 0)))), (q3, .inr (7, [.int (0 : Int32), .ref q4, .ref q5])), (q4, .inl (t 0, (512, .inl (fun _ => 0)))), (q5, .inl (t 0, (512, .inl (fun _ => 0)))), (q6, .inr (7, [.int (0 : Int32), .ref q7, .ref q8])), (q7, .inl (t 0, (512, .inl (fun _ => 0)))), (q8, .inl (t 0, (512, .inl (fun _ => 0))))] ++ ((List.range 65).map (fun i => (r i, .inl (t 0, (512, .inl (fun _ => 0)))))) : va_W) := hD
  have hSz : s.heap.size ≤ H.size := hS.1
  have hP := hP.part (cx := [(g0, .inr (3, [.ref q1, .ref q2, .ref q3, .ref q6])), (q2, .inl (t 0, (4, .inl (fun _ => 0)))), (q1, .inl (t 5, (65, .inr (.inr (.inr (.inr (fun i => if i < 65 then some (r i) else none))))))), (q3, .inr (7, [.int (0 : Int32), .ref q4, .ref q5])), (q4, .inl (t 0, (512, .inl (fun _ => 0)))), (q5, .inl (t 0, (512, .inl (fun _ => 0)))), (q6, .inr (7, [.int (0 : Int32), .ref q7, .ref q8])), (q7, .inl (t 0, (512, .inl (fun _ => 0)))), (q8, .inl (t 0, (512, .inl (fun _ => 0))))]) [0, 2, 1, 3, 4, 5, 6, 7, 8] rfl
  have hD := hD.part (cx := [(g0, .inr (3, [.ref q1, .ref q2, .ref q3, .ref q6])), (q2, .inl (t 0, (4, .inl (fun _ => 0)))), (q1, .inl (t 5, (65, .inr (.inr (.inr (.inr (fun i => if i < 65 then some (r i) else none))))))), (q3, .inr (7, [.int (0 : Int32), .ref q4, .ref q5])), (q4, .inl (t 0, (512, .inl (fun _ => 0)))), (q5, .inl (t 0, (512, .inl (fun _ => 0)))), (q6, .inr (7, [.int (0 : Int32), .ref q7, .ref q8])), (q7, .inl (t 0, (512, .inl (fun _ => 0)))), (q8, .inl (t 0, (512, .inl (fun _ => 0))))]) [0, 2, 1, 3, 4, 5, 6, 7, 8] (by decide) rfl
  exact W.vret hx hb hr (fun t9 ht hW => ⟨(q2, q1, r, gL [q3, q4, q5], gL [q6, q7, q8]), rfl, by rw [ht]; exact hP, hD, hS.F ht⟩) hS.2.2 dX2_init_46

abbrev rm_X5_init : Room := { frames := 2, cells := 6, slots := 4191, locals := 100 }
theorem ok_X5_init : okY yX5_init 0 := ⟨by decide +kernel, by decide +kernel, by decide +kernel⟩
set_option maxHeartbeats 4000000 in
set_option maxRecDepth 100000 in
theorem c_X5_init (l : Launch) (z0 : Nat) (D : va_G) (t : Nat → ClassId) (g0 : Nat) (res : Nat → Int32) (sz : Nat) (h : f_X5_laysOut m0S 0 4 4 = some res) : Met l yX5_init (ws_ yX5_init cX5_init 1 none) rm_X5_init (PM z0 D t [.ref g0] [(g0, .inr (6, [.null, .int (0 : Int32), .null, .int (0 : Int32), .null, .int (0 : Int32), .int (0 : Int32), .null, .null, .null]))] [g0] sz) (QE (fun _ : Nat × Nat × Nat × Nat × Nat × Nat => none) D (fun b => MW (gL [g0, b.1, b.2.1, b.2.2.1, b.2.2.2.1, b.2.2.2.2.1, b.2.2.2.2.2]) t (m_s' m0S res)) [g0] sz) 6 4191 (OA [g0] sz) := by
  refine Met.ofW (cc := cX5_init) (maxL := 1) (ret := none) (by decide) rfl ?_
  intro p e s m args below meth c s₁ Bo hml hv
  obtain ⟨rfl, hC, hsz, hP, hD, hZ⟩ := hv
  have hx := Bo.exec
  have hb := Bo.bytes
  have hr := Bo.returns
  have hts : ∀ w ∈ LA, w.before _ s = true := fun w hw => atoms_spec (ws := ws_ yX5_init cX5_init 1 none) Bo.pre w (List.mem_cons_of_mem _ hw)
  have hown : s.vm.findClass RX5 = some m.cls := findClass_of_methodNamed Bo.named
  have hlocks := Bo.notSynchronized
  have hK := hC.1
  have hin : meth.name = "<init>" := (name_of_methodNamed Bo.named Bo.method).1
  subst hsz
  obtain ⟨L0, hL0⟩ : ∃ L0, L0 = [g0] := ⟨_, rfl⟩
  rw [← hL0] at hD hZ ⊢
  have hS : va_S (OA L0 s.heap.size) s.heap s.heap [] := va_S.rf
  suffices K9 : ∀ (H : Heap), va_P D vwCl [(g0, .inr (6, [.null, .int (0 : Int32), .null, .int (0 : Int32), .null, .int (0 : Int32), .int (0 : Int32), .null, .null, .null]))] H → va_S (OA L0 s.heap.size) s.heap H [] → W p l e (headSpec (ws_ yX5_init cX5_init 1 none) rm_X5_init).room s m ([.ref g0] : List Value).toArray below meth c H [] 0 0 (MQ below (QE (fun _ : Nat × Nat × Nat × Nat × Nat × Nat => none) D (fun b => MW (gL [g0, b.1, b.2.1, b.2.2.1, b.2.2.2.1, b.2.2.2.2.1, b.2.2.2.2.2]) t (m_s' m0S res)) L0 s.heap.size) ([.ref g0] : List Value).toArray s 6 4191 (OA L0 s.heap.size)) (entryFrame m ([.ref g0] : List Value).toArray 1) from K9 s.heap hP hS
  intro H hP hS
  have hSz : s.heap.size ≤ H.size := hS.1
  have hl := lv_entry ([.ref g0]) (n := 1) (Nat.le_of_ble_eq_true rfl)
  rw [lg_entry_eq]
  generalize (lg_sl ([.ref g0]) ++ List.replicate (1 - (lg_sl ([.ref g0])).length) Slot.unset).toArray = ls at hl ⊢
  have hl : lv_has ls 1 [(0, .ref g0)] := hl
  refine lv_aload_n hx hb dX5_init_0 rfl (lv_at hl 0 rfl) ?_
  refine W.objInit hx hb hown (hts _ qw962) (hts _ qw33) (hts _ qw34) rfl (by rw [hml]; exact hl.1) rfl dX5_init_1 (Nat.le_of_ble_eq_true rfl) (Nat.le_of_ble_eq_true rfl) ?_
  refine W.eq (g2 := F0 m 4 ls []) rfl ?_
  refine lv_aload_n hx hb dX5_init_4 rfl (lv_at hl 0 rfl) ?_
  refine lv_sipush (v := (1970)) hx hb dX5_init_5 (by decide) ?_
  refine va_newa (atype := .int) (ty := .int) (N' := 1970) (a0 := (1970, .inl (fun _ => 0))) hx hb (hts _ qw77) rfl hK hP hD hS OA.new (fun _ => rfl) (by decide) (by decide) (Nat.le_of_ble_eq_true rfl) (Nat.le_of_ble_eq_true rfl) (Nat.le_of_ble_eq_true rfl) dX5_init_8 (fun q1 cA9 H hK9 hP hD hS => ?_)
  obtain rfl : cA9 = t 0 := KA_eq (k := 0) hK hK9 rfl
  have hP : va_P D vwCl ([(g0, .inr (6, [.null, .int (0 : Int32), .null, .int (0 : Int32), .null, .int (0 : Int32), .int (0 : Int32), .null, .null, .null])), (q1, .inl (t 0, (1970, .inl (fun _ => 0))))] : va_W) H := hP
  have hD : va_D (OA L0 s.heap.size) ([(g0, .inr (6, [.null, .int (0 : Int32), .null, .int (0 : Int32), .null, .int (0 : Int32), .int (0 : Int32), .null, .null, .null])), (q1, .inl (t 0, (1970, .inl (fun _ => 0))))] : va_W) := hD
  have hSz : s.heap.size ≤ H.size := hS.1
  refine W.widen (k := 1) (n := 1970) (by omega) (by omega) ?_
  refine va_putF (D := D) (ci := 6) (v := .ref q1) (ty := (.array .int)) hx hb hts inX5 tyX5 tyX5_ok nmX5 hown hK hP hD hS 0 rfl rfl 0 (by decide) (hts _ qw967) (fun _ h9 => h9) rfl hin rfl (by decide +kernel) rfl rfl (Nat.le_of_ble_eq_true rfl) dX5_init_10 (fun H locs hP hD hS => ?_)
  have hP : va_P D vwCl ([(g0, .inr (6, [.ref q1, .int (0 : Int32), .null, .int (0 : Int32), .null, .int (0 : Int32), .int (0 : Int32), .null, .null, .null])), (q1, .inl (t 0, (1970, .inl (fun _ => 0))))] : va_W) H := hP
  have hD : va_D (OA L0 s.heap.size) ([(g0, .inr (6, [.ref q1, .int (0 : Int32), .null, .int (0 : Int32), .null, .int (0 : Int32), .int (0 : Int32), .null, .null, .null])), (q1, .inl (t 0, (1970, .inl (fun _ => 0))))] : va_W) := hD
  have hSz : s.heap.size ≤ H.size := hS.1
  refine lv_aload_n hx hb dX5_init_13 rfl (lv_at hl 0 rfl) ?_
  refine lv_iconst (v := (2)) hx hb dX5_init_14 (by decide) ?_
  refine va_newa (atype := .boolean) (ty := .boolean) (N' := 2) (a0 := (2, .inl (fun _ => 0))) hx hb (hts _ qw998) rfl hK hP hD hS OA.new (fun _ => rfl) (by decide) (by decide) (Nat.le_of_ble_eq_true rfl) (Nat.le_of_ble_eq_true rfl) (Nat.le_of_ble_eq_true rfl) dX5_init_15 (fun q2 cA9 H hK9 hP hD hS => ?_)
  obtain rfl : cA9 = t 1 := KA_eq (k := 1) hK hK9 rfl
  have hP : va_P D vwCl ([(g0, .inr (6, [.ref q1, .int (0 : Int32), .null, .int (0 : Int32), .null, .int (0 : Int32), .int (0 : Int32), .null, .null, .null])), (q1, .inl (t 0, (1970, .inl (fun _ => 0)))), (q2, .inl (t 1, (2, .inl (fun _ => 0))))] : va_W) H := hP
  have hD : va_D (OA L0 s.heap.size) ([(g0, .inr (6, [.ref q1, .int (0 : Int32), .null, .int (0 : Int32), .null, .int (0 : Int32), .int (0 : Int32), .null, .null, .null])), (q1, .inl (t 0, (1970, .inl (fun _ => 0)))), (q2, .inl (t 1, (2, .inl (fun _ => 0))))] : va_W) := hD
  have hSz : s.heap.size ≤ H.size := hS.1
  refine W.widen (k := 2) (n := 1972) (by omega) (by omega) ?_
  refine va_putF (D := D) (ci := 6) (v := .ref q2) (ty := (.array .boolean)) hx hb hts inX5 tyX5 tyX5_ok nmX5 hown hK hP hD hS 0 rfl rfl 2 (by decide) (hts _ qw969) (fun _ h9 => h9) rfl hin rfl (by decide +kernel) rfl rfl (Nat.le_of_ble_eq_true rfl) dX5_init_17 (fun H locs hP hD hS => ?_)
  have hP : va_P D vwCl ([(g0, .inr (6, [.ref q1, .int (0 : Int32), .ref q2, .int (0 : Int32), .null, .int (0 : Int32), .int (0 : Int32), .null, .null, .null])), (q1, .inl (t 0, (1970, .inl (fun _ => 0)))), (q2, .inl (t 1, (2, .inl (fun _ => 0))))] : va_W) H := hP
  have hD : va_D (OA L0 s.heap.size) ([(g0, .inr (6, [.ref q1, .int (0 : Int32), .ref q2, .int (0 : Int32), .null, .int (0 : Int32), .int (0 : Int32), .null, .null, .null])), (q1, .inl (t 0, (1970, .inl (fun _ => 0)))), (q2, .inl (t 1, (2, .inl (fun _ => 0))))] : va_W) := hD
  have hSz : s.heap.size ≤ H.size := hS.1
  refine lv_aload_n hx hb dX5_init_20 rfl (lv_at hl 0 rfl) ?_
  refine lv_bipush (v := (71)) hx hb dX5_init_21 (by decide) ?_
  refine va_newa (atype := .char) (ty := .char) (N' := 71) (a0 := (71, .inl (fun _ => 0))) hx hb (hts _ qw999) rfl hK hP hD hS OA.new (fun _ => rfl) (by decide) (by decide) (Nat.le_of_ble_eq_true rfl) (Nat.le_of_ble_eq_true rfl) (Nat.le_of_ble_eq_true rfl) dX5_init_23 (fun q3 cA9 H hK9 hP hD hS => ?_)
  obtain rfl : cA9 = t 2 := KA_eq (k := 2) hK hK9 rfl
  have hP : va_P D vwCl ([(g0, .inr (6, [.ref q1, .int (0 : Int32), .ref q2, .int (0 : Int32), .null, .int (0 : Int32), .int (0 : Int32), .null, .null, .null])), (q1, .inl (t 0, (1970, .inl (fun _ => 0)))), (q2, .inl (t 1, (2, .inl (fun _ => 0)))), (q3, .inl (t 2, (71, .inl (fun _ => 0))))] : va_W) H := hP
  have hD : va_D (OA L0 s.heap.size) ([(g0, .inr (6, [.ref q1, .int (0 : Int32), .ref q2, .int (0 : Int32), .null, .int (0 : Int32), .int (0 : Int32), .null, .null, .null])), (q1, .inl (t 0, (1970, .inl (fun _ => 0)))), (q2, .inl (t 1, (2, .inl (fun _ => 0)))), (q3, .inl (t 2, (71, .inl (fun _ => 0))))] : va_W) := hD
  have hSz : s.heap.size ≤ H.size := hS.1
  refine W.widen (k := 3) (n := 2043) (by omega) (by omega) ?_
  refine va_putF (D := D) (ci := 6) (v := .ref q3) (ty := (.array .char)) hx hb hts inX5 tyX5 tyX5_ok nmX5 hown hK hP hD hS 0 rfl rfl 4 (by decide) (hts _ qw971) (fun _ h9 => h9) rfl hin rfl (by decide +kernel) rfl rfl (Nat.le_of_ble_eq_true rfl) dX5_init_25 (fun H locs hP hD hS => ?_)
  have hP : va_P D vwCl ([(g0, .inr (6, [.ref q1, .int (0 : Int32), .ref q2, .int (0 : Int32), .ref q3, .int (0 : Int32), .int (0 : Int32), .null, .null, .null])), (q1, .inl (t 0, (1970, .inl (fun _ => 0)))), (q2, .inl (t 1, (2, .inl (fun _ => 0)))), (q3, .inl (t 2, (71, .inl (fun _ => 0))))] : va_W) H := hP
  have hD : va_D (OA L0 s.heap.size) ([(g0, .inr (6, [.ref q1, .int (0 : Int32), .ref q2, .int (0 : Int32), .ref q3, .int (0 : Int32), .int (0 : Int32), .null, .null, .null])), (q1, .inl (t 0, (1970, .inl (fun _ => 0)))), (q2, .inl (t 1, (2, .inl (fun _ => 0)))), (q3, .inl (t 2, (71, .inl (fun _ => 0))))] : va_W) := hD
  have hSz : s.heap.size ≤ H.size := hS.1
  refine lv_aload_n hx hb dX5_init_28 rfl (lv_at hl 0 rfl) ?_
  refine lv_sipush (v := (1024)) hx hb dX5_init_29 (by decide) ?_
  refine va_newa (atype := .int) (ty := .int) (N' := 1024) (a0 := (1024, .inl (fun _ => 0))) hx hb (hts _ qw77) rfl hK hP hD hS OA.new (fun _ => rfl) (by decide) (by decide) (Nat.le_of_ble_eq_true rfl) (Nat.le_of_ble_eq_true rfl) (Nat.le_of_ble_eq_true rfl) dX5_init_32 (fun q4 cA9 H hK9 hP hD hS => ?_)
  obtain rfl : cA9 = t 0 := KA_eq (k := 0) hK hK9 rfl
  have hP : va_P D vwCl ([(g0, .inr (6, [.ref q1, .int (0 : Int32), .ref q2, .int (0 : Int32), .ref q3, .int (0 : Int32), .int (0 : Int32), .null, .null, .null])), (q1, .inl (t 0, (1970, .inl (fun _ => 0)))), (q2, .inl (t 1, (2, .inl (fun _ => 0)))), (q3, .inl (t 2, (71, .inl (fun _ => 0)))), (q4, .inl (t 0, (1024, .inl (fun _ => 0))))] : va_W) H := hP
  have hD : va_D (OA L0 s.heap.size) ([(g0, .inr (6, [.ref q1, .int (0 : Int32), .ref q2, .int (0 : Int32), .ref q3, .int (0 : Int32), .int (0 : Int32), .null, .null, .null])), (q1, .inl (t 0, (1970, .inl (fun _ => 0)))), (q2, .inl (t 1, (2, .inl (fun _ => 0)))), (q3, .inl (t 2, (71, .inl (fun _ => 0)))), (q4, .inl (t 0, (1024, .inl (fun _ => 0))))] : va_W) := hD
  have hSz : s.heap.size ≤ H.size := hS.1
  refine W.widen (k := 4) (n := 3067) (by omega) (by omega) ?_
  refine va_putF (D := D) (ci := 6) (v := .ref q4) (ty := (.array .int)) hx hb hts inX5 tyX5 tyX5_ok nmX5 hown hK hP hD hS 0 rfl rfl 7 (by decide) (hts _ qw974) (fun _ h9 => h9) rfl hin rfl (by decide +kernel) rfl rfl (Nat.le_of_ble_eq_true rfl) dX5_init_34 (fun H locs hP hD hS => ?_)
  have hP : va_P D vwCl ([(g0, .inr (6, [.ref q1, .int (0 : Int32), .ref q2, .int (0 : Int32), .ref q3, .int (0 : Int32), .int (0 : Int32), .ref q4, .null, .null])), (q1, .inl (t 0, (1970, .inl (fun _ => 0)))), (q2, .inl (t 1, (2, .inl (fun _ => 0)))), (q3, .inl (t 2, (71, .inl (fun _ => 0)))), (q4, .inl (t 0, (1024, .inl (fun _ => 0))))] : va_W) H := hP
  have hD : va_D (OA L0 s.heap.size) ([(g0, .inr (6, [.ref q1, .int (0 : Int32), .ref q2, .int (0 : Int32), .ref q3, .int (0 : Int32), .int (0 : Int32), .ref q4, .null, .null])), (q1, .inl (t 0, (1970, .inl (fun _ => 0)))), (q2, .inl (t 1, (2, .inl (fun _ => 0)))), (q3, .inl (t 2, (71, .inl (fun _ => 0)))), (q4, .inl (t 0, (1024, .inl (fun _ => 0))))] : va_W) := hD
  have hSz : s.heap.size ≤ H.size := hS.1
  refine lv_aload_n hx hb dX5_init_37 rfl (lv_at hl 0 rfl) ?_
  refine lv_sipush (v := (1024)) hx hb dX5_init_38 (by decide) ?_
  refine va_newa (atype := .int) (ty := .int) (N' := 1024) (a0 := (1024, .inl (fun _ => 0))) hx hb (hts _ qw77) rfl hK hP hD hS OA.new (fun _ => rfl) (by decide) (by decide) (Nat.le_of_ble_eq_true rfl) (Nat.le_of_ble_eq_true rfl) (Nat.le_of_ble_eq_true rfl) dX5_init_41 (fun q5 cA9 H hK9 hP hD hS => ?_)
  obtain rfl : cA9 = t 0 := KA_eq (k := 0) hK hK9 rfl
  have hP : va_P D vwCl ([(g0, .inr (6, [.ref q1, .int (0 : Int32), .ref q2, .int (0 : Int32), .ref q3, .int (0 : Int32), .int (0 : Int32), .ref q4, .null, .null])), (q1, .inl (t 0, (1970, .inl (fun _ => 0)))), (q2, .inl (t 1, (2, .inl (fun _ => 0)))), (q3, .inl (t 2, (71, .inl (fun _ => 0)))), (q4, .inl (t 0, (1024, .inl (fun _ => 0)))), (q5, .inl (t 0, (1024, .inl (fun _ => 0))))] : va_W) H := hP
  have hD : va_D (OA L0 s.heap.size) ([(g0, .inr (6, [.ref q1, .int (0 : Int32), .ref q2, .int (0 : Int32), .ref q3, .int (0 : Int32), .int (0 : Int32), .ref q4, .null, .null])), (q1, .inl (t 0, (1970, .inl (fun _ => 0)))), (q2, .inl (t 1, (2, .inl (fun _ => 0)))), (q3, .inl (t 2, (71, .inl (fun _ => 0)))), (q4, .inl (t 0, (1024, .inl (fun _ => 0)))), (q5, .inl (t 0, (1024, .inl (fun _ => 0))))] : va_W) := hD
  have hSz : s.heap.size ≤ H.size := hS.1
  refine W.widen (k := 5) (n := 4091) (by omega) (by omega) ?_
  refine va_putF (D := D) (ci := 6) (v := .ref q5) (ty := (.array .int)) hx hb hts inX5 tyX5 tyX5_ok nmX5 hown hK hP hD hS 0 rfl rfl 8 (by decide) (hts _ qw975) (fun _ h9 => h9) rfl hin rfl (by decide +kernel) rfl rfl (Nat.le_of_ble_eq_true rfl) dX5_init_43 (fun H locs hP hD hS => ?_)
  have hP : va_P D vwCl ([(g0, .inr (6, [.ref q1, .int (0 : Int32), .ref q2, .int (0 : Int32), .ref q3, .int (0 : Int32), .int (0 : Int32), .ref q4, .ref q5, .null])), (q1, .inl (t 0, (1970, .inl (fun _ => 0)))), (q2, .inl (t 1, (2, .inl (fun _ => 0)))), (q3, .inl (t 2, (71, .inl (fun _ => 0)))), (q4, .inl (t 0, (1024, .inl (fun _ => 0)))), (q5, .inl (t 0, (1024, .inl (fun _ => 0))))] : va_W) H := hP
  have hD : va_D (OA L0 s.heap.size) ([(g0, .inr (6, [.ref q1, .int (0 : Int32), .ref q2, .int (0 : Int32), .ref q3, .int (0 : Int32), .int (0 : Int32), .ref q4, .ref q5, .null])), (q1, .inl (t 0, (1970, .inl (fun _ => 0)))), (q2, .inl (t 1, (2, .inl (fun _ => 0)))), (q3, .inl (t 2, (71, .inl (fun _ => 0)))), (q4, .inl (t 0, (1024, .inl (fun _ => 0)))), (q5, .inl (t 0, (1024, .inl (fun _ => 0))))] : va_W) := hD
  have hSz : s.heap.size ≤ H.size := hS.1
  refine lv_aload_n hx hb dX5_init_46 rfl (lv_at hl 0 rfl) ?_
  refine lv_bipush (v := (100)) hx hb dX5_init_47 (by decide) ?_
  refine va_newa (atype := .int) (ty := .int) (N' := 100) (a0 := (100, .inl (fun _ => 0))) hx hb (hts _ qw77) rfl hK hP hD hS OA.new (fun _ => rfl) (by decide) (by decide) (Nat.le_of_ble_eq_true rfl) (Nat.le_of_ble_eq_true rfl) (Nat.le_of_ble_eq_true rfl) dX5_init_49 (fun q6 cA9 H hK9 hP hD hS => ?_)
  obtain rfl : cA9 = t 0 := KA_eq (k := 0) hK hK9 rfl
  have hP : va_P D vwCl ([(g0, .inr (6, [.ref q1, .int (0 : Int32), .ref q2, .int (0 : Int32), .ref q3, .int (0 : Int32), .int (0 : Int32), .ref q4, .ref q5, .null])), (q1, .inl (t 0, (1970, .inl (fun _ => 0)))), (q2, .inl (t 1, (2, .inl (fun _ => 0)))), (q3, .inl (t 2, (71, .inl (fun _ => 0)))), (q4, .inl (t 0, (1024, .inl (fun _ => 0)))), (q5, .inl (t 0, (1024, .inl (fun _ => 0)))), (q6, .inl (t 0, (100, .inl (fun _ => 0))))] : va_W) H := hP
  have hD : va_D (OA L0 s.heap.size) ([(g0, .inr (6, [.ref q1, .int (0 : Int32), .ref q2, .int (0 : Int32), .ref q3, .int (0 : Int32), .int (0 : Int32), .ref q4, .ref q5, .null])), (q1, .inl (t 0, (1970, .inl (fun _ => 0)))), (q2, .inl (t 1, (2, .inl (fun _ => 0)))), (q3, .inl (t 2, (71, .inl (fun _ => 0)))), (q4, .inl (t 0, (1024, .inl (fun _ => 0)))), (q5, .inl (t 0, (1024, .inl (fun _ => 0)))), (q6, .inl (t 0, (100, .inl (fun _ => 0))))] : va_W) := hD
  have hSz : s.heap.size ≤ H.size := hS.1
  refine W.widen (k := 6) (n := 4191) (by omega) (by omega) ?_
  refine va_putF (D := D) (ci := 6) (v := .ref q6) (ty := (.array .int)) hx hb hts inX5 tyX5 tyX5_ok nmX5 hown hK hP hD hS 0 rfl rfl 9 (by decide) (hts _ qw976) (fun _ h9 => h9) rfl hin rfl (by decide +kernel) rfl rfl (Nat.le_of_ble_eq_true rfl) dX5_init_51 (fun H locs hP hD hS => ?_)
  have hP : va_P D vwCl ([(g0, .inr (6, [.ref q1, .int (0 : Int32), .ref q2, .int (0 : Int32), .ref q3, .int (0 : Int32), .int (0 : Int32), .ref q4, .ref q5, .ref q6])), (q1, .inl (t 0, (1970, .inl (fun _ => 0)))), (q2, .inl (t 1, (2, .inl (fun _ => 0)))), (q3, .inl (t 2, (71, .inl (fun _ => 0)))), (q4, .inl (t 0, (1024, .inl (fun _ => 0)))), (q5, .inl (t 0, (1024, .inl (fun _ => 0)))), (q6, .inl (t 0, (100, .inl (fun _ => 0))))] : va_W) H := hP
  have hD : va_D (OA L0 s.heap.size) ([(g0, .inr (6, [.ref q1, .int (0 : Int32), .ref q2, .int (0 : Int32), .ref q3, .int (0 : Int32), .int (0 : Int32), .ref q4, .ref q5, .ref q6])), (q1, .inl (t 0, (1970, .inl (fun _ => 0)))), (q2, .inl (t 1, (2, .inl (fun _ => 0)))), (q3, .inl (t 2, (71, .inl (fun _ => 0)))), (q4, .inl (t 0, (1024, .inl (fun _ => 0)))), (q5, .inl (t 0, (1024, .inl (fun _ => 0)))), (q6, .inl (t 0, (100, .inl (fun _ => 0))))] : va_W) := hD
  have hSz : s.heap.size ≤ H.size := hS.1
  refine lv_aload_n hx hb dX5_init_54 rfl (lv_at hl 0 rfl) ?_
  refine lv_iconst (v := (0)) hx hb dX5_init_55 (by decide) ?_
  refine lv_iconst (v := (4)) hx hb dX5_init_56 (by decide) ?_
  refine lv_iconst (v := (4)) hx hb dX5_init_57 (by decide) ?_
  have hP : va_P D vwCl (MW (gL [g0, q1, q2, q3, q4, q5, q6]) t m0S) H := hP
  have hD : va_D (OA L0 s.heap.size) (MW (gL [g0, q1, q2, q3, q4, q5, q6]) t m0S) := hD
  refine call_M (va_runV (As := [.int (0 : Int32), .int (4 : Int32), .int (4 : Int32)]) (rest := []) ⟨hx, hb, hml, hown, hts⟩ (c_X5_laysOut l z0 D t (gL [g0, q1, q2, q3, q4, q5, q6]) m0S 0 4 4 res H.size h) (kV hts qw963 qw965 qs30 qw9 qw966 ok_X5_laysOut ⟨Nat.le_of_ble_eq_true rfl, Nat.le_of_ble_eq_true rfl⟩) ⟨PM.blind, va_recv hK hP (ci := 6) (q0 := 0) rfl rfl, fun U hU hW => ⟨rfl, by rw [hU]; exact (hC.at hS hZ).warm hW, by rw [hU], by rw [hU]; exact hP, ⟨hD.1, fun _ _ h9 => Or.inl (in_map (L := (ML (gL [g0, q1, q2, q3, q4, q5, q6]))) rfl h9)⟩, fun q hq => hZ q (OA.ofD hD rfl hSz q hq)⟩⟩ rfl rfl hl.1 rfl (lv_room (Nat.le_of_ble_eq_true rfl)) dX5_init_58 ⟨Nat.le_of_ble_eq_true rfl, Nat.le_of_ble_eq_true rfl⟩) hS (OA.ofD hD rfl hSz) (fun H locs hP hD1 hS _ _ => ?_)
  have hD : va_D (OA L0 s.heap.size) (MW (gL [g0, q1, q2, q3, q4, q5, q6]) t (m_s' m0S res)) := hD.addr rfl
  exact W.vret hx hb hr (fun t9 ht hW => ⟨(q1, q2, q3, q4, q5, q6), rfl, by rw [ht]; exact hP, hD, hS.F ht⟩) hS.2.2 dX5_init_61

abbrev rm_X4_init : Room := { frames := 8, cells := 80, slots := 35515, locals := 240 }
theorem ok_X4_init : okY yX4_init 0 := ⟨by decide +kernel, by decide +kernel, by decide +kernel⟩
set_option maxHeartbeats 4000000 in
set_option maxRecDepth 100000 in
theorem c_X4_init (l : Launch) (z0 : Nat) (D : va_G) (t : Nat → ClassId) (x0 : Nat) (sz : Nat) : Met l yX4_init (ws_ yX4_init cX4_init 1 none) rm_X4_init (PM z0 D t [.ref x0] [(x0, .inr (5, [.null, .null, .null, .null, .null]))] [x0] sz) (QE (fun _ : X4B => none) D (fun b => XW x0 b.1 b.2.1 (t 100) b.2.2.1 b.2.2.2.1 b.2.2.2.2.1 b.2.2.2.2.2.1 [] t (x0S b.2.2.2.2.2.2.1 b.2.2.2.2.2.2.2)) [x0] sz) 80 35515 (OA [x0] sz) := by
  refine Met.ofW (cc := cX4_init) (maxL := 1) (ret := none) (by decide) rfl ?_
  intro p e s m args below meth c s₁ Bo hml hv
  obtain ⟨rfl, hC, hsz, hP, hD, hZ⟩ := hv
  have hx := Bo.exec
  have hb := Bo.bytes
  have hr := Bo.returns
  have hts : ∀ w ∈ LA, w.before _ s = true := fun w hw => atoms_spec (ws := ws_ yX4_init cX4_init 1 none) Bo.pre w (List.mem_cons_of_mem _ hw)
  have hown : s.vm.findClass RX4 = some m.cls := findClass_of_methodNamed Bo.named
  have hlocks := Bo.notSynchronized
  have hK := hC.1
  have hin : meth.name = "<init>" := (name_of_methodNamed Bo.named Bo.method).1
  subst hsz
  obtain ⟨L0, hL0⟩ : ∃ L0, L0 = [x0] := ⟨_, rfl⟩
  rw [← hL0] at hD hZ ⊢
  have hS : va_S (OA L0 s.heap.size) s.heap s.heap [] := va_S.rf
  suffices K9 : ∀ (H : Heap), va_P D vwCl [(x0, .inr (5, [.null, .null, .null, .null, .null]))] H → va_S (OA L0 s.heap.size) s.heap H [] → W p l e (headSpec (ws_ yX4_init cX4_init 1 none) rm_X4_init).room s m ([.ref x0] : List Value).toArray below meth c H [] 0 0 (MQ below (QE (fun _ : X4B => none) D (fun b => XW x0 b.1 b.2.1 (t 100) b.2.2.1 b.2.2.2.1 b.2.2.2.2.1 b.2.2.2.2.2.1 [] t (x0S b.2.2.2.2.2.2.1 b.2.2.2.2.2.2.2)) L0 s.heap.size) ([.ref x0] : List Value).toArray s 80 35515 (OA L0 s.heap.size)) (entryFrame m ([.ref x0] : List Value).toArray 1) from K9 s.heap hP hS
  intro H hP hS
  have hSz : s.heap.size ≤ H.size := hS.1
  have hl := lv_entry ([.ref x0]) (n := 1) (Nat.le_of_ble_eq_true rfl)
  rw [lg_entry_eq]
  generalize (lg_sl ([.ref x0]) ++ List.replicate (1 - (lg_sl ([.ref x0])).length) Slot.unset).toArray = ls at hl ⊢
  have hl : lv_has ls 1 [(0, .ref x0)] := hl
  refine lv_aload_n hx hb dX4_init_0 rfl (lv_at hl 0 rfl) ?_
  refine W.objInit hx hb hown (hts _ qw32) (hts _ qw33) (hts _ qw34) rfl (by rw [hml]; exact hl.1) rfl dX4_init_1 (Nat.le_of_ble_eq_true rfl) (Nat.le_of_ble_eq_true rfl) ?_
  refine W.eq (g2 := F0 m 4 ls []) rfl ?_
  refine lv_aload_n hx hb dX4_init_4 rfl (lv_at hl 0 rfl) ?_
  refine va_new (ci := 0) (fs := [.int (0 : Int32), .null, .int (0 : Int32)]) hx hb hts inJx4a65c tyJx4a65c tyJx4a65c_ok hown (hts _ qw35) (hts _ qw36) (hts _ qw4) hK hP hD hS OA.new rfl (fun j hj => by rcases (show j = 0 ∨ j = 1 ∨ j = 2 by omega) with rfl | rfl | rfl <;> rfl) (Nat.le_of_ble_eq_true rfl) (Nat.le_of_ble_eq_true rfl) dX4_init_5 (fun q1 H hP hD hS => ?_)
  have hP : va_P D vwCl ([(x0, .inr (5, [.null, .null, .null, .null, .null])), (q1, .inr (0, [.int (0 : Int32), .null, .int (0 : Int32)]))] : va_W) H := hP
  have hD : va_D (OA L0 s.heap.size) ([(x0, .inr (5, [.null, .null, .null, .null, .null])), (q1, .inr (0, [.int (0 : Int32), .null, .int (0 : Int32)]))] : va_W) := hD
  have hSz : s.heap.size ≤ H.size := hS.1
  refine W.widen (k := 1) (n := 3) (by omega) (by omega) ?_
  refine lv_dup hx hb dX4_init_8 rfl ?_
  refine call_E (va_runI (As := []) (rest := [.ref q1, .ref x0]) ⟨hx, hb, hml, hown, hts⟩ (c_Jx4a65c_init_da8c8 l z0 D t q1 H.size) (kI hts qw37 qw38 qw4 qw39 rfl ok_Jx4a65c_init_da8c8 ⟨Nat.le_of_ble_eq_true rfl, Nat.le_of_ble_eq_true rfl⟩) ⟨PM.blind, fun U hU hW => ⟨rfl, by rw [hU]; exact (hC.at hS hZ).warm hW, by rw [hU], by rw [hU]; exact (hP.sub (ws' := [(q1, .inr (0, [.int (0 : Int32), .null, .int (0 : Int32)]))]) [1] rfl), ⟨(hD.sub (ws' := [(q1, .inr (0, [.int (0 : Int32), .null, .int (0 : Int32)]))]) [1] (by decide) rfl).1, fun _ _ h9 => Or.inl (in_map (L := [q1]) rfl h9)⟩, fun q hq => hZ q (OA.ofD (hD.sub (ws' := [(q1, .inr (0, [.int (0 : Int32), .null, .int (0 : Int32)]))]) [1] (by decide) rfl) rfl hSz q hq)⟩⟩ rfl rfl hl.1 rfl (lv_room (Nat.le_of_ble_eq_true rfl)) dX4_init_9 ⟨Nat.le_of_ble_eq_true rfl, Nat.le_of_ble_eq_true rfl⟩) hS (OA.ofD (hD.sub (ws' := [(q1, .inr (0, [.int (0 : Int32), .null, .int (0 : Int32)]))]) [1] (by decide) rfl) rfl hSz) (fun b9 H locs hP1 hD1 hS _ hk1 => ?_)
  obtain ⟨hP, hD⟩ := va_back (wr := [(x0, .inr (5, [.null, .null, .null, .null, .null]))]) (w1 := ([(q1, .inr (0, [.int (0 : Int32), .ref (t 100), .int (0 : Int32)]))] : va_W)) (ws' := ([(x0, .inr (5, [.null, .null, .null, .null, .null])), (q1, .inr (0, [.int (0 : Int32), .ref (t 100), .int (0 : Int32)]))] : va_W)) hP hD [1] [0] rfl rfl (by decide) (by decide) hk1 (OA.ofD (hD.sub (ws' := [(q1, .inr (0, [.int (0 : Int32), .null, .int (0 : Int32)]))]) [1] (by decide) rfl) rfl hSz) hP1 hD1 [0, 1] rfl (by decide)
  have hP : va_P D vwCl ([(x0, .inr (5, [.null, .null, .null, .null, .null])), (q1, .inr (0, [.int (0 : Int32), .ref (t 100), .int (0 : Int32)]))] : va_W) H := hP
  have hD : va_D (OA L0 s.heap.size) ([(x0, .inr (5, [.null, .null, .null, .null, .null])), (q1, .inr (0, [.int (0 : Int32), .ref (t 100), .int (0 : Int32)]))] : va_W) := hD
  have hSz : s.heap.size ≤ H.size := hS.1
  refine W.widen (k := 1) (n := 3) (by omega) (by omega) ?_
  refine va_putF (D := D) (ci := 5) (v := .ref q1) (ty := (.object "java/util/ArrayList")) hx hb hts inX4 tyX4 tyX4_ok nmX4 hown hK hP hD hS 0 rfl rfl 0 (by decide) (hts _ qw157) (fun _ h9 => h9) rfl hin rfl (by decide +kernel) rfl rfl (Nat.le_of_ble_eq_true rfl) dX4_init_12 (fun H locs hP hD hS => ?_)
  have hP : va_P D vwCl ([(x0, .inr (5, [.ref q1, .null, .null, .null, .null])), (q1, .inr (0, [.int (0 : Int32), .ref (t 100), .int (0 : Int32)]))] : va_W) H := hP
  have hD : va_D (OA L0 s.heap.size) ([(x0, .inr (5, [.ref q1, .null, .null, .null, .null])), (q1, .inr (0, [.int (0 : Int32), .ref (t 100), .int (0 : Int32)]))] : va_W) := hD
  have hSz : s.heap.size ≤ H.size := hS.1
  refine lv_aload_n hx hb dX4_init_15 rfl (lv_at hl 0 rfl) ?_
  refine lv_iconst (v := (2)) hx hb dX4_init_16 (by decide) ?_
  refine va_newq (C := "BentGardens$Garden") (N' := 2) hx hb hown (hts _ qw61) hC.2.2.2.2.1 hK hP hD hS OA.new (by decide) (by decide) (by decide) (Nat.le_of_ble_eq_true rfl) (Nat.le_of_ble_eq_true rfl) dX4_init_17 (fun q2 cA1 H hK9 hP hD hS => ?_)
  obtain rfl : cA1 = t 3 := KA_eq (k := 3) hK hK9 rfl
  have hP : va_P D vwCl ([(x0, .inr (5, [.ref q1, .null, .null, .null, .null])), (q1, .inr (0, [.int (0 : Int32), .ref (t 100), .int (0 : Int32)])), (q2, .inl (t 3, (2, .inr (.inr (.inr (.inr (fun _ => none)))))))] : va_W) H := hP
  have hD : va_D (OA L0 s.heap.size) ([(x0, .inr (5, [.ref q1, .null, .null, .null, .null])), (q1, .inr (0, [.int (0 : Int32), .ref (t 100), .int (0 : Int32)])), (q2, .inl (t 3, (2, .inr (.inr (.inr (.inr (fun _ => none)))))))] : va_W) := hD
  have hSz : s.heap.size ≤ H.size := hS.1
  refine W.widen (k := 2) (n := 5) (by omega) (by omega) ?_
  refine va_putF (D := D) (ci := 5) (v := .ref q2) (ty := (.array (.object "BentGardens$Garden"))) hx hb hts inX4 tyX4 tyX4_ok nmX4 hown hK hP hD hS 0 rfl rfl 1 (by decide) (hts _ qw158) (fun _ h9 => h9) rfl hin rfl (by decide +kernel) rfl rfl (Nat.le_of_ble_eq_true rfl) dX4_init_20 (fun H locs hP hD hS => ?_)
  have hP : va_P D vwCl ([(x0, .inr (5, [.ref q1, .ref q2, .null, .null, .null])), (q1, .inr (0, [.int (0 : Int32), .ref (t 100), .int (0 : Int32)])), (q2, .inl (t 3, (2, .inr (.inr (.inr (.inr (fun _ => none)))))))] : va_W) H := hP
  have hD : va_D (OA L0 s.heap.size) ([(x0, .inr (5, [.ref q1, .ref q2, .null, .null, .null])), (q1, .inr (0, [.int (0 : Int32), .ref (t 100), .int (0 : Int32)])), (q2, .inl (t 3, (2, .inr (.inr (.inr (.inr (fun _ => none)))))))] : va_W) := hD
  have hSz : s.heap.size ≤ H.size := hS.1
  refine lv_aload_n hx hb dX4_init_23 rfl (lv_at hl 0 rfl) ?_
  refine va_new (ci := 1) (fs := [.int (0 : Int32), .null]) hx hb hts inX0 tyX0 tyX0_ok hown (hts _ qw63) (hts _ qw64) (hts _ qw5) hK hP hD hS OA.new rfl (fun j hj => by rcases (show j = 0 ∨ j = 1 by omega) with rfl | rfl <;> rfl) (Nat.le_of_ble_eq_true rfl) (Nat.le_of_ble_eq_true rfl) dX4_init_24 (fun q3 H hP hD hS => ?_)
  have hP : va_P D vwCl ([(x0, .inr (5, [.ref q1, .ref q2, .null, .null, .null])), (q1, .inr (0, [.int (0 : Int32), .ref (t 100), .int (0 : Int32)])), (q2, .inl (t 3, (2, .inr (.inr (.inr (.inr (fun _ => none))))))), (q3, .inr (1, [.int (0 : Int32), .null]))] : va_W) H := hP
  have hD : va_D (OA L0 s.heap.size) ([(x0, .inr (5, [.ref q1, .ref q2, .null, .null, .null])), (q1, .inr (0, [.int (0 : Int32), .ref (t 100), .int (0 : Int32)])), (q2, .inl (t 3, (2, .inr (.inr (.inr (.inr (fun _ => none))))))), (q3, .inr (1, [.int (0 : Int32), .null]))] : va_W) := hD
  have hSz : s.heap.size ≤ H.size := hS.1
  refine W.widen (k := 3) (n := 7) (by omega) (by omega) ?_
  refine lv_dup hx hb dX4_init_27 rfl ?_
  refine call_E (va_runIN (As := []) (rest := [.ref q3, .ref x0]) ⟨hx, hb, hml, hown, hts⟩ (c_X0_init l z0 D t q3 H.size) ⟨kN hts (hC.2.1 _ qw65) qw5 qw67 ok_X0_init ⟨Nat.le_of_ble_eq_true rfl, Nat.le_of_ble_eq_true rfl⟩, rfl, hts _ qw66⟩ ⟨PM.blind, fun U hU hW => ⟨rfl, by rw [hU]; exact (hC.at hS hZ).warm hW, by rw [hU], by rw [hU]; exact (hP.sub (ws' := [(q3, .inr (1, [.int (0 : Int32), .null]))]) [3] rfl), ⟨(hD.sub (ws' := [(q3, .inr (1, [.int (0 : Int32), .null]))]) [3] (by decide) rfl).1, fun _ _ h9 => Or.inl (in_map (L := [q3]) rfl h9)⟩, fun q hq => hZ q (OA.ofD (hD.sub (ws' := [(q3, .inr (1, [.int (0 : Int32), .null]))]) [3] (by decide) rfl) rfl hSz q hq)⟩⟩ rfl rfl hl.1 rfl (lv_room (Nat.le_of_ble_eq_true rfl)) dX4_init_28 ⟨Nat.le_of_ble_eq_true rfl, Nat.le_of_ble_eq_true rfl⟩) hS (OA.ofD (hD.sub (ws' := [(q3, .inr (1, [.int (0 : Int32), .null]))]) [3] (by decide) rfl) rfl hSz) (fun b9 H locs hP1 hD1 hS _ hk1 => ?_)
  obtain ⟨q4, rfl⟩ : ∃ z, z = b9 := ⟨_, rfl⟩
  obtain ⟨hP, hD⟩ := va_back (wr := [(x0, .inr (5, [.ref q1, .ref q2, .null, .null, .null])), (q1, .inr (0, [.int (0 : Int32), .ref (t 100), .int (0 : Int32)])), (q2, .inl (t 3, (2, .inr (.inr (.inr (.inr (fun _ => none)))))))]) (w1 := ([(q3, .inr (1, [.int (0 : Int32), .ref q4])), (q4, .inl (t 0, (71, .inl (fun _ => 0))))] : va_W)) (ws' := ([(x0, .inr (5, [.ref q1, .ref q2, .null, .null, .null])), (q1, .inr (0, [.int (0 : Int32), .ref (t 100), .int (0 : Int32)])), (q2, .inl (t 3, (2, .inr (.inr (.inr (.inr (fun _ => none))))))), (q3, .inr (1, [.int (0 : Int32), .ref q4])), (q4, .inl (t 0, (71, .inl (fun _ => 0))))] : va_W)) hP hD [3] [0, 1, 2] rfl rfl (by decide) (by decide) hk1 (OA.ofD (hD.sub (ws' := [(q3, .inr (1, [.int (0 : Int32), .null]))]) [3] (by decide) rfl) rfl hSz) hP1 hD1 [0, 1, 2, 3, 4] rfl (by decide)
  have hP : va_P D vwCl ([(x0, .inr (5, [.ref q1, .ref q2, .null, .null, .null])), (q1, .inr (0, [.int (0 : Int32), .ref (t 100), .int (0 : Int32)])), (q2, .inl (t 3, (2, .inr (.inr (.inr (.inr (fun _ => none))))))), (q3, .inr (1, [.int (0 : Int32), .ref q4])), (q4, .inl (t 0, (71, .inl (fun _ => 0))))] : va_W) H := hP
  have hD : va_D (OA L0 s.heap.size) ([(x0, .inr (5, [.ref q1, .ref q2, .null, .null, .null])), (q1, .inr (0, [.int (0 : Int32), .ref (t 100), .int (0 : Int32)])), (q2, .inl (t 3, (2, .inr (.inr (.inr (.inr (fun _ => none))))))), (q3, .inr (1, [.int (0 : Int32), .ref q4])), (q4, .inl (t 0, (71, .inl (fun _ => 0))))] : va_W) := hD
  have hSz : s.heap.size ≤ H.size := hS.1
  refine W.widen (k := 4) (n := 78) (by omega) (by omega) ?_
  refine va_putF (D := D) (ci := 5) (v := .ref q3) (ty := (.object "BentGardens$Buffer")) hx hb hts inX4 tyX4 tyX4_ok nmX4 hown hK hP hD hS 0 rfl rfl 2 (by decide) (hts _ qw159) (fun _ h9 => h9) rfl hin rfl (by decide +kernel) rfl rfl (Nat.le_of_ble_eq_true rfl) dX4_init_31 (fun H locs hP hD hS => ?_)
  have hP : va_P D vwCl ([(x0, .inr (5, [.ref q1, .ref q2, .ref q3, .null, .null])), (q1, .inr (0, [.int (0 : Int32), .ref (t 100), .int (0 : Int32)])), (q2, .inl (t 3, (2, .inr (.inr (.inr (.inr (fun _ => none))))))), (q3, .inr (1, [.int (0 : Int32), .ref q4])), (q4, .inl (t 0, (71, .inl (fun _ => 0))))] : va_W) H := hP
  have hD : va_D (OA L0 s.heap.size) ([(x0, .inr (5, [.ref q1, .ref q2, .ref q3, .null, .null])), (q1, .inr (0, [.int (0 : Int32), .ref (t 100), .int (0 : Int32)])), (q2, .inl (t 3, (2, .inr (.inr (.inr (.inr (fun _ => none))))))), (q3, .inr (1, [.int (0 : Int32), .ref q4])), (q4, .inl (t 0, (71, .inl (fun _ => 0))))] : va_W) := hD
  have hSz : s.heap.size ≤ H.size := hS.1
  refine lv_aload_n hx hb dX4_init_34 rfl (lv_at hl 0 rfl) ?_
  refine va_new (ci := 3) (fs := [.null, .null, .null, .null]) hx hb hts inX2 tyX2 tyX2_ok hown (hts _ qw78) (hts _ qw79) (hts _ qw6) hK hP hD hS OA.new rfl (fun j hj => by rcases (show j = 0 ∨ j = 1 ∨ j = 2 ∨ j = 3 by omega) with rfl | rfl | rfl | rfl <;> rfl) (Nat.le_of_ble_eq_true rfl) (Nat.le_of_ble_eq_true rfl) dX4_init_35 (fun q5 H hP hD hS => ?_)
  have hP : va_P D vwCl ([(x0, .inr (5, [.ref q1, .ref q2, .ref q3, .null, .null])), (q1, .inr (0, [.int (0 : Int32), .ref (t 100), .int (0 : Int32)])), (q2, .inl (t 3, (2, .inr (.inr (.inr (.inr (fun _ => none))))))), (q3, .inr (1, [.int (0 : Int32), .ref q4])), (q4, .inl (t 0, (71, .inl (fun _ => 0)))), (q5, .inr (3, [.null, .null, .null, .null]))] : va_W) H := hP
  have hD : va_D (OA L0 s.heap.size) ([(x0, .inr (5, [.ref q1, .ref q2, .ref q3, .null, .null])), (q1, .inr (0, [.int (0 : Int32), .ref (t 100), .int (0 : Int32)])), (q2, .inl (t 3, (2, .inr (.inr (.inr (.inr (fun _ => none))))))), (q3, .inr (1, [.int (0 : Int32), .ref q4])), (q4, .inl (t 0, (71, .inl (fun _ => 0)))), (q5, .inr (3, [.null, .null, .null, .null]))] : va_W) := hD
  have hSz : s.heap.size ≤ H.size := hS.1
  refine W.widen (k := 5) (n := 82) (by omega) (by omega) ?_
  refine lv_dup hx hb dX4_init_38 rfl ?_
  refine call_E (va_runIN (As := []) (rest := [.ref q5, .ref x0]) ⟨hx, hb, hml, hown, hts⟩ (c_X2_init l z0 D t q5 H.size) ⟨kN hts (hC.2.1 _ qw80) qw6 qw82 ok_X2_init ⟨Nat.le_of_ble_eq_true rfl, Nat.le_of_ble_eq_true rfl⟩, rfl, hts _ qw81⟩ ⟨PM.blind, fun U hU hW => ⟨rfl, by rw [hU]; exact (hC.at hS hZ).warm hW, by rw [hU], by rw [hU]; exact (hP.sub (ws' := [(q5, .inr (3, [.null, .null, .null, .null]))]) [5] rfl), ⟨(hD.sub (ws' := [(q5, .inr (3, [.null, .null, .null, .null]))]) [5] (by decide) rfl).1, fun _ _ h9 => Or.inl (in_map (L := [q5]) rfl h9)⟩, fun q hq => hZ q (OA.ofD (hD.sub (ws' := [(q5, .inr (3, [.null, .null, .null, .null]))]) [5] (by decide) rfl) rfl hSz q hq)⟩⟩ rfl rfl hl.1 rfl (lv_room (Nat.le_of_ble_eq_true rfl)) dX4_init_39 ⟨Nat.le_of_ble_eq_true rfl, Nat.le_of_ble_eq_true rfl⟩) hS (OA.ofD (hD.sub (ws' := [(q5, .inr (3, [.null, .null, .null, .null]))]) [5] (by decide) rfl) rfl hSz) (fun b9 H locs hP1 hD1 hS _ hk1 => ?_)
  obtain ⟨q6, q7, r, u1, u2⟩ := b9
  obtain ⟨hP, hD⟩ := va_backT (wr := [(x0, .inr (5, [.ref q1, .ref q2, .ref q3, .null, .null])), (q1, .inr (0, [.int (0 : Int32), .ref (t 100), .int (0 : Int32)])), (q2, .inl (t 3, (2, .inr (.inr (.inr (.inr (fun _ => none))))))), (q3, .inr (1, [.int (0 : Int32), .ref q4])), (q4, .inl (t 0, (71, .inl (fun _ => 0))))]) hP hD [5] [0, 1, 2, 3, 4] rfl rfl (by decide) (by decide) hk1 (OA.ofD (hD.sub (ws' := [(q5, .inr (3, [.null, .null, .null, .null]))]) [5] (by decide) rfl) rfl hSz) hP1 hD1
  have hP : va_P D vwCl ([(x0, .inr (5, [.ref q1, .ref q2, .ref q3, .null, .null])), (q1, .inr (0, [.int (0 : Int32), .ref (t 100), .int (0 : Int32)])), (q2, .inl (t 3, (2, .inr (.inr (.inr (.inr (fun _ => none))))))), (q3, .inr (1, [.int (0 : Int32), .ref q4])), (q4, .inl (t 0, (71, .inl (fun _ => 0)))), (q5, .inr (3, [.ref q7, .ref q6, .ref (u1 0), .ref (u2 0)])), (q6, .inl (t 0, (4, .inl (fun _ => 0)))), (q7, .inl (t 5, (65, .inr (.inr (.inr (.inr (fun i => if i < 65 then some (r i) else none))))))), ((u1 0), .inr (7, [.int (0 : Int32), .ref (u1 1), .ref (u1 2)])), ((u1 1), .inl (t 0, (512, .inl (fun _ => 0)))), ((u1 2), .inl (t 0, (512, .inl (fun _ => 0)))), ((u2 0), .inr (7, [.int (0 : Int32), .ref (u2 1), .ref (u2 2)])), ((u2 1), .inl (t 0, (512, .inl (fun _ => 0)))), ((u2 2), .inl (t 0, (512, .inl (fun _ => 0))))] ++ ((List.range 65).map (fun i => (r i, .inl (t 0, (512, .inl (fun _ => 0)))))) : va_W) H := hP
  have hD : va_D (OA L0 s.heap.size) ([(x0, .inr (5, [.ref q1, .ref q2, .ref q3, .null, .null])), (q1, .inr (0, [.int (0 : Int32), .ref (t 100), .int (0 : Int32)])), (q2, .inl (t 3, (2, .inr (.inr (.inr (.inr (fun _ => none))))))), (q3, .inr (1, [.int (0 : Int32), .ref q4])), (q4, .inl (t 0, (71, .inl (fun _ => 0)))), (q5, .inr (3, [.ref q7, .ref q6, .ref (u1 0), .ref (u2 0)])), (q6, .inl (t 0, (4, .inl (fun _ => 0)))), (q7, .inl (t 5, (65, .inr (.inr (.inr (.inr (fun i => if i < 65 then some (r i) else none))))))), ((u1 0), .inr (7, [.int (0 : Int32), .ref (u1 1), .ref (u1 2)])), ((u1 1), .inl (t 0, (512, .inl (fun _ => 0)))), ((u1 2), .inl (t 0, (512, .inl (fun _ => 0)))), ((u2 0), .inr (7, [.int (0 : Int32), .ref (u2 1), .ref (u2 2)])), ((u2 1), .inl (t 0, (512, .inl (fun _ => 0)))), ((u2 2), .inl (t 0, (512, .inl (fun _ => 0))))] ++ ((List.range 65).map (fun i => (r i, .inl (t 0, (512, .inl (fun _ => 0)))))) : va_W) := hD
  have hSz : s.heap.size ≤ H.size := hS.1
  refine W.widen (k := 78) (n := 35485) (by omega) (by omega) ?_
  refine va_putF (D := D) (ci := 5) (v := .ref q5) (ty := (.object "BentGardens$Paver")) hx hb hts inX4 tyX4 tyX4_ok nmX4 hown hK hP hD hS 0 rfl rfl 3 (by decide) (hts _ qw160) (fun _ h9 => h9) rfl hin rfl (by decide +kernel) rfl rfl (Nat.le_of_ble_eq_true rfl) dX4_init_42 (fun H locs hP hD hS => ?_)
  have hP : va_P D vwCl ([(x0, .inr (5, [.ref q1, .ref q2, .ref q3, .ref q5, .null])), (q1, .inr (0, [.int (0 : Int32), .ref (t 100), .int (0 : Int32)])), (q2, .inl (t 3, (2, .inr (.inr (.inr (.inr (fun _ => none))))))), (q3, .inr (1, [.int (0 : Int32), .ref q4])), (q4, .inl (t 0, (71, .inl (fun _ => 0)))), (q5, .inr (3, [.ref q7, .ref q6, .ref (u1 0), .ref (u2 0)])), (q6, .inl (t 0, (4, .inl (fun _ => 0)))), (q7, .inl (t 5, (65, .inr (.inr (.inr (.inr (fun i => if i < 65 then some (r i) else none))))))), ((u1 0), .inr (7, [.int (0 : Int32), .ref (u1 1), .ref (u1 2)])), ((u1 1), .inl (t 0, (512, .inl (fun _ => 0)))), ((u1 2), .inl (t 0, (512, .inl (fun _ => 0)))), ((u2 0), .inr (7, [.int (0 : Int32), .ref (u2 1), .ref (u2 2)])), ((u2 1), .inl (t 0, (512, .inl (fun _ => 0)))), ((u2 2), .inl (t 0, (512, .inl (fun _ => 0))))] ++ ((List.range 65).map (fun i => (r i, .inl (t 0, (512, .inl (fun _ => 0)))))) : va_W) H := hP
  have hD : va_D (OA L0 s.heap.size) ([(x0, .inr (5, [.ref q1, .ref q2, .ref q3, .ref q5, .null])), (q1, .inr (0, [.int (0 : Int32), .ref (t 100), .int (0 : Int32)])), (q2, .inl (t 3, (2, .inr (.inr (.inr (.inr (fun _ => none))))))), (q3, .inr (1, [.int (0 : Int32), .ref q4])), (q4, .inl (t 0, (71, .inl (fun _ => 0)))), (q5, .inr (3, [.ref q7, .ref q6, .ref (u1 0), .ref (u2 0)])), (q6, .inl (t 0, (4, .inl (fun _ => 0)))), (q7, .inl (t 5, (65, .inr (.inr (.inr (.inr (fun i => if i < 65 then some (r i) else none))))))), ((u1 0), .inr (7, [.int (0 : Int32), .ref (u1 1), .ref (u1 2)])), ((u1 1), .inl (t 0, (512, .inl (fun _ => 0)))), ((u1 2), .inl (t 0, (512, .inl (fun _ => 0)))), ((u2 0), .inr (7, [.int (0 : Int32), .ref (u2 1), .ref (u2 2)])), ((u2 1), .inl (t 0, (512, .inl (fun _ => 0)))), ((u2 2), .inl (t 0, (512, .inl (fun _ => 0))))] ++ ((List.range 65).map (fun i => (r i, .inl (t 0, (512, .inl (fun _ => 0)))))) : va_W) := hD
  have hSz : s.heap.size ≤ H.size := hS.1
  refine lv_aload_n hx hb dX4_init_45 rfl (lv_at hl 0 rfl) ?_
  refine va_new (ci := 2) (fs := [.int (0 : Int32), .int (0 : Int32), .int (0 : Int32), .long (0 : Int64), .long (0 : Int64), .int (0 : Int32), .int (0 : Int32), .int (0 : Int32), .null]) hx hb hts inX1 tyX1 tyX1_ok hown (hts _ qw61) (hts _ qw116) (hts _ qw8) hK hP hD hS OA.new rfl (fun j hj => by rcases (show j = 0 ∨ j = 1 ∨ j = 2 ∨ j = 3 ∨ j = 4 ∨ j = 5 ∨ j = 6 ∨ j = 7 ∨ j = 8 by omega) with rfl | rfl | rfl | rfl | rfl | rfl | rfl | rfl | rfl <;> rfl) (Nat.le_of_ble_eq_true rfl) (Nat.le_of_ble_eq_true rfl) dX4_init_46 (fun q8 H hP hD hS => ?_)
  have hP := hP.swap
  have hD := hD.swap
  have hP : va_P D vwCl ([(x0, .inr (5, [.ref q1, .ref q2, .ref q3, .ref q5, .null])), (q1, .inr (0, [.int (0 : Int32), .ref (t 100), .int (0 : Int32)])), (q2, .inl (t 3, (2, .inr (.inr (.inr (.inr (fun _ => none))))))), (q3, .inr (1, [.int (0 : Int32), .ref q4])), (q4, .inl (t 0, (71, .inl (fun _ => 0)))), (q5, .inr (3, [.ref q7, .ref q6, .ref (u1 0), .ref (u2 0)])), (q6, .inl (t 0, (4, .inl (fun _ => 0)))), (q7, .inl (t 5, (65, .inr (.inr (.inr (.inr (fun i => if i < 65 then some (r i) else none))))))), ((u1 0), .inr (7, [.int (0 : Int32), .ref (u1 1), .ref (u1 2)])), ((u1 1), .inl (t 0, (512, .inl (fun _ => 0)))), ((u1 2), .inl (t 0, (512, .inl (fun _ => 0)))), ((u2 0), .inr (7, [.int (0 : Int32), .ref (u2 1), .ref (u2 2)])), ((u2 1), .inl (t 0, (512, .inl (fun _ => 0)))), ((u2 2), .inl (t 0, (512, .inl (fun _ => 0)))), (q8, .inr (2, [.int (0 : Int32), .int (0 : Int32), .int (0 : Int32), .long (0 : Int64), .long (0 : Int64), .int (0 : Int32), .int (0 : Int32), .int (0 : Int32), .null]))] ++ ((List.range 65).map (fun i => (r i, .inl (t 0, (512, .inl (fun _ => 0)))))) : va_W) H := hP
  have hD : va_D (OA L0 s.heap.size) ([(x0, .inr (5, [.ref q1, .ref q2, .ref q3, .ref q5, .null])), (q1, .inr (0, [.int (0 : Int32), .ref (t 100), .int (0 : Int32)])), (q2, .inl (t 3, (2, .inr (.inr (.inr (.inr (fun _ => none))))))), (q3, .inr (1, [.int (0 : Int32), .ref q4])), (q4, .inl (t 0, (71, .inl (fun _ => 0)))), (q5, .inr (3, [.ref q7, .ref q6, .ref (u1 0), .ref (u2 0)])), (q6, .inl (t 0, (4, .inl (fun _ => 0)))), (q7, .inl (t 5, (65, .inr (.inr (.inr (.inr (fun i => if i < 65 then some (r i) else none))))))), ((u1 0), .inr (7, [.int (0 : Int32), .ref (u1 1), .ref (u1 2)])), ((u1 1), .inl (t 0, (512, .inl (fun _ => 0)))), ((u1 2), .inl (t 0, (512, .inl (fun _ => 0)))), ((u2 0), .inr (7, [.int (0 : Int32), .ref (u2 1), .ref (u2 2)])), ((u2 1), .inl (t 0, (512, .inl (fun _ => 0)))), ((u2 2), .inl (t 0, (512, .inl (fun _ => 0)))), (q8, .inr (2, [.int (0 : Int32), .int (0 : Int32), .int (0 : Int32), .long (0 : Int64), .long (0 : Int64), .int (0 : Int32), .int (0 : Int32), .int (0 : Int32), .null]))] ++ ((List.range 65).map (fun i => (r i, .inl (t 0, (512, .inl (fun _ => 0)))))) : va_W) := hD
  have hSz : s.heap.size ≤ H.size := hS.1
  refine W.widen (k := 79) (n := 35494) (by omega) (by omega) ?_
  refine lv_dup hx hb dX4_init_49 rfl ?_
  refine call_E (va_runIN (As := []) (rest := [.ref q8, .ref x0]) ⟨hx, hb, hml, hown, hts⟩ (c_X1_init l z0 D t q8 H.size) ⟨kN hts (hC.2.1 _ qw117) qw8 qw119 ok_X1_init ⟨Nat.le_of_ble_eq_true rfl, Nat.le_of_ble_eq_true rfl⟩, rfl, hts _ qw118⟩ ⟨PM.blind, fun U hU hW => ⟨rfl, by rw [hU]; exact (hC.at hS hZ).warm hW, by rw [hU], by rw [hU]; exact (hP.sub (ws' := [(q8, .inr (2, [.int (0 : Int32), .int (0 : Int32), .int (0 : Int32), .long (0 : Int64), .long (0 : Int64), .int (0 : Int32), .int (0 : Int32), .int (0 : Int32), .null]))]) [14] rfl), ⟨(hD.sub (ws' := [(q8, .inr (2, [.int (0 : Int32), .int (0 : Int32), .int (0 : Int32), .long (0 : Int64), .long (0 : Int64), .int (0 : Int32), .int (0 : Int32), .int (0 : Int32), .null]))]) [14] (by decide) rfl).1, fun _ _ h9 => Or.inl (in_map (L := [q8]) rfl h9)⟩, fun q hq => hZ q (OA.ofD (hD.sub (ws' := [(q8, .inr (2, [.int (0 : Int32), .int (0 : Int32), .int (0 : Int32), .long (0 : Int64), .long (0 : Int64), .int (0 : Int32), .int (0 : Int32), .int (0 : Int32), .null]))]) [14] (by decide) rfl) rfl hSz q hq)⟩⟩ rfl rfl hl.1 rfl (lv_room (Nat.le_of_ble_eq_true rfl)) dX4_init_50 ⟨Nat.le_of_ble_eq_true rfl, Nat.le_of_ble_eq_true rfl⟩) hS (OA.ofD (hD.sub (ws' := [(q8, .inr (2, [.int (0 : Int32), .int (0 : Int32), .int (0 : Int32), .long (0 : Int64), .long (0 : Int64), .int (0 : Int32), .int (0 : Int32), .int (0 : Int32), .null]))]) [14] (by decide) rfl) rfl hSz) (fun b9 H locs hP1 hD1 hS _ hk1 => ?_)
  obtain ⟨q9, rfl⟩ : ∃ z, z = b9 := ⟨_, rfl⟩
  obtain ⟨hP, hD⟩ := va_backX (X := [(x0, .inr (5, [.ref q1, .ref q2, .ref q3, .ref q5, .null])), (q1, .inr (0, [.int (0 : Int32), .ref (t 100), .int (0 : Int32)])), (q2, .inl (t 3, (2, .inr (.inr (.inr (.inr (fun _ => none))))))), (q3, .inr (1, [.int (0 : Int32), .ref q4])), (q4, .inl (t 0, (71, .inl (fun _ => 0)))), (q5, .inr (3, [.ref q7, .ref q6, .ref (u1 0), .ref (u2 0)])), (q6, .inl (t 0, (4, .inl (fun _ => 0)))), (q7, .inl (t 5, (65, .inr (.inr (.inr (.inr (fun i => if i < 65 then some (r i) else none))))))), ((u1 0), .inr (7, [.int (0 : Int32), .ref (u1 1), .ref (u1 2)])), ((u1 1), .inl (t 0, (512, .inl (fun _ => 0)))), ((u1 2), .inl (t 0, (512, .inl (fun _ => 0)))), ((u2 0), .inr (7, [.int (0 : Int32), .ref (u2 1), .ref (u2 2)])), ((u2 1), .inl (t 0, (512, .inl (fun _ => 0)))), ((u2 2), .inl (t 0, (512, .inl (fun _ => 0)))), (q8, .inr (2, [.int (0 : Int32), .int (0 : Int32), .int (0 : Int32), .long (0 : Int64), .long (0 : Int64), .int (0 : Int32), .int (0 : Int32), .int (0 : Int32), .null]))]) (K := ((List.range 65).map (fun i => (r i, .inl (t 0, (512, .inl (fun _ => 0))))))) (wr := [(x0, .inr (5, [.ref q1, .ref q2, .ref q3, .ref q5, .null])), (q1, .inr (0, [.int (0 : Int32), .ref (t 100), .int (0 : Int32)])), (q2, .inl (t 3, (2, .inr (.inr (.inr (.inr (fun _ => none))))))), (q3, .inr (1, [.int (0 : Int32), .ref q4])), (q4, .inl (t 0, (71, .inl (fun _ => 0)))), (q5, .inr (3, [.ref q7, .ref q6, .ref (u1 0), .ref (u2 0)])), (q6, .inl (t 0, (4, .inl (fun _ => 0)))), (q7, .inl (t 5, (65, .inr (.inr (.inr (.inr (fun i => if i < 65 then some (r i) else none))))))), ((u1 0), .inr (7, [.int (0 : Int32), .ref (u1 1), .ref (u1 2)])), ((u1 1), .inl (t 0, (512, .inl (fun _ => 0)))), ((u1 2), .inl (t 0, (512, .inl (fun _ => 0)))), ((u2 0), .inr (7, [.int (0 : Int32), .ref (u2 1), .ref (u2 2)])), ((u2 1), .inl (t 0, (512, .inl (fun _ => 0)))), ((u2 2), .inl (t 0, (512, .inl (fun _ => 0))))]) (w1 := ([(q8, .inr (2, [.int (4 : Int32), .int (4 : Int32), .int (0 : Int32), .long (0 : Int64), .long (0 : Int64), .int (0 : Int32), .int (0 : Int32), .int (0 : Int32), .ref q9])), (q9, .inl (t 0, (21, .inl (fun _ => 0))))] : va_W)) hP hD [14] [0, 1, 2, 3, 4, 5, 6, 7, 8, 9, 10, 11, 12, 13] rfl rfl (by decide) (by decide) hk1 (OA.ofD (hD.sub (ws' := [(q8, .inr (2, [.int (0 : Int32), .int (0 : Int32), .int (0 : Int32), .long (0 : Int64), .long (0 : Int64), .int (0 : Int32), .int (0 : Int32), .int (0 : Int32), .null]))]) [14] (by decide) rfl) rfl hSz) hP1 hD1
  have hP : va_P D vwCl ([(x0, .inr (5, [.ref q1, .ref q2, .ref q3, .ref q5, .null])), (q1, .inr (0, [.int (0 : Int32), .ref (t 100), .int (0 : Int32)])), (q2, .inl (t 3, (2, .inr (.inr (.inr (.inr (fun _ => none))))))), (q3, .inr (1, [.int (0 : Int32), .ref q4])), (q4, .inl (t 0, (71, .inl (fun _ => 0)))), (q5, .inr (3, [.ref q7, .ref q6, .ref (u1 0), .ref (u2 0)])), (q6, .inl (t 0, (4, .inl (fun _ => 0)))), (q7, .inl (t 5, (65, .inr (.inr (.inr (.inr (fun i => if i < 65 then some (r i) else none))))))), ((u1 0), .inr (7, [.int (0 : Int32), .ref (u1 1), .ref (u1 2)])), ((u1 1), .inl (t 0, (512, .inl (fun _ => 0)))), ((u1 2), .inl (t 0, (512, .inl (fun _ => 0)))), ((u2 0), .inr (7, [.int (0 : Int32), .ref (u2 1), .ref (u2 2)])), ((u2 1), .inl (t 0, (512, .inl (fun _ => 0)))), ((u2 2), .inl (t 0, (512, .inl (fun _ => 0)))), (q8, .inr (2, [.int (4 : Int32), .int (4 : Int32), .int (0 : Int32), .long (0 : Int64), .long (0 : Int64), .int (0 : Int32), .int (0 : Int32), .int (0 : Int32), .ref q9])), (q9, .inl (t 0, (21, .inl (fun _ => 0))))] ++ ((List.range 65).map (fun i => (r i, .inl (t 0, (512, .inl (fun _ => 0)))))) : va_W) H := hP
  have hD : va_D (OA L0 s.heap.size) ([(x0, .inr (5, [.ref q1, .ref q2, .ref q3, .ref q5, .null])), (q1, .inr (0, [.int (0 : Int32), .ref (t 100), .int (0 : Int32)])), (q2, .inl (t 3, (2, .inr (.inr (.inr (.inr (fun _ => none))))))), (q3, .inr (1, [.int (0 : Int32), .ref q4])), (q4, .inl (t 0, (71, .inl (fun _ => 0)))), (q5, .inr (3, [.ref q7, .ref q6, .ref (u1 0), .ref (u2 0)])), (q6, .inl (t 0, (4, .inl (fun _ => 0)))), (q7, .inl (t 5, (65, .inr (.inr (.inr (.inr (fun i => if i < 65 then some (r i) else none))))))), ((u1 0), .inr (7, [.int (0 : Int32), .ref (u1 1), .ref (u1 2)])), ((u1 1), .inl (t 0, (512, .inl (fun _ => 0)))), ((u1 2), .inl (t 0, (512, .inl (fun _ => 0)))), ((u2 0), .inr (7, [.int (0 : Int32), .ref (u2 1), .ref (u2 2)])), ((u2 1), .inl (t 0, (512, .inl (fun _ => 0)))), ((u2 2), .inl (t 0, (512, .inl (fun _ => 0)))), (q8, .inr (2, [.int (4 : Int32), .int (4 : Int32), .int (0 : Int32), .long (0 : Int64), .long (0 : Int64), .int (0 : Int32), .int (0 : Int32), .int (0 : Int32), .ref q9])), (q9, .inl (t 0, (21, .inl (fun _ => 0))))] ++ ((List.range 65).map (fun i => (r i, .inl (t 0, (512, .inl (fun _ => 0)))))) : va_W) := hD
  have hSz : s.heap.size ≤ H.size := hS.1
  refine W.widen (k := 80) (n := 35515) (by omega) (by omega) ?_
  refine va_put (D := D) (ci := 5) (v := .ref q8) (ty := (.object "BentGardens$Garden")) hx hb hts inX4 tyX4 tyX4_ok nmX4 hown hK hP hD hS 0 rfl rfl 4 (by decide) (hts _ qw161) (fun _ h9 => h9) rfl (by decide +kernel) rfl rfl (Nat.le_of_ble_eq_true rfl) dX4_init_53 (fun H locs hP hD hS => ?_)
  have hP : va_P D vwCl ([(x0, .inr (5, [.ref q1, .ref q2, .ref q3, .ref q5, .ref q8])), (q1, .inr (0, [.int (0 : Int32), .ref (t 100), .int (0 : Int32)])), (q2, .inl (t 3, (2, .inr (.inr (.inr (.inr (fun _ => none))))))), (q3, .inr (1, [.int (0 : Int32), .ref q4])), (q4, .inl (t 0, (71, .inl (fun _ => 0)))), (q5, .inr (3, [.ref q7, .ref q6, .ref (u1 0), .ref (u2 0)])), (q6, .inl (t 0, (4, .inl (fun _ => 0)))), (q7, .inl (t 5, (65, .inr (.inr (.inr (.inr (fun i => if i < 65 then some (r i) else none))))))), ((u1 0), .inr (7, [.int (0 : Int32), .ref (u1 1), .ref (u1 2)])), ((u1 1), .inl (t 0, (512, .inl (fun _ => 0)))), ((u1 2), .inl (t 0, (512, .inl (fun _ => 0)))), ((u2 0), .inr (7, [.int (0 : Int32), .ref (u2 1), .ref (u2 2)])), ((u2 1), .inl (t 0, (512, .inl (fun _ => 0)))), ((u2 2), .inl (t 0, (512, .inl (fun _ => 0)))), (q8, .inr (2, [.int (4 : Int32), .int (4 : Int32), .int (0 : Int32), .long (0 : Int64), .long (0 : Int64), .int (0 : Int32), .int (0 : Int32), .int (0 : Int32), .ref q9])), (q9, .inl (t 0, (21, .inl (fun _ => 0))))] ++ ((List.range 65).map (fun i => (r i, .inl (t 0, (512, .inl (fun _ => 0)))))) : va_W) H := hP
  have hD : va_D (OA L0 s.heap.size) ([(x0, .inr (5, [.ref q1, .ref q2, .ref q3, .ref q5, .ref q8])), (q1, .inr (0, [.int (0 : Int32), .ref (t 100), .int (0 : Int32)])), (q2, .inl (t 3, (2, .inr (.inr (.inr (.inr (fun _ => none))))))), (q3, .inr (1, [.int (0 : Int32), .ref q4])), (q4, .inl (t 0, (71, .inl (fun _ => 0)))), (q5, .inr (3, [.ref q7, .ref q6, .ref (u1 0), .ref (u2 0)])), (q6, .inl (t 0, (4, .inl (fun _ => 0)))), (q7, .inl (t 5, (65, .inr (.inr (.inr (.inr (fun i => if i < 65 then some (r i) else none))))))), ((u1 0), .inr (7, [.int (0 : Int32), .ref (u1 1), .ref (u1 2)])), ((u1 1), .inl (t 0, (512, .inl (fun _ => 0)))), ((u1 2), .inl (t 0, (512, .inl (fun _ => 0)))), ((u2 0), .inr (7, [.int (0 : Int32), .ref (u2 1), .ref (u2 2)])), ((u2 1), .inl (t 0, (512, .inl (fun _ => 0)))), ((u2 2), .inl (t 0, (512, .inl (fun _ => 0)))), (q8, .inr (2, [.int (4 : Int32), .int (4 : Int32), .int (0 : Int32), .long (0 : Int64), .long (0 : Int64), .int (0 : Int32), .int (0 : Int32), .int (0 : Int32), .ref q9])), (q9, .inl (t 0, (21, .inl (fun _ => 0))))] ++ ((List.range 65).map (fun i => (r i, .inl (t 0, (512, .inl (fun _ => 0)))))) : va_W) := hD
  have hSz : s.heap.size ≤ H.size := hS.1
  have hP := hP.part (cx := [(x0, .inr (5, [.ref q1, .ref q2, .ref q3, .ref q5, .ref q8])), (q2, .inl (t 3, (2, .inr (.inr (.inr (.inr (fun _ => none))))))), (q3, .inr (1, [.int (0 : Int32), .ref q4])), (q4, .inl (t 0, (71, .inl (fun _ => 0)))), (q5, .inr (3, [.ref q7, .ref q6, .ref (u1 0), .ref (u2 0)])), (q6, .inl (t 0, (4, .inl (fun _ => 0)))), (q7, .inl (t 5, (65, .inr (.inr (.inr (.inr (fun i => if i < 65 then some (r i) else none))))))), ((u1 0), .inr (7, [.int (0 : Int32), .ref (u1 1), .ref (u1 2)])), ((u1 1), .inl (t 0, (512, .inl (fun _ => 0)))), ((u1 2), .inl (t 0, (512, .inl (fun _ => 0)))), ((u2 0), .inr (7, [.int (0 : Int32), .ref (u2 1), .ref (u2 2)])), ((u2 1), .inl (t 0, (512, .inl (fun _ => 0)))), ((u2 2), .inl (t 0, (512, .inl (fun _ => 0)))), (q8, .inr (2, [.int (4 : Int32), .int (4 : Int32), .int (0 : Int32), .long (0 : Int64), .long (0 : Int64), .int (0 : Int32), .int (0 : Int32), .int (0 : Int32), .ref q9])), (q9, .inl (t 0, (21, .inl (fun _ => 0)))), (q1, .inr (0, [.int (0 : Int32), .ref (t 100), .int (0 : Int32)]))]) [0, 2, 3, 4, 5, 6, 7, 8, 9, 10, 11, 12, 13, 14, 15, 1] rfl
  have hD := hD.part (cx := [(x0, .inr (5, [.ref q1, .ref q2, .ref q3, .ref q5, .ref q8])), (q2, .inl (t 3, (2, .inr (.inr (.inr (.inr (fun _ => none))))))), (q3, .inr (1, [.int (0 : Int32), .ref q4])), (q4, .inl (t 0, (71, .inl (fun _ => 0)))), (q5, .inr (3, [.ref q7, .ref q6, .ref (u1 0), .ref (u2 0)])), (q6, .inl (t 0, (4, .inl (fun _ => 0)))), (q7, .inl (t 5, (65, .inr (.inr (.inr (.inr (fun i => if i < 65 then some (r i) else none))))))), ((u1 0), .inr (7, [.int (0 : Int32), .ref (u1 1), .ref (u1 2)])), ((u1 1), .inl (t 0, (512, .inl (fun _ => 0)))), ((u1 2), .inl (t 0, (512, .inl (fun _ => 0)))), ((u2 0), .inr (7, [.int (0 : Int32), .ref (u2 1), .ref (u2 2)])), ((u2 1), .inl (t 0, (512, .inl (fun _ => 0)))), ((u2 2), .inl (t 0, (512, .inl (fun _ => 0)))), (q8, .inr (2, [.int (4 : Int32), .int (4 : Int32), .int (0 : Int32), .long (0 : Int64), .long (0 : Int64), .int (0 : Int32), .int (0 : Int32), .int (0 : Int32), .ref q9])), (q9, .inl (t 0, (21, .inl (fun _ => 0)))), (q1, .inr (0, [.int (0 : Int32), .ref (t 100), .int (0 : Int32)]))]) [0, 2, 3, 4, 5, 6, 7, 8, 9, 10, 11, 12, 13, 14, 15, 1] (by decide) rfl
  have hP : va_P D vwCl (XW x0 q1 q2 (t 100) (gL [q3, q4]) (gL [q5, q6, q7]) r (gL [q8, q9]) [] t (x0S u1 u2)) H := by unfold XW; rw [List.append_nil]; exact hP
  have hD : va_D (OA L0 s.heap.size) (XW x0 q1 q2 (t 100) (gL [q3, q4]) (gL [q5, q6, q7]) r (gL [q8, q9]) [] t (x0S u1 u2)) := by unfold XW; rw [List.append_nil]; exact hD
  exact W.vret hx hb hr (fun t9 ht hW => ⟨(q1, q2, gL [q3, q4], gL [q5, q6, q7], r, gL [q8, q9], u1, u2), rfl, by rw [ht]; exact hP, hD, hS.F ht⟩) hS.2.2 dX4_init_56
