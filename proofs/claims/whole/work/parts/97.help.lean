/-! ===== the law's helpers: they call the class, write its answer, or catch ===== -/
abbrev wh_ (y : MethodName) (b : ByteArray) (n : Nat) (r : Option FieldType) (hh : List (Nat × Nat × Nat × Nat)) : List Cond := Cond.codeWith y b n r hh :: LA
theorem xt_of {L : List ExceptionTableEntry} {hh : List (Nat × Nat × Nat × Nat)} (h : L.map (fun h => (h.startPc, h.endPc, h.handlerPc, h.catchType)) = hh) : L = hh.map (fun q => ⟨q.1, q.2.1, q.2.2.1, q.2.2.2⟩) := by
  subst h
  rw [List.map_map]
  exact (List.map_id L).symm
theorem met_ofWH {l : Launch} {y : MethodName} {ws ws' : List Cond} {rm : Room} {Pc : Array Value → State → Prop} {Qc : Array Value → State → Outcome → State → Prop} {mc ms : Nat} {free : Addr → Prop} {cc : ByteArray} {maxL : Nat} {ret : Option FieldType} {hh : List (Nat × Nat × Nat × Nat)}
    (hy : plainName y.cls = true) (hw : ws = Cond.codeWith y cc maxL ret hh :: ws')
    (body : ∀ p e s m args below meth c s₁, BodyLoose p l y (headSpec ws rm) cc maxL ret e s m args below meth c s₁ → c.maxLocals = maxL → c.exceptionTable.toList = hh.map (fun q => (⟨q.1, q.2.1, q.2.2.1, q.2.2.2⟩ : ExceptionTableEntry)) → Pc args s →
      W p l e (headSpec ws rm).room s m args below meth c s.heap [] 0 0 (MQ below Qc args s mc ms free) (entryFrame m args maxL)) : Met l y ws rm Pc Qc mc ms free := by
  refine MetFree.of_bodyS (code := cc) (maxLocals := maxL) (ret := ret) hy ?_ ?_
  · intro args s m h hn
    obtain ⟨m9, meth, c, hn9, h1, h2, h3, h4, -, h5, h6, -⟩ := Cond.codeWith_spec (atoms_spec (ws := ws) h _ (by rw [hw]; exact List.mem_cons_self))
    cases hn.symm.trans hn9
    exact ⟨meth, c, h1, h2, h3, h4, h5, h6⟩
  · intro p e s m args below meth c s₁ B hml hP _
    have hh0 : s₁.heap = s.heap := by rw [B.state]; rfl
    obtain ⟨m9, meth9, c9, hn9, k1, k2, k3, k4, k5, -, -, -⟩ := Cond.codeWith_spec (atoms_spec (ws := ws) B.pre _ (by rw [hw]; exact List.mem_cons_self))
    cases B.named.symm.trans hn9
    cases B.method.symm.trans k1
    have hc : meth.code = some c := by
      have h9 := B.here.code
      have hv : s₁.vm = s.vm := by rw [B.state]; rfl
      have hm := B.method
      unfold State.code? at h9
      rw [hv] at h9
      unfold Vm.method? at hm
      cases hk : s.vm.classes[m.cls]? with
      | none => rw [hk] at hm; cases hm
      | some k =>
        rw [hk] at h9 hm
        have hm' : k.methods[m.idx]? = some meth := hm
        have h9' : (Option.bind (k.methods[m.idx]?) fun q => q.code) = some c := h9
        rw [hm'] at h9'
        exact h9'
    cases hc.symm.trans k2
    obtain ⟨t, a1, o, b1, b2, b3⟩ := body p e s m args below meth c s₁ B hml (xt_of k5) hP s₁ hh0 (Stand.of_body B)
    exact ⟨t, o, a1, b1, b2, ⟨b3.1, b3.2⟩⟩
theorem kH {R : Room} {s : State} {args : Array Value} {own : String} {idx : Nat} {y : MethodName} {b : ByteArray} {maxL n : Nat} {ret : Option FieldType} {hh : List (Nat × Nat × Nat × Nat)} {rm : Room} (ht : ∀ w ∈ LA, w.before args s = true) (h1 : (Cond.methodLink own idx y) ∈ LA) (h2 : (Cond.static y) ∈ LA) (h4 : (Cond.initialized y.cls) ∈ LA) (h5 : (Cond.codeWith y b maxL ret hh) ∈ LA) (hd : okY y n) (hR : rmIn rm R maxL) : vx_CSW R s args own idx y b maxL ret hh (wh_ y b maxL ret hh) rm rm.cells rm.slots n :=
  ⟨⟨rfl, rfl, hR.1, hR.2, pay_in ht (good_LA (ys := wh_ y b maxL ret hh) (fun _ hw => (List.mem_cons.mp hw).elim (fun e => e ▸ h5) id)), List.mem_cons_self⟩, ht _ h5, ht _ h4, ⟨hd.1, hd.2.1⟩, fun sig h => by
    have h2 := hd.2.2
    rw [h] at h2
    exact (Option.some.inj h2).symm, ht _ h1, ht _ h2⟩
theorem vin01 : vp_in (nI 0) 1 := by
  show ¬ (nI 0 < 0 ∨ 1 ≤ (nI 0).toNatClampNeg)
  decide +kernel
def NC (U : State) : Prop := va_Nc ISE IAE U ∧ va_Nc ISE IOE U ∧ va_Nc IAE IOE U
theorem NC.moved {u U : State} (hvm : u.vm.Alike U.vm) (h : NC u) : NC U := ⟨h.1.moved hvm, h.2.1.moved hvm, h.2.2.moved hvm⟩
def PMH (z0 : Nat) (D : va_G) (t : Nat → ClassId) (av : List Value) (ws : va_W) (L : List Nat) (sz : Nat) : Array Value → State → Prop := va_Pc av (fun U => (CTX z0 D t U U.heap ∧ NC U) ∧ U.heap.size = sz ∧ va_P D vwCl ws U.heap ∧ va_D (OA L sz) ws ∧ (∀ q, OA L sz q → z0 ≤ q))
theorem PMH.blind {z0 : Nat} {D : va_G} {t : Nat → ClassId} {av : List Value} {ws : va_W} {L : List Nat} {sz : Nat} : FrameBlind (PMH z0 D t av ws L sz) := fun _ _ _ _ h => ⟨h.1, ⟨h.2.1.1.same rfl, h.2.1.2.moved (Vm.Alike.refl _)⟩, h.2.2⟩
abbrev OUT (t : Nat → ClassId) (o : Nat) (f : Nat → Int64) : Nat × va_E := (o, .inl (t 6, (1, .inr (.inl f))))
theorem frm {A0 : Nat → Prop} {D : va_G} {wr ws ws1 : va_W} {L : List Nat} {H H1 : Heap} (hL : ws.map Prod.fst = L) (hP : va_P D vwCl (wr ++ ws) H) (hD : va_D A0 (wr ++ ws)) (hA : ∀ q, OA L H.size q → A0 q) (hk : ∀ q : Nat, q < H.size → ¬ OA L H.size q → H1[q]? = H[q]?) (hP1 : va_P D vwCl ws1 H1) (hD1 : va_D (OA L H.size) ws1) : va_P D vwCl (wr ++ ws1) H1 ∧ va_D A0 (wr ++ ws1) := by
  subst hL
  have apart : ∀ (k : Nat) (q : Nat × va_E), wr[k]? = some q → q.1 < H.size ∧ ¬ OA (ws.map Prod.fst) H.size q.1 := fun k q hq => by
    have hk1 := (List.getElem?_eq_some_iff.mp hq).1
    have hq2 : (wr ++ ws)[k]? = some q := by rw [List.getElem?_append_left hk1]; exact hq
    have hl := (hP k q hq2).lt
    refine ⟨hl, ?_⟩
    rintro (h | h)
    · obtain ⟨p, hp, e⟩ := List.mem_map.mp h
      obtain ⟨j, hj⟩ := List.getElem?_of_mem hp
      have hj2 : (wr ++ ws)[wr.length + j]? = some p := by rw [List.getElem?_append_right (by omega), Nat.add_sub_cancel_left]; exact hj
      have := hD.1 k (wr.length + j) q p hq2 hj2 e.symm
      omega
    · omega
  refine ⟨va_P.app (fun k q hq => ?_) hP1, va_D.app ?_ (hD1.weaken (fun k q _ h => hA q.1 h)) (fun i j p q hp hq e => (apart i p hp).2 (by rw [e]; exact hD1.2 j q hq))⟩
  · have hk1 := (List.getElem?_eq_some_iff.mp hq).1
    have hq2 : (wr ++ ws)[k]? = some q := by rw [List.getElem?_append_left hk1]; exact hq
    exact (hP k q hq2).kept (hk q.1 (apart k q hq).1 (apart k q hq).2)
  · exact ⟨fun i j p q hp hq e => hD.1 i j p q (by rw [List.getElem?_append_left (List.getElem?_eq_some_iff.mp hp).1]; exact hp) (by rw [List.getElem?_append_left (List.getElem?_eq_some_iff.mp hq).1]; exact hq) e, fun k q hq => hD.2 k q (by rw [List.getElem?_append_left (List.getElem?_eq_some_iff.mp hq).1]; exact hq)⟩
section KQ
variable {p : Program} {l : Launch} {e : Env} {R : Room} {s : State} {m : MethodId} {args : Array Value} {below : List Frame} {meth : Method} {c : Code} {H : Heap} {locs : List Loc} {cells slots : Nat} {Q : State → Prop}
variable {ls : Array Slot} {pc : Nat} {st0 rest : List Value} {D : va_G}
theorem call_Q {β : Type} {vf : β → Option Value} {wf : β → va_W} {Rp : β → Prop} {L1 : List Nat} {A0 : Nat → Prop} {H0 : Heap} {mc ms : Nat} (hr : va_Run p l e R s m args below meth c H locs cells slots mc ms (F0 m pc ls st0) rest (fun st o t => ∃ b, Rp b ∧ o = .returned (vf b) ∧ va_P D vwCl (wf b) t.heap ∧ va_D (OA L1 H.size) (wf b) ∧ va_F (OA L1 H.size) st t) (OA L1 H.size)) (hS : va_S A0 H0 H locs) (hA : ∀ q, OA L1 H.size q → A0 q)
    (kk : ∀ (b : β) (H1 : Heap) (locs1 : List Loc), Rp b → va_P D vwCl (wf b) H1 → va_D (OA L1 H.size) (wf b) → va_S A0 H0 H1 locs1 → H.size ≤ H1.size → (∀ q : Nat, q < H.size → ¬ OA L1 H.size q → H1[q]? = H[q]?) → W p l e R s m args below meth c H1 locs1 (cells + mc) (slots + ms) Q (F0 m (pc + 3) ls ((vf b).toList ++ rest))) : W p l e R s m args below meth c H locs cells slots Q (F0 m pc ls st0) := by
  intro T hT X
  obtain ⟨v', st₀, t, T', L, h0, X', hL, e1, e2, ⟨b, hRp, hv, hP, hD, hF⟩, st⟩ := hr T hT X
  cases hv
  have hF1 : H.size ≤ T'.heap.size := by rw [e1, ← h0]; exact hF.1
  have hF2 : ∀ q : Nat, q < H.size → ¬ OA L1 H.size q → T'.heap[q]? = H[q]? := fun q h1 h2 => by rw [e1, ← h0]; exact hF.2 q (by rw [h0]; exact h1) h2
  have hS1 : va_S A0 H0 T'.heap (locs ++ L) := ⟨Nat.le_trans hS.1 hF1, fun q h1 h2 => (hF2 q (Nat.lt_of_lt_of_le h1 hS.1) (fun z => h2 (hA q z))).trans (hS.2.1 q h1 h2), fun l hl => (List.mem_append.mp hl).elim (hS.2.2 l) (fun z => hA _ (hL l z))⟩
  obtain ⟨t2, a1, b1⟩ := kk b T'.heap (locs ++ L) hRp (by rw [e1]; exact hP) hD hS1 hF1 hF2 T' rfl X'
  exact ⟨t2, st t2 a1, b1⟩
theorem call_XB {E : String} {R' : va_W → Prop} {L1 : List Nat} {A0 : Nat → Prop} {H0 : Heap} {mc ms : Nat} (hr : vx_Run p l e R s m args below meth c H locs cells slots mc ms (F0 m pc ls st0) rest (fun _ _ _ => False) (XB E D R' L1 H.size) (OA L1 H.size)) (hS : va_S A0 H0 H locs) (hA : ∀ q, OA L1 H.size q → A0 q)
    (kx : ∀ (w' : va_W) (H1 : Heap) (locs1 : List Loc) (q9 : Addr) (ce : Cell), R' w' → va_P D vwCl w' H1 → va_D (OA L1 H.size) w' → va_S A0 H0 H1 locs1 → H.size ≤ H1.size → (∀ q : Nat, q < H.size → ¬ OA L1 H.size q → H1[q]? = H[q]?) → H1[q9]? = some ce → ce.vm = .none → s.vm.findClass E = some ce.cls → vx_W p l e R s m args below meth c H1 locs1 (cells + mc) (slots + ms) Q (F0 m pc ls rest) q9) : W p l e R s m args below meth c H locs cells slots Q (F0 m pc ls st0) := by
  intro T hT X
  rcases hr T hT X with ⟨v, st₀, t, T', L, h0, X', hL, e1, e2, hf, st⟩ | ⟨q, st₀, t, T', L, E', ce, h0, X', hL, e1, e2, ⟨hE, w', hR', hP, hD, hF⟩, hce, hcv, hcl, st⟩
  · exact hf.elim
  · subst hE
    have hF1 : H.size ≤ T'.heap.size := by rw [e1, ← h0]; exact hF.1
    have hF2 : ∀ q : Nat, q < H.size → ¬ OA L1 H.size q → T'.heap[q]? = H[q]? := fun q h1 h2 => by rw [e1, ← h0]; exact hF.2 q (by rw [h0]; exact h1) h2
    have hS1 : va_S A0 H0 T'.heap (locs ++ L) := ⟨Nat.le_trans hS.1 hF1, fun q h1 h2 => (hF2 q (Nat.lt_of_lt_of_le h1 hS.1) (fun z => h2 (hA q z))).trans (hS.2.1 q h1 h2), fun l hl => (List.mem_append.mp hl).elim (hS.2.2 l) (fun z => hA _ (hL l z))⟩
    obtain ⟨t2, a1, b1⟩ := kx w' T'.heap (locs ++ L) q ce hR' (by rw [e1]; exact hP) hD hS1 hF1 hF2 (by rw [e1]; exact hce) hcv hcl T' rfl X'
    exact ⟨t2, Steps.trans st a1, b1⟩
end KQ
abbrev rh_garden : Room := { frames := 11, cells := 5, slots := 70, locals := 362 }
theorem okL_garden : okY yL_garden 4 := ⟨by decide +kernel, by decide +kernel, by decide +kernel⟩
set_option maxHeartbeats 4000000 in
theorem h_garden (l : Launch) (z0 : Nat) (D : va_G) (t : Nat → ClassId) (x0 o : Nat) (f : Nat → Int64) {w : va_W} {R' : va_W → Prop} {v : Int32} {th : Nat} (a1 : Int32) (a2 : Int32) (h0 : ∃ fs, w[0]? = some (x0, .inr (5, fs))) (hth : th ≤ 1) (hop : OPX l yX4_garden cX4_garden 3 rm_X4_garden rx_X4_garden z0 D t x0 [.int a1, .int a2] w v th IAE "" 3 40 4 46 R') (sz : Nat) : Met l yL_garden (wh_ yL_garden cL_garden 5 (some .int) [(0, 10, 13, 13)]) rh_garden (PMH z0 D t [.ref x0, .int a1, .int a2, .ref o] (OUT t o f :: w) (o :: w.map Prod.fst) sz) (QB (fun _ : (Nat → Int64) × va_W => some (.int (nI th))) D (fun b => OUT t o b.1 :: b.2) (fun b => (th = 0 → b.1 0 = v.toInt64) ∧ R' b.2) (o :: w.map Prod.fst) sz) 5 70 (OA (o :: w.map Prod.fst) sz) := by
  refine met_ofWH (cc := cL_garden) (maxL := 5) (ret := (some .int)) (hh := [(0, 10, 13, 13)]) (by decide) rfl ?_
  intro p e s m args below meth c s₁ Bo hml hxt hv
  obtain ⟨rfl, ⟨hC, hN⟩, hsz, hP, hD, hZ⟩ := hv
  have hx := Bo.exec
  have hb := Bo.bytes
  have hr := Bo.returns
  have hts : ∀ w ∈ LA, w.before _ s = true := fun w hw => atoms_spec (ws := (wh_ yL_garden cL_garden 5 (some .int) [(0, 10, 13, 13)])) Bo.pre w (List.mem_cons_of_mem _ hw)
  have hown : s.vm.findClass RL = some m.cls := findClass_of_methodNamed Bo.named
  have hlocks := Bo.notSynchronized
  have hK := hC.1
  subst hsz
  obtain ⟨fs, h0⟩ := h0
  have hPw := (pd_sub (List.sublist_cons_self _ _) hP hD).1
  have hDw : va_D (OA (w.map Prod.fst) s.heap.size) w := ⟨(pd_sub (List.sublist_cons_self _ _) hP hD).2.1, fun _ _ h9 => Or.inl (in_map rfl h9)⟩
  have hsub : ∀ q, OA (w.map Prod.fst) s.heap.size q → OA (o :: w.map Prod.fst) s.heap.size q := OA.mono (fun a h => List.mem_cons_of_mem _ h) (Nat.le_refl _)
  have hZw : ∀ q, OA (w.map Prod.fst) s.heap.size q → z0 ≤ q := fun q hq => hZ q (hsub q hq)
  have hS : va_S (OA (o :: w.map Prod.fst) s.heap.size) s.heap s.heap [] := va_S.rf
  have hl := lv_entry ([.ref x0, .int a1, .int a2, .ref o]) (n := 5) (Nat.le_of_ble_eq_true rfl)
  rw [lg_entry_eq]
  generalize (lg_sl ([.ref x0, .int a1, .int a2, .ref o]) ++ List.replicate (5 - (lg_sl ([.ref x0, .int a1, .int a2, .ref o])).length) Slot.unset).toArray = ls at hl ⊢
  have hl : lv_has ls 5 [(0, .ref x0), (1, .int a1), (2, .int a2), (3, .ref o)] := hl
  refine lv_aload_n hx hb dL_garden_0 rfl (lv_at hl 3 rfl) ?_
  refine lv_iconst (v := nI 0) hx hb dL_garden_1 (by decide) ?_
  refine lv_aload_n hx hb dL_garden_2 rfl (lv_at hl 0 rfl) ?_
  refine lv_iload_n hx hb dL_garden_3 rfl (lv_at hl 1 rfl) ?_
  refine lv_iload_n hx hb dL_garden_4 rfl (lv_at hl 2 rfl) ?_
  rcases hop with ⟨rfl, hu⟩ | ⟨rfl, hu⟩ | ⟨rfl, hu⟩
  · refine call_Q (va_runV (As := [.int a1, .int a2]) (rest := [.int (nI 0), .ref o]) ⟨hx, hb, hml, hown, hts⟩ (hu s.heap.size) (kV hts qw654 qw655 qw656 qw1 qw657 ok_X4_garden ⟨Nat.le_of_ble_eq_true rfl, Nat.le_of_ble_eq_true rfl⟩) ⟨PM.blind, va_recv hK hPw (ci := 5) (q0 := 0) rfl h0, fun U hU hW => ⟨rfl, by rw [hU]; exact hC.warm hW, by rw [hU], by rw [hU]; exact hPw, hDw, hZw⟩⟩ rfl rfl hl.1 rfl (lv_room (Nat.le_of_ble_eq_true rfl)) dL_garden_5 ⟨Nat.le_of_ble_eq_true rfl, Nat.le_of_ble_eq_true rfl⟩) hS hsub (fun w1 H1 locs1 hR1 hP1 hD1 hS hsz1 hk1 => ?_)
    obtain ⟨hP, hD⟩ := frm (wr := [OUT t o f]) rfl hP hD hsub hk1 hP1 hD1
    refine W.widen (k := 5) (n := 70) (by decide) (by decide) ?_
    refine lv_i2l hx hb dL_garden_8 rfl ?_
    refine va_last (ws := OUT t o f :: w1) hx hb hK hP hD hS 0 6 rfl rfl vin01 dL_garden_9 (fun H2 locs2 hP hD hS => ?_)
    refine lv_goto (tgt := 17) hx hb dL_garden_10 (by decide) ?_
    refine lv_iconst (v := nI 0) hx hb dL_garden_17 (by decide) ?_
    exact W.iret hx hb hr (fun t9 ht hW => ⟨(vp_updL f (nI 0).toNatClampNeg v.toInt64, w1), ⟨fun _ => rfl, hR1⟩, rfl, by rw [ht]; exact hP, hD, hS.F ht⟩) hS.2.2 dL_garden_18
  · refine call_XB (vx_runV (As := [.int a1, .int a2]) (rest := [.int (nI 0), .ref o]) ⟨hx, hb, hml, hown, hts⟩ (hu s.heap.size) (kV hts qw654 qw655 qw656 qw1 qw657 ok_X4_garden ⟨Nat.le_of_ble_eq_true rfl, Nat.le_of_ble_eq_true rfl⟩) ⟨PM.blind, va_recv hK hPw (ci := 5) (q0 := 0) rfl h0, fun U hU hW => ⟨rfl, by rw [hU]; exact hC.warm hW, by rw [hU], by rw [hU]; exact hPw, hDw, hZw⟩⟩ rfl rfl hl.1 rfl (lv_room (Nat.le_of_ble_eq_true rfl)) dL_garden_5 ⟨Nat.le_of_ble_eq_true rfl, Nat.le_of_ble_eq_true rfl⟩) hS hsub (fun w1 H1 locs1 q9 ce hR1 hP1 hD1 hS hsz1 hk1 hce hcv hcl => ?_)
    obtain ⟨hP, hD⟩ := frm (wr := [OUT t o f]) rfl hP hD hsub hk1 hP1 hD1
    refine vx_catch (name := "java/lang/IllegalArgumentException") hown [] ⟨0, 10, 13, 13⟩ [] hxt (fun z hz => nomatch hz) (by decide) (by decide) (hts _ qw653) (va_Nw.use rfl (hC.2.1 _ qw473)) hce hcv hcl ?_
    refine lv_astore (lv' := (4, .ref q9) :: [(0, .ref x0), (1, .int a1), (2, .int a2), (3, .ref o)]) hx hb dL_garden_13 hl (by decide) rfl (fun ls hl => ?_)
    refine W.widen (k := 5) (n := 70) (by decide) (by decide) ?_
    refine lv_iconst (v := nI 1) hx hb dL_garden_15 (by decide) ?_
    exact W.iret hx hb hr (fun t9 ht hW => ⟨(f, w1), ⟨fun z => absurd z (by decide), hR1⟩, rfl, by rw [ht]; exact hP, hD, hS.F ht⟩) hS.2.2 dL_garden_16
  · omega
abbrev rh_pond : Room := { frames := 11, cells := 5, slots := 70, locals := 365 }
theorem okL_pond : okY yL_pond 4 := ⟨by decide +kernel, by decide +kernel, by decide +kernel⟩
set_option maxHeartbeats 4000000 in
theorem h_pond (l : Launch) (z0 : Nat) (D : va_G) (t : Nat → ClassId) (x0 o : Nat) (f : Nat → Int64) {w : va_W} {R' : va_W → Prop} {v : Int32} {th : Nat} (a1 : Int32) (a2 : Int32) (h0 : ∃ fs, w[0]? = some (x0, .inr (5, fs))) (hth : th ≤ 2) (hop : OPX l yX4_pond cX4_pond 6 rm_X4_pond rx_X4_pond z0 D t x0 [.int a1, .int a2] w v th IOE ISE 3 40 4 46 R') (sz : Nat) : Met l yL_pond (wh_ yL_pond cL_pond 5 (some .int) [(0, 10, 13, 18), (0, 10, 17, 20)]) rh_pond (PMH z0 D t [.ref x0, .int a1, .int a2, .ref o] (OUT t o f :: w) (o :: w.map Prod.fst) sz) (QB (fun _ : (Nat → Int64) × va_W => some (.int (nI th))) D (fun b => OUT t o b.1 :: b.2) (fun b => (th = 0 → b.1 0 = v.toInt64) ∧ R' b.2) (o :: w.map Prod.fst) sz) 5 70 (OA (o :: w.map Prod.fst) sz) := by
  refine met_ofWH (cc := cL_pond) (maxL := 5) (ret := (some .int)) (hh := [(0, 10, 13, 18), (0, 10, 17, 20)]) (by decide) rfl ?_
  intro p e s m args below meth c s₁ Bo hml hxt hv
  obtain ⟨rfl, ⟨hC, hN⟩, hsz, hP, hD, hZ⟩ := hv
  have hx := Bo.exec
  have hb := Bo.bytes
  have hr := Bo.returns
  have hts : ∀ w ∈ LA, w.before _ s = true := fun w hw => atoms_spec (ws := (wh_ yL_pond cL_pond 5 (some .int) [(0, 10, 13, 18), (0, 10, 17, 20)])) Bo.pre w (List.mem_cons_of_mem _ hw)
  have hown : s.vm.findClass RL = some m.cls := findClass_of_methodNamed Bo.named
  have hlocks := Bo.notSynchronized
  have hK := hC.1
  subst hsz
  obtain ⟨fs, h0⟩ := h0
  have hPw := (pd_sub (List.sublist_cons_self _ _) hP hD).1
  have hDw : va_D (OA (w.map Prod.fst) s.heap.size) w := ⟨(pd_sub (List.sublist_cons_self _ _) hP hD).2.1, fun _ _ h9 => Or.inl (in_map rfl h9)⟩
  have hsub : ∀ q, OA (w.map Prod.fst) s.heap.size q → OA (o :: w.map Prod.fst) s.heap.size q := OA.mono (fun a h => List.mem_cons_of_mem _ h) (Nat.le_refl _)
  have hZw : ∀ q, OA (w.map Prod.fst) s.heap.size q → z0 ≤ q := fun q hq => hZ q (hsub q hq)
  have hS : va_S (OA (o :: w.map Prod.fst) s.heap.size) s.heap s.heap [] := va_S.rf
  have hl := lv_entry ([.ref x0, .int a1, .int a2, .ref o]) (n := 5) (Nat.le_of_ble_eq_true rfl)
  rw [lg_entry_eq]
  generalize (lg_sl ([.ref x0, .int a1, .int a2, .ref o]) ++ List.replicate (5 - (lg_sl ([.ref x0, .int a1, .int a2, .ref o])).length) Slot.unset).toArray = ls at hl ⊢
  have hl : lv_has ls 5 [(0, .ref x0), (1, .int a1), (2, .int a2), (3, .ref o)] := hl
  refine lv_aload_n hx hb dL_pond_0 rfl (lv_at hl 3 rfl) ?_
  refine lv_iconst (v := nI 0) hx hb dL_pond_1 (by decide) ?_
  refine lv_aload_n hx hb dL_pond_2 rfl (lv_at hl 0 rfl) ?_
  refine lv_iload_n hx hb dL_pond_3 rfl (lv_at hl 1 rfl) ?_
  refine lv_iload_n hx hb dL_pond_4 rfl (lv_at hl 2 rfl) ?_
  rcases hop with ⟨rfl, hu⟩ | ⟨rfl, hu⟩ | ⟨rfl, hu⟩
  · refine call_Q (va_runV (As := [.int a1, .int a2]) (rest := [.int (nI 0), .ref o]) ⟨hx, hb, hml, hown, hts⟩ (hu s.heap.size) (kV hts qw751 qw752 qw753 qw1 qw754 ok_X4_pond ⟨Nat.le_of_ble_eq_true rfl, Nat.le_of_ble_eq_true rfl⟩) ⟨PM.blind, va_recv hK hPw (ci := 5) (q0 := 0) rfl h0, fun U hU hW => ⟨rfl, by rw [hU]; exact hC.warm hW, by rw [hU], by rw [hU]; exact hPw, hDw, hZw⟩⟩ rfl rfl hl.1 rfl (lv_room (Nat.le_of_ble_eq_true rfl)) dL_pond_5 ⟨Nat.le_of_ble_eq_true rfl, Nat.le_of_ble_eq_true rfl⟩) hS hsub (fun w1 H1 locs1 hR1 hP1 hD1 hS hsz1 hk1 => ?_)
    obtain ⟨hP, hD⟩ := frm (wr := [OUT t o f]) rfl hP hD hsub hk1 hP1 hD1
    refine W.widen (k := 5) (n := 70) (by decide) (by decide) ?_
    refine lv_i2l hx hb dL_pond_8 rfl ?_
    refine va_last (ws := OUT t o f :: w1) hx hb hK hP hD hS 0 6 rfl rfl vin01 dL_pond_9 (fun H2 locs2 hP hD hS => ?_)
    refine lv_goto (tgt := 21) hx hb dL_pond_10 (by decide) ?_
    refine lv_iconst (v := nI 0) hx hb dL_pond_21 (by decide) ?_
    exact W.iret hx hb hr (fun t9 ht hW => ⟨(vp_updL f (nI 0).toNatClampNeg v.toInt64, w1), ⟨fun _ => rfl, hR1⟩, rfl, by rw [ht]; exact hP, hD, hS.F ht⟩) hS.2.2 dL_pond_22
  · refine call_XB (vx_runV (As := [.int a1, .int a2]) (rest := [.int (nI 0), .ref o]) ⟨hx, hb, hml, hown, hts⟩ (hu s.heap.size) (kV hts qw751 qw752 qw753 qw1 qw754 ok_X4_pond ⟨Nat.le_of_ble_eq_true rfl, Nat.le_of_ble_eq_true rfl⟩) ⟨PM.blind, va_recv hK hPw (ci := 5) (q0 := 0) rfl h0, fun U hU hW => ⟨rfl, by rw [hU]; exact hC.warm hW, by rw [hU], by rw [hU]; exact hPw, hDw, hZw⟩⟩ rfl rfl hl.1 rfl (lv_room (Nat.le_of_ble_eq_true rfl)) dL_pond_5 ⟨Nat.le_of_ble_eq_true rfl, Nat.le_of_ble_eq_true rfl⟩) hS hsub (fun w1 H1 locs1 q9 ce hR1 hP1 hD1 hS hsz1 hk1 hce hcv hcl => ?_)
    obtain ⟨hP, hD⟩ := frm (wr := [OUT t o f]) rfl hP hD hsub hk1 hP1 hD1
    refine vx_catch (name := "java/lang/IndexOutOfBoundsException") hown [] ⟨0, 10, 13, 18⟩ [⟨0, 10, 17, 20⟩] hxt (fun z hz => nomatch hz) (by decide) (by decide) (hts _ qw749) (va_Nw.use rfl (hC.2.1 _ qw553)) hce hcv hcl ?_
    refine lv_astore (lv' := (4, .ref q9) :: [(0, .ref x0), (1, .int a1), (2, .int a2), (3, .ref o)]) hx hb dL_pond_13 hl (by decide) rfl (fun ls hl => ?_)
    refine W.widen (k := 5) (n := 70) (by decide) (by decide) ?_
    refine lv_iconst (v := nI 1) hx hb dL_pond_15 (by decide) ?_
    exact W.iret hx hb hr (fun t9 ht hW => ⟨(f, w1), ⟨fun z => absurd z (by decide), hR1⟩, rfl, by rw [ht]; exact hP, hD, hS.F ht⟩) hS.2.2 dL_pond_16
  · refine call_XB (vx_runV (As := [.int a1, .int a2]) (rest := [.int (nI 0), .ref o]) ⟨hx, hb, hml, hown, hts⟩ (hu s.heap.size) (kV hts qw751 qw752 qw753 qw1 qw754 ok_X4_pond ⟨Nat.le_of_ble_eq_true rfl, Nat.le_of_ble_eq_true rfl⟩) ⟨PM.blind, va_recv hK hPw (ci := 5) (q0 := 0) rfl h0, fun U hU hW => ⟨rfl, by rw [hU]; exact hC.warm hW, by rw [hU], by rw [hU]; exact hPw, hDw, hZw⟩⟩ rfl rfl hl.1 rfl (lv_room (Nat.le_of_ble_eq_true rfl)) dL_pond_5 ⟨Nat.le_of_ble_eq_true rfl, Nat.le_of_ble_eq_true rfl⟩) hS hsub (fun w1 H1 locs1 q9 ce hR1 hP1 hD1 hS hsz1 hk1 hce hcv hcl => ?_)
    obtain ⟨hP, hD⟩ := frm (wr := [OUT t o f]) rfl hP hD hsub hk1 hP1 hD1
    refine vx_catch (name := "java/lang/IllegalStateException") hown [⟨0, 10, 13, 18⟩] ⟨0, 10, 17, 20⟩ [] hxt (fun z hz => by
      cases List.mem_singleton.mp hz
      exact Or.inr ⟨by decide, IOE, hts _ qw749, hN.2.1⟩) (by decide) (by decide) (hts _ qw750) (va_Nw.use rfl (hC.2.1 _ qw757)) hce hcv hcl ?_
    refine lv_astore (lv' := (4, .ref q9) :: [(0, .ref x0), (1, .int a1), (2, .int a2), (3, .ref o)]) hx hb dL_pond_17 hl (by decide) rfl (fun ls hl => ?_)
    refine W.widen (k := 5) (n := 70) (by decide) (by decide) ?_
    refine lv_iconst (v := nI 2) hx hb dL_pond_19 (by decide) ?_
    exact W.iret hx hb hr (fun t9 ht hW => ⟨(f, w1), ⟨fun z => absurd z (by decide), hR1⟩, rfl, by rw [ht]; exact hP, hD, hS.F ht⟩) hS.2.2 dL_pond_20
abbrev rh_wall : Room := { frames := 11, cells := 5, slots := 70, locals := 364 }
theorem okL_wall : okY yL_wall 4 := ⟨by decide +kernel, by decide +kernel, by decide +kernel⟩
set_option maxHeartbeats 4000000 in
theorem h_wall (l : Launch) (z0 : Nat) (D : va_G) (t : Nat → ClassId) (x0 o : Nat) (f : Nat → Int64) {w : va_W} {R' : va_W → Prop} {v : Int32} {th : Nat} (a1 : Int32) (a2 : Int32) (h0 : ∃ fs, w[0]? = some (x0, .inr (5, fs))) (hth : th ≤ 2) (hop : OPX l yX4_wall cX4_wall 5 rm_X4_wall rx_X4_wall z0 D t x0 [.int a1, .int a2] w v th IOE ISE 3 40 4 46 R') (sz : Nat) : Met l yL_wall (wh_ yL_wall cL_wall 5 (some .int) [(0, 10, 13, 18), (0, 10, 17, 20)]) rh_wall (PMH z0 D t [.ref x0, .int a1, .int a2, .ref o] (OUT t o f :: w) (o :: w.map Prod.fst) sz) (QB (fun _ : (Nat → Int64) × va_W => some (.int (nI th))) D (fun b => OUT t o b.1 :: b.2) (fun b => (th = 0 → b.1 0 = v.toInt64) ∧ R' b.2) (o :: w.map Prod.fst) sz) 5 70 (OA (o :: w.map Prod.fst) sz) := by
  refine met_ofWH (cc := cL_wall) (maxL := 5) (ret := (some .int)) (hh := [(0, 10, 13, 18), (0, 10, 17, 20)]) (by decide) rfl ?_
  intro p e s m args below meth c s₁ Bo hml hxt hv
  obtain ⟨rfl, ⟨hC, hN⟩, hsz, hP, hD, hZ⟩ := hv
  have hx := Bo.exec
  have hb := Bo.bytes
  have hr := Bo.returns
  have hts : ∀ w ∈ LA, w.before _ s = true := fun w hw => atoms_spec (ws := (wh_ yL_wall cL_wall 5 (some .int) [(0, 10, 13, 18), (0, 10, 17, 20)])) Bo.pre w (List.mem_cons_of_mem _ hw)
  have hown : s.vm.findClass RL = some m.cls := findClass_of_methodNamed Bo.named
  have hlocks := Bo.notSynchronized
  have hK := hC.1
  subst hsz
  obtain ⟨fs, h0⟩ := h0
  have hPw := (pd_sub (List.sublist_cons_self _ _) hP hD).1
  have hDw : va_D (OA (w.map Prod.fst) s.heap.size) w := ⟨(pd_sub (List.sublist_cons_self _ _) hP hD).2.1, fun _ _ h9 => Or.inl (in_map rfl h9)⟩
  have hsub : ∀ q, OA (w.map Prod.fst) s.heap.size q → OA (o :: w.map Prod.fst) s.heap.size q := OA.mono (fun a h => List.mem_cons_of_mem _ h) (Nat.le_refl _)
  have hZw : ∀ q, OA (w.map Prod.fst) s.heap.size q → z0 ≤ q := fun q hq => hZ q (hsub q hq)
  have hS : va_S (OA (o :: w.map Prod.fst) s.heap.size) s.heap s.heap [] := va_S.rf
  have hl := lv_entry ([.ref x0, .int a1, .int a2, .ref o]) (n := 5) (Nat.le_of_ble_eq_true rfl)
  rw [lg_entry_eq]
  generalize (lg_sl ([.ref x0, .int a1, .int a2, .ref o]) ++ List.replicate (5 - (lg_sl ([.ref x0, .int a1, .int a2, .ref o])).length) Slot.unset).toArray = ls at hl ⊢
  have hl : lv_has ls 5 [(0, .ref x0), (1, .int a1), (2, .int a2), (3, .ref o)] := hl
  refine lv_aload_n hx hb dL_wall_0 rfl (lv_at hl 3 rfl) ?_
  refine lv_iconst (v := nI 0) hx hb dL_wall_1 (by decide) ?_
  refine lv_aload_n hx hb dL_wall_2 rfl (lv_at hl 0 rfl) ?_
  refine lv_iload_n hx hb dL_wall_3 rfl (lv_at hl 1 rfl) ?_
  refine lv_iload_n hx hb dL_wall_4 rfl (lv_at hl 2 rfl) ?_
  rcases hop with ⟨rfl, hu⟩ | ⟨rfl, hu⟩ | ⟨rfl, hu⟩
  · refine call_Q (va_runV (As := [.int a1, .int a2]) (rest := [.int (nI 0), .ref o]) ⟨hx, hb, hml, hown, hts⟩ (hu s.heap.size) (kV hts qw774 qw775 qw776 qw1 qw777 ok_X4_wall ⟨Nat.le_of_ble_eq_true rfl, Nat.le_of_ble_eq_true rfl⟩) ⟨PM.blind, va_recv hK hPw (ci := 5) (q0 := 0) rfl h0, fun U hU hW => ⟨rfl, by rw [hU]; exact hC.warm hW, by rw [hU], by rw [hU]; exact hPw, hDw, hZw⟩⟩ rfl rfl hl.1 rfl (lv_room (Nat.le_of_ble_eq_true rfl)) dL_wall_5 ⟨Nat.le_of_ble_eq_true rfl, Nat.le_of_ble_eq_true rfl⟩) hS hsub (fun w1 H1 locs1 hR1 hP1 hD1 hS hsz1 hk1 => ?_)
    obtain ⟨hP, hD⟩ := frm (wr := [OUT t o f]) rfl hP hD hsub hk1 hP1 hD1
    refine W.widen (k := 5) (n := 70) (by decide) (by decide) ?_
    refine lv_i2l hx hb dL_wall_8 rfl ?_
    refine va_last (ws := OUT t o f :: w1) hx hb hK hP hD hS 0 6 rfl rfl vin01 dL_wall_9 (fun H2 locs2 hP hD hS => ?_)
    refine lv_goto (tgt := 21) hx hb dL_wall_10 (by decide) ?_
    refine lv_iconst (v := nI 0) hx hb dL_wall_21 (by decide) ?_
    exact W.iret hx hb hr (fun t9 ht hW => ⟨(vp_updL f (nI 0).toNatClampNeg v.toInt64, w1), ⟨fun _ => rfl, hR1⟩, rfl, by rw [ht]; exact hP, hD, hS.F ht⟩) hS.2.2 dL_wall_22
  · refine call_XB (vx_runV (As := [.int a1, .int a2]) (rest := [.int (nI 0), .ref o]) ⟨hx, hb, hml, hown, hts⟩ (hu s.heap.size) (kV hts qw774 qw775 qw776 qw1 qw777 ok_X4_wall ⟨Nat.le_of_ble_eq_true rfl, Nat.le_of_ble_eq_true rfl⟩) ⟨PM.blind, va_recv hK hPw (ci := 5) (q0 := 0) rfl h0, fun U hU hW => ⟨rfl, by rw [hU]; exact hC.warm hW, by rw [hU], by rw [hU]; exact hPw, hDw, hZw⟩⟩ rfl rfl hl.1 rfl (lv_room (Nat.le_of_ble_eq_true rfl)) dL_wall_5 ⟨Nat.le_of_ble_eq_true rfl, Nat.le_of_ble_eq_true rfl⟩) hS hsub (fun w1 H1 locs1 q9 ce hR1 hP1 hD1 hS hsz1 hk1 hce hcv hcl => ?_)
    obtain ⟨hP, hD⟩ := frm (wr := [OUT t o f]) rfl hP hD hsub hk1 hP1 hD1
    refine vx_catch (name := "java/lang/IndexOutOfBoundsException") hown [] ⟨0, 10, 13, 18⟩ [⟨0, 10, 17, 20⟩] hxt (fun z hz => nomatch hz) (by decide) (by decide) (hts _ qw749) (va_Nw.use rfl (hC.2.1 _ qw553)) hce hcv hcl ?_
    refine lv_astore (lv' := (4, .ref q9) :: [(0, .ref x0), (1, .int a1), (2, .int a2), (3, .ref o)]) hx hb dL_wall_13 hl (by decide) rfl (fun ls hl => ?_)
    refine W.widen (k := 5) (n := 70) (by decide) (by decide) ?_
    refine lv_iconst (v := nI 1) hx hb dL_wall_15 (by decide) ?_
    exact W.iret hx hb hr (fun t9 ht hW => ⟨(f, w1), ⟨fun z => absurd z (by decide), hR1⟩, rfl, by rw [ht]; exact hP, hD, hS.F ht⟩) hS.2.2 dL_wall_16
  · refine call_XB (vx_runV (As := [.int a1, .int a2]) (rest := [.int (nI 0), .ref o]) ⟨hx, hb, hml, hown, hts⟩ (hu s.heap.size) (kV hts qw774 qw775 qw776 qw1 qw777 ok_X4_wall ⟨Nat.le_of_ble_eq_true rfl, Nat.le_of_ble_eq_true rfl⟩) ⟨PM.blind, va_recv hK hPw (ci := 5) (q0 := 0) rfl h0, fun U hU hW => ⟨rfl, by rw [hU]; exact hC.warm hW, by rw [hU], by rw [hU]; exact hPw, hDw, hZw⟩⟩ rfl rfl hl.1 rfl (lv_room (Nat.le_of_ble_eq_true rfl)) dL_wall_5 ⟨Nat.le_of_ble_eq_true rfl, Nat.le_of_ble_eq_true rfl⟩) hS hsub (fun w1 H1 locs1 q9 ce hR1 hP1 hD1 hS hsz1 hk1 hce hcv hcl => ?_)
    obtain ⟨hP, hD⟩ := frm (wr := [OUT t o f]) rfl hP hD hsub hk1 hP1 hD1
    refine vx_catch (name := "java/lang/IllegalStateException") hown [⟨0, 10, 13, 18⟩] ⟨0, 10, 17, 20⟩ [] hxt (fun z hz => by
      cases List.mem_singleton.mp hz
      exact Or.inr ⟨by decide, IOE, hts _ qw749, hN.2.1⟩) (by decide) (by decide) (hts _ qw750) (va_Nw.use rfl (hC.2.1 _ qw757)) hce hcv hcl ?_
    refine lv_astore (lv' := (4, .ref q9) :: [(0, .ref x0), (1, .int a1), (2, .int a2), (3, .ref o)]) hx hb dL_wall_17 hl (by decide) rfl (fun ls hl => ?_)
    refine W.widen (k := 5) (n := 70) (by decide) (by decide) ?_
    refine lv_iconst (v := nI 2) hx hb dL_wall_19 (by decide) ?_
    exact W.iret hx hb hr (fun t9 ht hW => ⟨(f, w1), ⟨fun z => absurd z (by decide), hR1⟩, rfl, by rw [ht]; exact hP, hD, hS.F ht⟩) hS.2.2 dL_wall_20
abbrev rh_lay : Room := { frames := 11, cells := 5, slots := 70, locals := 364 }
theorem okL_lay : okY yL_lay 5 := ⟨by decide +kernel, by decide +kernel, by decide +kernel⟩
set_option maxHeartbeats 4000000 in
theorem h_lay (l : Launch) (z0 : Nat) (D : va_G) (t : Nat → ClassId) (x0 o : Nat) (f : Nat → Int64) {w : va_W} {R' : va_W → Prop} {v : Int32} {th : Nat} (a1 : Int32) (a2 : Int32) (a3 : Int32) (h0 : ∃ fs, w[0]? = some (x0, .inr (5, fs))) (hth : th ≤ 1) (hop : OPX l yX4_lay cX4_lay 5 rm_X4_lay rx_X4_lay z0 D t x0 [.int a1, .int a2, .int a3] w v th IAE "" 3 40 4 46 R') (sz : Nat) : Met l yL_lay (wh_ yL_lay cL_lay 6 (some .int) [(0, 12, 15, 13)]) rh_lay (PMH z0 D t [.ref x0, .int a1, .int a2, .int a3, .ref o] (OUT t o f :: w) (o :: w.map Prod.fst) sz) (QB (fun _ : (Nat → Int64) × va_W => some (.int (nI th))) D (fun b => OUT t o b.1 :: b.2) (fun b => (th = 0 → b.1 0 = v.toInt64) ∧ R' b.2) (o :: w.map Prod.fst) sz) 5 70 (OA (o :: w.map Prod.fst) sz) := by
  refine met_ofWH (cc := cL_lay) (maxL := 6) (ret := (some .int)) (hh := [(0, 12, 15, 13)]) (by decide) rfl ?_
  intro p e s m args below meth c s₁ Bo hml hxt hv
  obtain ⟨rfl, ⟨hC, hN⟩, hsz, hP, hD, hZ⟩ := hv
  have hx := Bo.exec
  have hb := Bo.bytes
  have hr := Bo.returns
  have hts : ∀ w ∈ LA, w.before _ s = true := fun w hw => atoms_spec (ws := (wh_ yL_lay cL_lay 6 (some .int) [(0, 12, 15, 13)])) Bo.pre w (List.mem_cons_of_mem _ hw)
  have hown : s.vm.findClass RL = some m.cls := findClass_of_methodNamed Bo.named
  have hlocks := Bo.notSynchronized
  have hK := hC.1
  subst hsz
  obtain ⟨fs, h0⟩ := h0
  have hPw := (pd_sub (List.sublist_cons_self _ _) hP hD).1
  have hDw : va_D (OA (w.map Prod.fst) s.heap.size) w := ⟨(pd_sub (List.sublist_cons_self _ _) hP hD).2.1, fun _ _ h9 => Or.inl (in_map rfl h9)⟩
  have hsub : ∀ q, OA (w.map Prod.fst) s.heap.size q → OA (o :: w.map Prod.fst) s.heap.size q := OA.mono (fun a h => List.mem_cons_of_mem _ h) (Nat.le_refl _)
  have hZw : ∀ q, OA (w.map Prod.fst) s.heap.size q → z0 ≤ q := fun q hq => hZ q (hsub q hq)
  have hS : va_S (OA (o :: w.map Prod.fst) s.heap.size) s.heap s.heap [] := va_S.rf
  have hl := lv_entry ([.ref x0, .int a1, .int a2, .int a3, .ref o]) (n := 6) (Nat.le_of_ble_eq_true rfl)
  rw [lg_entry_eq]
  generalize (lg_sl ([.ref x0, .int a1, .int a2, .int a3, .ref o]) ++ List.replicate (6 - (lg_sl ([.ref x0, .int a1, .int a2, .int a3, .ref o])).length) Slot.unset).toArray = ls at hl ⊢
  have hl : lv_has ls 6 [(0, .ref x0), (1, .int a1), (2, .int a2), (3, .int a3), (4, .ref o)] := hl
  refine lv_aload hx hb dL_lay_0 (lv_at hl 4 rfl) ?_
  refine lv_iconst (v := nI 0) hx hb dL_lay_2 (by decide) ?_
  refine lv_aload_n hx hb dL_lay_3 rfl (lv_at hl 0 rfl) ?_
  refine lv_iload_n hx hb dL_lay_4 rfl (lv_at hl 1 rfl) ?_
  refine lv_iload_n hx hb dL_lay_5 rfl (lv_at hl 2 rfl) ?_
  refine lv_iload_n hx hb dL_lay_6 rfl (lv_at hl 3 rfl) ?_
  rcases hop with ⟨rfl, hu⟩ | ⟨rfl, hu⟩ | ⟨rfl, hu⟩
  · refine call_Q (va_runV (As := [.int a1, .int a2, .int a3]) (rest := [.int (nI 0), .ref o]) ⟨hx, hb, hml, hown, hts⟩ (hu s.heap.size) (kV hts qw782 qw783 qw784 qw1 qw785 ok_X4_lay ⟨Nat.le_of_ble_eq_true rfl, Nat.le_of_ble_eq_true rfl⟩) ⟨PM.blind, va_recv hK hPw (ci := 5) (q0 := 0) rfl h0, fun U hU hW => ⟨rfl, by rw [hU]; exact hC.warm hW, by rw [hU], by rw [hU]; exact hPw, hDw, hZw⟩⟩ rfl rfl hl.1 rfl (lv_room (Nat.le_of_ble_eq_true rfl)) dL_lay_7 ⟨Nat.le_of_ble_eq_true rfl, Nat.le_of_ble_eq_true rfl⟩) hS hsub (fun w1 H1 locs1 hR1 hP1 hD1 hS hsz1 hk1 => ?_)
    obtain ⟨hP, hD⟩ := frm (wr := [OUT t o f]) rfl hP hD hsub hk1 hP1 hD1
    refine W.widen (k := 5) (n := 70) (by decide) (by decide) ?_
    refine lv_i2l hx hb dL_lay_10 rfl ?_
    refine va_last (ws := OUT t o f :: w1) hx hb hK hP hD hS 0 6 rfl rfl vin01 dL_lay_11 (fun H2 locs2 hP hD hS => ?_)
    refine lv_goto (tgt := 19) hx hb dL_lay_12 (by decide) ?_
    refine lv_iconst (v := nI 0) hx hb dL_lay_19 (by decide) ?_
    exact W.iret hx hb hr (fun t9 ht hW => ⟨(vp_updL f (nI 0).toNatClampNeg v.toInt64, w1), ⟨fun _ => rfl, hR1⟩, rfl, by rw [ht]; exact hP, hD, hS.F ht⟩) hS.2.2 dL_lay_20
  · refine call_XB (vx_runV (As := [.int a1, .int a2, .int a3]) (rest := [.int (nI 0), .ref o]) ⟨hx, hb, hml, hown, hts⟩ (hu s.heap.size) (kV hts qw782 qw783 qw784 qw1 qw785 ok_X4_lay ⟨Nat.le_of_ble_eq_true rfl, Nat.le_of_ble_eq_true rfl⟩) ⟨PM.blind, va_recv hK hPw (ci := 5) (q0 := 0) rfl h0, fun U hU hW => ⟨rfl, by rw [hU]; exact hC.warm hW, by rw [hU], by rw [hU]; exact hPw, hDw, hZw⟩⟩ rfl rfl hl.1 rfl (lv_room (Nat.le_of_ble_eq_true rfl)) dL_lay_7 ⟨Nat.le_of_ble_eq_true rfl, Nat.le_of_ble_eq_true rfl⟩) hS hsub (fun w1 H1 locs1 q9 ce hR1 hP1 hD1 hS hsz1 hk1 hce hcv hcl => ?_)
    obtain ⟨hP, hD⟩ := frm (wr := [OUT t o f]) rfl hP hD hsub hk1 hP1 hD1
    refine vx_catch (name := "java/lang/IllegalArgumentException") hown [] ⟨0, 12, 15, 13⟩ [] hxt (fun z hz => nomatch hz) (by decide) (by decide) (hts _ qw653) (va_Nw.use rfl (hC.2.1 _ qw473)) hce hcv hcl ?_
    refine lv_astore (lv' := (5, .ref q9) :: [(0, .ref x0), (1, .int a1), (2, .int a2), (3, .int a3), (4, .ref o)]) hx hb dL_lay_15 hl (by decide) rfl (fun ls hl => ?_)
    refine W.widen (k := 5) (n := 70) (by decide) (by decide) ?_
    refine lv_iconst (v := nI 1) hx hb dL_lay_17 (by decide) ?_
    exact W.iret hx hb hr (fun t9 ht hW => ⟨(f, w1), ⟨fun z => absurd z (by decide), hR1⟩, rfl, by rw [ht]; exact hP, hD, hS.F ht⟩) hS.2.2 dL_lay_18
  · omega
abbrev rh_lift : Room := { frames := 11, cells := 5, slots := 70, locals := 363 }
theorem okL_lift : okY yL_lift 4 := ⟨by decide +kernel, by decide +kernel, by decide +kernel⟩
set_option maxHeartbeats 4000000 in
theorem h_lift (l : Launch) (z0 : Nat) (D : va_G) (t : Nat → ClassId) (x0 o : Nat) (f : Nat → Int64) {w : va_W} {R' : va_W → Prop} {v : Int32} {th : Nat} (a1 : Int32) (a2 : Int32) (h0 : ∃ fs, w[0]? = some (x0, .inr (5, fs))) (hth : th ≤ 2) (hop : OPX l yX4_lift cX4_lift 4 rm_X4_lift rx_X4_lift z0 D t x0 [.int a1, .int a2] w v th IOE ISE 3 40 4 46 R') (sz : Nat) : Met l yL_lift (wh_ yL_lift cL_lift 5 (some .int) [(0, 10, 13, 18), (0, 10, 17, 20)]) rh_lift (PMH z0 D t [.ref x0, .int a1, .int a2, .ref o] (OUT t o f :: w) (o :: w.map Prod.fst) sz) (QB (fun _ : (Nat → Int64) × va_W => some (.int (nI th))) D (fun b => OUT t o b.1 :: b.2) (fun b => (th = 0 → b.1 0 = v.toInt64) ∧ R' b.2) (o :: w.map Prod.fst) sz) 5 70 (OA (o :: w.map Prod.fst) sz) := by
  refine met_ofWH (cc := cL_lift) (maxL := 5) (ret := (some .int)) (hh := [(0, 10, 13, 18), (0, 10, 17, 20)]) (by decide) rfl ?_
  intro p e s m args below meth c s₁ Bo hml hxt hv
  obtain ⟨rfl, ⟨hC, hN⟩, hsz, hP, hD, hZ⟩ := hv
  have hx := Bo.exec
  have hb := Bo.bytes
  have hr := Bo.returns
  have hts : ∀ w ∈ LA, w.before _ s = true := fun w hw => atoms_spec (ws := (wh_ yL_lift cL_lift 5 (some .int) [(0, 10, 13, 18), (0, 10, 17, 20)])) Bo.pre w (List.mem_cons_of_mem _ hw)
  have hown : s.vm.findClass RL = some m.cls := findClass_of_methodNamed Bo.named
  have hlocks := Bo.notSynchronized
  have hK := hC.1
  subst hsz
  obtain ⟨fs, h0⟩ := h0
  have hPw := (pd_sub (List.sublist_cons_self _ _) hP hD).1
  have hDw : va_D (OA (w.map Prod.fst) s.heap.size) w := ⟨(pd_sub (List.sublist_cons_self _ _) hP hD).2.1, fun _ _ h9 => Or.inl (in_map rfl h9)⟩
  have hsub : ∀ q, OA (w.map Prod.fst) s.heap.size q → OA (o :: w.map Prod.fst) s.heap.size q := OA.mono (fun a h => List.mem_cons_of_mem _ h) (Nat.le_refl _)
  have hZw : ∀ q, OA (w.map Prod.fst) s.heap.size q → z0 ≤ q := fun q hq => hZ q (hsub q hq)
  have hS : va_S (OA (o :: w.map Prod.fst) s.heap.size) s.heap s.heap [] := va_S.rf
  have hl := lv_entry ([.ref x0, .int a1, .int a2, .ref o]) (n := 5) (Nat.le_of_ble_eq_true rfl)
  rw [lg_entry_eq]
  generalize (lg_sl ([.ref x0, .int a1, .int a2, .ref o]) ++ List.replicate (5 - (lg_sl ([.ref x0, .int a1, .int a2, .ref o])).length) Slot.unset).toArray = ls at hl ⊢
  have hl : lv_has ls 5 [(0, .ref x0), (1, .int a1), (2, .int a2), (3, .ref o)] := hl
  refine lv_aload_n hx hb dL_lift_0 rfl (lv_at hl 3 rfl) ?_
  refine lv_iconst (v := nI 0) hx hb dL_lift_1 (by decide) ?_
  refine lv_aload_n hx hb dL_lift_2 rfl (lv_at hl 0 rfl) ?_
  refine lv_iload_n hx hb dL_lift_3 rfl (lv_at hl 1 rfl) ?_
  refine lv_iload_n hx hb dL_lift_4 rfl (lv_at hl 2 rfl) ?_
  rcases hop with ⟨rfl, hu⟩ | ⟨rfl, hu⟩ | ⟨rfl, hu⟩
  · refine call_Q (va_runV (As := [.int a1, .int a2]) (rest := [.int (nI 0), .ref o]) ⟨hx, hb, hml, hown, hts⟩ (hu s.heap.size) (kV hts qw793 qw794 qw795 qw1 qw796 ok_X4_lift ⟨Nat.le_of_ble_eq_true rfl, Nat.le_of_ble_eq_true rfl⟩) ⟨PM.blind, va_recv hK hPw (ci := 5) (q0 := 0) rfl h0, fun U hU hW => ⟨rfl, by rw [hU]; exact hC.warm hW, by rw [hU], by rw [hU]; exact hPw, hDw, hZw⟩⟩ rfl rfl hl.1 rfl (lv_room (Nat.le_of_ble_eq_true rfl)) dL_lift_5 ⟨Nat.le_of_ble_eq_true rfl, Nat.le_of_ble_eq_true rfl⟩) hS hsub (fun w1 H1 locs1 hR1 hP1 hD1 hS hsz1 hk1 => ?_)
    obtain ⟨hP, hD⟩ := frm (wr := [OUT t o f]) rfl hP hD hsub hk1 hP1 hD1
    refine W.widen (k := 5) (n := 70) (by decide) (by decide) ?_
    refine lv_i2l hx hb dL_lift_8 rfl ?_
    refine va_last (ws := OUT t o f :: w1) hx hb hK hP hD hS 0 6 rfl rfl vin01 dL_lift_9 (fun H2 locs2 hP hD hS => ?_)
    refine lv_goto (tgt := 21) hx hb dL_lift_10 (by decide) ?_
    refine lv_iconst (v := nI 0) hx hb dL_lift_21 (by decide) ?_
    exact W.iret hx hb hr (fun t9 ht hW => ⟨(vp_updL f (nI 0).toNatClampNeg v.toInt64, w1), ⟨fun _ => rfl, hR1⟩, rfl, by rw [ht]; exact hP, hD, hS.F ht⟩) hS.2.2 dL_lift_22
  · refine call_XB (vx_runV (As := [.int a1, .int a2]) (rest := [.int (nI 0), .ref o]) ⟨hx, hb, hml, hown, hts⟩ (hu s.heap.size) (kV hts qw793 qw794 qw795 qw1 qw796 ok_X4_lift ⟨Nat.le_of_ble_eq_true rfl, Nat.le_of_ble_eq_true rfl⟩) ⟨PM.blind, va_recv hK hPw (ci := 5) (q0 := 0) rfl h0, fun U hU hW => ⟨rfl, by rw [hU]; exact hC.warm hW, by rw [hU], by rw [hU]; exact hPw, hDw, hZw⟩⟩ rfl rfl hl.1 rfl (lv_room (Nat.le_of_ble_eq_true rfl)) dL_lift_5 ⟨Nat.le_of_ble_eq_true rfl, Nat.le_of_ble_eq_true rfl⟩) hS hsub (fun w1 H1 locs1 q9 ce hR1 hP1 hD1 hS hsz1 hk1 hce hcv hcl => ?_)
    obtain ⟨hP, hD⟩ := frm (wr := [OUT t o f]) rfl hP hD hsub hk1 hP1 hD1
    refine vx_catch (name := "java/lang/IndexOutOfBoundsException") hown [] ⟨0, 10, 13, 18⟩ [⟨0, 10, 17, 20⟩] hxt (fun z hz => nomatch hz) (by decide) (by decide) (hts _ qw749) (va_Nw.use rfl (hC.2.1 _ qw553)) hce hcv hcl ?_
    refine lv_astore (lv' := (4, .ref q9) :: [(0, .ref x0), (1, .int a1), (2, .int a2), (3, .ref o)]) hx hb dL_lift_13 hl (by decide) rfl (fun ls hl => ?_)
    refine W.widen (k := 5) (n := 70) (by decide) (by decide) ?_
    refine lv_iconst (v := nI 1) hx hb dL_lift_15 (by decide) ?_
    exact W.iret hx hb hr (fun t9 ht hW => ⟨(f, w1), ⟨fun z => absurd z (by decide), hR1⟩, rfl, by rw [ht]; exact hP, hD, hS.F ht⟩) hS.2.2 dL_lift_16
  · refine call_XB (vx_runV (As := [.int a1, .int a2]) (rest := [.int (nI 0), .ref o]) ⟨hx, hb, hml, hown, hts⟩ (hu s.heap.size) (kV hts qw793 qw794 qw795 qw1 qw796 ok_X4_lift ⟨Nat.le_of_ble_eq_true rfl, Nat.le_of_ble_eq_true rfl⟩) ⟨PM.blind, va_recv hK hPw (ci := 5) (q0 := 0) rfl h0, fun U hU hW => ⟨rfl, by rw [hU]; exact hC.warm hW, by rw [hU], by rw [hU]; exact hPw, hDw, hZw⟩⟩ rfl rfl hl.1 rfl (lv_room (Nat.le_of_ble_eq_true rfl)) dL_lift_5 ⟨Nat.le_of_ble_eq_true rfl, Nat.le_of_ble_eq_true rfl⟩) hS hsub (fun w1 H1 locs1 q9 ce hR1 hP1 hD1 hS hsz1 hk1 hce hcv hcl => ?_)
    obtain ⟨hP, hD⟩ := frm (wr := [OUT t o f]) rfl hP hD hsub hk1 hP1 hD1
    refine vx_catch (name := "java/lang/IllegalStateException") hown [⟨0, 10, 13, 18⟩] ⟨0, 10, 17, 20⟩ [] hxt (fun z hz => by
      cases List.mem_singleton.mp hz
      exact Or.inr ⟨by decide, IOE, hts _ qw749, hN.2.1⟩) (by decide) (by decide) (hts _ qw750) (va_Nw.use rfl (hC.2.1 _ qw757)) hce hcv hcl ?_
    refine lv_astore (lv' := (4, .ref q9) :: [(0, .ref x0), (1, .int a1), (2, .int a2), (3, .ref o)]) hx hb dL_lift_17 hl (by decide) rfl (fun ls hl => ?_)
    refine W.widen (k := 5) (n := 70) (by decide) (by decide) ?_
    refine lv_iconst (v := nI 2) hx hb dL_lift_19 (by decide) ?_
    exact W.iret hx hb hr (fun t9 ht hW => ⟨(f, w1), ⟨fun z => absurd z (by decide), hR1⟩, rfl, by rw [ht]; exact hP, hD, hS.F ht⟩) hS.2.2 dL_lift_20
abbrev rh_flip : Room := { frames := 11, cells := 5, slots := 70, locals := 363 }
theorem okL_flip : okY yL_flip 5 := ⟨by decide +kernel, by decide +kernel, by decide +kernel⟩
set_option maxHeartbeats 4000000 in
theorem h_flip (l : Launch) (z0 : Nat) (D : va_G) (t : Nat → ClassId) (x0 o : Nat) (f : Nat → Int64) {w : va_W} {R' : va_W → Prop} {v : Int32} {th : Nat} (a1 : Int32) (a2 : Int32) (a3 : Int32) (h0 : ∃ fs, w[0]? = some (x0, .inr (5, fs))) (hth : th ≤ 2) (hop : OPX l yX4_flip cX4_flip 4 rm_X4_flip rx_X4_flip z0 D t x0 [.int a1, .int a2, .int a3] w v th IOE ISE 3 40 4 46 R') (sz : Nat) : Met l yL_flip (wh_ yL_flip cL_flip 6 (some .int) [(0, 12, 15, 18), (0, 12, 19, 20)]) rh_flip (PMH z0 D t [.ref x0, .int a1, .int a2, .int a3, .ref o] (OUT t o f :: w) (o :: w.map Prod.fst) sz) (QB (fun _ : (Nat → Int64) × va_W => some (.int (nI th))) D (fun b => OUT t o b.1 :: b.2) (fun b => (th = 0 → b.1 0 = v.toInt64) ∧ R' b.2) (o :: w.map Prod.fst) sz) 5 70 (OA (o :: w.map Prod.fst) sz) := by
  refine met_ofWH (cc := cL_flip) (maxL := 6) (ret := (some .int)) (hh := [(0, 12, 15, 18), (0, 12, 19, 20)]) (by decide) rfl ?_
  intro p e s m args below meth c s₁ Bo hml hxt hv
  obtain ⟨rfl, ⟨hC, hN⟩, hsz, hP, hD, hZ⟩ := hv
  have hx := Bo.exec
  have hb := Bo.bytes
  have hr := Bo.returns
  have hts : ∀ w ∈ LA, w.before _ s = true := fun w hw => atoms_spec (ws := (wh_ yL_flip cL_flip 6 (some .int) [(0, 12, 15, 18), (0, 12, 19, 20)])) Bo.pre w (List.mem_cons_of_mem _ hw)
  have hown : s.vm.findClass RL = some m.cls := findClass_of_methodNamed Bo.named
  have hlocks := Bo.notSynchronized
  have hK := hC.1
  subst hsz
  obtain ⟨fs, h0⟩ := h0
  have hPw := (pd_sub (List.sublist_cons_self _ _) hP hD).1
  have hDw : va_D (OA (w.map Prod.fst) s.heap.size) w := ⟨(pd_sub (List.sublist_cons_self _ _) hP hD).2.1, fun _ _ h9 => Or.inl (in_map rfl h9)⟩
  have hsub : ∀ q, OA (w.map Prod.fst) s.heap.size q → OA (o :: w.map Prod.fst) s.heap.size q := OA.mono (fun a h => List.mem_cons_of_mem _ h) (Nat.le_refl _)
  have hZw : ∀ q, OA (w.map Prod.fst) s.heap.size q → z0 ≤ q := fun q hq => hZ q (hsub q hq)
  have hS : va_S (OA (o :: w.map Prod.fst) s.heap.size) s.heap s.heap [] := va_S.rf
  have hl := lv_entry ([.ref x0, .int a1, .int a2, .int a3, .ref o]) (n := 6) (Nat.le_of_ble_eq_true rfl)
  rw [lg_entry_eq]
  generalize (lg_sl ([.ref x0, .int a1, .int a2, .int a3, .ref o]) ++ List.replicate (6 - (lg_sl ([.ref x0, .int a1, .int a2, .int a3, .ref o])).length) Slot.unset).toArray = ls at hl ⊢
  have hl : lv_has ls 6 [(0, .ref x0), (1, .int a1), (2, .int a2), (3, .int a3), (4, .ref o)] := hl
  refine lv_aload hx hb dL_flip_0 (lv_at hl 4 rfl) ?_
  refine lv_iconst (v := nI 0) hx hb dL_flip_2 (by decide) ?_
  refine lv_aload_n hx hb dL_flip_3 rfl (lv_at hl 0 rfl) ?_
  refine lv_iload_n hx hb dL_flip_4 rfl (lv_at hl 1 rfl) ?_
  refine lv_iload_n hx hb dL_flip_5 rfl (lv_at hl 2 rfl) ?_
  refine lv_iload_n hx hb dL_flip_6 rfl (lv_at hl 3 rfl) ?_
  rcases hop with ⟨rfl, hu⟩ | ⟨rfl, hu⟩ | ⟨rfl, hu⟩
  · refine call_Q (va_runV (As := [.int a1, .int a2, .int a3]) (rest := [.int (nI 0), .ref o]) ⟨hx, hb, hml, hown, hts⟩ (hu s.heap.size) (kV hts qw805 qw806 qw807 qw1 qw808 ok_X4_flip ⟨Nat.le_of_ble_eq_true rfl, Nat.le_of_ble_eq_true rfl⟩) ⟨PM.blind, va_recv hK hPw (ci := 5) (q0 := 0) rfl h0, fun U hU hW => ⟨rfl, by rw [hU]; exact hC.warm hW, by rw [hU], by rw [hU]; exact hPw, hDw, hZw⟩⟩ rfl rfl hl.1 rfl (lv_room (Nat.le_of_ble_eq_true rfl)) dL_flip_7 ⟨Nat.le_of_ble_eq_true rfl, Nat.le_of_ble_eq_true rfl⟩) hS hsub (fun w1 H1 locs1 hR1 hP1 hD1 hS hsz1 hk1 => ?_)
    obtain ⟨hP, hD⟩ := frm (wr := [OUT t o f]) rfl hP hD hsub hk1 hP1 hD1
    refine W.widen (k := 5) (n := 70) (by decide) (by decide) ?_
    refine lv_i2l hx hb dL_flip_10 rfl ?_
    refine va_last (ws := OUT t o f :: w1) hx hb hK hP hD hS 0 6 rfl rfl vin01 dL_flip_11 (fun H2 locs2 hP hD hS => ?_)
    refine lv_goto (tgt := 23) hx hb dL_flip_12 (by decide) ?_
    refine lv_iconst (v := nI 0) hx hb dL_flip_23 (by decide) ?_
    exact W.iret hx hb hr (fun t9 ht hW => ⟨(vp_updL f (nI 0).toNatClampNeg v.toInt64, w1), ⟨fun _ => rfl, hR1⟩, rfl, by rw [ht]; exact hP, hD, hS.F ht⟩) hS.2.2 dL_flip_24
  · refine call_XB (vx_runV (As := [.int a1, .int a2, .int a3]) (rest := [.int (nI 0), .ref o]) ⟨hx, hb, hml, hown, hts⟩ (hu s.heap.size) (kV hts qw805 qw806 qw807 qw1 qw808 ok_X4_flip ⟨Nat.le_of_ble_eq_true rfl, Nat.le_of_ble_eq_true rfl⟩) ⟨PM.blind, va_recv hK hPw (ci := 5) (q0 := 0) rfl h0, fun U hU hW => ⟨rfl, by rw [hU]; exact hC.warm hW, by rw [hU], by rw [hU]; exact hPw, hDw, hZw⟩⟩ rfl rfl hl.1 rfl (lv_room (Nat.le_of_ble_eq_true rfl)) dL_flip_7 ⟨Nat.le_of_ble_eq_true rfl, Nat.le_of_ble_eq_true rfl⟩) hS hsub (fun w1 H1 locs1 q9 ce hR1 hP1 hD1 hS hsz1 hk1 hce hcv hcl => ?_)
    obtain ⟨hP, hD⟩ := frm (wr := [OUT t o f]) rfl hP hD hsub hk1 hP1 hD1
    refine vx_catch (name := "java/lang/IndexOutOfBoundsException") hown [] ⟨0, 12, 15, 18⟩ [⟨0, 12, 19, 20⟩] hxt (fun z hz => nomatch hz) (by decide) (by decide) (hts _ qw749) (va_Nw.use rfl (hC.2.1 _ qw553)) hce hcv hcl ?_
    refine lv_astore (lv' := (5, .ref q9) :: [(0, .ref x0), (1, .int a1), (2, .int a2), (3, .int a3), (4, .ref o)]) hx hb dL_flip_15 hl (by decide) rfl (fun ls hl => ?_)
    refine W.widen (k := 5) (n := 70) (by decide) (by decide) ?_
    refine lv_iconst (v := nI 1) hx hb dL_flip_17 (by decide) ?_
    exact W.iret hx hb hr (fun t9 ht hW => ⟨(f, w1), ⟨fun z => absurd z (by decide), hR1⟩, rfl, by rw [ht]; exact hP, hD, hS.F ht⟩) hS.2.2 dL_flip_18
  · refine call_XB (vx_runV (As := [.int a1, .int a2, .int a3]) (rest := [.int (nI 0), .ref o]) ⟨hx, hb, hml, hown, hts⟩ (hu s.heap.size) (kV hts qw805 qw806 qw807 qw1 qw808 ok_X4_flip ⟨Nat.le_of_ble_eq_true rfl, Nat.le_of_ble_eq_true rfl⟩) ⟨PM.blind, va_recv hK hPw (ci := 5) (q0 := 0) rfl h0, fun U hU hW => ⟨rfl, by rw [hU]; exact hC.warm hW, by rw [hU], by rw [hU]; exact hPw, hDw, hZw⟩⟩ rfl rfl hl.1 rfl (lv_room (Nat.le_of_ble_eq_true rfl)) dL_flip_7 ⟨Nat.le_of_ble_eq_true rfl, Nat.le_of_ble_eq_true rfl⟩) hS hsub (fun w1 H1 locs1 q9 ce hR1 hP1 hD1 hS hsz1 hk1 hce hcv hcl => ?_)
    obtain ⟨hP, hD⟩ := frm (wr := [OUT t o f]) rfl hP hD hsub hk1 hP1 hD1
    refine vx_catch (name := "java/lang/IllegalStateException") hown [⟨0, 12, 15, 18⟩] ⟨0, 12, 19, 20⟩ [] hxt (fun z hz => by
      cases List.mem_singleton.mp hz
      exact Or.inr ⟨by decide, IOE, hts _ qw749, hN.2.1⟩) (by decide) (by decide) (hts _ qw750) (va_Nw.use rfl (hC.2.1 _ qw757)) hce hcv hcl ?_
    refine lv_astore (lv' := (5, .ref q9) :: [(0, .ref x0), (1, .int a1), (2, .int a2), (3, .int a3), (4, .ref o)]) hx hb dL_flip_19 hl (by decide) rfl (fun ls hl => ?_)
    refine W.widen (k := 5) (n := 70) (by decide) (by decide) ?_
    refine lv_iconst (v := nI 2) hx hb dL_flip_21 (by decide) ?_
    exact W.iret hx hb hr (fun t9 ht hW => ⟨(f, w1), ⟨fun z => absurd z (by decide), hR1⟩, rfl, by rw [ht]; exact hP, hD, hS.F ht⟩) hS.2.2 dL_flip_22
abbrev rh_fill : Room := { frames := 11, cells := 5, slots := 70, locals := 361 }
theorem okL_fill : okY yL_fill 2 := ⟨by decide +kernel, by decide +kernel, by decide +kernel⟩
set_option maxHeartbeats 4000000 in
theorem h_fill (l : Launch) (z0 : Nat) (D : va_G) (t : Nat → ClassId) (x0 o : Nat) (f : Nat → Int64) {w : va_W} {R' : va_W → Prop} {v : Int32} {th : Nat} (h0 : ∃ fs, w[0]? = some (x0, .inr (5, fs))) (hth : th ≤ 1) (hop : OPX l yX4_fill cX4_fill 2 rm_X4_fill rx_X4_fill z0 D t x0 [] w v th ISE "" 3 40 4 46 R') (sz : Nat) : Met l yL_fill (wh_ yL_fill cL_fill 3 (some .int) [(0, 8, 11, 20)]) rh_fill (PMH z0 D t [.ref x0, .ref o] (OUT t o f :: w) (o :: w.map Prod.fst) sz) (QB (fun _ : (Nat → Int64) × va_W => some (.int (nI th))) D (fun b => OUT t o b.1 :: b.2) (fun b => (th = 0 → b.1 0 = v.toInt64) ∧ R' b.2) (o :: w.map Prod.fst) sz) 5 70 (OA (o :: w.map Prod.fst) sz) := by
  refine met_ofWH (cc := cL_fill) (maxL := 3) (ret := (some .int)) (hh := [(0, 8, 11, 20)]) (by decide) rfl ?_
  intro p e s m args below meth c s₁ Bo hml hxt hv
  obtain ⟨rfl, ⟨hC, hN⟩, hsz, hP, hD, hZ⟩ := hv
  have hx := Bo.exec
  have hb := Bo.bytes
  have hr := Bo.returns
  have hts : ∀ w ∈ LA, w.before _ s = true := fun w hw => atoms_spec (ws := (wh_ yL_fill cL_fill 3 (some .int) [(0, 8, 11, 20)])) Bo.pre w (List.mem_cons_of_mem _ hw)
  have hown : s.vm.findClass RL = some m.cls := findClass_of_methodNamed Bo.named
  have hlocks := Bo.notSynchronized
  have hK := hC.1
  subst hsz
  obtain ⟨fs, h0⟩ := h0
  have hPw := (pd_sub (List.sublist_cons_self _ _) hP hD).1
  have hDw : va_D (OA (w.map Prod.fst) s.heap.size) w := ⟨(pd_sub (List.sublist_cons_self _ _) hP hD).2.1, fun _ _ h9 => Or.inl (in_map rfl h9)⟩
  have hsub : ∀ q, OA (w.map Prod.fst) s.heap.size q → OA (o :: w.map Prod.fst) s.heap.size q := OA.mono (fun a h => List.mem_cons_of_mem _ h) (Nat.le_refl _)
  have hZw : ∀ q, OA (w.map Prod.fst) s.heap.size q → z0 ≤ q := fun q hq => hZ q (hsub q hq)
  have hS : va_S (OA (o :: w.map Prod.fst) s.heap.size) s.heap s.heap [] := va_S.rf
  have hl := lv_entry ([.ref x0, .ref o]) (n := 3) (Nat.le_of_ble_eq_true rfl)
  rw [lg_entry_eq]
  generalize (lg_sl ([.ref x0, .ref o]) ++ List.replicate (3 - (lg_sl ([.ref x0, .ref o])).length) Slot.unset).toArray = ls at hl ⊢
  have hl : lv_has ls 3 [(0, .ref x0), (1, .ref o)] := hl
  refine lv_aload_n hx hb dL_fill_0 rfl (lv_at hl 1 rfl) ?_
  refine lv_iconst (v := nI 0) hx hb dL_fill_1 (by decide) ?_
  refine lv_aload_n hx hb dL_fill_2 rfl (lv_at hl 0 rfl) ?_
  rcases hop with ⟨rfl, hu⟩ | ⟨rfl, hu⟩ | ⟨rfl, hu⟩
  · refine call_Q (va_runV (As := []) (rest := [.int (nI 0), .ref o]) ⟨hx, hb, hml, hown, hts⟩ (hu s.heap.size) (kV hts qw824 qw825 qw826 qw1 qw827 ok_X4_fill ⟨Nat.le_of_ble_eq_true rfl, Nat.le_of_ble_eq_true rfl⟩) ⟨PM.blind, va_recv hK hPw (ci := 5) (q0 := 0) rfl h0, fun U hU hW => ⟨rfl, by rw [hU]; exact hC.warm hW, by rw [hU], by rw [hU]; exact hPw, hDw, hZw⟩⟩ rfl rfl hl.1 rfl (lv_room (Nat.le_of_ble_eq_true rfl)) dL_fill_3 ⟨Nat.le_of_ble_eq_true rfl, Nat.le_of_ble_eq_true rfl⟩) hS hsub (fun w1 H1 locs1 hR1 hP1 hD1 hS hsz1 hk1 => ?_)
    obtain ⟨hP, hD⟩ := frm (wr := [OUT t o f]) rfl hP hD hsub hk1 hP1 hD1
    refine W.widen (k := 5) (n := 70) (by decide) (by decide) ?_
    refine lv_i2l hx hb dL_fill_6 rfl ?_
    refine va_last (ws := OUT t o f :: w1) hx hb hK hP hD hS 0 6 rfl rfl vin01 dL_fill_7 (fun H2 locs2 hP hD hS => ?_)
    refine lv_goto (tgt := 14) hx hb dL_fill_8 (by decide) ?_
    refine lv_iconst (v := nI 0) hx hb dL_fill_14 (by decide) ?_
    exact W.iret hx hb hr (fun t9 ht hW => ⟨(vp_updL f (nI 0).toNatClampNeg v.toInt64, w1), ⟨fun _ => rfl, hR1⟩, rfl, by rw [ht]; exact hP, hD, hS.F ht⟩) hS.2.2 dL_fill_15
  · refine call_XB (vx_runV (As := []) (rest := [.int (nI 0), .ref o]) ⟨hx, hb, hml, hown, hts⟩ (hu s.heap.size) (kV hts qw824 qw825 qw826 qw1 qw827 ok_X4_fill ⟨Nat.le_of_ble_eq_true rfl, Nat.le_of_ble_eq_true rfl⟩) ⟨PM.blind, va_recv hK hPw (ci := 5) (q0 := 0) rfl h0, fun U hU hW => ⟨rfl, by rw [hU]; exact hC.warm hW, by rw [hU], by rw [hU]; exact hPw, hDw, hZw⟩⟩ rfl rfl hl.1 rfl (lv_room (Nat.le_of_ble_eq_true rfl)) dL_fill_3 ⟨Nat.le_of_ble_eq_true rfl, Nat.le_of_ble_eq_true rfl⟩) hS hsub (fun w1 H1 locs1 q9 ce hR1 hP1 hD1 hS hsz1 hk1 hce hcv hcl => ?_)
    obtain ⟨hP, hD⟩ := frm (wr := [OUT t o f]) rfl hP hD hsub hk1 hP1 hD1
    refine vx_catch (name := "java/lang/IllegalStateException") hown [] ⟨0, 8, 11, 20⟩ [] hxt (fun z hz => nomatch hz) (by decide) (by decide) (hts _ qw750) (va_Nw.use rfl (hC.2.1 _ qw757)) hce hcv hcl ?_
    refine lv_astore_n (lv' := (2, .ref q9) :: [(0, .ref x0), (1, .ref o)]) hx hb dL_fill_11 rfl hl (by decide) rfl (fun ls hl => ?_)
    refine W.widen (k := 5) (n := 70) (by decide) (by decide) ?_
    refine lv_iconst (v := nI 1) hx hb dL_fill_12 (by decide) ?_
    exact W.iret hx hb hr (fun t9 ht hW => ⟨(f, w1), ⟨fun z => absurd z (by decide), hR1⟩, rfl, by rw [ht]; exact hP, hD, hS.F ht⟩) hS.2.2 dL_fill_13
  · omega
abbrev rh_halve : Room := { frames := 11, cells := 5, slots := 70, locals := 360 }
theorem okL_halve : okY yL_halve 2 := ⟨by decide +kernel, by decide +kernel, by decide +kernel⟩
set_option maxHeartbeats 4000000 in
theorem h_halve (l : Launch) (z0 : Nat) (D : va_G) (t : Nat → ClassId) (x0 o : Nat) (f : Nat → Int64) {w : va_W} {R' : va_W → Prop} {v : Int32} {th : Nat} (h0 : ∃ fs, w[0]? = some (x0, .inr (5, fs))) (hth : th ≤ 1) (hop : OPX l yX4_halve cX4_halve 1 rm_X4_halve rx_X4_halve z0 D t x0 [] w v th ISE "" 3 40 4 46 R') (sz : Nat) : Met l yL_halve (wh_ yL_halve cL_halve 3 (some .int) [(0, 8, 11, 20)]) rh_halve (PMH z0 D t [.ref x0, .ref o] (OUT t o f :: w) (o :: w.map Prod.fst) sz) (QB (fun _ : (Nat → Int64) × va_W => some (.int (nI th))) D (fun b => OUT t o b.1 :: b.2) (fun b => (th = 0 → b.1 0 = v.toInt64) ∧ R' b.2) (o :: w.map Prod.fst) sz) 5 70 (OA (o :: w.map Prod.fst) sz) := by
  refine met_ofWH (cc := cL_halve) (maxL := 3) (ret := (some .int)) (hh := [(0, 8, 11, 20)]) (by decide) rfl ?_
  intro p e s m args below meth c s₁ Bo hml hxt hv
  obtain ⟨rfl, ⟨hC, hN⟩, hsz, hP, hD, hZ⟩ := hv
  have hx := Bo.exec
  have hb := Bo.bytes
  have hr := Bo.returns
  have hts : ∀ w ∈ LA, w.before _ s = true := fun w hw => atoms_spec (ws := (wh_ yL_halve cL_halve 3 (some .int) [(0, 8, 11, 20)])) Bo.pre w (List.mem_cons_of_mem _ hw)
  have hown : s.vm.findClass RL = some m.cls := findClass_of_methodNamed Bo.named
  have hlocks := Bo.notSynchronized
  have hK := hC.1
  subst hsz
  obtain ⟨fs, h0⟩ := h0
  have hPw := (pd_sub (List.sublist_cons_self _ _) hP hD).1
  have hDw : va_D (OA (w.map Prod.fst) s.heap.size) w := ⟨(pd_sub (List.sublist_cons_self _ _) hP hD).2.1, fun _ _ h9 => Or.inl (in_map rfl h9)⟩
  have hsub : ∀ q, OA (w.map Prod.fst) s.heap.size q → OA (o :: w.map Prod.fst) s.heap.size q := OA.mono (fun a h => List.mem_cons_of_mem _ h) (Nat.le_refl _)
  have hZw : ∀ q, OA (w.map Prod.fst) s.heap.size q → z0 ≤ q := fun q hq => hZ q (hsub q hq)
  have hS : va_S (OA (o :: w.map Prod.fst) s.heap.size) s.heap s.heap [] := va_S.rf
  have hl := lv_entry ([.ref x0, .ref o]) (n := 3) (Nat.le_of_ble_eq_true rfl)
  rw [lg_entry_eq]
  generalize (lg_sl ([.ref x0, .ref o]) ++ List.replicate (3 - (lg_sl ([.ref x0, .ref o])).length) Slot.unset).toArray = ls at hl ⊢
  have hl : lv_has ls 3 [(0, .ref x0), (1, .ref o)] := hl
  refine lv_aload_n hx hb dL_halve_0 rfl (lv_at hl 1 rfl) ?_
  refine lv_iconst (v := nI 0) hx hb dL_halve_1 (by decide) ?_
  refine lv_aload_n hx hb dL_halve_2 rfl (lv_at hl 0 rfl) ?_
  rcases hop with ⟨rfl, hu⟩ | ⟨rfl, hu⟩ | ⟨rfl, hu⟩
  · refine call_Q (va_runV (As := []) (rest := [.int (nI 0), .ref o]) ⟨hx, hb, hml, hown, hts⟩ (hu s.heap.size) (kV hts qw842 qw843 qw844 qw1 qw845 ok_X4_halve ⟨Nat.le_of_ble_eq_true rfl, Nat.le_of_ble_eq_true rfl⟩) ⟨PM.blind, va_recv hK hPw (ci := 5) (q0 := 0) rfl h0, fun U hU hW => ⟨rfl, by rw [hU]; exact hC.warm hW, by rw [hU], by rw [hU]; exact hPw, hDw, hZw⟩⟩ rfl rfl hl.1 rfl (lv_room (Nat.le_of_ble_eq_true rfl)) dL_halve_3 ⟨Nat.le_of_ble_eq_true rfl, Nat.le_of_ble_eq_true rfl⟩) hS hsub (fun w1 H1 locs1 hR1 hP1 hD1 hS hsz1 hk1 => ?_)
    obtain ⟨hP, hD⟩ := frm (wr := [OUT t o f]) rfl hP hD hsub hk1 hP1 hD1
    refine W.widen (k := 5) (n := 70) (by decide) (by decide) ?_
    refine lv_i2l hx hb dL_halve_6 rfl ?_
    refine va_last (ws := OUT t o f :: w1) hx hb hK hP hD hS 0 6 rfl rfl vin01 dL_halve_7 (fun H2 locs2 hP hD hS => ?_)
    refine lv_goto (tgt := 14) hx hb dL_halve_8 (by decide) ?_
    refine lv_iconst (v := nI 0) hx hb dL_halve_14 (by decide) ?_
    exact W.iret hx hb hr (fun t9 ht hW => ⟨(vp_updL f (nI 0).toNatClampNeg v.toInt64, w1), ⟨fun _ => rfl, hR1⟩, rfl, by rw [ht]; exact hP, hD, hS.F ht⟩) hS.2.2 dL_halve_15
  · refine call_XB (vx_runV (As := []) (rest := [.int (nI 0), .ref o]) ⟨hx, hb, hml, hown, hts⟩ (hu s.heap.size) (kV hts qw842 qw843 qw844 qw1 qw845 ok_X4_halve ⟨Nat.le_of_ble_eq_true rfl, Nat.le_of_ble_eq_true rfl⟩) ⟨PM.blind, va_recv hK hPw (ci := 5) (q0 := 0) rfl h0, fun U hU hW => ⟨rfl, by rw [hU]; exact hC.warm hW, by rw [hU], by rw [hU]; exact hPw, hDw, hZw⟩⟩ rfl rfl hl.1 rfl (lv_room (Nat.le_of_ble_eq_true rfl)) dL_halve_3 ⟨Nat.le_of_ble_eq_true rfl, Nat.le_of_ble_eq_true rfl⟩) hS hsub (fun w1 H1 locs1 q9 ce hR1 hP1 hD1 hS hsz1 hk1 hce hcv hcl => ?_)
    obtain ⟨hP, hD⟩ := frm (wr := [OUT t o f]) rfl hP hD hsub hk1 hP1 hD1
    refine vx_catch (name := "java/lang/IllegalStateException") hown [] ⟨0, 8, 11, 20⟩ [] hxt (fun z hz => nomatch hz) (by decide) (by decide) (hts _ qw750) (va_Nw.use rfl (hC.2.1 _ qw757)) hce hcv hcl ?_
    refine lv_astore_n (lv' := (2, .ref q9) :: [(0, .ref x0), (1, .ref o)]) hx hb dL_halve_11 rfl hl (by decide) rfl (fun ls hl => ?_)
    refine W.widen (k := 5) (n := 70) (by decide) (by decide) ?_
    refine lv_iconst (v := nI 1) hx hb dL_halve_12 (by decide) ?_
    exact W.iret hx hb hr (fun t9 ht hW => ⟨(f, w1), ⟨fun z => absurd z (by decide), hR1⟩, rfl, by rw [ht]; exact hP, hD, hS.F ht⟩) hS.2.2 dL_halve_13
  · omega
abbrev rh_append : Room := { frames := 7, cells := 5, slots := 70, locals := 141 }
theorem okL_append : okY yL_append 3 := ⟨by decide +kernel, by decide +kernel, by decide +kernel⟩
set_option maxHeartbeats 4000000 in
theorem h_append (l : Launch) (z0 : Nat) (D : va_G) (t : Nat → ClassId) (x0 o : Nat) (f : Nat → Int64) {w : va_W} {R' : va_W → Prop} {v : Int32} {th : Nat} (a1 : Int32) (h0 : ∃ fs, w[0]? = some (x0, .inr (5, fs))) (hth : th ≤ 2) (hop : OPX l yX4_append cX4_append 2 rm_X4_append rx_X4_append z0 D t x0 [.int a1] w v th IAE ISE 0 0 1 6 R') (sz : Nat) : Met l yL_append (wh_ yL_append cL_append 4 (some .int) [(0, 9, 12, 13), (0, 9, 15, 20)]) rh_append (PMH z0 D t [.ref x0, .int a1, .ref o] (OUT t o f :: w) (o :: w.map Prod.fst) sz) (QB (fun _ : (Nat → Int64) × va_W => some (.int (nI th))) D (fun b => OUT t o b.1 :: b.2) (fun b => (th = 0 → b.1 0 = v.toInt64) ∧ R' b.2) (o :: w.map Prod.fst) sz) 5 70 (OA (o :: w.map Prod.fst) sz) := by
  refine met_ofWH (cc := cL_append) (maxL := 4) (ret := (some .int)) (hh := [(0, 9, 12, 13), (0, 9, 15, 20)]) (by decide) rfl ?_
  intro p e s m args below meth c s₁ Bo hml hxt hv
  obtain ⟨rfl, ⟨hC, hN⟩, hsz, hP, hD, hZ⟩ := hv
  have hx := Bo.exec
  have hb := Bo.bytes
  have hr := Bo.returns
  have hts : ∀ w ∈ LA, w.before _ s = true := fun w hw => atoms_spec (ws := (wh_ yL_append cL_append 4 (some .int) [(0, 9, 12, 13), (0, 9, 15, 20)])) Bo.pre w (List.mem_cons_of_mem _ hw)
  have hown : s.vm.findClass RL = some m.cls := findClass_of_methodNamed Bo.named
  have hlocks := Bo.notSynchronized
  have hK := hC.1
  subst hsz
  obtain ⟨fs, h0⟩ := h0
  have hPw := (pd_sub (List.sublist_cons_self _ _) hP hD).1
  have hDw : va_D (OA (w.map Prod.fst) s.heap.size) w := ⟨(pd_sub (List.sublist_cons_self _ _) hP hD).2.1, fun _ _ h9 => Or.inl (in_map rfl h9)⟩
  have hsub : ∀ q, OA (w.map Prod.fst) s.heap.size q → OA (o :: w.map Prod.fst) s.heap.size q := OA.mono (fun a h => List.mem_cons_of_mem _ h) (Nat.le_refl _)
  have hZw : ∀ q, OA (w.map Prod.fst) s.heap.size q → z0 ≤ q := fun q hq => hZ q (hsub q hq)
  have hS : va_S (OA (o :: w.map Prod.fst) s.heap.size) s.heap s.heap [] := va_S.rf
  have hl := lv_entry ([.ref x0, .int a1, .ref o]) (n := 4) (Nat.le_of_ble_eq_true rfl)
  rw [lg_entry_eq]
  generalize (lg_sl ([.ref x0, .int a1, .ref o]) ++ List.replicate (4 - (lg_sl ([.ref x0, .int a1, .ref o])).length) Slot.unset).toArray = ls at hl ⊢
  have hl : lv_has ls 4 [(0, .ref x0), (1, .int a1), (2, .ref o)] := hl
  refine lv_aload_n hx hb dL_append_0 rfl (lv_at hl 2 rfl) ?_
  refine lv_iconst (v := nI 0) hx hb dL_append_1 (by decide) ?_
  refine lv_aload_n hx hb dL_append_2 rfl (lv_at hl 0 rfl) ?_
  refine lv_iload_n hx hb dL_append_3 rfl (lv_at hl 1 rfl) ?_
  rcases hop with ⟨rfl, hu⟩ | ⟨rfl, hu⟩ | ⟨rfl, hu⟩
  · refine call_Q (va_runV (As := [.int a1]) (rest := [.int (nI 0), .ref o]) ⟨hx, hb, hml, hown, hts⟩ (hu s.heap.size) (kV hts qw864 qw865 qw866 qw1 qw867 ok_X4_append ⟨Nat.le_of_ble_eq_true rfl, Nat.le_of_ble_eq_true rfl⟩) ⟨PM.blind, va_recv hK hPw (ci := 5) (q0 := 0) rfl h0, fun U hU hW => ⟨rfl, by rw [hU]; exact hC.warm hW, by rw [hU], by rw [hU]; exact hPw, hDw, hZw⟩⟩ rfl rfl hl.1 rfl (lv_room (Nat.le_of_ble_eq_true rfl)) dL_append_4 ⟨Nat.le_of_ble_eq_true rfl, Nat.le_of_ble_eq_true rfl⟩) hS hsub (fun w1 H1 locs1 hR1 hP1 hD1 hS hsz1 hk1 => ?_)
    obtain ⟨hP, hD⟩ := frm (wr := [OUT t o f]) rfl hP hD hsub hk1 hP1 hD1
    refine W.widen (k := 5) (n := 70) (by decide) (by decide) ?_
    refine lv_i2l hx hb dL_append_7 rfl ?_
    refine va_last (ws := OUT t o f :: w1) hx hb hK hP hD hS 0 6 rfl rfl vin01 dL_append_8 (fun H2 locs2 hP hD hS => ?_)
    refine lv_goto (tgt := 18) hx hb dL_append_9 (by decide) ?_
    refine lv_iconst (v := nI 0) hx hb dL_append_18 (by decide) ?_
    exact W.iret hx hb hr (fun t9 ht hW => ⟨(vp_updL f (nI 0).toNatClampNeg v.toInt64, w1), ⟨fun _ => rfl, hR1⟩, rfl, by rw [ht]; exact hP, hD, hS.F ht⟩) hS.2.2 dL_append_19
  · refine call_XB (vx_runV (As := [.int a1]) (rest := [.int (nI 0), .ref o]) ⟨hx, hb, hml, hown, hts⟩ (hu s.heap.size) (kV hts qw864 qw865 qw866 qw1 qw867 ok_X4_append ⟨Nat.le_of_ble_eq_true rfl, Nat.le_of_ble_eq_true rfl⟩) ⟨PM.blind, va_recv hK hPw (ci := 5) (q0 := 0) rfl h0, fun U hU hW => ⟨rfl, by rw [hU]; exact hC.warm hW, by rw [hU], by rw [hU]; exact hPw, hDw, hZw⟩⟩ rfl rfl hl.1 rfl (lv_room (Nat.le_of_ble_eq_true rfl)) dL_append_4 ⟨Nat.le_of_ble_eq_true rfl, Nat.le_of_ble_eq_true rfl⟩) hS hsub (fun w1 H1 locs1 q9 ce hR1 hP1 hD1 hS hsz1 hk1 hce hcv hcl => ?_)
    obtain ⟨hP, hD⟩ := frm (wr := [OUT t o f]) rfl hP hD hsub hk1 hP1 hD1
    refine vx_catch (name := "java/lang/IllegalArgumentException") hown [] ⟨0, 9, 12, 13⟩ [⟨0, 9, 15, 20⟩] hxt (fun z hz => nomatch hz) (by decide) (by decide) (hts _ qw653) (va_Nw.use rfl (hC.2.1 _ qw473)) hce hcv hcl ?_
    refine lv_astore_n (lv' := (3, .ref q9) :: [(0, .ref x0), (1, .int a1), (2, .ref o)]) hx hb dL_append_12 rfl hl (by decide) rfl (fun ls hl => ?_)
    refine W.widen (k := 5) (n := 70) (by decide) (by decide) ?_
    refine lv_iconst (v := nI 1) hx hb dL_append_13 (by decide) ?_
    exact W.iret hx hb hr (fun t9 ht hW => ⟨(f, w1), ⟨fun z => absurd z (by decide), hR1⟩, rfl, by rw [ht]; exact hP, hD, hS.F ht⟩) hS.2.2 dL_append_14
  · refine call_XB (vx_runV (As := [.int a1]) (rest := [.int (nI 0), .ref o]) ⟨hx, hb, hml, hown, hts⟩ (hu s.heap.size) (kV hts qw864 qw865 qw866 qw1 qw867 ok_X4_append ⟨Nat.le_of_ble_eq_true rfl, Nat.le_of_ble_eq_true rfl⟩) ⟨PM.blind, va_recv hK hPw (ci := 5) (q0 := 0) rfl h0, fun U hU hW => ⟨rfl, by rw [hU]; exact hC.warm hW, by rw [hU], by rw [hU]; exact hPw, hDw, hZw⟩⟩ rfl rfl hl.1 rfl (lv_room (Nat.le_of_ble_eq_true rfl)) dL_append_4 ⟨Nat.le_of_ble_eq_true rfl, Nat.le_of_ble_eq_true rfl⟩) hS hsub (fun w1 H1 locs1 q9 ce hR1 hP1 hD1 hS hsz1 hk1 hce hcv hcl => ?_)
    obtain ⟨hP, hD⟩ := frm (wr := [OUT t o f]) rfl hP hD hsub hk1 hP1 hD1
    refine vx_catch (name := "java/lang/IllegalStateException") hown [⟨0, 9, 12, 13⟩] ⟨0, 9, 15, 20⟩ [] hxt (fun z hz => by
      cases List.mem_singleton.mp hz
      exact Or.inr ⟨by decide, IAE, hts _ qw653, hN.1⟩) (by decide) (by decide) (hts _ qw750) (va_Nw.use rfl (hC.2.1 _ qw757)) hce hcv hcl ?_
    refine lv_astore_n (lv' := (3, .ref q9) :: [(0, .ref x0), (1, .int a1), (2, .ref o)]) hx hb dL_append_15 rfl hl (by decide) rfl (fun ls hl => ?_)
    refine W.widen (k := 5) (n := 70) (by decide) (by decide) ?_
    refine lv_iconst (v := nI 2) hx hb dL_append_16 (by decide) ?_
    exact W.iret hx hb hr (fun t9 ht hW => ⟨(f, w1), ⟨fun z => absurd z (by decide), hR1⟩, rfl, by rw [ht]; exact hP, hD, hS.F ht⟩) hS.2.2 dL_append_17
abbrev rh_keep : Room := { frames := 8, cells := 5, slots := 70, locals := 261 }
theorem okL_keep : okY yL_keep 3 := ⟨by decide +kernel, by decide +kernel, by decide +kernel⟩
set_option maxHeartbeats 4000000 in
theorem h_keep (l : Launch) (z0 : Nat) (D : va_G) (t : Nat → ClassId) (x0 o : Nat) (f : Nat → Int64) {w : va_W} {R' : va_W → Prop} {v : Int32} {th : Nat} (a1 : Int32) (h0 : ∃ fs, w[0]? = some (x0, .inr (5, fs))) (hth : th ≤ 1) (hop : OPX l yX4_keep cX4_keep 2 rm_X4_keep rx_X4_keep z0 D t x0 [.int a1] w v th IAE "" 2 30 1 6 R') (sz : Nat) : Met l yL_keep (wh_ yL_keep cL_keep 4 (some .int) [(0, 9, 12, 13)]) rh_keep (PMH z0 D t [.ref x0, .int a1, .ref o] (OUT t o f :: w) (o :: w.map Prod.fst) sz) (QB (fun _ : (Nat → Int64) × va_W => some (.int (nI th))) D (fun b => OUT t o b.1 :: b.2) (fun b => (th = 0 → b.1 0 = v.toInt64) ∧ R' b.2) (o :: w.map Prod.fst) sz) 5 70 (OA (o :: w.map Prod.fst) sz) := by
  refine met_ofWH (cc := cL_keep) (maxL := 4) (ret := (some .int)) (hh := [(0, 9, 12, 13)]) (by decide) rfl ?_
  intro p e s m args below meth c s₁ Bo hml hxt hv
  obtain ⟨rfl, ⟨hC, hN⟩, hsz, hP, hD, hZ⟩ := hv
  have hx := Bo.exec
  have hb := Bo.bytes
  have hr := Bo.returns
  have hts : ∀ w ∈ LA, w.before _ s = true := fun w hw => atoms_spec (ws := (wh_ yL_keep cL_keep 4 (some .int) [(0, 9, 12, 13)])) Bo.pre w (List.mem_cons_of_mem _ hw)
  have hown : s.vm.findClass RL = some m.cls := findClass_of_methodNamed Bo.named
  have hlocks := Bo.notSynchronized
  have hK := hC.1
  subst hsz
  obtain ⟨fs, h0⟩ := h0
  have hPw := (pd_sub (List.sublist_cons_self _ _) hP hD).1
  have hDw : va_D (OA (w.map Prod.fst) s.heap.size) w := ⟨(pd_sub (List.sublist_cons_self _ _) hP hD).2.1, fun _ _ h9 => Or.inl (in_map rfl h9)⟩
  have hsub : ∀ q, OA (w.map Prod.fst) s.heap.size q → OA (o :: w.map Prod.fst) s.heap.size q := OA.mono (fun a h => List.mem_cons_of_mem _ h) (Nat.le_refl _)
  have hZw : ∀ q, OA (w.map Prod.fst) s.heap.size q → z0 ≤ q := fun q hq => hZ q (hsub q hq)
  have hS : va_S (OA (o :: w.map Prod.fst) s.heap.size) s.heap s.heap [] := va_S.rf
  have hl := lv_entry ([.ref x0, .int a1, .ref o]) (n := 4) (Nat.le_of_ble_eq_true rfl)
  rw [lg_entry_eq]
  generalize (lg_sl ([.ref x0, .int a1, .ref o]) ++ List.replicate (4 - (lg_sl ([.ref x0, .int a1, .ref o])).length) Slot.unset).toArray = ls at hl ⊢
  have hl : lv_has ls 4 [(0, .ref x0), (1, .int a1), (2, .ref o)] := hl
  refine lv_aload_n hx hb dL_keep_0 rfl (lv_at hl 2 rfl) ?_
  refine lv_iconst (v := nI 0) hx hb dL_keep_1 (by decide) ?_
  refine lv_aload_n hx hb dL_keep_2 rfl (lv_at hl 0 rfl) ?_
  refine lv_iload_n hx hb dL_keep_3 rfl (lv_at hl 1 rfl) ?_
  rcases hop with ⟨rfl, hu⟩ | ⟨rfl, hu⟩ | ⟨rfl, hu⟩
  · refine call_Q (va_runV (As := [.int a1]) (rest := [.int (nI 0), .ref o]) ⟨hx, hb, hml, hown, hts⟩ (hu s.heap.size) (kV hts qw893 qw894 qw895 qw1 qw896 ok_X4_keep ⟨Nat.le_of_ble_eq_true rfl, Nat.le_of_ble_eq_true rfl⟩) ⟨PM.blind, va_recv hK hPw (ci := 5) (q0 := 0) rfl h0, fun U hU hW => ⟨rfl, by rw [hU]; exact hC.warm hW, by rw [hU], by rw [hU]; exact hPw, hDw, hZw⟩⟩ rfl rfl hl.1 rfl (lv_room (Nat.le_of_ble_eq_true rfl)) dL_keep_4 ⟨Nat.le_of_ble_eq_true rfl, Nat.le_of_ble_eq_true rfl⟩) hS hsub (fun w1 H1 locs1 hR1 hP1 hD1 hS hsz1 hk1 => ?_)
    obtain ⟨hP, hD⟩ := frm (wr := [OUT t o f]) rfl hP hD hsub hk1 hP1 hD1
    refine W.widen (k := 5) (n := 70) (by decide) (by decide) ?_
    refine lv_i2l hx hb dL_keep_7 rfl ?_
    refine va_last (ws := OUT t o f :: w1) hx hb hK hP hD hS 0 6 rfl rfl vin01 dL_keep_8 (fun H2 locs2 hP hD hS => ?_)
    refine lv_goto (tgt := 15) hx hb dL_keep_9 (by decide) ?_
    refine lv_iconst (v := nI 0) hx hb dL_keep_15 (by decide) ?_
    exact W.iret hx hb hr (fun t9 ht hW => ⟨(vp_updL f (nI 0).toNatClampNeg v.toInt64, w1), ⟨fun _ => rfl, hR1⟩, rfl, by rw [ht]; exact hP, hD, hS.F ht⟩) hS.2.2 dL_keep_16
  · refine call_XB (vx_runV (As := [.int a1]) (rest := [.int (nI 0), .ref o]) ⟨hx, hb, hml, hown, hts⟩ (hu s.heap.size) (kV hts qw893 qw894 qw895 qw1 qw896 ok_X4_keep ⟨Nat.le_of_ble_eq_true rfl, Nat.le_of_ble_eq_true rfl⟩) ⟨PM.blind, va_recv hK hPw (ci := 5) (q0 := 0) rfl h0, fun U hU hW => ⟨rfl, by rw [hU]; exact hC.warm hW, by rw [hU], by rw [hU]; exact hPw, hDw, hZw⟩⟩ rfl rfl hl.1 rfl (lv_room (Nat.le_of_ble_eq_true rfl)) dL_keep_4 ⟨Nat.le_of_ble_eq_true rfl, Nat.le_of_ble_eq_true rfl⟩) hS hsub (fun w1 H1 locs1 q9 ce hR1 hP1 hD1 hS hsz1 hk1 hce hcv hcl => ?_)
    obtain ⟨hP, hD⟩ := frm (wr := [OUT t o f]) rfl hP hD hsub hk1 hP1 hD1
    refine vx_catch (name := "java/lang/IllegalArgumentException") hown [] ⟨0, 9, 12, 13⟩ [] hxt (fun z hz => nomatch hz) (by decide) (by decide) (hts _ qw653) (va_Nw.use rfl (hC.2.1 _ qw473)) hce hcv hcl ?_
    refine lv_astore_n (lv' := (3, .ref q9) :: [(0, .ref x0), (1, .int a1), (2, .ref o)]) hx hb dL_keep_12 rfl hl (by decide) rfl (fun ls hl => ?_)
    refine W.widen (k := 5) (n := 70) (by decide) (by decide) ?_
    refine lv_iconst (v := nI 1) hx hb dL_keep_13 (by decide) ?_
    exact W.iret hx hb hr (fun t9 ht hW => ⟨(f, w1), ⟨fun z => absurd z (by decide), hR1⟩, rfl, by rw [ht]; exact hP, hD, hS.F ht⟩) hS.2.2 dL_keep_14
  · omega
abbrev rh_goBack : Room := { frames := 11, cells := 5, slots := 70, locals := 382 }
theorem okL_goBack : okY yL_goBack 3 := ⟨by decide +kernel, by decide +kernel, by decide +kernel⟩
set_option maxHeartbeats 4000000 in
theorem h_goBack (l : Launch) (z0 : Nat) (D : va_G) (t : Nat → ClassId) (x0 o : Nat) (f : Nat → Int64) {w : va_W} {R' : va_W → Prop} {v : Int32} {th : Nat} (a1 : Int32) (h0 : ∃ fs, w[0]? = some (x0, .inr (5, fs))) (hth : th ≤ 2) (hop : OPX l yX4_goBack cX4_goBack 3 rm_X4_goBack rx_X4_goBack z0 D t x0 [.int a1] w v th IAE ISE 5 70 1 6 R') (sz : Nat) : Met l yL_goBack (wh_ yL_goBack cL_goBack 4 (some .int) [(0, 9, 12, 13), (0, 9, 15, 20)]) rh_goBack (PMH z0 D t [.ref x0, .int a1, .ref o] (OUT t o f :: w) (o :: w.map Prod.fst) sz) (QB (fun _ : (Nat → Int64) × va_W => some (.int (nI th))) D (fun b => OUT t o b.1 :: b.2) (fun b => (th = 0 → b.1 0 = v.toInt64) ∧ R' b.2) (o :: w.map Prod.fst) sz) 5 70 (OA (o :: w.map Prod.fst) sz) := by
  refine met_ofWH (cc := cL_goBack) (maxL := 4) (ret := (some .int)) (hh := [(0, 9, 12, 13), (0, 9, 15, 20)]) (by decide) rfl ?_
  intro p e s m args below meth c s₁ Bo hml hxt hv
  obtain ⟨rfl, ⟨hC, hN⟩, hsz, hP, hD, hZ⟩ := hv
  have hx := Bo.exec
  have hb := Bo.bytes
  have hr := Bo.returns
  have hts : ∀ w ∈ LA, w.before _ s = true := fun w hw => atoms_spec (ws := (wh_ yL_goBack cL_goBack 4 (some .int) [(0, 9, 12, 13), (0, 9, 15, 20)])) Bo.pre w (List.mem_cons_of_mem _ hw)
  have hown : s.vm.findClass RL = some m.cls := findClass_of_methodNamed Bo.named
  have hlocks := Bo.notSynchronized
  have hK := hC.1
  subst hsz
  obtain ⟨fs, h0⟩ := h0
  have hPw := (pd_sub (List.sublist_cons_self _ _) hP hD).1
  have hDw : va_D (OA (w.map Prod.fst) s.heap.size) w := ⟨(pd_sub (List.sublist_cons_self _ _) hP hD).2.1, fun _ _ h9 => Or.inl (in_map rfl h9)⟩
  have hsub : ∀ q, OA (w.map Prod.fst) s.heap.size q → OA (o :: w.map Prod.fst) s.heap.size q := OA.mono (fun a h => List.mem_cons_of_mem _ h) (Nat.le_refl _)
  have hZw : ∀ q, OA (w.map Prod.fst) s.heap.size q → z0 ≤ q := fun q hq => hZ q (hsub q hq)
  have hS : va_S (OA (o :: w.map Prod.fst) s.heap.size) s.heap s.heap [] := va_S.rf
  have hl := lv_entry ([.ref x0, .int a1, .ref o]) (n := 4) (Nat.le_of_ble_eq_true rfl)
  rw [lg_entry_eq]
  generalize (lg_sl ([.ref x0, .int a1, .ref o]) ++ List.replicate (4 - (lg_sl ([.ref x0, .int a1, .ref o])).length) Slot.unset).toArray = ls at hl ⊢
  have hl : lv_has ls 4 [(0, .ref x0), (1, .int a1), (2, .ref o)] := hl
  refine lv_aload_n hx hb dL_goBack_0 rfl (lv_at hl 2 rfl) ?_
  refine lv_iconst (v := nI 0) hx hb dL_goBack_1 (by decide) ?_
  refine lv_aload_n hx hb dL_goBack_2 rfl (lv_at hl 0 rfl) ?_
  refine lv_iload_n hx hb dL_goBack_3 rfl (lv_at hl 1 rfl) ?_
  rcases hop with ⟨rfl, hu⟩ | ⟨rfl, hu⟩ | ⟨rfl, hu⟩
  · refine call_Q (va_runV (As := [.int a1]) (rest := [.int (nI 0), .ref o]) ⟨hx, hb, hml, hown, hts⟩ (hu s.heap.size) (kV hts qw905 qw906 qw907 qw1 qw908 ok_X4_goBack ⟨Nat.le_of_ble_eq_true rfl, Nat.le_of_ble_eq_true rfl⟩) ⟨PM.blind, va_recv hK hPw (ci := 5) (q0 := 0) rfl h0, fun U hU hW => ⟨rfl, by rw [hU]; exact hC.warm hW, by rw [hU], by rw [hU]; exact hPw, hDw, hZw⟩⟩ rfl rfl hl.1 rfl (lv_room (Nat.le_of_ble_eq_true rfl)) dL_goBack_4 ⟨Nat.le_of_ble_eq_true rfl, Nat.le_of_ble_eq_true rfl⟩) hS hsub (fun w1 H1 locs1 hR1 hP1 hD1 hS hsz1 hk1 => ?_)
    obtain ⟨hP, hD⟩ := frm (wr := [OUT t o f]) rfl hP hD hsub hk1 hP1 hD1
    refine W.widen (k := 5) (n := 70) (by decide) (by decide) ?_
    refine lv_i2l hx hb dL_goBack_7 rfl ?_
    refine va_last (ws := OUT t o f :: w1) hx hb hK hP hD hS 0 6 rfl rfl vin01 dL_goBack_8 (fun H2 locs2 hP hD hS => ?_)
    refine lv_goto (tgt := 18) hx hb dL_goBack_9 (by decide) ?_
    refine lv_iconst (v := nI 0) hx hb dL_goBack_18 (by decide) ?_
    exact W.iret hx hb hr (fun t9 ht hW => ⟨(vp_updL f (nI 0).toNatClampNeg v.toInt64, w1), ⟨fun _ => rfl, hR1⟩, rfl, by rw [ht]; exact hP, hD, hS.F ht⟩) hS.2.2 dL_goBack_19
  · refine call_XB (vx_runV (As := [.int a1]) (rest := [.int (nI 0), .ref o]) ⟨hx, hb, hml, hown, hts⟩ (hu s.heap.size) (kV hts qw905 qw906 qw907 qw1 qw908 ok_X4_goBack ⟨Nat.le_of_ble_eq_true rfl, Nat.le_of_ble_eq_true rfl⟩) ⟨PM.blind, va_recv hK hPw (ci := 5) (q0 := 0) rfl h0, fun U hU hW => ⟨rfl, by rw [hU]; exact hC.warm hW, by rw [hU], by rw [hU]; exact hPw, hDw, hZw⟩⟩ rfl rfl hl.1 rfl (lv_room (Nat.le_of_ble_eq_true rfl)) dL_goBack_4 ⟨Nat.le_of_ble_eq_true rfl, Nat.le_of_ble_eq_true rfl⟩) hS hsub (fun w1 H1 locs1 q9 ce hR1 hP1 hD1 hS hsz1 hk1 hce hcv hcl => ?_)
    obtain ⟨hP, hD⟩ := frm (wr := [OUT t o f]) rfl hP hD hsub hk1 hP1 hD1
    refine vx_catch (name := "java/lang/IllegalArgumentException") hown [] ⟨0, 9, 12, 13⟩ [⟨0, 9, 15, 20⟩] hxt (fun z hz => nomatch hz) (by decide) (by decide) (hts _ qw653) (va_Nw.use rfl (hC.2.1 _ qw473)) hce hcv hcl ?_
    refine lv_astore_n (lv' := (3, .ref q9) :: [(0, .ref x0), (1, .int a1), (2, .ref o)]) hx hb dL_goBack_12 rfl hl (by decide) rfl (fun ls hl => ?_)
    refine W.widen (k := 5) (n := 70) (by decide) (by decide) ?_
    refine lv_iconst (v := nI 1) hx hb dL_goBack_13 (by decide) ?_
    exact W.iret hx hb hr (fun t9 ht hW => ⟨(f, w1), ⟨fun z => absurd z (by decide), hR1⟩, rfl, by rw [ht]; exact hP, hD, hS.F ht⟩) hS.2.2 dL_goBack_14
  · refine call_XB (vx_runV (As := [.int a1]) (rest := [.int (nI 0), .ref o]) ⟨hx, hb, hml, hown, hts⟩ (hu s.heap.size) (kV hts qw905 qw906 qw907 qw1 qw908 ok_X4_goBack ⟨Nat.le_of_ble_eq_true rfl, Nat.le_of_ble_eq_true rfl⟩) ⟨PM.blind, va_recv hK hPw (ci := 5) (q0 := 0) rfl h0, fun U hU hW => ⟨rfl, by rw [hU]; exact hC.warm hW, by rw [hU], by rw [hU]; exact hPw, hDw, hZw⟩⟩ rfl rfl hl.1 rfl (lv_room (Nat.le_of_ble_eq_true rfl)) dL_goBack_4 ⟨Nat.le_of_ble_eq_true rfl, Nat.le_of_ble_eq_true rfl⟩) hS hsub (fun w1 H1 locs1 q9 ce hR1 hP1 hD1 hS hsz1 hk1 hce hcv hcl => ?_)
    obtain ⟨hP, hD⟩ := frm (wr := [OUT t o f]) rfl hP hD hsub hk1 hP1 hD1
    refine vx_catch (name := "java/lang/IllegalStateException") hown [⟨0, 9, 12, 13⟩] ⟨0, 9, 15, 20⟩ [] hxt (fun z hz => by
      cases List.mem_singleton.mp hz
      exact Or.inr ⟨by decide, IAE, hts _ qw653, hN.1⟩) (by decide) (by decide) (hts _ qw750) (va_Nw.use rfl (hC.2.1 _ qw757)) hce hcv hcl ?_
    refine lv_astore_n (lv' := (3, .ref q9) :: [(0, .ref x0), (1, .int a1), (2, .ref o)]) hx hb dL_goBack_15 rfl hl (by decide) rfl (fun ls hl => ?_)
    refine W.widen (k := 5) (n := 70) (by decide) (by decide) ?_
    refine lv_iconst (v := nI 2) hx hb dL_goBack_16 (by decide) ?_
    exact W.iret hx hb hr (fun t9 ht hW => ⟨(f, w1), ⟨fun z => absurd z (by decide), hR1⟩, rfl, by rw [ht]; exact hP, hD, hS.F ht⟩) hS.2.2 dL_goBack_17
abbrev rh_undo : Room := { frames := 8, cells := 5, slots := 70, locals := 261 }
theorem okL_undo : okY yL_undo 2 := ⟨by decide +kernel, by decide +kernel, by decide +kernel⟩
set_option maxHeartbeats 4000000 in
theorem h_undo (l : Launch) (z0 : Nat) (D : va_G) (t : Nat → ClassId) (x0 o : Nat) (f : Nat → Int64) {w : va_W} {R' : va_W → Prop} {v : Int32} {th : Nat} (h0 : ∃ fs, w[0]? = some (x0, .inr (5, fs))) (hth : th ≤ 1) (hop : OPX l yX4_undo cX4_undo 2 rm_X4_undo rx_X4_undo z0 D t x0 [] w v th ISE "" 0 0 1 6 R') (sz : Nat) : Met l yL_undo (wh_ yL_undo cL_undo 3 (some .int) [(0, 8, 11, 20)]) rh_undo (PMH z0 D t [.ref x0, .ref o] (OUT t o f :: w) (o :: w.map Prod.fst) sz) (QB (fun _ : (Nat → Int64) × va_W => some (.int (nI th))) D (fun b => OUT t o b.1 :: b.2) (fun b => (th = 0 → b.1 0 = v.toInt64) ∧ R' b.2) (o :: w.map Prod.fst) sz) 5 70 (OA (o :: w.map Prod.fst) sz) := by
  refine met_ofWH (cc := cL_undo) (maxL := 3) (ret := (some .int)) (hh := [(0, 8, 11, 20)]) (by decide) rfl ?_
  intro p e s m args below meth c s₁ Bo hml hxt hv
  obtain ⟨rfl, ⟨hC, hN⟩, hsz, hP, hD, hZ⟩ := hv
  have hx := Bo.exec
  have hb := Bo.bytes
  have hr := Bo.returns
  have hts : ∀ w ∈ LA, w.before _ s = true := fun w hw => atoms_spec (ws := (wh_ yL_undo cL_undo 3 (some .int) [(0, 8, 11, 20)])) Bo.pre w (List.mem_cons_of_mem _ hw)
  have hown : s.vm.findClass RL = some m.cls := findClass_of_methodNamed Bo.named
  have hlocks := Bo.notSynchronized
  have hK := hC.1
  subst hsz
  obtain ⟨fs, h0⟩ := h0
  have hPw := (pd_sub (List.sublist_cons_self _ _) hP hD).1
  have hDw : va_D (OA (w.map Prod.fst) s.heap.size) w := ⟨(pd_sub (List.sublist_cons_self _ _) hP hD).2.1, fun _ _ h9 => Or.inl (in_map rfl h9)⟩
  have hsub : ∀ q, OA (w.map Prod.fst) s.heap.size q → OA (o :: w.map Prod.fst) s.heap.size q := OA.mono (fun a h => List.mem_cons_of_mem _ h) (Nat.le_refl _)
  have hZw : ∀ q, OA (w.map Prod.fst) s.heap.size q → z0 ≤ q := fun q hq => hZ q (hsub q hq)
  have hS : va_S (OA (o :: w.map Prod.fst) s.heap.size) s.heap s.heap [] := va_S.rf
  have hl := lv_entry ([.ref x0, .ref o]) (n := 3) (Nat.le_of_ble_eq_true rfl)
  rw [lg_entry_eq]
  generalize (lg_sl ([.ref x0, .ref o]) ++ List.replicate (3 - (lg_sl ([.ref x0, .ref o])).length) Slot.unset).toArray = ls at hl ⊢
  have hl : lv_has ls 3 [(0, .ref x0), (1, .ref o)] := hl
  refine lv_aload_n hx hb dL_undo_0 rfl (lv_at hl 1 rfl) ?_
  refine lv_iconst (v := nI 0) hx hb dL_undo_1 (by decide) ?_
  refine lv_aload_n hx hb dL_undo_2 rfl (lv_at hl 0 rfl) ?_
  rcases hop with ⟨rfl, hu⟩ | ⟨rfl, hu⟩ | ⟨rfl, hu⟩
  · refine call_Q (va_runV (As := []) (rest := [.int (nI 0), .ref o]) ⟨hx, hb, hml, hown, hts⟩ (hu s.heap.size) (kV hts qw913 qw914 qw915 qw1 qw916 ok_X4_undo ⟨Nat.le_of_ble_eq_true rfl, Nat.le_of_ble_eq_true rfl⟩) ⟨PM.blind, va_recv hK hPw (ci := 5) (q0 := 0) rfl h0, fun U hU hW => ⟨rfl, by rw [hU]; exact hC.warm hW, by rw [hU], by rw [hU]; exact hPw, hDw, hZw⟩⟩ rfl rfl hl.1 rfl (lv_room (Nat.le_of_ble_eq_true rfl)) dL_undo_3 ⟨Nat.le_of_ble_eq_true rfl, Nat.le_of_ble_eq_true rfl⟩) hS hsub (fun w1 H1 locs1 hR1 hP1 hD1 hS hsz1 hk1 => ?_)
    obtain ⟨hP, hD⟩ := frm (wr := [OUT t o f]) rfl hP hD hsub hk1 hP1 hD1
    refine W.widen (k := 5) (n := 70) (by decide) (by decide) ?_
    refine lv_i2l hx hb dL_undo_6 rfl ?_
    refine va_last (ws := OUT t o f :: w1) hx hb hK hP hD hS 0 6 rfl rfl vin01 dL_undo_7 (fun H2 locs2 hP hD hS => ?_)
    refine lv_goto (tgt := 14) hx hb dL_undo_8 (by decide) ?_
    refine lv_iconst (v := nI 0) hx hb dL_undo_14 (by decide) ?_
    exact W.iret hx hb hr (fun t9 ht hW => ⟨(vp_updL f (nI 0).toNatClampNeg v.toInt64, w1), ⟨fun _ => rfl, hR1⟩, rfl, by rw [ht]; exact hP, hD, hS.F ht⟩) hS.2.2 dL_undo_15
  · refine call_XB (vx_runV (As := []) (rest := [.int (nI 0), .ref o]) ⟨hx, hb, hml, hown, hts⟩ (hu s.heap.size) (kV hts qw913 qw914 qw915 qw1 qw916 ok_X4_undo ⟨Nat.le_of_ble_eq_true rfl, Nat.le_of_ble_eq_true rfl⟩) ⟨PM.blind, va_recv hK hPw (ci := 5) (q0 := 0) rfl h0, fun U hU hW => ⟨rfl, by rw [hU]; exact hC.warm hW, by rw [hU], by rw [hU]; exact hPw, hDw, hZw⟩⟩ rfl rfl hl.1 rfl (lv_room (Nat.le_of_ble_eq_true rfl)) dL_undo_3 ⟨Nat.le_of_ble_eq_true rfl, Nat.le_of_ble_eq_true rfl⟩) hS hsub (fun w1 H1 locs1 q9 ce hR1 hP1 hD1 hS hsz1 hk1 hce hcv hcl => ?_)
    obtain ⟨hP, hD⟩ := frm (wr := [OUT t o f]) rfl hP hD hsub hk1 hP1 hD1
    refine vx_catch (name := "java/lang/IllegalStateException") hown [] ⟨0, 8, 11, 20⟩ [] hxt (fun z hz => nomatch hz) (by decide) (by decide) (hts _ qw750) (va_Nw.use rfl (hC.2.1 _ qw757)) hce hcv hcl ?_
    refine lv_astore_n (lv' := (2, .ref q9) :: [(0, .ref x0), (1, .ref o)]) hx hb dL_undo_11 rfl hl (by decide) rfl (fun ls hl => ?_)
    refine W.widen (k := 5) (n := 70) (by decide) (by decide) ?_
    refine lv_iconst (v := nI 1) hx hb dL_undo_12 (by decide) ?_
    exact W.iret hx hb hr (fun t9 ht hW => ⟨(f, w1), ⟨fun z => absurd z (by decide), hR1⟩, rfl, by rw [ht]; exact hP, hD, hS.F ht⟩) hS.2.2 dL_undo_13
  · omega
abbrev rh_cell : Room := { frames := 8, cells := 5, slots := 70, locals := 165 }
theorem okL_cell : okY yL_cell 5 := ⟨by decide +kernel, by decide +kernel, by decide +kernel⟩
set_option maxHeartbeats 4000000 in
theorem h_cell (l : Launch) (z0 : Nat) (D : va_G) (t : Nat → ClassId) (x0 o : Nat) (f : Nat → Int64) {w : va_W} {R' : va_W → Prop} {v : Int32} {th : Nat} (a1 : Int32) (a2 : Int32) (a3 : Int32) (h0 : ∃ fs, w[0]? = some (x0, .inr (5, fs))) (hth : th ≤ 2) (hop : OPX l yX4_cell cX4_cell 4 rm_X4_cell rx_X4_cell z0 D t x0 [.int a1, .int a2, .int a3] w v th IOE IAE 0 0 1 6 R') (sz : Nat) : Met l yL_cell (wh_ yL_cell cL_cell 6 (some .int) [(0, 12, 15, 18), (0, 12, 19, 13)]) rh_cell (PMH z0 D t [.ref x0, .int a1, .int a2, .int a3, .ref o] (OUT t o f :: w) (o :: w.map Prod.fst) sz) (QB (fun _ : (Nat → Int64) × va_W => some (.int (nI th))) D (fun b => OUT t o b.1 :: b.2) (fun b => (th = 0 → b.1 0 = v.toInt64) ∧ R' b.2) (o :: w.map Prod.fst) sz) 5 70 (OA (o :: w.map Prod.fst) sz) := by
  refine met_ofWH (cc := cL_cell) (maxL := 6) (ret := (some .int)) (hh := [(0, 12, 15, 18), (0, 12, 19, 13)]) (by decide) rfl ?_
  intro p e s m args below meth c s₁ Bo hml hxt hv
  obtain ⟨rfl, ⟨hC, hN⟩, hsz, hP, hD, hZ⟩ := hv
  have hx := Bo.exec
  have hb := Bo.bytes
  have hr := Bo.returns
  have hts : ∀ w ∈ LA, w.before _ s = true := fun w hw => atoms_spec (ws := (wh_ yL_cell cL_cell 6 (some .int) [(0, 12, 15, 18), (0, 12, 19, 13)])) Bo.pre w (List.mem_cons_of_mem _ hw)
  have hown : s.vm.findClass RL = some m.cls := findClass_of_methodNamed Bo.named
  have hlocks := Bo.notSynchronized
  have hK := hC.1
  subst hsz
  obtain ⟨fs, h0⟩ := h0
  have hPw := (pd_sub (List.sublist_cons_self _ _) hP hD).1
  have hDw : va_D (OA (w.map Prod.fst) s.heap.size) w := ⟨(pd_sub (List.sublist_cons_self _ _) hP hD).2.1, fun _ _ h9 => Or.inl (in_map rfl h9)⟩
  have hsub : ∀ q, OA (w.map Prod.fst) s.heap.size q → OA (o :: w.map Prod.fst) s.heap.size q := OA.mono (fun a h => List.mem_cons_of_mem _ h) (Nat.le_refl _)
  have hZw : ∀ q, OA (w.map Prod.fst) s.heap.size q → z0 ≤ q := fun q hq => hZ q (hsub q hq)
  have hS : va_S (OA (o :: w.map Prod.fst) s.heap.size) s.heap s.heap [] := va_S.rf
  have hl := lv_entry ([.ref x0, .int a1, .int a2, .int a3, .ref o]) (n := 6) (Nat.le_of_ble_eq_true rfl)
  rw [lg_entry_eq]
  generalize (lg_sl ([.ref x0, .int a1, .int a2, .int a3, .ref o]) ++ List.replicate (6 - (lg_sl ([.ref x0, .int a1, .int a2, .int a3, .ref o])).length) Slot.unset).toArray = ls at hl ⊢
  have hl : lv_has ls 6 [(0, .ref x0), (1, .int a1), (2, .int a2), (3, .int a3), (4, .ref o)] := hl
  refine lv_aload hx hb dL_cell_0 (lv_at hl 4 rfl) ?_
  refine lv_iconst (v := nI 0) hx hb dL_cell_2 (by decide) ?_
  refine lv_aload_n hx hb dL_cell_3 rfl (lv_at hl 0 rfl) ?_
  refine lv_iload_n hx hb dL_cell_4 rfl (lv_at hl 1 rfl) ?_
  refine lv_iload_n hx hb dL_cell_5 rfl (lv_at hl 2 rfl) ?_
  refine lv_iload_n hx hb dL_cell_6 rfl (lv_at hl 3 rfl) ?_
  rcases hop with ⟨rfl, hu⟩ | ⟨rfl, hu⟩ | ⟨rfl, hu⟩
  · refine call_Q (va_runV (As := [.int a1, .int a2, .int a3]) (rest := [.int (nI 0), .ref o]) ⟨hx, hb, hml, hown, hts⟩ (hu s.heap.size) (kV hts qw929 qw580 qw581 qw1 qw582 ok_X4_cell ⟨Nat.le_of_ble_eq_true rfl, Nat.le_of_ble_eq_true rfl⟩) ⟨PM.blind, va_recv hK hPw (ci := 5) (q0 := 0) rfl h0, fun U hU hW => ⟨rfl, by rw [hU]; exact hC.warm hW, by rw [hU], by rw [hU]; exact hPw, hDw, hZw⟩⟩ rfl rfl hl.1 rfl (lv_room (Nat.le_of_ble_eq_true rfl)) dL_cell_7 ⟨Nat.le_of_ble_eq_true rfl, Nat.le_of_ble_eq_true rfl⟩) hS hsub (fun w1 H1 locs1 hR1 hP1 hD1 hS hsz1 hk1 => ?_)
    obtain ⟨hP, hD⟩ := frm (wr := [OUT t o f]) rfl hP hD hsub hk1 hP1 hD1
    refine W.widen (k := 5) (n := 70) (by decide) (by decide) ?_
    refine lv_i2l hx hb dL_cell_10 rfl ?_
    refine va_last (ws := OUT t o f :: w1) hx hb hK hP hD hS 0 6 rfl rfl vin01 dL_cell_11 (fun H2 locs2 hP hD hS => ?_)
    refine lv_goto (tgt := 23) hx hb dL_cell_12 (by decide) ?_
    refine lv_iconst (v := nI 0) hx hb dL_cell_23 (by decide) ?_
    exact W.iret hx hb hr (fun t9 ht hW => ⟨(vp_updL f (nI 0).toNatClampNeg v.toInt64, w1), ⟨fun _ => rfl, hR1⟩, rfl, by rw [ht]; exact hP, hD, hS.F ht⟩) hS.2.2 dL_cell_24
  · refine call_XB (vx_runV (As := [.int a1, .int a2, .int a3]) (rest := [.int (nI 0), .ref o]) ⟨hx, hb, hml, hown, hts⟩ (hu s.heap.size) (kV hts qw929 qw580 qw581 qw1 qw582 ok_X4_cell ⟨Nat.le_of_ble_eq_true rfl, Nat.le_of_ble_eq_true rfl⟩) ⟨PM.blind, va_recv hK hPw (ci := 5) (q0 := 0) rfl h0, fun U hU hW => ⟨rfl, by rw [hU]; exact hC.warm hW, by rw [hU], by rw [hU]; exact hPw, hDw, hZw⟩⟩ rfl rfl hl.1 rfl (lv_room (Nat.le_of_ble_eq_true rfl)) dL_cell_7 ⟨Nat.le_of_ble_eq_true rfl, Nat.le_of_ble_eq_true rfl⟩) hS hsub (fun w1 H1 locs1 q9 ce hR1 hP1 hD1 hS hsz1 hk1 hce hcv hcl => ?_)
    obtain ⟨hP, hD⟩ := frm (wr := [OUT t o f]) rfl hP hD hsub hk1 hP1 hD1
    refine vx_catch (name := "java/lang/IndexOutOfBoundsException") hown [] ⟨0, 12, 15, 18⟩ [⟨0, 12, 19, 13⟩] hxt (fun z hz => nomatch hz) (by decide) (by decide) (hts _ qw749) (va_Nw.use rfl (hC.2.1 _ qw553)) hce hcv hcl ?_
    refine lv_astore (lv' := (5, .ref q9) :: [(0, .ref x0), (1, .int a1), (2, .int a2), (3, .int a3), (4, .ref o)]) hx hb dL_cell_15 hl (by decide) rfl (fun ls hl => ?_)
    refine W.widen (k := 5) (n := 70) (by decide) (by decide) ?_
    refine lv_iconst (v := nI 1) hx hb dL_cell_17 (by decide) ?_
    exact W.iret hx hb hr (fun t9 ht hW => ⟨(f, w1), ⟨fun z => absurd z (by decide), hR1⟩, rfl, by rw [ht]; exact hP, hD, hS.F ht⟩) hS.2.2 dL_cell_18
  · refine call_XB (vx_runV (As := [.int a1, .int a2, .int a3]) (rest := [.int (nI 0), .ref o]) ⟨hx, hb, hml, hown, hts⟩ (hu s.heap.size) (kV hts qw929 qw580 qw581 qw1 qw582 ok_X4_cell ⟨Nat.le_of_ble_eq_true rfl, Nat.le_of_ble_eq_true rfl⟩) ⟨PM.blind, va_recv hK hPw (ci := 5) (q0 := 0) rfl h0, fun U hU hW => ⟨rfl, by rw [hU]; exact hC.warm hW, by rw [hU], by rw [hU]; exact hPw, hDw, hZw⟩⟩ rfl rfl hl.1 rfl (lv_room (Nat.le_of_ble_eq_true rfl)) dL_cell_7 ⟨Nat.le_of_ble_eq_true rfl, Nat.le_of_ble_eq_true rfl⟩) hS hsub (fun w1 H1 locs1 q9 ce hR1 hP1 hD1 hS hsz1 hk1 hce hcv hcl => ?_)
    obtain ⟨hP, hD⟩ := frm (wr := [OUT t o f]) rfl hP hD hsub hk1 hP1 hD1
    refine vx_catch (name := "java/lang/IllegalArgumentException") hown [⟨0, 12, 15, 18⟩] ⟨0, 12, 19, 13⟩ [] hxt (fun z hz => by
      cases List.mem_singleton.mp hz
      exact Or.inr ⟨by decide, IOE, hts _ qw749, hN.2.2⟩) (by decide) (by decide) (hts _ qw653) (va_Nw.use rfl (hC.2.1 _ qw473)) hce hcv hcl ?_
    refine lv_astore (lv' := (5, .ref q9) :: [(0, .ref x0), (1, .int a1), (2, .int a2), (3, .int a3), (4, .ref o)]) hx hb dL_cell_19 hl (by decide) rfl (fun ls hl => ?_)
    refine W.widen (k := 5) (n := 70) (by decide) (by decide) ?_
    refine lv_iconst (v := nI 2) hx hb dL_cell_21 (by decide) ?_
    exact W.iret hx hb hr (fun t9 ht hW => ⟨(f, w1), ⟨fun z => absurd z (by decide), hR1⟩, rfl, by rw [ht]; exact hP, hD, hS.F ht⟩) hS.2.2 dL_cell_22
abbrev rh_triple : Room := { frames := 8, cells := 5, slots := 70, locals := 163 }
theorem okL_triple : okY yL_triple 4 := ⟨by decide +kernel, by decide +kernel, by decide +kernel⟩
set_option maxHeartbeats 4000000 in
theorem h_triple (l : Launch) (z0 : Nat) (D : va_G) (t : Nat → ClassId) (x0 o : Nat) (f : Nat → Int64) {w : va_W} {R' : va_W → Prop} {v : Int32} {th : Nat} (a1 : Int32) (a2 : Int32) (h0 : ∃ fs, w[0]? = some (x0, .inr (5, fs))) (hth : th ≤ 2) (hop : OPX l yX4_triple cX4_triple 4 rm_X4_triple rx_X4_triple z0 D t x0 [.int a1, .int a2] w v th IOE IAE 0 0 1 6 R') (sz : Nat) : Met l yL_triple (wh_ yL_triple cL_triple 5 (some .int) [(0, 10, 13, 18), (0, 10, 17, 13)]) rh_triple (PMH z0 D t [.ref x0, .int a1, .int a2, .ref o] (OUT t o f :: w) (o :: w.map Prod.fst) sz) (QB (fun _ : (Nat → Int64) × va_W => some (.int (nI th))) D (fun b => OUT t o b.1 :: b.2) (fun b => (th = 0 → b.1 0 = v.toInt64) ∧ R' b.2) (o :: w.map Prod.fst) sz) 5 70 (OA (o :: w.map Prod.fst) sz) := by
  refine met_ofWH (cc := cL_triple) (maxL := 5) (ret := (some .int)) (hh := [(0, 10, 13, 18), (0, 10, 17, 13)]) (by decide) rfl ?_
  intro p e s m args below meth c s₁ Bo hml hxt hv
  obtain ⟨rfl, ⟨hC, hN⟩, hsz, hP, hD, hZ⟩ := hv
  have hx := Bo.exec
  have hb := Bo.bytes
  have hr := Bo.returns
  have hts : ∀ w ∈ LA, w.before _ s = true := fun w hw => atoms_spec (ws := (wh_ yL_triple cL_triple 5 (some .int) [(0, 10, 13, 18), (0, 10, 17, 13)])) Bo.pre w (List.mem_cons_of_mem _ hw)
  have hown : s.vm.findClass RL = some m.cls := findClass_of_methodNamed Bo.named
  have hlocks := Bo.notSynchronized
  have hK := hC.1
  subst hsz
  obtain ⟨fs, h0⟩ := h0
  have hPw := (pd_sub (List.sublist_cons_self _ _) hP hD).1
  have hDw : va_D (OA (w.map Prod.fst) s.heap.size) w := ⟨(pd_sub (List.sublist_cons_self _ _) hP hD).2.1, fun _ _ h9 => Or.inl (in_map rfl h9)⟩
  have hsub : ∀ q, OA (w.map Prod.fst) s.heap.size q → OA (o :: w.map Prod.fst) s.heap.size q := OA.mono (fun a h => List.mem_cons_of_mem _ h) (Nat.le_refl _)
  have hZw : ∀ q, OA (w.map Prod.fst) s.heap.size q → z0 ≤ q := fun q hq => hZ q (hsub q hq)
  have hS : va_S (OA (o :: w.map Prod.fst) s.heap.size) s.heap s.heap [] := va_S.rf
  have hl := lv_entry ([.ref x0, .int a1, .int a2, .ref o]) (n := 5) (Nat.le_of_ble_eq_true rfl)
  rw [lg_entry_eq]
  generalize (lg_sl ([.ref x0, .int a1, .int a2, .ref o]) ++ List.replicate (5 - (lg_sl ([.ref x0, .int a1, .int a2, .ref o])).length) Slot.unset).toArray = ls at hl ⊢
  have hl : lv_has ls 5 [(0, .ref x0), (1, .int a1), (2, .int a2), (3, .ref o)] := hl
  refine lv_aload_n hx hb dL_triple_0 rfl (lv_at hl 3 rfl) ?_
  refine lv_iconst (v := nI 0) hx hb dL_triple_1 (by decide) ?_
  refine lv_aload_n hx hb dL_triple_2 rfl (lv_at hl 0 rfl) ?_
  refine lv_iload_n hx hb dL_triple_3 rfl (lv_at hl 1 rfl) ?_
  refine lv_iload_n hx hb dL_triple_4 rfl (lv_at hl 2 rfl) ?_
  rcases hop with ⟨rfl, hu⟩ | ⟨rfl, hu⟩ | ⟨rfl, hu⟩
  · refine call_Q (va_runV (As := [.int a1, .int a2]) (rest := [.int (nI 0), .ref o]) ⟨hx, hb, hml, hown, hts⟩ (hu s.heap.size) (kV hts qw933 qw601 qw602 qw1 qw603 ok_X4_triple ⟨Nat.le_of_ble_eq_true rfl, Nat.le_of_ble_eq_true rfl⟩) ⟨PM.blind, va_recv hK hPw (ci := 5) (q0 := 0) rfl h0, fun U hU hW => ⟨rfl, by rw [hU]; exact hC.warm hW, by rw [hU], by rw [hU]; exact hPw, hDw, hZw⟩⟩ rfl rfl hl.1 rfl (lv_room (Nat.le_of_ble_eq_true rfl)) dL_triple_5 ⟨Nat.le_of_ble_eq_true rfl, Nat.le_of_ble_eq_true rfl⟩) hS hsub (fun w1 H1 locs1 hR1 hP1 hD1 hS hsz1 hk1 => ?_)
    obtain ⟨hP, hD⟩ := frm (wr := [OUT t o f]) rfl hP hD hsub hk1 hP1 hD1
    refine W.widen (k := 5) (n := 70) (by decide) (by decide) ?_
    refine lv_i2l hx hb dL_triple_8 rfl ?_
    refine va_last (ws := OUT t o f :: w1) hx hb hK hP hD hS 0 6 rfl rfl vin01 dL_triple_9 (fun H2 locs2 hP hD hS => ?_)
    refine lv_goto (tgt := 21) hx hb dL_triple_10 (by decide) ?_
    refine lv_iconst (v := nI 0) hx hb dL_triple_21 (by decide) ?_
    exact W.iret hx hb hr (fun t9 ht hW => ⟨(vp_updL f (nI 0).toNatClampNeg v.toInt64, w1), ⟨fun _ => rfl, hR1⟩, rfl, by rw [ht]; exact hP, hD, hS.F ht⟩) hS.2.2 dL_triple_22
  · refine call_XB (vx_runV (As := [.int a1, .int a2]) (rest := [.int (nI 0), .ref o]) ⟨hx, hb, hml, hown, hts⟩ (hu s.heap.size) (kV hts qw933 qw601 qw602 qw1 qw603 ok_X4_triple ⟨Nat.le_of_ble_eq_true rfl, Nat.le_of_ble_eq_true rfl⟩) ⟨PM.blind, va_recv hK hPw (ci := 5) (q0 := 0) rfl h0, fun U hU hW => ⟨rfl, by rw [hU]; exact hC.warm hW, by rw [hU], by rw [hU]; exact hPw, hDw, hZw⟩⟩ rfl rfl hl.1 rfl (lv_room (Nat.le_of_ble_eq_true rfl)) dL_triple_5 ⟨Nat.le_of_ble_eq_true rfl, Nat.le_of_ble_eq_true rfl⟩) hS hsub (fun w1 H1 locs1 q9 ce hR1 hP1 hD1 hS hsz1 hk1 hce hcv hcl => ?_)
    obtain ⟨hP, hD⟩ := frm (wr := [OUT t o f]) rfl hP hD hsub hk1 hP1 hD1
    refine vx_catch (name := "java/lang/IndexOutOfBoundsException") hown [] ⟨0, 10, 13, 18⟩ [⟨0, 10, 17, 13⟩] hxt (fun z hz => nomatch hz) (by decide) (by decide) (hts _ qw749) (va_Nw.use rfl (hC.2.1 _ qw553)) hce hcv hcl ?_
    refine lv_astore (lv' := (4, .ref q9) :: [(0, .ref x0), (1, .int a1), (2, .int a2), (3, .ref o)]) hx hb dL_triple_13 hl (by decide) rfl (fun ls hl => ?_)
    refine W.widen (k := 5) (n := 70) (by decide) (by decide) ?_
    refine lv_iconst (v := nI 1) hx hb dL_triple_15 (by decide) ?_
    exact W.iret hx hb hr (fun t9 ht hW => ⟨(f, w1), ⟨fun z => absurd z (by decide), hR1⟩, rfl, by rw [ht]; exact hP, hD, hS.F ht⟩) hS.2.2 dL_triple_16
  · refine call_XB (vx_runV (As := [.int a1, .int a2]) (rest := [.int (nI 0), .ref o]) ⟨hx, hb, hml, hown, hts⟩ (hu s.heap.size) (kV hts qw933 qw601 qw602 qw1 qw603 ok_X4_triple ⟨Nat.le_of_ble_eq_true rfl, Nat.le_of_ble_eq_true rfl⟩) ⟨PM.blind, va_recv hK hPw (ci := 5) (q0 := 0) rfl h0, fun U hU hW => ⟨rfl, by rw [hU]; exact hC.warm hW, by rw [hU], by rw [hU]; exact hPw, hDw, hZw⟩⟩ rfl rfl hl.1 rfl (lv_room (Nat.le_of_ble_eq_true rfl)) dL_triple_5 ⟨Nat.le_of_ble_eq_true rfl, Nat.le_of_ble_eq_true rfl⟩) hS hsub (fun w1 H1 locs1 q9 ce hR1 hP1 hD1 hS hsz1 hk1 hce hcv hcl => ?_)
    obtain ⟨hP, hD⟩ := frm (wr := [OUT t o f]) rfl hP hD hsub hk1 hP1 hD1
    refine vx_catch (name := "java/lang/IllegalArgumentException") hown [⟨0, 10, 13, 18⟩] ⟨0, 10, 17, 13⟩ [] hxt (fun z hz => by
      cases List.mem_singleton.mp hz
      exact Or.inr ⟨by decide, IOE, hts _ qw749, hN.2.2⟩) (by decide) (by decide) (hts _ qw653) (va_Nw.use rfl (hC.2.1 _ qw473)) hce hcv hcl ?_
    refine lv_astore (lv' := (4, .ref q9) :: [(0, .ref x0), (1, .int a1), (2, .int a2), (3, .ref o)]) hx hb dL_triple_17 hl (by decide) rfl (fun ls hl => ?_)
    refine W.widen (k := 5) (n := 70) (by decide) (by decide) ?_
    refine lv_iconst (v := nI 2) hx hb dL_triple_19 (by decide) ?_
    exact W.iret hx hb hr (fun t9 ht hW => ⟨(f, w1), ⟨fun z => absurd z (by decide), hR1⟩, rfl, by rw [ht]; exact hP, hD, hS.F ht⟩) hS.2.2 dL_triple_20
abbrev rh_row : Room := { frames := 8, cells := 5, slots := 70, locals := 162 }
theorem okL_row : okY yL_row 4 := ⟨by decide +kernel, by decide +kernel, by decide +kernel⟩
set_option maxHeartbeats 4000000 in
theorem h_row (l : Launch) (z0 : Nat) (D : va_G) (t : Nat → ClassId) (x0 o : Nat) (f : Nat → Int64) {w : va_W} {R' : va_W → Prop} {v : Int32} {th : Nat} (a1 : Int32) (a2 : Int32) (h0 : ∃ fs, w[0]? = some (x0, .inr (5, fs))) (hth : th ≤ 2) (hop : OPX l yX4_row cX4_row 3 rm_X4_row rx_X4_row z0 D t x0 [.int a1, .int a2] w v th IOE IAE 0 0 1 6 R') (sz : Nat) : Met l yL_row (wh_ yL_row cL_row 5 (some .int) [(0, 10, 13, 18), (0, 10, 17, 13)]) rh_row (PMH z0 D t [.ref x0, .int a1, .int a2, .ref o] (OUT t o f :: w) (o :: w.map Prod.fst) sz) (QB (fun _ : (Nat → Int64) × va_W => some (.int (nI th))) D (fun b => OUT t o b.1 :: b.2) (fun b => (th = 0 → b.1 0 = v.toInt64) ∧ R' b.2) (o :: w.map Prod.fst) sz) 5 70 (OA (o :: w.map Prod.fst) sz) := by
  refine met_ofWH (cc := cL_row) (maxL := 5) (ret := (some .int)) (hh := [(0, 10, 13, 18), (0, 10, 17, 13)]) (by decide) rfl ?_
  intro p e s m args below meth c s₁ Bo hml hxt hv
  obtain ⟨rfl, ⟨hC, hN⟩, hsz, hP, hD, hZ⟩ := hv
  have hx := Bo.exec
  have hb := Bo.bytes
  have hr := Bo.returns
  have hts : ∀ w ∈ LA, w.before _ s = true := fun w hw => atoms_spec (ws := (wh_ yL_row cL_row 5 (some .int) [(0, 10, 13, 18), (0, 10, 17, 13)])) Bo.pre w (List.mem_cons_of_mem _ hw)
  have hown : s.vm.findClass RL = some m.cls := findClass_of_methodNamed Bo.named
  have hlocks := Bo.notSynchronized
  have hK := hC.1
  subst hsz
  obtain ⟨fs, h0⟩ := h0
  have hPw := (pd_sub (List.sublist_cons_self _ _) hP hD).1
  have hDw : va_D (OA (w.map Prod.fst) s.heap.size) w := ⟨(pd_sub (List.sublist_cons_self _ _) hP hD).2.1, fun _ _ h9 => Or.inl (in_map rfl h9)⟩
  have hsub : ∀ q, OA (w.map Prod.fst) s.heap.size q → OA (o :: w.map Prod.fst) s.heap.size q := OA.mono (fun a h => List.mem_cons_of_mem _ h) (Nat.le_refl _)
  have hZw : ∀ q, OA (w.map Prod.fst) s.heap.size q → z0 ≤ q := fun q hq => hZ q (hsub q hq)
  have hS : va_S (OA (o :: w.map Prod.fst) s.heap.size) s.heap s.heap [] := va_S.rf
  have hl := lv_entry ([.ref x0, .int a1, .int a2, .ref o]) (n := 5) (Nat.le_of_ble_eq_true rfl)
  rw [lg_entry_eq]
  generalize (lg_sl ([.ref x0, .int a1, .int a2, .ref o]) ++ List.replicate (5 - (lg_sl ([.ref x0, .int a1, .int a2, .ref o])).length) Slot.unset).toArray = ls at hl ⊢
  have hl : lv_has ls 5 [(0, .ref x0), (1, .int a1), (2, .int a2), (3, .ref o)] := hl
  refine lv_aload_n hx hb dL_row_0 rfl (lv_at hl 3 rfl) ?_
  refine lv_iconst (v := nI 0) hx hb dL_row_1 (by decide) ?_
  refine lv_aload_n hx hb dL_row_2 rfl (lv_at hl 0 rfl) ?_
  refine lv_iload_n hx hb dL_row_3 rfl (lv_at hl 1 rfl) ?_
  refine lv_iload_n hx hb dL_row_4 rfl (lv_at hl 2 rfl) ?_
  rcases hop with ⟨rfl, hu⟩ | ⟨rfl, hu⟩ | ⟨rfl, hu⟩
  · refine call_Q (va_runV (As := [.int a1, .int a2]) (rest := [.int (nI 0), .ref o]) ⟨hx, hb, hml, hown, hts⟩ (hu s.heap.size) (kV hts qw937 qw548 qw549 qw1 qw550 ok_X4_row ⟨Nat.le_of_ble_eq_true rfl, Nat.le_of_ble_eq_true rfl⟩) ⟨PM.blind, va_recv hK hPw (ci := 5) (q0 := 0) rfl h0, fun U hU hW => ⟨rfl, by rw [hU]; exact hC.warm hW, by rw [hU], by rw [hU]; exact hPw, hDw, hZw⟩⟩ rfl rfl hl.1 rfl (lv_room (Nat.le_of_ble_eq_true rfl)) dL_row_5 ⟨Nat.le_of_ble_eq_true rfl, Nat.le_of_ble_eq_true rfl⟩) hS hsub (fun w1 H1 locs1 hR1 hP1 hD1 hS hsz1 hk1 => ?_)
    obtain ⟨hP, hD⟩ := frm (wr := [OUT t o f]) rfl hP hD hsub hk1 hP1 hD1
    refine W.widen (k := 5) (n := 70) (by decide) (by decide) ?_
    refine lv_i2l hx hb dL_row_8 rfl ?_
    refine va_last (ws := OUT t o f :: w1) hx hb hK hP hD hS 0 6 rfl rfl vin01 dL_row_9 (fun H2 locs2 hP hD hS => ?_)
    refine lv_goto (tgt := 21) hx hb dL_row_10 (by decide) ?_
    refine lv_iconst (v := nI 0) hx hb dL_row_21 (by decide) ?_
    exact W.iret hx hb hr (fun t9 ht hW => ⟨(vp_updL f (nI 0).toNatClampNeg v.toInt64, w1), ⟨fun _ => rfl, hR1⟩, rfl, by rw [ht]; exact hP, hD, hS.F ht⟩) hS.2.2 dL_row_22
  · refine call_XB (vx_runV (As := [.int a1, .int a2]) (rest := [.int (nI 0), .ref o]) ⟨hx, hb, hml, hown, hts⟩ (hu s.heap.size) (kV hts qw937 qw548 qw549 qw1 qw550 ok_X4_row ⟨Nat.le_of_ble_eq_true rfl, Nat.le_of_ble_eq_true rfl⟩) ⟨PM.blind, va_recv hK hPw (ci := 5) (q0 := 0) rfl h0, fun U hU hW => ⟨rfl, by rw [hU]; exact hC.warm hW, by rw [hU], by rw [hU]; exact hPw, hDw, hZw⟩⟩ rfl rfl hl.1 rfl (lv_room (Nat.le_of_ble_eq_true rfl)) dL_row_5 ⟨Nat.le_of_ble_eq_true rfl, Nat.le_of_ble_eq_true rfl⟩) hS hsub (fun w1 H1 locs1 q9 ce hR1 hP1 hD1 hS hsz1 hk1 hce hcv hcl => ?_)
    obtain ⟨hP, hD⟩ := frm (wr := [OUT t o f]) rfl hP hD hsub hk1 hP1 hD1
    refine vx_catch (name := "java/lang/IndexOutOfBoundsException") hown [] ⟨0, 10, 13, 18⟩ [⟨0, 10, 17, 13⟩] hxt (fun z hz => nomatch hz) (by decide) (by decide) (hts _ qw749) (va_Nw.use rfl (hC.2.1 _ qw553)) hce hcv hcl ?_
    refine lv_astore (lv' := (4, .ref q9) :: [(0, .ref x0), (1, .int a1), (2, .int a2), (3, .ref o)]) hx hb dL_row_13 hl (by decide) rfl (fun ls hl => ?_)
    refine W.widen (k := 5) (n := 70) (by decide) (by decide) ?_
    refine lv_iconst (v := nI 1) hx hb dL_row_15 (by decide) ?_
    exact W.iret hx hb hr (fun t9 ht hW => ⟨(f, w1), ⟨fun z => absurd z (by decide), hR1⟩, rfl, by rw [ht]; exact hP, hD, hS.F ht⟩) hS.2.2 dL_row_16
  · refine call_XB (vx_runV (As := [.int a1, .int a2]) (rest := [.int (nI 0), .ref o]) ⟨hx, hb, hml, hown, hts⟩ (hu s.heap.size) (kV hts qw937 qw548 qw549 qw1 qw550 ok_X4_row ⟨Nat.le_of_ble_eq_true rfl, Nat.le_of_ble_eq_true rfl⟩) ⟨PM.blind, va_recv hK hPw (ci := 5) (q0 := 0) rfl h0, fun U hU hW => ⟨rfl, by rw [hU]; exact hC.warm hW, by rw [hU], by rw [hU]; exact hPw, hDw, hZw⟩⟩ rfl rfl hl.1 rfl (lv_room (Nat.le_of_ble_eq_true rfl)) dL_row_5 ⟨Nat.le_of_ble_eq_true rfl, Nat.le_of_ble_eq_true rfl⟩) hS hsub (fun w1 H1 locs1 q9 ce hR1 hP1 hD1 hS hsz1 hk1 hce hcv hcl => ?_)
    obtain ⟨hP, hD⟩ := frm (wr := [OUT t o f]) rfl hP hD hsub hk1 hP1 hD1
    refine vx_catch (name := "java/lang/IllegalArgumentException") hown [⟨0, 10, 13, 18⟩] ⟨0, 10, 17, 13⟩ [] hxt (fun z hz => by
      cases List.mem_singleton.mp hz
      exact Or.inr ⟨by decide, IOE, hts _ qw749, hN.2.2⟩) (by decide) (by decide) (hts _ qw653) (va_Nw.use rfl (hC.2.1 _ qw473)) hce hcv hcl ?_
    refine lv_astore (lv' := (4, .ref q9) :: [(0, .ref x0), (1, .int a1), (2, .int a2), (3, .ref o)]) hx hb dL_row_17 hl (by decide) rfl (fun ls hl => ?_)
    refine W.widen (k := 5) (n := 70) (by decide) (by decide) ?_
    refine lv_iconst (v := nI 2) hx hb dL_row_19 (by decide) ?_
    exact W.iret hx hb hr (fun t9 ht hW => ⟨(f, w1), ⟨fun z => absurd z (by decide), hR1⟩, rfl, by rw [ht]; exact hP, hD, hS.F ht⟩) hS.2.2 dL_row_20
abbrev rh_count : Room := { frames := 7, cells := 5, slots := 70, locals := 156 }
theorem okL_count : okY yL_count 3 := ⟨by decide +kernel, by decide +kernel, by decide +kernel⟩
set_option maxHeartbeats 4000000 in
theorem h_count (l : Launch) (z0 : Nat) (D : va_G) (t : Nat → ClassId) (x0 o : Nat) (f : Nat → Int64) {w : va_W} {R' : va_W → Prop} {v : Int32} {th : Nat} (a1 : Int32) (h0 : ∃ fs, w[0]? = some (x0, .inr (5, fs))) (hth : th ≤ 1) (hop : OPX l yX4_count cX4_count 2 rm_X4_count rx_X4_count z0 D t x0 [.int a1] w v th IAE "" 0 0 1 6 R') (sz : Nat) : Met l yL_count (wh_ yL_count cL_count 4 (some .int) [(0, 9, 12, 13)]) rh_count (PMH z0 D t [.ref x0, .int a1, .ref o] (OUT t o f :: w) (o :: w.map Prod.fst) sz) (QB (fun _ : (Nat → Int64) × va_W => some (.int (nI th))) D (fun b => OUT t o b.1 :: b.2) (fun b => (th = 0 → b.1 0 = v.toInt64) ∧ R' b.2) (o :: w.map Prod.fst) sz) 5 70 (OA (o :: w.map Prod.fst) sz) := by
  refine met_ofWH (cc := cL_count) (maxL := 4) (ret := (some .int)) (hh := [(0, 9, 12, 13)]) (by decide) rfl ?_
  intro p e s m args below meth c s₁ Bo hml hxt hv
  obtain ⟨rfl, ⟨hC, hN⟩, hsz, hP, hD, hZ⟩ := hv
  have hx := Bo.exec
  have hb := Bo.bytes
  have hr := Bo.returns
  have hts : ∀ w ∈ LA, w.before _ s = true := fun w hw => atoms_spec (ws := (wh_ yL_count cL_count 4 (some .int) [(0, 9, 12, 13)])) Bo.pre w (List.mem_cons_of_mem _ hw)
  have hown : s.vm.findClass RL = some m.cls := findClass_of_methodNamed Bo.named
  have hlocks := Bo.notSynchronized
  have hK := hC.1
  subst hsz
  obtain ⟨fs, h0⟩ := h0
  have hPw := (pd_sub (List.sublist_cons_self _ _) hP hD).1
  have hDw : va_D (OA (w.map Prod.fst) s.heap.size) w := ⟨(pd_sub (List.sublist_cons_self _ _) hP hD).2.1, fun _ _ h9 => Or.inl (in_map rfl h9)⟩
  have hsub : ∀ q, OA (w.map Prod.fst) s.heap.size q → OA (o :: w.map Prod.fst) s.heap.size q := OA.mono (fun a h => List.mem_cons_of_mem _ h) (Nat.le_refl _)
  have hZw : ∀ q, OA (w.map Prod.fst) s.heap.size q → z0 ≤ q := fun q hq => hZ q (hsub q hq)
  have hS : va_S (OA (o :: w.map Prod.fst) s.heap.size) s.heap s.heap [] := va_S.rf
  have hl := lv_entry ([.ref x0, .int a1, .ref o]) (n := 4) (Nat.le_of_ble_eq_true rfl)
  rw [lg_entry_eq]
  generalize (lg_sl ([.ref x0, .int a1, .ref o]) ++ List.replicate (4 - (lg_sl ([.ref x0, .int a1, .ref o])).length) Slot.unset).toArray = ls at hl ⊢
  have hl : lv_has ls 4 [(0, .ref x0), (1, .int a1), (2, .ref o)] := hl
  refine lv_aload_n hx hb dL_count_0 rfl (lv_at hl 2 rfl) ?_
  refine lv_iconst (v := nI 0) hx hb dL_count_1 (by decide) ?_
  refine lv_aload_n hx hb dL_count_2 rfl (lv_at hl 0 rfl) ?_
  refine lv_iload_n hx hb dL_count_3 rfl (lv_at hl 1 rfl) ?_
  rcases hop with ⟨rfl, hu⟩ | ⟨rfl, hu⟩ | ⟨rfl, hu⟩
  · refine call_Q (va_runV (As := [.int a1]) (rest := [.int (nI 0), .ref o]) ⟨hx, hb, hml, hown, hts⟩ (hu s.heap.size) (kV hts qw941 qw423 qw424 qw1 qw425 ok_X4_count ⟨Nat.le_of_ble_eq_true rfl, Nat.le_of_ble_eq_true rfl⟩) ⟨PM.blind, va_recv hK hPw (ci := 5) (q0 := 0) rfl h0, fun U hU hW => ⟨rfl, by rw [hU]; exact hC.warm hW, by rw [hU], by rw [hU]; exact hPw, hDw, hZw⟩⟩ rfl rfl hl.1 rfl (lv_room (Nat.le_of_ble_eq_true rfl)) dL_count_4 ⟨Nat.le_of_ble_eq_true rfl, Nat.le_of_ble_eq_true rfl⟩) hS hsub (fun w1 H1 locs1 hR1 hP1 hD1 hS hsz1 hk1 => ?_)
    obtain ⟨hP, hD⟩ := frm (wr := [OUT t o f]) rfl hP hD hsub hk1 hP1 hD1
    refine W.widen (k := 5) (n := 70) (by decide) (by decide) ?_
    refine lv_i2l hx hb dL_count_7 rfl ?_
    refine va_last (ws := OUT t o f :: w1) hx hb hK hP hD hS 0 6 rfl rfl vin01 dL_count_8 (fun H2 locs2 hP hD hS => ?_)
    refine lv_goto (tgt := 15) hx hb dL_count_9 (by decide) ?_
    refine lv_iconst (v := nI 0) hx hb dL_count_15 (by decide) ?_
    exact W.iret hx hb hr (fun t9 ht hW => ⟨(vp_updL f (nI 0).toNatClampNeg v.toInt64, w1), ⟨fun _ => rfl, hR1⟩, rfl, by rw [ht]; exact hP, hD, hS.F ht⟩) hS.2.2 dL_count_16
  · refine call_XB (vx_runV (As := [.int a1]) (rest := [.int (nI 0), .ref o]) ⟨hx, hb, hml, hown, hts⟩ (hu s.heap.size) (kV hts qw941 qw423 qw424 qw1 qw425 ok_X4_count ⟨Nat.le_of_ble_eq_true rfl, Nat.le_of_ble_eq_true rfl⟩) ⟨PM.blind, va_recv hK hPw (ci := 5) (q0 := 0) rfl h0, fun U hU hW => ⟨rfl, by rw [hU]; exact hC.warm hW, by rw [hU], by rw [hU]; exact hPw, hDw, hZw⟩⟩ rfl rfl hl.1 rfl (lv_room (Nat.le_of_ble_eq_true rfl)) dL_count_4 ⟨Nat.le_of_ble_eq_true rfl, Nat.le_of_ble_eq_true rfl⟩) hS hsub (fun w1 H1 locs1 q9 ce hR1 hP1 hD1 hS hsz1 hk1 hce hcv hcl => ?_)
    obtain ⟨hP, hD⟩ := frm (wr := [OUT t o f]) rfl hP hD hsub hk1 hP1 hD1
    refine vx_catch (name := "java/lang/IllegalArgumentException") hown [] ⟨0, 9, 12, 13⟩ [] hxt (fun z hz => nomatch hz) (by decide) (by decide) (hts _ qw653) (va_Nw.use rfl (hC.2.1 _ qw473)) hce hcv hcl ?_
    refine lv_astore_n (lv' := (3, .ref q9) :: [(0, .ref x0), (1, .int a1), (2, .ref o)]) hx hb dL_count_12 rfl hl (by decide) rfl (fun ls hl => ?_)
    refine W.widen (k := 5) (n := 70) (by decide) (by decide) ?_
    refine lv_iconst (v := nI 1) hx hb dL_count_13 (by decide) ?_
    exact W.iret hx hb hr (fun t9 ht hW => ⟨(f, w1), ⟨fun z => absurd z (by decide), hR1⟩, rfl, by rw [ht]; exact hP, hD, hS.F ht⟩) hS.2.2 dL_count_14
  · omega
abbrev rh_whyNot : Room := { frames := 8, cells := 5, slots := 70, locals := 163 }
theorem okL_whyNot : okY yL_whyNot 5 := ⟨by decide +kernel, by decide +kernel, by decide +kernel⟩
set_option maxHeartbeats 4000000 in
theorem h_whyNot (l : Launch) (z0 : Nat) (D : va_G) (t : Nat → ClassId) (x0 o : Nat) (f : Nat → Int64) {w : va_W} {R' : va_W → Prop} {v : Int32} {th : Nat} (a1 : Int32) (a2 : Int32) (a3 : Int32) (h0 : ∃ fs, w[0]? = some (x0, .inr (5, fs))) (hth : th ≤ 1) (hop : OPX l yX4_whyNot cX4_whyNot 4 rm_X4_whyNot rx_X4_whyNot z0 D t x0 [.int a1, .int a2, .int a3] w v th IAE "" 0 0 1 6 R') (sz : Nat) : Met l yL_whyNot (wh_ yL_whyNot cL_whyNot 6 (some .int) [(0, 12, 15, 13)]) rh_whyNot (PMH z0 D t [.ref x0, .int a1, .int a2, .int a3, .ref o] (OUT t o f :: w) (o :: w.map Prod.fst) sz) (QB (fun _ : (Nat → Int64) × va_W => some (.int (nI th))) D (fun b => OUT t o b.1 :: b.2) (fun b => (th = 0 → b.1 0 = v.toInt64) ∧ R' b.2) (o :: w.map Prod.fst) sz) 5 70 (OA (o :: w.map Prod.fst) sz) := by
  refine met_ofWH (cc := cL_whyNot) (maxL := 6) (ret := (some .int)) (hh := [(0, 12, 15, 13)]) (by decide) rfl ?_
  intro p e s m args below meth c s₁ Bo hml hxt hv
  obtain ⟨rfl, ⟨hC, hN⟩, hsz, hP, hD, hZ⟩ := hv
  have hx := Bo.exec
  have hb := Bo.bytes
  have hr := Bo.returns
  have hts : ∀ w ∈ LA, w.before _ s = true := fun w hw => atoms_spec (ws := (wh_ yL_whyNot cL_whyNot 6 (some .int) [(0, 12, 15, 13)])) Bo.pre w (List.mem_cons_of_mem _ hw)
  have hown : s.vm.findClass RL = some m.cls := findClass_of_methodNamed Bo.named
  have hlocks := Bo.notSynchronized
  have hK := hC.1
  subst hsz
  obtain ⟨fs, h0⟩ := h0
  have hPw := (pd_sub (List.sublist_cons_self _ _) hP hD).1
  have hDw : va_D (OA (w.map Prod.fst) s.heap.size) w := ⟨(pd_sub (List.sublist_cons_self _ _) hP hD).2.1, fun _ _ h9 => Or.inl (in_map rfl h9)⟩
  have hsub : ∀ q, OA (w.map Prod.fst) s.heap.size q → OA (o :: w.map Prod.fst) s.heap.size q := OA.mono (fun a h => List.mem_cons_of_mem _ h) (Nat.le_refl _)
  have hZw : ∀ q, OA (w.map Prod.fst) s.heap.size q → z0 ≤ q := fun q hq => hZ q (hsub q hq)
  have hS : va_S (OA (o :: w.map Prod.fst) s.heap.size) s.heap s.heap [] := va_S.rf
  have hl := lv_entry ([.ref x0, .int a1, .int a2, .int a3, .ref o]) (n := 6) (Nat.le_of_ble_eq_true rfl)
  rw [lg_entry_eq]
  generalize (lg_sl ([.ref x0, .int a1, .int a2, .int a3, .ref o]) ++ List.replicate (6 - (lg_sl ([.ref x0, .int a1, .int a2, .int a3, .ref o])).length) Slot.unset).toArray = ls at hl ⊢
  have hl : lv_has ls 6 [(0, .ref x0), (1, .int a1), (2, .int a2), (3, .int a3), (4, .ref o)] := hl
  refine lv_aload hx hb dL_whyNot_0 (lv_at hl 4 rfl) ?_
  refine lv_iconst (v := nI 0) hx hb dL_whyNot_2 (by decide) ?_
  refine lv_aload_n hx hb dL_whyNot_3 rfl (lv_at hl 0 rfl) ?_
  refine lv_iload_n hx hb dL_whyNot_4 rfl (lv_at hl 1 rfl) ?_
  refine lv_iload_n hx hb dL_whyNot_5 rfl (lv_at hl 2 rfl) ?_
  refine lv_iload_n hx hb dL_whyNot_6 rfl (lv_at hl 3 rfl) ?_
  rcases hop with ⟨rfl, hu⟩ | ⟨rfl, hu⟩ | ⟨rfl, hu⟩
  · refine call_Q (va_runV (As := [.int a1, .int a2, .int a3]) (rest := [.int (nI 0), .ref o]) ⟨hx, hb, hml, hown, hts⟩ (hu s.heap.size) (kV hts qw945 qw946 qw947 qw1 qw948 ok_X4_whyNot ⟨Nat.le_of_ble_eq_true rfl, Nat.le_of_ble_eq_true rfl⟩) ⟨PM.blind, va_recv hK hPw (ci := 5) (q0 := 0) rfl h0, fun U hU hW => ⟨rfl, by rw [hU]; exact hC.warm hW, by rw [hU], by rw [hU]; exact hPw, hDw, hZw⟩⟩ rfl rfl hl.1 rfl (lv_room (Nat.le_of_ble_eq_true rfl)) dL_whyNot_7 ⟨Nat.le_of_ble_eq_true rfl, Nat.le_of_ble_eq_true rfl⟩) hS hsub (fun w1 H1 locs1 hR1 hP1 hD1 hS hsz1 hk1 => ?_)
    obtain ⟨hP, hD⟩ := frm (wr := [OUT t o f]) rfl hP hD hsub hk1 hP1 hD1
    refine W.widen (k := 5) (n := 70) (by decide) (by decide) ?_
    refine lv_i2l hx hb dL_whyNot_10 rfl ?_
    refine va_last (ws := OUT t o f :: w1) hx hb hK hP hD hS 0 6 rfl rfl vin01 dL_whyNot_11 (fun H2 locs2 hP hD hS => ?_)
    refine lv_goto (tgt := 19) hx hb dL_whyNot_12 (by decide) ?_
    refine lv_iconst (v := nI 0) hx hb dL_whyNot_19 (by decide) ?_
    exact W.iret hx hb hr (fun t9 ht hW => ⟨(vp_updL f (nI 0).toNatClampNeg v.toInt64, w1), ⟨fun _ => rfl, hR1⟩, rfl, by rw [ht]; exact hP, hD, hS.F ht⟩) hS.2.2 dL_whyNot_20
  · refine call_XB (vx_runV (As := [.int a1, .int a2, .int a3]) (rest := [.int (nI 0), .ref o]) ⟨hx, hb, hml, hown, hts⟩ (hu s.heap.size) (kV hts qw945 qw946 qw947 qw1 qw948 ok_X4_whyNot ⟨Nat.le_of_ble_eq_true rfl, Nat.le_of_ble_eq_true rfl⟩) ⟨PM.blind, va_recv hK hPw (ci := 5) (q0 := 0) rfl h0, fun U hU hW => ⟨rfl, by rw [hU]; exact hC.warm hW, by rw [hU], by rw [hU]; exact hPw, hDw, hZw⟩⟩ rfl rfl hl.1 rfl (lv_room (Nat.le_of_ble_eq_true rfl)) dL_whyNot_7 ⟨Nat.le_of_ble_eq_true rfl, Nat.le_of_ble_eq_true rfl⟩) hS hsub (fun w1 H1 locs1 q9 ce hR1 hP1 hD1 hS hsz1 hk1 hce hcv hcl => ?_)
    obtain ⟨hP, hD⟩ := frm (wr := [OUT t o f]) rfl hP hD hsub hk1 hP1 hD1
    refine vx_catch (name := "java/lang/IllegalArgumentException") hown [] ⟨0, 12, 15, 13⟩ [] hxt (fun z hz => nomatch hz) (by decide) (by decide) (hts _ qw653) (va_Nw.use rfl (hC.2.1 _ qw473)) hce hcv hcl ?_
    refine lv_astore (lv' := (5, .ref q9) :: [(0, .ref x0), (1, .int a1), (2, .int a2), (3, .int a3), (4, .ref o)]) hx hb dL_whyNot_15 hl (by decide) rfl (fun ls hl => ?_)
    refine W.widen (k := 5) (n := 70) (by decide) (by decide) ?_
    refine lv_iconst (v := nI 1) hx hb dL_whyNot_17 (by decide) ?_
    exact W.iret hx hb hr (fun t9 ht hW => ⟨(f, w1), ⟨fun z => absurd z (by decide), hR1⟩, rfl, by rw [ht]; exact hP, hD, hS.F ht⟩) hS.2.2 dL_whyNot_18
  · omega
abbrev rh_waysWith : Room := { frames := 8, cells := 5, slots := 70, locals := 163 }
theorem okL_waysWith : okY yL_waysWith 5 := ⟨by decide +kernel, by decide +kernel, by decide +kernel⟩
set_option maxHeartbeats 4000000 in
theorem h_waysWith (l : Launch) (z0 : Nat) (D : va_G) (t : Nat → ClassId) (x0 o : Nat) (f : Nat → Int64) {w : va_W} {R' : va_W → Prop} {v : Int32} {th : Nat} (a1 : Int32) (a2 : Int32) (a3 : Int32) (h0 : ∃ fs, w[0]? = some (x0, .inr (5, fs))) (hth : th ≤ 1) (hop : OPX l yX4_waysWith cX4_waysWith 4 rm_X4_waysWith rx_X4_waysWith z0 D t x0 [.int a1, .int a2, .int a3] w v th IAE "" 0 0 1 6 R') (sz : Nat) : Met l yL_waysWith (wh_ yL_waysWith cL_waysWith 6 (some .int) [(0, 12, 15, 13)]) rh_waysWith (PMH z0 D t [.ref x0, .int a1, .int a2, .int a3, .ref o] (OUT t o f :: w) (o :: w.map Prod.fst) sz) (QB (fun _ : (Nat → Int64) × va_W => some (.int (nI th))) D (fun b => OUT t o b.1 :: b.2) (fun b => (th = 0 → b.1 0 = v.toInt64) ∧ R' b.2) (o :: w.map Prod.fst) sz) 5 70 (OA (o :: w.map Prod.fst) sz) := by
  refine met_ofWH (cc := cL_waysWith) (maxL := 6) (ret := (some .int)) (hh := [(0, 12, 15, 13)]) (by decide) rfl ?_
  intro p e s m args below meth c s₁ Bo hml hxt hv
  obtain ⟨rfl, ⟨hC, hN⟩, hsz, hP, hD, hZ⟩ := hv
  have hx := Bo.exec
  have hb := Bo.bytes
  have hr := Bo.returns
  have hts : ∀ w ∈ LA, w.before _ s = true := fun w hw => atoms_spec (ws := (wh_ yL_waysWith cL_waysWith 6 (some .int) [(0, 12, 15, 13)])) Bo.pre w (List.mem_cons_of_mem _ hw)
  have hown : s.vm.findClass RL = some m.cls := findClass_of_methodNamed Bo.named
  have hlocks := Bo.notSynchronized
  have hK := hC.1
  subst hsz
  obtain ⟨fs, h0⟩ := h0
  have hPw := (pd_sub (List.sublist_cons_self _ _) hP hD).1
  have hDw : va_D (OA (w.map Prod.fst) s.heap.size) w := ⟨(pd_sub (List.sublist_cons_self _ _) hP hD).2.1, fun _ _ h9 => Or.inl (in_map rfl h9)⟩
  have hsub : ∀ q, OA (w.map Prod.fst) s.heap.size q → OA (o :: w.map Prod.fst) s.heap.size q := OA.mono (fun a h => List.mem_cons_of_mem _ h) (Nat.le_refl _)
  have hZw : ∀ q, OA (w.map Prod.fst) s.heap.size q → z0 ≤ q := fun q hq => hZ q (hsub q hq)
  have hS : va_S (OA (o :: w.map Prod.fst) s.heap.size) s.heap s.heap [] := va_S.rf
  have hl := lv_entry ([.ref x0, .int a1, .int a2, .int a3, .ref o]) (n := 6) (Nat.le_of_ble_eq_true rfl)
  rw [lg_entry_eq]
  generalize (lg_sl ([.ref x0, .int a1, .int a2, .int a3, .ref o]) ++ List.replicate (6 - (lg_sl ([.ref x0, .int a1, .int a2, .int a3, .ref o])).length) Slot.unset).toArray = ls at hl ⊢
  have hl : lv_has ls 6 [(0, .ref x0), (1, .int a1), (2, .int a2), (3, .int a3), (4, .ref o)] := hl
  refine lv_aload hx hb dL_waysWith_0 (lv_at hl 4 rfl) ?_
  refine lv_iconst (v := nI 0) hx hb dL_waysWith_2 (by decide) ?_
  refine lv_aload_n hx hb dL_waysWith_3 rfl (lv_at hl 0 rfl) ?_
  refine lv_iload_n hx hb dL_waysWith_4 rfl (lv_at hl 1 rfl) ?_
  refine lv_iload_n hx hb dL_waysWith_5 rfl (lv_at hl 2 rfl) ?_
  refine lv_iload_n hx hb dL_waysWith_6 rfl (lv_at hl 3 rfl) ?_
  rcases hop with ⟨rfl, hu⟩ | ⟨rfl, hu⟩ | ⟨rfl, hu⟩
  · refine call_Q (va_runV (As := [.int a1, .int a2, .int a3]) (rest := [.int (nI 0), .ref o]) ⟨hx, hb, hml, hown, hts⟩ (hu s.heap.size) (kV hts qw952 qw611 qw612 qw1 qw613 ok_X4_waysWith ⟨Nat.le_of_ble_eq_true rfl, Nat.le_of_ble_eq_true rfl⟩) ⟨PM.blind, va_recv hK hPw (ci := 5) (q0 := 0) rfl h0, fun U hU hW => ⟨rfl, by rw [hU]; exact hC.warm hW, by rw [hU], by rw [hU]; exact hPw, hDw, hZw⟩⟩ rfl rfl hl.1 rfl (lv_room (Nat.le_of_ble_eq_true rfl)) dL_waysWith_7 ⟨Nat.le_of_ble_eq_true rfl, Nat.le_of_ble_eq_true rfl⟩) hS hsub (fun w1 H1 locs1 hR1 hP1 hD1 hS hsz1 hk1 => ?_)
    obtain ⟨hP, hD⟩ := frm (wr := [OUT t o f]) rfl hP hD hsub hk1 hP1 hD1
    refine W.widen (k := 5) (n := 70) (by decide) (by decide) ?_
    refine lv_i2l hx hb dL_waysWith_10 rfl ?_
    refine va_last (ws := OUT t o f :: w1) hx hb hK hP hD hS 0 6 rfl rfl vin01 dL_waysWith_11 (fun H2 locs2 hP hD hS => ?_)
    refine lv_goto (tgt := 19) hx hb dL_waysWith_12 (by decide) ?_
    refine lv_iconst (v := nI 0) hx hb dL_waysWith_19 (by decide) ?_
    exact W.iret hx hb hr (fun t9 ht hW => ⟨(vp_updL f (nI 0).toNatClampNeg v.toInt64, w1), ⟨fun _ => rfl, hR1⟩, rfl, by rw [ht]; exact hP, hD, hS.F ht⟩) hS.2.2 dL_waysWith_20
  · refine call_XB (vx_runV (As := [.int a1, .int a2, .int a3]) (rest := [.int (nI 0), .ref o]) ⟨hx, hb, hml, hown, hts⟩ (hu s.heap.size) (kV hts qw952 qw611 qw612 qw1 qw613 ok_X4_waysWith ⟨Nat.le_of_ble_eq_true rfl, Nat.le_of_ble_eq_true rfl⟩) ⟨PM.blind, va_recv hK hPw (ci := 5) (q0 := 0) rfl h0, fun U hU hW => ⟨rfl, by rw [hU]; exact hC.warm hW, by rw [hU], by rw [hU]; exact hPw, hDw, hZw⟩⟩ rfl rfl hl.1 rfl (lv_room (Nat.le_of_ble_eq_true rfl)) dL_waysWith_7 ⟨Nat.le_of_ble_eq_true rfl, Nat.le_of_ble_eq_true rfl⟩) hS hsub (fun w1 H1 locs1 q9 ce hR1 hP1 hD1 hS hsz1 hk1 hce hcv hcl => ?_)
    obtain ⟨hP, hD⟩ := frm (wr := [OUT t o f]) rfl hP hD hsub hk1 hP1 hD1
    refine vx_catch (name := "java/lang/IllegalArgumentException") hown [] ⟨0, 12, 15, 13⟩ [] hxt (fun z hz => nomatch hz) (by decide) (by decide) (hts _ qw653) (va_Nw.use rfl (hC.2.1 _ qw473)) hce hcv hcl ?_
    refine lv_astore (lv' := (5, .ref q9) :: [(0, .ref x0), (1, .int a1), (2, .int a2), (3, .int a3), (4, .ref o)]) hx hb dL_waysWith_15 hl (by decide) rfl (fun ls hl => ?_)
    refine W.widen (k := 5) (n := 70) (by decide) (by decide) ?_
    refine lv_iconst (v := nI 1) hx hb dL_waysWith_17 (by decide) ?_
    exact W.iret hx hb hr (fun t9 ht hW => ⟨(f, w1), ⟨fun z => absurd z (by decide), hR1⟩, rfl, by rw [ht]; exact hP, hD, hS.F ht⟩) hS.2.2 dL_waysWith_18
  · omega
abbrev rh_forced : Room := { frames := 7, cells := 5, slots := 70, locals := 159 }
theorem okL_forced : okY yL_forced 3 := ⟨by decide +kernel, by decide +kernel, by decide +kernel⟩
set_option maxHeartbeats 4000000 in
theorem h_forced (l : Launch) (z0 : Nat) (D : va_G) (t : Nat → ClassId) (x0 o : Nat) (f : Nat → Int64) {w : va_W} {R' : va_W → Prop} {v : Int32} {th : Nat} (a1 : Int32) (h0 : ∃ fs, w[0]? = some (x0, .inr (5, fs))) (hth : th ≤ 1) (hop : OPX l yX4_forced cX4_forced 3 rm_X4_forced rx_X4_forced z0 D t x0 [.int a1] w v th IAE "" 0 0 1 6 R') (sz : Nat) : Met l yL_forced (wh_ yL_forced cL_forced 4 (some .int) [(0, 9, 12, 13)]) rh_forced (PMH z0 D t [.ref x0, .int a1, .ref o] (OUT t o f :: w) (o :: w.map Prod.fst) sz) (QB (fun _ : (Nat → Int64) × va_W => some (.int (nI th))) D (fun b => OUT t o b.1 :: b.2) (fun b => (th = 0 → b.1 0 = v.toInt64) ∧ R' b.2) (o :: w.map Prod.fst) sz) 5 70 (OA (o :: w.map Prod.fst) sz) := by
  refine met_ofWH (cc := cL_forced) (maxL := 4) (ret := (some .int)) (hh := [(0, 9, 12, 13)]) (by decide) rfl ?_
  intro p e s m args below meth c s₁ Bo hml hxt hv
  obtain ⟨rfl, ⟨hC, hN⟩, hsz, hP, hD, hZ⟩ := hv
  have hx := Bo.exec
  have hb := Bo.bytes
  have hr := Bo.returns
  have hts : ∀ w ∈ LA, w.before _ s = true := fun w hw => atoms_spec (ws := (wh_ yL_forced cL_forced 4 (some .int) [(0, 9, 12, 13)])) Bo.pre w (List.mem_cons_of_mem _ hw)
  have hown : s.vm.findClass RL = some m.cls := findClass_of_methodNamed Bo.named
  have hlocks := Bo.notSynchronized
  have hK := hC.1
  subst hsz
  obtain ⟨fs, h0⟩ := h0
  have hPw := (pd_sub (List.sublist_cons_self _ _) hP hD).1
  have hDw : va_D (OA (w.map Prod.fst) s.heap.size) w := ⟨(pd_sub (List.sublist_cons_self _ _) hP hD).2.1, fun _ _ h9 => Or.inl (in_map rfl h9)⟩
  have hsub : ∀ q, OA (w.map Prod.fst) s.heap.size q → OA (o :: w.map Prod.fst) s.heap.size q := OA.mono (fun a h => List.mem_cons_of_mem _ h) (Nat.le_refl _)
  have hZw : ∀ q, OA (w.map Prod.fst) s.heap.size q → z0 ≤ q := fun q hq => hZ q (hsub q hq)
  have hS : va_S (OA (o :: w.map Prod.fst) s.heap.size) s.heap s.heap [] := va_S.rf
  have hl := lv_entry ([.ref x0, .int a1, .ref o]) (n := 4) (Nat.le_of_ble_eq_true rfl)
  rw [lg_entry_eq]
  generalize (lg_sl ([.ref x0, .int a1, .ref o]) ++ List.replicate (4 - (lg_sl ([.ref x0, .int a1, .ref o])).length) Slot.unset).toArray = ls at hl ⊢
  have hl : lv_has ls 4 [(0, .ref x0), (1, .int a1), (2, .ref o)] := hl
  refine lv_aload_n hx hb dL_forced_0 rfl (lv_at hl 2 rfl) ?_
  refine lv_iconst (v := nI 0) hx hb dL_forced_1 (by decide) ?_
  refine lv_aload_n hx hb dL_forced_2 rfl (lv_at hl 0 rfl) ?_
  refine lv_iload_n hx hb dL_forced_3 rfl (lv_at hl 1 rfl) ?_
  rcases hop with ⟨rfl, hu⟩ | ⟨rfl, hu⟩ | ⟨rfl, hu⟩
  · refine call_Q (va_runV (As := [.int a1]) (rest := [.int (nI 0), .ref o]) ⟨hx, hb, hml, hown, hts⟩ (hu s.heap.size) (kV hts qw956 qw622 qw623 qw1 qw624 ok_X4_forced ⟨Nat.le_of_ble_eq_true rfl, Nat.le_of_ble_eq_true rfl⟩) ⟨PM.blind, va_recv hK hPw (ci := 5) (q0 := 0) rfl h0, fun U hU hW => ⟨rfl, by rw [hU]; exact hC.warm hW, by rw [hU], by rw [hU]; exact hPw, hDw, hZw⟩⟩ rfl rfl hl.1 rfl (lv_room (Nat.le_of_ble_eq_true rfl)) dL_forced_4 ⟨Nat.le_of_ble_eq_true rfl, Nat.le_of_ble_eq_true rfl⟩) hS hsub (fun w1 H1 locs1 hR1 hP1 hD1 hS hsz1 hk1 => ?_)
    obtain ⟨hP, hD⟩ := frm (wr := [OUT t o f]) rfl hP hD hsub hk1 hP1 hD1
    refine W.widen (k := 5) (n := 70) (by decide) (by decide) ?_
    refine lv_i2l hx hb dL_forced_7 rfl ?_
    refine va_last (ws := OUT t o f :: w1) hx hb hK hP hD hS 0 6 rfl rfl vin01 dL_forced_8 (fun H2 locs2 hP hD hS => ?_)
    refine lv_goto (tgt := 15) hx hb dL_forced_9 (by decide) ?_
    refine lv_iconst (v := nI 0) hx hb dL_forced_15 (by decide) ?_
    exact W.iret hx hb hr (fun t9 ht hW => ⟨(vp_updL f (nI 0).toNatClampNeg v.toInt64, w1), ⟨fun _ => rfl, hR1⟩, rfl, by rw [ht]; exact hP, hD, hS.F ht⟩) hS.2.2 dL_forced_16
  · refine call_XB (vx_runV (As := [.int a1]) (rest := [.int (nI 0), .ref o]) ⟨hx, hb, hml, hown, hts⟩ (hu s.heap.size) (kV hts qw956 qw622 qw623 qw1 qw624 ok_X4_forced ⟨Nat.le_of_ble_eq_true rfl, Nat.le_of_ble_eq_true rfl⟩) ⟨PM.blind, va_recv hK hPw (ci := 5) (q0 := 0) rfl h0, fun U hU hW => ⟨rfl, by rw [hU]; exact hC.warm hW, by rw [hU], by rw [hU]; exact hPw, hDw, hZw⟩⟩ rfl rfl hl.1 rfl (lv_room (Nat.le_of_ble_eq_true rfl)) dL_forced_4 ⟨Nat.le_of_ble_eq_true rfl, Nat.le_of_ble_eq_true rfl⟩) hS hsub (fun w1 H1 locs1 q9 ce hR1 hP1 hD1 hS hsz1 hk1 hce hcv hcl => ?_)
    obtain ⟨hP, hD⟩ := frm (wr := [OUT t o f]) rfl hP hD hsub hk1 hP1 hD1
    refine vx_catch (name := "java/lang/IllegalArgumentException") hown [] ⟨0, 9, 12, 13⟩ [] hxt (fun z hz => nomatch hz) (by decide) (by decide) (hts _ qw653) (va_Nw.use rfl (hC.2.1 _ qw473)) hce hcv hcl ?_
    refine lv_astore_n (lv' := (3, .ref q9) :: [(0, .ref x0), (1, .int a1), (2, .ref o)]) hx hb dL_forced_12 rfl hl (by decide) rfl (fun ls hl => ?_)
    refine W.widen (k := 5) (n := 70) (by decide) (by decide) ?_
    refine lv_iconst (v := nI 1) hx hb dL_forced_13 (by decide) ?_
    exact W.iret hx hb hr (fun t9 ht hW => ⟨(f, w1), ⟨fun z => absurd z (by decide), hR1⟩, rfl, by rw [ht]; exact hP, hD, hS.F ht⟩) hS.2.2 dL_forced_14
  · omega
