/-! ===== the law's helpers: they call the class, write its answer, or catch ===== -/
abbrev wh_ (y : MethodName) (b : ByteArray) (n : Nat) (r : Option FieldType) (hh : List (Nat × Nat × Nat × Nat)) : List Cond := Cond.codeWith y b n r hh :: LA
theorem xt_of {L : List ExceptionTableEntry} {hh : List (Nat × Nat × Nat × Nat)} (h : L.map (fun h => (h.startPc, h.endPc, h.handlerPc, h.catchType)) = hh) : L = hh.map (fun q => ⟨q.1, q.2.1, q.2.2.1, q.2.2.2⟩) := by
  subst h
  rw [List.map_map]
  exact (List.map_id L).symm
theorem met_ofWH {l : Launch} {y : MethodName} {ws ws' : List Cond} {rm : Room} {Pc : Array Value → State → Prop} {Qc : Array Value → State → Outcome → State → Prop} {mc ms : Nat} {free : Addr → Prop} {cc : ByteArray} {maxL : Nat} {ret : Option FieldType} {hh : List (Nat × Nat × Nat × Nat)}
    (hy : plainName y.cls = true) (hw : ws = Cond.codeWith y cc maxL ret hh :: ws')
    (body : ∀ p e s m args below meth c s₁, BodyLoose p l y (headSpec ws rm) cc maxL ret e s m args below meth c s₁ → c.maxLocals = maxL → c.exceptionTable.toList = hh.map (fun q => (⟨q.1, q.2.1, q.2.2.1, q.2.2.2⟩ : ExceptionTableEntry)) → Pc args s →
      W p l e (headSpec ws rm).room s m args below meth c s.heap [] 0 0 (MQ below Qc args s mc ms free) (entryFrame m args maxL)) : Met l y ws rm Pc Qc mc ms free := by
  refine MetFree.of_bodyS (code := cc) (maxLocals := maxL) (ret := ret) hy ?_ ?_
  · intro args s m h hn
    obtain ⟨m9, meth, c, hn9, h1, h2, h3, h4, -, h5, h6, -⟩ := Cond.codeWith_spec (atoms_spec (ws := ws) h _ (by rw [hw]; exact List.mem_cons_self))
    cases hn.symm.trans hn9
    exact ⟨meth, c, h1, h2, h3, h4, h5, h6⟩
  · intro p e s m args below meth c s₁ B hml hP _
    have hh0 : s₁.heap = s.heap := by rw [B.state]; rfl
    obtain ⟨m9, meth9, c9, hn9, k1, k2, k3, k4, k5, -, -, -⟩ := Cond.codeWith_spec (atoms_spec (ws := ws) B.pre _ (by rw [hw]; exact List.mem_cons_self))
    cases B.named.symm.trans hn9
    cases B.method.symm.trans k1
    have hc : meth.code = some c := by
      have h9 := B.here.code
      have hv : s₁.vm = s.vm := by rw [B.state]; rfl
      have hm := B.method
      unfold State.code? at h9
      rw [hv] at h9
      unfold Vm.method? at hm
      cases hk : s.vm.classes[m.cls]? with
      | none => rw [hk] at hm; cases hm
      | some k =>
        rw [hk] at h9 hm
        have hm' : k.methods[m.idx]? = some meth := hm
        have h9' : (Option.bind (k.methods[m.idx]?) fun q => q.code) = some c := h9
        rw [hm'] at h9'
        exact h9'
    cases hc.symm.trans k2
    obtain ⟨t, a1, o, b1, b2, b3⟩ := body p e s m args below meth c s₁ B hml (xt_of k5) hP s₁ hh0 (Stand.of_body B)
    exact ⟨t, o, a1, b1, b2, ⟨b3.1, b3.2⟩⟩
theorem kH {R : Room} {s : State} {args : Array Value} {own : String} {idx : Nat} {y : MethodName} {b : ByteArray} {maxL n : Nat} {ret : Option FieldType} {hh : List (Nat × Nat × Nat × Nat)} {rm : Room} (ht : ∀ w ∈ LA, w.before args s = true) (h1 : (Cond.methodLink own idx y) ∈ LA) (h2 : (Cond.static y) ∈ LA) (h4 : (Cond.initialized y.cls) ∈ LA) (h5 : (Cond.codeWith y b maxL ret hh) ∈ LA) (hd : okY y n) (hR : rmIn rm R maxL) : vx_CSW R s args own idx y b maxL ret hh (wh_ y b maxL ret hh) rm rm.cells rm.slots n :=
  ⟨⟨rfl, rfl, hR.1, hR.2, pay_in ht (good_LA (ys := wh_ y b maxL ret hh) (fun _ hw => (List.mem_cons.mp hw).elim (fun e => e ▸ h5) id)), List.mem_cons_self⟩, ht _ h5, ht _ h4, ⟨hd.1, hd.2.1⟩, fun sig h => by
    have h2 := hd.2.2
    rw [h] at h2
    exact (Option.some.inj h2).symm, ht _ h1, ht _ h2⟩
def NC (U : State) : Prop := va_Nc ISE IAE U ∧ va_Nc ISE IOE U ∧ va_Nc IAE IOE U
theorem NC.moved {u U : State} (hvm : u.vm.Alike U.vm) (h : NC u) : NC U := ⟨h.1.moved hvm, h.2.1.moved hvm, h.2.2.moved hvm⟩
def PMH (z0 : Nat) (D : va_G) (t : Nat → ClassId) (av : List Value) (ws : va_W) (L : List Nat) (sz : Nat) : Array Value → State → Prop := va_Pc av (fun U => (CTX z0 D t U U.heap ∧ NC U) ∧ U.heap.size = sz ∧ va_P D vwCl ws U.heap ∧ va_D (OA L sz) ws ∧ (∀ q, OA L sz q → z0 ≤ q))
theorem PMH.blind {z0 : Nat} {D : va_G} {t : Nat → ClassId} {av : List Value} {ws : va_W} {L : List Nat} {sz : Nat} : FrameBlind (PMH z0 D t av ws L sz) := fun _ _ _ _ h => ⟨h.1, ⟨h.2.1.1.same rfl, h.2.1.2.moved (Vm.Alike.refl _)⟩, h.2.2⟩
theorem frm {A0 : Nat → Prop} {D : va_G} {wr ws ws1 : va_W} {L : List Nat} {H H1 : Heap} (hL : ws.map Prod.fst = L) (hP : va_P D vwCl (wr ++ ws) H) (hD : va_D A0 (wr ++ ws)) (hA : ∀ q, OA L H.size q → A0 q) (hk : ∀ q : Nat, q < H.size → ¬ OA L H.size q → H1[q]? = H[q]?) (hP1 : va_P D vwCl ws1 H1) (hD1 : va_D (OA L H.size) ws1) : va_P D vwCl (wr ++ ws1) H1 ∧ va_D A0 (wr ++ ws1) := by
  subst hL
  have apart : ∀ (k : Nat) (q : Nat × va_E), wr[k]? = some q → q.1 < H.size ∧ ¬ OA (ws.map Prod.fst) H.size q.1 := fun k q hq => by
    have hk1 := (List.getElem?_eq_some_iff.mp hq).1
    have hq2 : (wr ++ ws)[k]? = some q := by rw [List.getElem?_append_left hk1]; exact hq
    have hl := (hP k q hq2).lt
    refine ⟨hl, ?_⟩
    rintro (h | h)
    · obtain ⟨p, hp, e⟩ := List.mem_map.mp h
      obtain ⟨j, hj⟩ := List.getElem?_of_mem hp
      have hj2 : (wr ++ ws)[wr.length + j]? = some p := by rw [List.getElem?_append_right (by omega), Nat.add_sub_cancel_left]; exact hj
      have := hD.1 k (wr.length + j) q p hq2 hj2 e.symm
      omega
    · omega
  refine ⟨va_P.app (fun k q hq => ?_) hP1, va_D.app ?_ (hD1.weaken (fun k q _ h => hA q.1 h)) (fun i j p q hp hq e => (apart i p hp).2 (by rw [e]; exact hD1.2 j q hq))⟩
  · have hk1 := (List.getElem?_eq_some_iff.mp hq).1
    have hq2 : (wr ++ ws)[k]? = some q := by rw [List.getElem?_append_left hk1]; exact hq
    exact (hP k q hq2).kept (hk q.1 (apart k q hq).1 (apart k q hq).2)
  · exact ⟨fun i j p q hp hq e => hD.1 i j p q (by rw [List.getElem?_append_left (List.getElem?_eq_some_iff.mp hp).1]; exact hp) (by rw [List.getElem?_append_left (List.getElem?_eq_some_iff.mp hq).1]; exact hq) e, fun k q hq => hD.2 k q (by rw [List.getElem?_append_left (List.getElem?_eq_some_iff.mp hq).1]; exact hq)⟩
section KQ
variable {p : Program} {l : Launch} {e : Env} {R : Room} {s : State} {m : MethodId} {args : Array Value} {below : List Frame} {meth : Method} {c : Code} {H : Heap} {locs : List Loc} {cells slots : Nat} {Q : State → Prop}
variable {ls : Array Slot} {pc : Nat} {st0 rest : List Value} {D : va_G}
theorem call_Q {β : Type} {vf : β → Option Value} {wf : β → va_W} {Rp : β → Prop} {L1 : List Nat} {A0 : Nat → Prop} {H0 : Heap} {mc ms : Nat} (hr : va_Run p l e R s m args below meth c H locs cells slots mc ms (F0 m pc ls st0) rest (fun st o t => ∃ b, Rp b ∧ o = .returned (vf b) ∧ va_P D vwCl (wf b) t.heap ∧ va_D (OA L1 H.size) (wf b) ∧ va_F (OA L1 H.size) st t) (OA L1 H.size)) (hS : va_S A0 H0 H locs) (hA : ∀ q, OA L1 H.size q → A0 q)
    (kk : ∀ (b : β) (H1 : Heap) (locs1 : List Loc), Rp b → va_P D vwCl (wf b) H1 → va_D (OA L1 H.size) (wf b) → va_S A0 H0 H1 locs1 → H.size ≤ H1.size → (∀ q : Nat, q < H.size → ¬ OA L1 H.size q → H1[q]? = H[q]?) → W p l e R s m args below meth c H1 locs1 (cells + mc) (slots + ms) Q (F0 m (pc + 3) ls ((vf b).toList ++ rest))) : W p l e R s m args below meth c H locs cells slots Q (F0 m pc ls st0) := by
  intro T hT X
  obtain ⟨v', st₀, t, T', L, h0, X', hL, e1, e2, ⟨b, hRp, hv, hP, hD, hF⟩, st⟩ := hr T hT X
  cases hv
  have hF1 : H.size ≤ T'.heap.size := by rw [e1, ← h0]; exact hF.1
  have hF2 : ∀ q : Nat, q < H.size → ¬ OA L1 H.size q → T'.heap[q]? = H[q]? := fun q h1 h2 => by rw [e1, ← h0]; exact hF.2 q (by rw [h0]; exact h1) h2
  have hS1 : va_S A0 H0 T'.heap (locs ++ L) := ⟨Nat.le_trans hS.1 hF1, fun q h1 h2 => (hF2 q (Nat.lt_of_lt_of_le h1 hS.1) (fun z => h2 (hA q z))).trans (hS.2.1 q h1 h2), fun l hl => (List.mem_append.mp hl).elim (hS.2.2 l) (fun z => hA _ (hL l z))⟩
  obtain ⟨t2, a1, b1⟩ := kk b T'.heap (locs ++ L) hRp (by rw [e1]; exact hP) hD hS1 hF1 hF2 T' rfl X'
  exact ⟨t2, st t2 a1, b1⟩
theorem call_XB {E : String} {R' : va_W → Prop} {L1 : List Nat} {A0 : Nat → Prop} {H0 : Heap} {mc ms : Nat} (hr : vx_Run p l e R s m args below meth c H locs cells slots mc ms (F0 m pc ls st0) rest (fun _ _ _ => False) (XB E D R' L1 H.size) (OA L1 H.size)) (hS : va_S A0 H0 H locs) (hA : ∀ q, OA L1 H.size q → A0 q)
    (kx : ∀ (w' : va_W) (H1 : Heap) (locs1 : List Loc) (q9 : Addr) (ce : Cell), R' w' → va_P D vwCl w' H1 → va_D (OA L1 H.size) w' → va_S A0 H0 H1 locs1 → H.size ≤ H1.size → (∀ q : Nat, q < H.size → ¬ OA L1 H.size q → H1[q]? = H[q]?) → H1[q9]? = some ce → ce.vm = .none → s.vm.findClass E = some ce.cls → vx_W p l e R s m args below meth c H1 locs1 (cells + mc) (slots + ms) Q (F0 m pc ls rest) q9) : W p l e R s m args below meth c H locs cells slots Q (F0 m pc ls st0) := by
  intro T hT X
  rcases hr T hT X with ⟨v, st₀, t, T', L, h0, X', hL, e1, e2, hf, st⟩ | ⟨q, st₀, t, T', L, E', ce, h0, X', hL, e1, e2, ⟨hE, w', hR', hP, hD, hF⟩, hce, hcv, hcl, st⟩
  · exact hf.elim
  · subst hE
    have hF1 : H.size ≤ T'.heap.size := by rw [e1, ← h0]; exact hF.1
    have hF2 : ∀ q : Nat, q < H.size → ¬ OA L1 H.size q → T'.heap[q]? = H[q]? := fun q h1 h2 => by rw [e1, ← h0]; exact hF.2 q (by rw [h0]; exact h1) h2
    have hS1 : va_S A0 H0 T'.heap (locs ++ L) := ⟨Nat.le_trans hS.1 hF1, fun q h1 h2 => (hF2 q (Nat.lt_of_lt_of_le h1 hS.1) (fun z => h2 (hA q z))).trans (hS.2.1 q h1 h2), fun l hl => (List.mem_append.mp hl).elim (hS.2.2 l) (fun z => hA _ (hL l z))⟩
    obtain ⟨t2, a1, b1⟩ := kx w' T'.heap (locs ++ L) q ce hR' (by rw [e1]; exact hP) hD hS1 hF1 hF2 (by rw [e1]; exact hce) hcv hcl T' rfl X'
    exact ⟨t2, Steps.trans st a1, b1⟩
end KQ
/-- the script's cell, read by the law's own helper -/
def PSC (b L : Nat) (xs : Nat → Int32) (i : Int32) : Array Value → State → Prop := va_Pc [.ref b, .int i] (fun U => va_X b L xs U U.heap ∧ b < U.heap.size)
theorem PSC.blind {b L : Nat} {xs : Nat → Int32} {i : Int32} : FrameBlind (PSC b L xs i) := fun _ _ _ _ h => ⟨h.1, h.2.1.moved (Vm.Alike.refl _), h.2.2⟩
