/-! ===== one list of words for all methods; contracts that carry one context; calls ===== -/
abbrev ws_ (y : MethodName) (b : ByteArray) (n : Nat) (r : Option FieldType) : List Cond := Cond.code y b n r :: LA
theorem good_LA {ys : List Cond} (h : ∀ w ∈ ys, w ∈ LA) : GoodIn LA ys := fun w hw => ⟨h w hw, good_of_word (LA_g w (h w hw))⟩
theorem good_ws {y : MethodName} {b : ByteArray} {n : Nat} {r : Option FieldType} (h : Cond.code y b n r ∈ LA) : GoodIn LA (ws_ y b n r) := good_LA (fun _ hw => (List.mem_cons.mp hw).elim (fun e => e ▸ h) id)
/-- what is asked of a callee's name, once -/
def okY (y : MethodName) (n : Nat) : Prop := y.cls ≠ "java/lang/invoke/MethodHandle" ∧ y.cls ≠ "java/lang/invoke/VarHandle" ∧ (parseMethodDescriptor y.desc).map (fun d => d.parameters.length) = some n
/-- room of a callee within the caller's -/
def rmIn (rm R : Room) (maxL : Nat) : Prop := rm.frames + 1 ≤ R.frames ∧ 8 + (maxL + 11) + rm.locals ≤ R.locals
section KCALL
variable {R : Room} {s : State} {args : Array Value} {own C host : String} {idx : Nat} {y : MethodName} {b : ByteArray} {maxL n : Nat} {ret : Option FieldType} {rm : Room}
theorem kB (ht : ∀ w ∈ LA, w.before args s = true) (h1 : (Cond.methodLink own idx y) ∈ LA) (h4 : (Cond.initialized y.cls) ∈ LA) (h5 : (Cond.code y b maxL ret) ∈ LA) (hd : okY y n) (hR : rmIn rm R maxL) : CallB R s args own idx y b maxL ret (ws_ y b maxL ret) rm rm.cells rm.slots n :=
  callB_of n ht (good_ws h5) rfl rfl rfl (ht _ h4) (ht _ h1) hd hR
theorem kV (ht : ∀ w ∈ LA, w.before args s = true) (h1 : (Cond.methodLink own idx y) ∈ LA) (h2 : (Cond.instanceMethod y) ∈ LA) (h3 : (Cond.selects C y y) ∈ LA) (h4 : (Cond.initialized y.cls) ∈ LA) (h5 : (Cond.code y b maxL ret) ∈ LA) (hd : okY y n) (hR : rmIn rm R maxL) : CallW R s args own C idx y b maxL ret (ws_ y b maxL ret) rm rm.cells rm.slots n :=
  ⟨kB ht h1 h4 h5 hd hR, ht _ h2, ht _ h3⟩
theorem kS (ht : ∀ w ∈ LA, w.before args s = true) (h1 : (Cond.methodLink own idx y) ∈ LA) (h2 : (Cond.static y) ∈ LA) (h4 : (Cond.initialized y.cls) ∈ LA) (h5 : (Cond.code y b maxL ret) ∈ LA) (hd : okY y n) (hR : rmIn rm R maxL) : CallB R s args own idx y b maxL ret (ws_ y b maxL ret) rm rm.cells rm.slots n ∧ (Cond.static y).before args s = true :=
  ⟨kB ht h1 h4 h5 hd hR, ht _ h2⟩
theorem kI (ht : ∀ w ∈ LA, w.before args s = true) (h1 : (Cond.methodLink own idx y) ∈ LA) (h2 : (Cond.instanceMethod y) ∈ LA) (h4 : (Cond.initialized y.cls) ∈ LA) (h5 : (Cond.code y b maxL none) ∈ LA) (hy : y.name = "<init>") (hd : okY y n) (hR : rmIn rm R maxL) : CallB R s args own idx y b maxL none (ws_ y b maxL none) rm rm.cells rm.slots n ∧ y.name = "<init>" ∧ (Cond.instanceMethod y).before args s = true :=
  ⟨kB ht h1 h4 h5 hd hR, hy, ht _ h2⟩
theorem kN (ht : ∀ w ∈ LA, w.before args s = true) (hn : va_Nw (.methodLinkNest own idx y host) s) (h4 : (Cond.initialized y.cls) ∈ LA) (h5 : (Cond.code y b maxL ret) ∈ LA) (hd : okY y n) (hR : rmIn rm R maxL) : va_CN R s args own idx y host b maxL ret (ws_ y b maxL ret) rm rm.cells rm.slots n :=
  va_cnB n ht (good_ws h5) rfl rfl rfl hn (ht _ h4) hd hR
end KCALL
/-! the context: the tables' numbers, the words that a state carries, the statics, all below z0 -/
def TY (t : Nat → ClassId) : List (ClassId × FieldType) := [(t 0, .int), (t 1, .int), (t 2, .int), (t 3, .object "BentGardens$Garden"), (t 4, .object "java/lang/Object"), (t 5, .array .int), (t 6, .long)]
def STA (z0 : Nat) : Nat → Prop := fun q => z0 ≤ q
def shp (j : Nat) : Int64 := if j = 0 then 770 else if j = 1 then 769 else if j = 2 then 259 else 515
def STR : List (String × Nat × String) := [("BentGardens", 47, "a side is not 2 to 8"), ("BentGardens", 352, "there is no such cell"), ("BentGardens", 76, "the cell is walled or paved"), ("BentGardens", 95, "the cell is the pond or paved"), ("BentGardens", 354, "turn is not 0 to 3"), ("BentGardens", 121, "no triple covers the cell"), ("BentGardens", 132, "the block is not wholly in the garden"), ("BentGardens", 138, "the block is not covered by two triples"), ("BentGardens", 171, "code is not 33 to 126"), ("BentGardens", 176, "the buffer is full"), ("BentGardens", 194, "the buffer does not tell a garden"), ("BentGardens", 358, "slot is not 0 or 1"), ("BentGardens", 211, "there is no snapshot in the slot"), ("BentGardens", 217, "no state is saved"), ("BentGardens", 356, "what is not 0 to 2"), ("BentGardens", 252, "there is no such row"), ("BentGardens", 265, "what is not 0 to 11"), ("BentGardens", 273, "what is not 0 or 1"), ("BentGardens", 153, "there is no way"), ("BentGardens", 166, "the garden cannot be paved by squares"), ("BentGardens", 235, "there is no such triple")]
def ST (z0 te : Nat) (U : State) (H : Heap) : Prop := (∃ ts, va_Z "BentGardens" "SHAPES" "[J" (.ref ts) (STA z0) U H ∧ va_T .long ts 4 (fun j => .long (shp j)) (STA z0) U H) ∧ vx_Zq Bundle.tN "UNASSIGNED_STACK" Bundle.steD (STA z0) U H ∧ vx_Zq Bundle.tN "SUPPRESSED_SENTINEL" Bundle.listD (STA z0) U H ∧ va_Z "java/util/ArrayList" "DEFAULTCAPACITY_EMPTY_ELEMENTDATA" "[Ljava/lang/Object;" (.ref te) (STA z0) U H ∧ va_T (.object "java/lang/Object") te 0 (fun _ => .null) (STA z0) U H
theorem ST.moved {z0 te : Nat} {u U : State} {H : Heap} (hvm : u.vm.Alike U.vm) (h : ST z0 te u H) : ST z0 te U H := by
  obtain ⟨⟨a, h1, h2⟩, h3, h4, h5, h6⟩ := h
  exact ⟨⟨a, va_Z.moved hvm h1, va_T.moved hvm h2⟩, vx_Zq.moved hvm h3, vx_Zq.moved hvm h4, va_Z.moved hvm h5, va_T.moved hvm h6⟩
theorem ST.kept {z0 te : Nat} {U : State} {H H1 : Heap} (h : ST z0 te U H) (hq : ∀ a : Nat, a < H.size → a < z0 → H1[a]? = H[a]?) : ST z0 te U H1 := by
  have hq' : ∀ a : Nat, a < H.size → ¬ STA z0 a → H1[a]? = H[a]? := fun a h1 h2 => hq a h1 (Nat.not_le.mp h2)
  obtain ⟨⟨a, h1, h2⟩, h3, h4, h5, h6⟩ := h
  exact ⟨⟨a, h1.kept hq', h2.kept hq'⟩, h3.kept hq', h4.kept hq', h5.kept hq', h6.kept hq'⟩
def CTX (z0 : Nat) (D : va_G) (t : Nat → ClassId) (U : State) (H : Heap) : Prop := va_K D vwCl (TY t) U ∧ (∀ w ∈ LN, va_Nw w U) ∧ va_AOA .int U ∧ va_AO "java/lang/Object" U ∧ va_AO "BentGardens$Garden" U ∧ (∀ q ∈ STR, ∃ sa, vk_R q.1 q.2.1 q.2.2 sa U) ∧ ST z0 (t 100) U H
theorem LN_warm {w : Cond} (hw : w ∈ LN) {s U : State} (hW : s.WarmedH U.vm) (h : va_Nw w s) : va_Nw w U := by
  have hn : isNest w = true := (List.mem_filter.mp hw).2
  cases w <;> first | (exact absurd hn (by decide)) | exact va_Nw.warmM hW h | exact va_Nw.warmF hW h | exact va_Nw.warmC hW h | exact va_Nw.warmD hW h | (simp [isNest] at hn)
theorem CTX.warm {z0 : Nat} {D : va_G} {t : Nat → ClassId} {s U : State} {H : Heap} (h : CTX z0 D t s H) (hW : s.WarmedH U.vm) : CTX z0 D t U H :=
  ⟨va_K.moved hW.alike h.1, fun w hw => LN_warm hw hW (h.2.1 w hw), va_AOA.moved hW.alike h.2.2.1, va_AO.moved hW.alike h.2.2.2.1, va_AO.moved hW.alike h.2.2.2.2.1, fun q hq => (h.2.2.2.2.2.1 q hq).imp fun _ z => vk_R.warm hW z, h.2.2.2.2.2.2.moved hW.alike⟩
theorem CTX.same {z0 : Nat} {D : va_G} {t : Nat → ClassId} {s U : State} {H : Heap} (h : CTX z0 D t s H) (hv : U.vm = s.vm) : CTX z0 D t U H := by
  have hal : s.vm.Alike U.vm := by rw [hv]; exact Vm.Alike.refl _
  exact ⟨va_K.moved hal h.1, fun w hw => va_Nw.same (by have := (List.mem_filter.mp hw).2; cases w <;> first | rfl | (exact absurd this (by decide)) | (simp [isNest] at this)) hv.symm (h.2.1 w hw), va_AOA.moved hal h.2.2.1, va_AO.moved hal h.2.2.2.1, va_AO.moved hal h.2.2.2.2.1, fun q hq => (h.2.2.2.2.2.1 q hq).imp fun _ z => vk_R.same hv z, h.2.2.2.2.2.2.moved hal⟩
theorem CTX.kept {z0 : Nat} {D : va_G} {t : Nat → ClassId} {s : State} {H H1 : Heap} (h : CTX z0 D t s H) (hq : ∀ a : Nat, a < H.size → a < z0 → H1[a]? = H[a]?) : CTX z0 D t s H1 :=
  ⟨h.1, h.2.1, h.2.2.1, h.2.2.2.1, h.2.2.2.2.1, h.2.2.2.2.2.1, h.2.2.2.2.2.2.kept hq⟩
/-! the cells of a world that a method owns: its addresses, and all that is new -/
def OA (L : List Nat) (sz : Nat) : Nat → Prop := fun q => q ∈ L ∨ sz ≤ q
theorem OA.mono {L L' : List Nat} {sz sz' : Nat} (hL : ∀ a ∈ L', a ∈ L) (h : sz ≤ sz') : ∀ q, OA L' sz' q → OA L sz q := fun q hq => hq.elim (fun z => Or.inl (hL q z)) (fun z => Or.inr (Nat.le_trans h z))
theorem OA.new {L : List Nat} {sz : Nat} : ∀ q, sz ≤ q → OA L sz q := fun _ h => Or.inr h
theorem CTX.at {z0 : Nat} {D : va_G} {t : Nat → ClassId} {s : State} {H0 H : Heap} {A : Nat → Prop} {locs : List Loc} (h : CTX z0 D t s H0) (hS : va_S A H0 H locs) (hZ : ∀ q, A q → z0 ≤ q) : CTX z0 D t s H :=
  h.kept (fun a h1 h2 => hS.2.1 a h1 (fun z => Nat.not_le.mpr h2 (hZ a z)))
/-! contracts -/
def PR (z0 : Nat) (D : va_G) (t : Nat → ClassId) (av : List Value) (ws : va_W) : Array Value → State → Prop := va_Pc av (fun U => CTX z0 D t U U.heap ∧ va_P D vwCl ws U.heap)
def PM (z0 : Nat) (D : va_G) (t : Nat → ClassId) (av : List Value) (ws : va_W) (L : List Nat) (sz : Nat) : Array Value → State → Prop := va_Pc av (fun U => CTX z0 D t U U.heap ∧ U.heap.size = sz ∧ va_P D vwCl ws U.heap ∧ va_D (OA L sz) ws ∧ (∀ q, OA L sz q → z0 ≤ q))
def QR (v : Option Value) : Array Value → State → Outcome → State → Prop := fun _ st o t => o = .returned v ∧ t.heap = st.heap
def QM (v : Option Value) (D : va_G) (ws : va_W) (L : List Nat) (sz : Nat) : Array Value → State → Outcome → State → Prop := fun _ st o t => o = .returned v ∧ va_P D vwCl ws t.heap ∧ va_D (OA L sz) ws ∧ va_F (OA L sz) st t
def FN : Addr → Prop := fun _ => False
theorem PR.blind {z0 : Nat} {D : va_G} {t : Nat → ClassId} {av : List Value} {ws : va_W} : FrameBlind (PR z0 D t av ws) := fun _ _ _ _ h => ⟨h.1, h.2.1.same rfl, h.2.2⟩
theorem PM.blind {z0 : Nat} {D : va_G} {t : Nat → ClassId} {av : List Value} {ws : va_W} {L : List Nat} {sz : Nat} : FrameBlind (PM z0 D t av ws L sz) := fun _ _ _ _ h => ⟨h.1, h.2.1.same rfl, h.2.2⟩
section KRUN
variable {p : Program} {l : Launch} {e : Env} {R : Room} {s : State} {m : MethodId} {args : Array Value} {below : List Frame} {meth : Method} {c : Code} {H : Heap} {locs : List Loc} {cells slots : Nat} {Q : State → Prop}
variable {ls : Array Slot} {pc : Nat} {st0 rest : List Value} {v : Option Value} {D : va_G} {t : Nat → ClassId} {z0 : Nat}
theorem call_R (hr : va_Run p l e R s m args below meth c H locs cells slots 0 0 (F0 m pc ls st0) rest (fun st o t => o = .returned v ∧ t.heap = st.heap) FN)
    (kk : W p l e R s m args below meth c H locs cells slots Q (F0 m (pc + 3) ls (v.toList ++ rest))) : W p l e R s m args below meth c H locs cells slots Q (F0 m pc ls st0) := by
  intro T hT X
  obtain ⟨v', st₀, t, T', L, h0, X', hL, e1, e2, ⟨hv, ht⟩, st⟩ := hr T hT X
  cases hv
  have hLn : L = [] := List.eq_nil_iff_forall_not_mem.mpr (fun q hq => hL q hq)
  subst hLn
  rw [List.append_nil] at X'
  obtain ⟨t2, a1, b1⟩ := kk T' (e1.trans (ht.trans h0)) X'
  exact ⟨t2, st t2 a1, b1⟩
theorem call_M {ws1 : va_W} {L1 : List Nat} {A0 : Nat → Prop} {H0 : Heap} {mc ms : Nat} (hr : va_Run p l e R s m args below meth c H locs cells slots mc ms (F0 m pc ls st0) rest (fun st o t => o = .returned v ∧ va_P D vwCl ws1 t.heap ∧ va_D (OA L1 H.size) ws1 ∧ va_F (OA L1 H.size) st t) (OA L1 H.size)) (hS : va_S A0 H0 H locs) (hA : ∀ q, OA L1 H.size q → A0 q)
    (kk : ∀ (H1 : Heap) (locs1 : List Loc), va_P D vwCl ws1 H1 → va_D (OA L1 H.size) ws1 → va_S A0 H0 H1 locs1 → H.size ≤ H1.size → (∀ q : Nat, q < H.size → ¬ OA L1 H.size q → H1[q]? = H[q]?) → W p l e R s m args below meth c H1 locs1 (cells + mc) (slots + ms) Q (F0 m (pc + 3) ls (v.toList ++ rest))) : W p l e R s m args below meth c H locs cells slots Q (F0 m pc ls st0) := by
  intro T hT X
  obtain ⟨v', st₀, t, T', L, h0, X', hL, e1, e2, ⟨hv, hP, hD, hF⟩, st⟩ := hr T hT X
  cases hv
  have hF1 : H.size ≤ T'.heap.size := by rw [e1, ← h0]; exact hF.1
  have hF2 : ∀ q : Nat, q < H.size → ¬ OA L1 H.size q → T'.heap[q]? = H[q]? := fun q h1 h2 => by rw [e1, ← h0]; exact hF.2 q (by rw [h0]; exact h1) h2
  have hS1 : va_S A0 H0 T'.heap (locs ++ L) := ⟨Nat.le_trans hS.1 hF1, fun q h1 h2 => (hF2 q (Nat.lt_of_lt_of_le h1 hS.1) (fun z => h2 (hA q z))).trans (hS.2.1 q h1 h2), fun l hl => (List.mem_append.mp hl).elim (hS.2.2 l) (fun z => hA _ (hL l z))⟩
  obtain ⟨t2, a1, b1⟩ := kk T'.heap (locs ++ L) (by rw [e1]; exact hP) hD hS1 hF1 hF2 T' rfl X'
  exact ⟨t2, st t2 a1, b1⟩
end KRUN
/-- behind a call that wrote: the caller's world again, the callee's cells new, the others as they were -/
theorem va_back {A0 : Nat → Prop} {D : va_G} {ws wr w1 ws' : va_W} {Lc : List Nat} {H H1 : Heap} (hP : va_P D vwCl ws H) (hD : va_D A0 ws) (isC isR : List Nat) (hC : isC.map (fun i => (ws[i]?).map Prod.fst) = Lc.map some) (hR : isR.map (fun i => ws[i]?) = wr.map some) (hn : va_nd isR = true) (hdis : ∀ i ∈ isR, i ∉ isC)
    (hk : ∀ q : Nat, q < H.size → ¬ OA Lc H.size q → H1[q]? = H[q]?) (hA : ∀ q, OA Lc H.size q → A0 q) (hP1 : va_P D vwCl w1 H1) (hD1 : va_D (OA Lc H.size) w1) (is : List Nat) (his : is.map (fun i => (wr ++ w1)[i]?) = ws'.map some) (hnd : va_nd is = true) : va_P D vwCl ws' H1 ∧ va_D A0 ws' := by
  have apart : ∀ (k : Nat) (q : Nat × va_E), wr[k]? = some q → q.1 < H.size ∧ ¬ OA Lc H.size q.1 := by
    intro k q hq
    have h1 : (isR.map (fun i => ws[i]?))[k]? = some (some q) := by rw [hR, List.getElem?_map, hq]; rfl
    rw [List.getElem?_map] at h1
    cases hi : isR[k]? with
    | none => rw [hi] at h1; cases h1
    | some i =>
      rw [hi] at h1
      have h2 : ws[i]? = some q := Option.some.inj h1
      have hl := (hP i q h2).lt
      refine ⟨hl, fun h => ?_⟩
      rcases h with h | h
      · obtain ⟨k2, hk2⟩ := List.getElem?_of_mem h
        have h3 : (isC.map (fun i => (ws[i]?).map Prod.fst))[k2]? = some (some q.1) := by rw [hC, List.getElem?_map, hk2]; rfl
        rw [List.getElem?_map] at h3
        cases hj : isC[k2]? with
        | none => rw [hj] at h3; cases h3
        | some j =>
          rw [hj] at h3
          have h4 : (ws[j]?).map Prod.fst = some q.1 := Option.some.inj h3
          cases hw : ws[j]? with
          | none => rw [hw] at h4; cases h4
          | some p =>
            rw [hw] at h4
            have h5 : p.1 = q.1 := Option.some.inj h4
            have hij := hD.1 i j q p h2 hw h5.symm
            subst hij
            exact hdis i (List.mem_of_getElem? hi) (List.mem_of_getElem? hj)
      · omega
  have at' : ∀ (k : Nat) (q : Nat × va_E), wr[k]? = some q → ∃ i : Nat, ws[i]? = some q := by
    intro k q hq
    have h1 : (isR.map (fun i => ws[i]?))[k]? = some (some q) := by rw [hR, List.getElem?_map, hq]; rfl
    rw [List.getElem?_map] at h1
    cases hi : isR[k]? with
    | none => rw [hi] at h1; cases h1
    | some i => rw [hi] at h1; exact ⟨i, Option.some.inj h1⟩
  have hPj : va_P D vwCl (wr ++ w1) H1 := va_P.app (fun k q hq => by
    obtain ⟨i, h2⟩ := at' k q hq
    obtain ⟨g1, g2⟩ := apart k q hq
    exact (hP i q h2).kept (hk q.1 g1 g2)) hP1
  have hDj : va_D A0 (wr ++ w1) := va_D.app (hD.sub isR hn hR) (hD1.weaken (fun k q _ h => hA q.1 h)) (fun i j x y hx hy hxy => (apart i x hx).2 (by rw [hxy]; exact hD1.2 j y hy))
  exact ⟨fun k q hq => by
    have h1 : (is.map (fun i => (wr ++ w1)[i]?))[k]? = some (some q) := by rw [his, List.getElem?_map, hq]; rfl
    rw [List.getElem?_map] at h1
    cases hi : is[k]? with
    | none => rw [hi] at h1; cases h1
    | some i => rw [hi] at h1; exact hPj i q (Option.some.inj h1), hDj.sub is hnd his⟩
/-! the pure side: what a method's function is made of -/
def jlet {α β : Type} (e : α) (f : α → β) : β := f e
theorem jlet_some {α β : Type} {e : α} {f : α → Option β} {r : β} (h : jlet e f = some r) : ∃ x, x = e ∧ f x = some r := ⟨e, rfl, h⟩
theorem obind {α β : Type} {a : Option α} {f : α → Option β} {r : β} (h : Option.bind a f = some r) : ∃ x, a = some x ∧ f x = some r := Option.bind_eq_some_iff.mp h
theorem iteT {c : Prop} {_ : Decidable c} {α : Type} {a b r : α} (hc : c) (h : (if c then a else b) = r) : a = r := by rwa [if_pos hc] at h
theorem iteF {c : Prop} {_ : Decidable c} {α : Type} {a b r : α} (hc : ¬ c) (h : (if c then a else b) = r) : b = r := by rwa [if_neg hc] at h
theorem sumL {α β γ : Type} {f : α → γ} {g : β → γ} {x : α} {r : γ} (h : Sum.elim f g (.inl x) = r) : f x = r := h
theorem sumR {α β γ : Type} {f : α → γ} {g : β → γ} {x : β} {r : γ} (h : Sum.elim f g (.inr x) = r) : g x = r := h
def jld {α : Type} (n : Nat) (f : Nat → α) (i : Int32) : Option α := if i < 0 ∨ n ≤ i.toNatClampNeg then none else some (f i.toNatClampNeg)
def jst {α : Type} (n : Nat) (f : Nat → α) (i : Int32) (x : α) : Option (Nat → α) := if i < 0 ∨ n ≤ i.toNatClampNeg then none else some (va_up f i.toNatClampNeg x)
theorem jld_some {α : Type} {n : Nat} {f : Nat → α} {i : Int32} {x : α} (h : jld n f i = some x) : vp_in i n ∧ f i.toNatClampNeg = x := by
  unfold jld at h
  by_cases c : i < 0 ∨ n ≤ i.toNatClampNeg
  · rw [if_pos c] at h; cases h
  · rw [if_neg c] at h; exact ⟨c, Option.some.inj h⟩
theorem jst_some {α : Type} {n : Nat} {f g : Nat → α} {i : Int32} {x : α} (h : jst n f i x = some g) : vp_in i n ∧ va_up f i.toNatClampNeg x = g := by
  unfold jst at h
  by_cases c : i < 0 ∨ n ≤ i.toNatClampNeg
  · rw [if_pos c] at h; cases h
  · rw [if_neg c] at h; exact ⟨c, Option.some.inj h⟩
def jz (v : Int32) : Option Int32 := if v = 0 ∨ v = 1 then some v else none
theorem jz_some {v z : Int32} (h : jz v = some z) : z = v ∧ narrow .boolean (.int z) = .int z := by
  unfold jz at h
  by_cases c : v = 0 ∨ v = 1
  · rw [if_pos c] at h
    cases h
    rcases c with rfl | rfl <;> exact ⟨rfl, rfl⟩
  · rw [if_neg c] at h; cases h
theorem upd_up (f : Nat → Int32) (k : Nat) (x : Int32) : upd f k x = va_up f k x := rfl
theorem va_P_nil {D : va_G} {cl : List vw_C} {H : Heap} : va_P D cl [] H := fun k q h => by simp at h
theorem in_map {ws : va_W} {L : List Nat} (h : ws.map Prod.fst = L) {k : Nat} {q : Nat × va_E} (hk : ws[k]? = some q) : q.1 ∈ L := by
  subst h
  exact List.mem_map.mpr ⟨q, List.mem_of_getElem? hk, rfl⟩
theorem va_D.addr {A : Nat → Prop} {ws ws' : va_W} (h : va_D A ws) (e : ws'.map Prod.fst = ws.map Prod.fst) : va_D A ws' := by
  have key : ∀ (k : Nat) (q : Nat × va_E), ws'[k]? = some q → ∃ q2, ws[k]? = some q2 ∧ q2.1 = q.1 := by
    intro k q hq
    have h1 : (ws'.map Prod.fst)[k]? = some q.1 := by rw [List.getElem?_map, hq]; rfl
    rw [e, List.getElem?_map] at h1
    cases hw : ws[k]? with
    | none => rw [hw] at h1; cases h1
    | some q2 => rw [hw] at h1; exact ⟨q2, rfl, Option.some.inj h1⟩
  refine ⟨fun i j p q hi hj hpq => ?_, fun k q hq => ?_⟩
  · obtain ⟨p2, h1, e1⟩ := key i p hi
    obtain ⟨q2, h2, e2⟩ := key j q hj
    exact h.1 i j p2 q2 h1 h2 (e1.trans (hpq.trans e2.symm))
  · obtain ⟨q2, h1, e1⟩ := key k q hq
    rw [← e1]
    exact h.2 k q2 h1
theorem sw_out {x : Int32} {lo : Int} {n : Nat} (hlo : lo = 0) (hn : n ≤ 64) (h : ∀ k : Nat, k < n → ¬ x = Int32.ofNat k) : x.toInt < lo ∨ lo + (n : Int) - 1 < x.toInt := by
  subst hlo
  by_cases c : x.toInt < 0
  · exact Or.inl c
  · refine Or.inr ?_
    by_cases c2 : (0 : Int) + (n : Int) - 1 < x.toInt
    · exact c2
    · exfalso
      obtain ⟨j, hj, rfl⟩ := nI_of (x := x) (fun z => c (by have := Int32.lt_iff_toInt_lt.mp z; simpa using this))
      rw [nI_toInt hj] at c2
      exact h j (by omega) rfl
section KROW
variable {p : Program} {l : Launch} {e : Env} {R : Room} {s : State} {m : MethodId} {args : Array Value} {below : List Frame} {meth : Method} {c : Code} {H : Heap} {locs : List Loc} {cells slots : Nat} {Q : State → Prop}
variable {cc : ByteArray} {pc : Nat} {ls : Array Slot} {rest : List Value} {D : va_G} {cl : List vw_C} {A : Nat → Prop} {a : Nat} {t : Nat → ClassId} {ws ws' : va_W} {H0 : Heap}
theorem topI {x y : Int32} (e1 : x = y) (k : W p l e R s m args below meth c H locs cells slots Q (F0 m pc ls (.int x :: rest))) : W p l e R s m args below meth c H locs cells slots Q (F0 m pc ls (.int y :: rest)) := e1 ▸ k
theorem topJ {x y : Int64} (e1 : x = y) (k : W p l e R s m args below meth c H locs cells slots Q (F0 m pc ls (.long x :: rest))) : W p l e R s m args below meth c H locs cells slots Q (F0 m pc ls (.long y :: rest)) := e1 ▸ k
theorem topD {x y : UInt64} (e1 : x = y) (k : W p l e R s m args below meth c H locs cells slots Q (F0 m pc ls (.double x :: rest))) : W p l e R s m args below meth c H locs cells slots Q (F0 m pc ls (.double y :: rest)) := e1 ▸ k
theorem k_iald (hx : p.tables.exec = Jvm.exec) (hb : c.code = cc) (hK : va_K D cl (TY t) s) (hP : va_P D cl ws H) (q0 : Nat) {n : Nat} {f : Nat → Int32} (ha : ws[q0]? = some (a, .inl (t 0, n, .inl f))) {i x : Int32} (h : jld n f i = some x) (hdg : decode cc pc = .ok (.iaload, 1))
    (kk : W p l e R s m args below meth c H locs cells slots Q (F0 m (pc + 1) ls (.int x :: rest))) : W p l e R s m args below meth c H locs cells slots Q (F0 m pc ls (.int i :: .ref a :: rest)) :=
  va_iald hx hb hK hP q0 0 ha rfl (jld_some h).1 hdg (topI (jld_some h).2.symm kk)
theorem k_iast (hx : p.tables.exec = Jvm.exec) (hb : c.code = cc) (hK : va_K D cl (TY t) s) (hP : va_P D cl ws H) (hD : va_D A ws) (hS : va_S A H0 H locs) (q0 : Nat) {n : Nat} {f g : Nat → Int32} (ha : ws[q0]? = some (a, .inl (t 0, n, .inl f))) {i x : Int32} (h : jst n f i x = some g) (hw : ws.set q0 (a, .inl (t 0, n, .inl g)) = ws') (hdg : decode cc pc = .ok (.iastore, 1))
    (kk : ∀ (H1 : Heap) (locs1 : List Loc), va_P D cl ws' H1 → va_D A ws' → va_S A H0 H1 locs1 → W p l e R s m args below meth c H1 locs1 cells slots Q (F0 m (pc + 1) ls rest)) : W p l e R s m args below meth c H locs cells slots Q (F0 m pc ls (.int x :: .int i :: .ref a :: rest)) := by
  obtain ⟨h1, rfl⟩ := jst_some h
  subst hw
  exact va_iast hx hb hK hP hD hS q0 0 ha rfl h1 hdg (fun H1 locs1 z1 z2 z3 => kk H1 locs1 z1 z2 z3)
end KROW
theorem inJx4a65c : ∀ w ∈ u_ws RJx4a65c TJx4a65c 3, w ∈ LA := by
  intro w hw
  have h9 : w ∈ [(Cond.lays RJx4a65c "java/util/AbstractList" "modCount" "I"), (Cond.lays RJx4a65c "java/util/ArrayList" "elementData" "[Ljava/lang/Object;"), (Cond.lays RJx4a65c "java/util/ArrayList" "size" "I")] := hw
  simp only [List.mem_cons, List.not_mem_nil, or_false] at h9
  rcases h9 with rfl | rfl | rfl
  · exact qw56
  · exact qw52
  · exact qw54
theorem inX0 : ∀ w ∈ u_ws RX0 TX0 2, w ∈ LA := by
  intro w hw
  have h9 : w ∈ [(Cond.lays RX0 "BentGardens$Buffer" "length" "I"), (Cond.laysFinal RX0 "BentGardens$Buffer" "codes" "[I")] := hw
  simp only [List.mem_cons, List.not_mem_nil, or_false] at h9
  rcases h9 with rfl | rfl
  · exact qw70
  · exact qw72
theorem inX1 : ∀ w ∈ u_ws RX1 TX1 9, w ∈ LA := by
  intro w hw
  have h9 : w ∈ [(Cond.lays RX1 "BentGardens$Garden" "wide" "I"), (Cond.lays RX1 "BentGardens$Garden" "high" "I"), (Cond.lays RX1 "BentGardens$Garden" "pondPlace" "I"), (Cond.lays RX1 "BentGardens$Garden" "walls" "J"), (Cond.lays RX1 "BentGardens$Garden" "paved" "J"), (Cond.lays RX1 "BentGardens$Garden" "tripleCount" "I"), (Cond.lays RX1 "BentGardens$Garden" "flips" "I"), (Cond.lays RX1 "BentGardens$Garden" "refused" "I"), (Cond.laysFinal RX1 "BentGardens$Garden" "names" "[I")] := hw
  simp only [List.mem_cons, List.not_mem_nil, or_false] at h9
  rcases h9 with rfl | rfl | rfl | rfl | rfl | rfl | rfl | rfl | rfl
  · exact qw136
  · exact qw138
  · exact qw140
  · exact qw142
  · exact qw144
  · exact qw146
  · exact qw148
  · exact qw150
  · exact qw152
theorem inX2 : ∀ w ∈ u_ws RX2 TX2 4, w ∈ LA := by
  intro w hw
  have h9 : w ∈ [(Cond.laysFinal RX2 "BentGardens$Paver" "rest" "[[I"), (Cond.laysFinal RX2 "BentGardens$Paver" "takes" "[I"), (Cond.lays RX2 "BentGardens$Paver" "here" "LBentGardens$Reached;"), (Cond.lays RX2 "BentGardens$Paver" "next" "LBentGardens$Reached;")] := hw
  simp only [List.mem_cons, List.not_mem_nil, or_false] at h9
  rcases h9 with rfl | rfl | rfl | rfl
  · exact qw105
  · exact qw107
  · exact qw109
  · exact qw111
theorem inX3 : ∀ w ∈ u_ws RX3 TX3 5, w ∈ LA := by
  intro w hw
  have h9 : w ∈ [(Cond.lays RX3 "BentGardens$Reader" "wide" "I"), (Cond.lays RX3 "BentGardens$Reader" "row" "I"), (Cond.lays RX3 "BentGardens$Reader" "pondPlace" "I"), (Cond.lays RX3 "BentGardens$Reader" "walls" "J"), (Cond.lays RX3 "BentGardens$Reader" "column" "I")] := hw
  simp only [List.mem_cons, List.not_mem_nil, or_false] at h9
  rcases h9 with rfl | rfl | rfl | rfl | rfl
  · exact qw190
  · exact qw192
  · exact qw194
  · exact qw196
  · exact qw198
theorem inX4 : ∀ w ∈ u_ws RX4 TX4 5, w ∈ LA := by
  intro w hw
  have h9 : w ∈ [(Cond.laysFinal RX4 "BentGardens" "saved" "Ljava/util/ArrayList;"), (Cond.laysFinal RX4 "BentGardens" "slots" "[LBentGardens$Garden;"), (Cond.laysFinal RX4 "BentGardens" "buffer" "LBentGardens$Buffer;"), (Cond.laysFinal RX4 "BentGardens" "paver" "LBentGardens$Paver;"), (Cond.lays RX4 "BentGardens" "now" "LBentGardens$Garden;")] := hw
  simp only [List.mem_cons, List.not_mem_nil, or_false] at h9
  rcases h9 with rfl | rfl | rfl | rfl | rfl
  · exact qw160
  · exact qw162
  · exact qw164
  · exact qw166
  · exact qw168
theorem inX6 : ∀ w ∈ u_ws RX6 TX6 3, w ∈ LA := by
  intro w hw
  have h9 : w ∈ [(Cond.lays RX6 "BentGardens$Reached" "size" "I"), (Cond.laysFinal RX6 "BentGardens$Reached" "windows" "[I"), (Cond.laysFinal RX6 "BentGardens$Reached" "ways" "[I")] := hw
  simp only [List.mem_cons, List.not_mem_nil, or_false] at h9
  rcases h9 with rfl | rfl | rfl
  · exact qw94
  · exact qw96
  · exact qw98
