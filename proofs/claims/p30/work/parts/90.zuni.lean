/-! ===== the class's contracts, all of one form ===== -/
def XAT (t : Nat → ClassId) (x0 : Nat) (μ : XS) (L : List GS) (S0 S1 : Option GS) (w : va_W) : Prop := ∃ (s0 s1 e0 : Nat) (E A : Nat → Nat) (B G : Nat → Nat) (T : va_W), w = XW x0 s0 s1 e0 E A B G T t μ ∧ Rep t e0 T L (x_sl μ) S0 S1
abbrev UM (l : Launch) (y : MethodName) (b : ByteArray) (n : Nat) (r : Option FieldType) (rm : Room) (v : Option Value) (z0 : Nat) (D : va_G) (t : Nat → ClassId) (as : List Value) (w : va_W) (sz : Nat) (R' : va_W → Prop) (mc ms : Nat) : Prop := Met l y (ws_ y b n r) rm (PM z0 D t as w (w.map Prod.fst) sz) (QB (fun _ : va_W => v) D (fun w' => w') R' (w.map Prod.fst) sz) mc ms (OA (w.map Prod.fst) sz)
def XB (E : String) (D : va_G) (R' : va_W → Prop) (L : List Nat) (sz : Nat) : String → State → State → Prop := fun E' st t => E' = E ∧ ∃ w', R' w' ∧ va_P D vwCl w' t.heap ∧ va_D (OA L sz) w' ∧ va_F (OA L sz) st t
abbrev UX (l : Launch) (y : MethodName) (b : ByteArray) (n : Nat) (r : Option FieldType) (rm : Room) (E : String) (z0 : Nat) (D : va_G) (t : Nat → ClassId) (as : List Value) (w : va_W) (sz : Nat) (R' : va_W → Prop) (mc ms : Nat) : Prop := vx_Met l y (ws_ y b n r) rm (PM z0 D t as w (w.map Prod.fst) sz) (fun _ _ _ _ => False) (XB E D R' (w.map Prod.fst) sz) mc ms (OA (w.map Prod.fst) sz)
section UNI
variable {l : Launch} {y : MethodName} {b : ByteArray} {n : Nat} {r : Option FieldType} {rm : Room} {v : Option Value} {z0 : Nat} {D : va_G} {t : Nat → ClassId} {as : List Value} {w : va_W} {L0 : List Nat} {sz mc ms : Nat} {R' : va_W → Prop} {E : String}
theorem met_mono {ws : List Cond} {Pc Pc' : Array Value → State → Prop} {Qc Qc' : Array Value → State → Outcome → State → Prop} {free free' : Addr → Prop} (h : Met l y ws rm Pc Qc mc ms free) (hP : ∀ a s, Pc' a s → Pc a s) (hQ : ∀ a s o s', Pc' a s → Qc a s o s' → Qc' a s o s') (hf : ∀ q, free q → free' q) : Met l y ws rm Pc' Qc' mc ms free' :=
  MetFree.mono h hP (fun _ _ _ _ _ h => h) (fun a s o s' h1 h2 => ⟨hQ a s o s' h1 h2.1, h2.2.imp fun _ z => ⟨z.1, fun q hq => hf _ (z.2 q hq)⟩⟩)
theorem vx_mono {ws : List Cond} {Pc Pc' : Array Value → State → Prop} {XC XC' : String → State → State → Prop} {free free' : Addr → Prop} (h : vx_Met l y ws rm Pc (fun _ _ _ _ => False) XC mc ms free) (hP : ∀ a s, Pc' a s → Pc a s) (hX : ∀ E s s', XC E s s' → XC' E s s') (hf : ∀ q, free q → free' q) : vx_Met l y ws rm Pc' (fun _ _ _ _ => False) XC' mc ms free' := by
  refine MetFree.mono h hP (fun _ _ _ _ _ h => h) (fun a s o s' h1 h2 => ?_)
  rcases h2 with h2 | ⟨q, ho, E, ce, L, e1, e2, e3, e4, e5, e6, e7⟩
  · exact h2.1.elim
  · exact Or.inr ⟨q, ho, E, ce, L, hX _ _ _ e1, e2, e3, e4, e5, e6, fun z hz => hf _ (e7 z hz)⟩
theorem um_M {ws' : va_W} (h : Met l y (ws_ y b n r) rm (PM z0 D t as w L0 sz) (QM v D ws' L0 sz) mc ms (OA L0 sz)) (hL : w.map Prod.fst = L0) (hr : R' ws') : UM l y b n r rm v z0 D t as w sz R' mc ms := by
  subst hL
  exact met_mono h (fun _ _ h => h) (fun _ _ _ _ _ h => ⟨ws', hr, h.1, h.2.1, h.2.2.1, h.2.2.2⟩) (fun _ h => h)
theorem um_S {wf : Nat → va_W → va_W} {Rp : Nat → va_W → Prop} (h : Met l y (ws_ y b n r) rm (PM z0 D t as w L0 sz) (QS v D wf Rp L0 sz) mc ms (OA L0 sz)) (hL : w.map Prod.fst = L0) (hr : ∀ e T, Rp e T → R' (wf e T)) : UM l y b n r rm v z0 D t as w sz R' mc ms := by
  subst hL
  exact met_mono h (fun _ _ h => h) (fun _ _ _ _ _ ⟨e, T, h0, h1, h2, h3, h4⟩ => ⟨wf e T, hr e T h0, h1, h2, h3, h4⟩) (fun _ h => h)
theorem um_B {β : Type} {wf : β → va_W} {Rp : β → Prop} (h : Met l y (ws_ y b n r) rm (PM z0 D t as w L0 sz) (QB (fun _ : β => v) D wf Rp L0 sz) mc ms (OA L0 sz)) (hL : w.map Prod.fst = L0) (hr : ∀ x, Rp x → R' (wf x)) : UM l y b n r rm v z0 D t as w sz R' mc ms := by
  subst hL
  exact met_mono h (fun _ _ h => h) (fun _ _ _ _ _ ⟨x, h0, h1, h2, h3, h4⟩ => ⟨wf x, hr x h0, h1, h2, h3, h4⟩) (fun _ h => h)
theorem um_R (h : Met l y (ws_ y b n r) rm (PR z0 D t as w) (QR v) 0 0 FN) (hr : R' w) : UM l y b n r rm v z0 D t as w sz R' 0 0 := by
  refine met_mono h (fun a s h => ⟨h.1, h.2.1, h.2.2.2.1⟩) (fun a s o s' hP hQ => ?_) (fun _ h => h.elim)
  refine ⟨w, hr, hQ.1, ?_, hP.2.2.2.2.1, ?_⟩
  · rw [hQ.2]; exact hP.2.2.2.1
  · exact ⟨by rw [hQ.2]; exact Nat.le_refl _, fun q _ _ => by rw [hQ.2]⟩
theorem ux_M {ws' : va_W} (h : vx_Met l y (ws_ y b n r) rm (PM z0 D t as w L0 sz) (fun _ _ _ _ => False) (XM E D ws' L0 sz) mc ms (OA L0 sz)) (hL : w.map Prod.fst = L0) (hr : R' ws') : UX l y b n r rm E z0 D t as w sz R' mc ms := by
  subst hL
  exact vx_mono h (fun _ _ h => h) (fun _ _ _ h => ⟨h.1, ws', hr, h.2.1, h.2.2.1, h.2.2.2⟩) (fun _ h => h)
end UNI
theorem XW_map {x0 s0 s1 e0 : Nat} {E A : Nat → Nat} {B G : Nat → Nat} {T : va_W} {t : Nat → ClassId} {μ : XS} : (XW x0 s0 s1 e0 E A B G T t μ).map Prod.fst = XL x0 s0 s1 e0 E A B G T μ := by
  simp only [List.map_append, List.map_map]
  rfl
theorem rep_slk {t : Nat → ClassId} {e0 : Nat} {T : va_W} {L : List GS} {sl : Nat → Option Nat} {S0 S1 : Option GS} (h : Rep t e0 T L sl S0 S1) : SLk S0 (sl 0) ∧ SLk S1 (sl 1) := by
  obtain ⟨P, a, b, -, -, -, -, e1, e2, rfl, rfl⟩ := h
  refine ⟨?_, ?_⟩
  · rw [e1]
    cases a with
    | none => exact Or.inl ⟨rfl, rfl⟩
    | some g => exact Or.inr ⟨g.2.2, g.1, rfl, rfl⟩
  · rw [e2]
    cases b with
    | none => exact Or.inl ⟨rfl, rfl⟩
    | some g => exact Or.inr ⟨g.2.2, g.1, rfl, rfl⟩
/-- the class's world tells what the state of numbers tells -/
def XG (t : Nat → ClassId) (x0 : Nat) (σ : ZT) (w : va_W) : Prop := ∃ μ L S0 S1, ZI σ μ L S0 S1 ∧ XAT t x0 μ L S0 S1 w
theorem XG_h0 {t : Nat → ClassId} {x0 : Nat} {σ : ZT} {w : va_W} (h : XG t x0 σ w) : ∃ fs, w[0]? = some (x0, .inr (5, fs)) := by
  obtain ⟨μ, L, S0, S1, -, s0, s1, e0, E, A, B, G, T, rfl, -⟩ := h
  exact ⟨_, rfl⟩
