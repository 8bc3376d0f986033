/-! the class's own world (family X, a tail T), throws -/
theorem tail_row {f : Nat → Nat × va_E} {fx T : va_W} {n k m : Nat} (hm : fx.length = m) (hk : k < n) : (fx ++ ((List.range n).map f ++ T))[m + k]? = some (f k) := by
  subst hm
  rw [List.getElem?_append_right (Nat.le_add_right _ _), Nat.add_sub_cancel_left, List.getElem?_append_left (by rw [List.length_map, List.length_range]; exact hk), List.getElem?_map, List.getElem?_range hk]
  rfl
theorem tail_out {f g : Nat → Nat × va_E} {fx gx T : va_W} {n m i : Nat} (hm : fx.length = m) (hg : gx.length = m) (hi : m + n ≤ i) : (fx ++ ((List.range n).map f ++ T))[i]? = (gx ++ ((List.range n).map g ++ T))[i]? := by
  have e1 : ∀ (f : Nat → Nat × va_E) (fx : va_W), fx.length = m → (fx ++ ((List.range n).map f ++ T))[i]? = T[i - m - n]? := by
    intro f fx hm
    rw [List.getElem?_append_right (by omega), List.getElem?_append_right (by rw [List.length_map, List.length_range]; omega), List.length_map, List.length_range, hm]
  rw [e1 f fx hm, e1 g gx hg]
theorem va_D_nil {A : Nat → Prop} : va_D A [] := ⟨fun i j p q h => by simp at h, fun k q h => by simp at h⟩
theorem OA.nil {L : List Nat} {sz sz' : Nat} (h : sz ≤ sz') : ∀ q, OA [] sz' q → OA L sz q := fun _ hq => hq.elim (fun z => by cases z) (fun z => Or.inr (Nat.le_trans h z))
theorem va_P.keptN {D : va_G} {ws : va_W} {H H1 : Heap} (hP : va_P D vwCl ws H) (hk : ∀ q : Nat, q < H.size → ¬ OA [] H.size q → H1[q]? = H[q]?) : va_P D vwCl ws H1 := fun i q hq => (hP i q hq).kept (hk q.1 ((hP i q hq).lt) (fun z => z.elim (fun z => by cases z) (fun z => by have := (hP i q hq).lt; omega)))
/-- what is so where a method has thrown E: its world, ws now; nothing else of the old cells -/
def XM (E : String) (D : va_G) (ws : va_W) (L : List Nat) (sz : Nat) : String → State → State → Prop := fun E' st t => E' = E ∧ va_P D vwCl ws t.heap ∧ va_D (OA L sz) ws ∧ va_F (OA L sz) st t
theorem XM.mk {E : String} {D : va_G} {ws : va_W} {L : List Nat} {s t : State} {H : Heap} {locs : List Loc} (hP : va_P D vwCl ws H) (hD : va_D (OA L s.heap.size) ws) (hS : va_S (OA L s.heap.size) s.heap H locs) (h8 : H.size ≤ t.heap.size) (h9 : ∀ q : Nat, q < H.size → t.heap[q]? = H[q]?) : XM E D ws L s.heap.size E s t :=
  ⟨rfl, fun i q hq => (hP i q hq).kept (h9 q.1 ((hP i q hq).lt)), hD, Nat.le_trans hS.1 h8, fun q h1 h2 => (h9 q (Nat.lt_of_lt_of_le h1 hS.1)).trans (hS.2.1 q h1 h2)⟩
theorem XM.mk2 {E : String} {D : va_G} {ws : va_W} {L : List Nat} {s t : State} {H : Heap} {locs : List Loc} (hP : va_P D vwCl ws H) (hD : va_D (OA L s.heap.size) ws) (hS : va_S (OA L s.heap.size) s.heap H locs) (h8 : t.heap = H) : XM E D ws L s.heap.size E s t :=
  ⟨rfl, by rw [h8]; exact hP, hD, hS.F h8⟩
section KX
variable {p : Program} {l : Launch} {e : Env} {R : Room} {s : State} {m : MethodId} {args : Array Value} {below : List Frame} {meth : Method} {c : Code} {H : Heap} {locs : List Loc} {cells slots : Nat} {Q : State → Prop}
variable {ls : Array Slot} {pc : Nat} {st0 rest : List Value} {D : va_G}
theorem topQ {x y : Option Nat} (e1 : x = y) (k : W p l e R s m args below meth c H locs cells slots Q (F0 m pc ls (va_rf x :: rest))) : W p l e R s m args below meth c H locs cells slots Q (F0 m pc ls (va_rf y :: rest)) := e1 ▸ k
theorem call_X {E : String} {ws1 : va_W} {L1 : List Nat} {A0 : Nat → Prop} {H0 : Heap} {mc ms : Nat} (hr : vx_Run p l e R s m args below meth c H locs cells slots mc ms (F0 m pc ls st0) rest (fun _ _ _ => False) (XM E D ws1 L1 H.size) (OA L1 H.size)) (hS : va_S A0 H0 H locs) (hA : ∀ q, OA L1 H.size q → A0 q)
    (kx : ∀ (H1 : Heap) (locs1 : List Loc) (q9 : Addr) (ce : Cell), va_P D vwCl ws1 H1 → va_D (OA L1 H.size) ws1 → va_S A0 H0 H1 locs1 → H.size ≤ H1.size → (∀ q : Nat, q < H.size → ¬ OA L1 H.size q → H1[q]? = H[q]?) → H1[q9]? = some ce → ce.vm = .none → s.vm.findClass E = some ce.cls → vx_W p l e R s m args below meth c H1 locs1 (cells + mc) (slots + ms) Q (F0 m pc ls rest) q9) : W p l e R s m args below meth c H locs cells slots Q (F0 m pc ls st0) := by
  intro T hT X
  rcases hr T hT X with ⟨v, st₀, t, T', L, h0, X', hL, e1, e2, hf, st⟩ | ⟨q, st₀, t, T', L, E', ce, h0, X', hL, e1, e2, ⟨hE, hP, hD, hF⟩, hce, hcv, hcl, st⟩
  · exact hf.elim
  · subst hE
    have hF1 : H.size ≤ T'.heap.size := by rw [e1, ← h0]; exact hF.1
    have hF2 : ∀ q : Nat, q < H.size → ¬ OA L1 H.size q → T'.heap[q]? = H[q]? := fun q h1 h2 => by rw [e1, ← h0]; exact hF.2 q (by rw [h0]; exact h1) h2
    have hS1 : va_S A0 H0 T'.heap (locs ++ L) := ⟨Nat.le_trans hS.1 hF1, fun q h1 h2 => (hF2 q (Nat.lt_of_lt_of_le h1 hS.1) (fun z => h2 (hA q z))).trans (hS.2.1 q h1 h2), fun l hl => (List.mem_append.mp hl).elim (hS.2.2 l) (fun z => hA _ (hL l z))⟩
    obtain ⟨t2, a1, b1⟩ := kx T'.heap (locs ++ L) q ce (by rw [e1]; exact hP) hD hS1 hF1 hF2 (by rw [e1]; exact hce) hcv hcl T' rfl X'
    exact ⟨t2, Steps.trans st a1, b1⟩
end KX
/-- the words of a throw, out of the tables' -/
theorem at_words {args : Array Value} {s : State} (ht : ∀ w ∈ LA, w.before args s = true) (hn : ∀ w ∈ LN, va_Nw w s) {L : List Cond} (h : L.all (fun w => decide (w ∈ lw_tbl) && (goodWord w || (isNest w && w.onTables))) = true) : ∀ w ∈ L, w.before args s = true := by
  intro w hw
  have h1 := List.all_eq_true.mp h w hw
  simp only [Bool.and_eq_true, Bool.or_eq_true, decide_eq_true_eq] at h1
  rcases h1.2 with h2 | ⟨h2, h3⟩
  · exact ht w (LA_of h1.1 h2)
  · exact va_Nw.use h3 (hn w (List.mem_filter.mpr ⟨h1.1, h2⟩))
abbrev LSS : Type := (Int32) × (Int32)
abbrev ls_lmod (μ : LSS) : Int32 := μ.1
abbrev ls_lmod' (μ : LSS) (v : Int32) : LSS := (v, μ.2)
abbrev ls_lsize (μ : LSS) : Int32 := μ.2
abbrev ls_lsize' (μ : LSS) (v : Int32) : LSS := (μ.1, v)
abbrev LSW (s0 : Nat) (e0 : Nat) (t : Nat → ClassId) (μ : LSS) : va_W := [(s0, .inr (0, [.int (ls_lmod μ), .ref e0, .int (ls_lsize μ)]))]
abbrev LSL (s0 : Nat) (e0 : Nat) : List Nat := [s0]
abbrev XS : Type := (Int32) × (Nat → Int32) × (Nat → Nat → Int32) × (Nat → Int32) × (Nat → Nat) × (Nat → Nat) × (Int32) × (Nat → Int32) × (Nat → Int32) × (Int32) × (Nat → Int32) × (Nat → Int32) × (Int32) × (Int32) × (Int32) × (Int64) × (Int64) × (Int32) × (Int32) × (Int32) × (Nat → Int32) × (Nat → Option Nat) × (Int32) × (Int32)
abbrev x_length (μ : XS) : Int32 := μ.1
abbrev x_length' (μ : XS) (v : Int32) : XS := (v, μ.2)
abbrev x_codes (μ : XS) : Nat → Int32 := μ.2.1
abbrev x_codes' (μ : XS) (v : Nat → Int32) : XS := (μ.1, v, μ.2.2)
abbrev x_rest (μ : XS) : Nat → Nat → Int32 := μ.2.2.1
abbrev x_rest' (μ : XS) (v : Nat → Nat → Int32) : XS := (μ.1, μ.2.1, v, μ.2.2.2)
abbrev x_takes (μ : XS) : Nat → Int32 := μ.2.2.2.1
abbrev x_takes' (μ : XS) (v : Nat → Int32) : XS := (μ.1, μ.2.1, μ.2.2.1, v, μ.2.2.2.2)
abbrev x_u1 (μ : XS) : Nat → Nat := μ.2.2.2.2.1
abbrev x_u1' (μ : XS) (v : Nat → Nat) : XS := (μ.1, μ.2.1, μ.2.2.1, μ.2.2.2.1, v, μ.2.2.2.2.2)
abbrev x_u2 (μ : XS) : Nat → Nat := μ.2.2.2.2.2.1
abbrev x_u2' (μ : XS) (v : Nat → Nat) : XS := (μ.1, μ.2.1, μ.2.2.1, μ.2.2.2.1, μ.2.2.2.2.1, v, μ.2.2.2.2.2.2)
abbrev x_hsz (μ : XS) : Int32 := μ.2.2.2.2.2.2.1
abbrev x_hsz' (μ : XS) (v : Int32) : XS := (μ.1, μ.2.1, μ.2.2.1, μ.2.2.2.1, μ.2.2.2.2.1, μ.2.2.2.2.2.1, v, μ.2.2.2.2.2.2.2)
abbrev x_hwin (μ : XS) : Nat → Int32 := μ.2.2.2.2.2.2.2.1
abbrev x_hwin' (μ : XS) (v : Nat → Int32) : XS := (μ.1, μ.2.1, μ.2.2.1, μ.2.2.2.1, μ.2.2.2.2.1, μ.2.2.2.2.2.1, μ.2.2.2.2.2.2.1, v, μ.2.2.2.2.2.2.2.2)
abbrev x_hway (μ : XS) : Nat → Int32 := μ.2.2.2.2.2.2.2.2.1
abbrev x_hway' (μ : XS) (v : Nat → Int32) : XS := (μ.1, μ.2.1, μ.2.2.1, μ.2.2.2.1, μ.2.2.2.2.1, μ.2.2.2.2.2.1, μ.2.2.2.2.2.2.1, μ.2.2.2.2.2.2.2.1, v, μ.2.2.2.2.2.2.2.2.2)
abbrev x_nsz (μ : XS) : Int32 := μ.2.2.2.2.2.2.2.2.2.1
abbrev x_nsz' (μ : XS) (v : Int32) : XS := (μ.1, μ.2.1, μ.2.2.1, μ.2.2.2.1, μ.2.2.2.2.1, μ.2.2.2.2.2.1, μ.2.2.2.2.2.2.1, μ.2.2.2.2.2.2.2.1, μ.2.2.2.2.2.2.2.2.1, v, μ.2.2.2.2.2.2.2.2.2.2)
abbrev x_nwin (μ : XS) : Nat → Int32 := μ.2.2.2.2.2.2.2.2.2.2.1
abbrev x_nwin' (μ : XS) (v : Nat → Int32) : XS := (μ.1, μ.2.1, μ.2.2.1, μ.2.2.2.1, μ.2.2.2.2.1, μ.2.2.2.2.2.1, μ.2.2.2.2.2.2.1, μ.2.2.2.2.2.2.2.1, μ.2.2.2.2.2.2.2.2.1, μ.2.2.2.2.2.2.2.2.2.1, v, μ.2.2.2.2.2.2.2.2.2.2.2)
abbrev x_nway (μ : XS) : Nat → Int32 := μ.2.2.2.2.2.2.2.2.2.2.2.1
abbrev x_nway' (μ : XS) (v : Nat → Int32) : XS := (μ.1, μ.2.1, μ.2.2.1, μ.2.2.2.1, μ.2.2.2.2.1, μ.2.2.2.2.2.1, μ.2.2.2.2.2.2.1, μ.2.2.2.2.2.2.2.1, μ.2.2.2.2.2.2.2.2.1, μ.2.2.2.2.2.2.2.2.2.1, μ.2.2.2.2.2.2.2.2.2.2.1, v, μ.2.2.2.2.2.2.2.2.2.2.2.2)
abbrev x_wide (μ : XS) : Int32 := μ.2.2.2.2.2.2.2.2.2.2.2.2.1
abbrev x_wide' (μ : XS) (v : Int32) : XS := (μ.1, μ.2.1, μ.2.2.1, μ.2.2.2.1, μ.2.2.2.2.1, μ.2.2.2.2.2.1, μ.2.2.2.2.2.2.1, μ.2.2.2.2.2.2.2.1, μ.2.2.2.2.2.2.2.2.1, μ.2.2.2.2.2.2.2.2.2.1, μ.2.2.2.2.2.2.2.2.2.2.1, μ.2.2.2.2.2.2.2.2.2.2.2.1, v, μ.2.2.2.2.2.2.2.2.2.2.2.2.2)
abbrev x_high (μ : XS) : Int32 := μ.2.2.2.2.2.2.2.2.2.2.2.2.2.1
abbrev x_high' (μ : XS) (v : Int32) : XS := (μ.1, μ.2.1, μ.2.2.1, μ.2.2.2.1, μ.2.2.2.2.1, μ.2.2.2.2.2.1, μ.2.2.2.2.2.2.1, μ.2.2.2.2.2.2.2.1, μ.2.2.2.2.2.2.2.2.1, μ.2.2.2.2.2.2.2.2.2.1, μ.2.2.2.2.2.2.2.2.2.2.1, μ.2.2.2.2.2.2.2.2.2.2.2.1, μ.2.2.2.2.2.2.2.2.2.2.2.2.1, v, μ.2.2.2.2.2.2.2.2.2.2.2.2.2.2)
abbrev x_pond (μ : XS) : Int32 := μ.2.2.2.2.2.2.2.2.2.2.2.2.2.2.1
abbrev x_pond' (μ : XS) (v : Int32) : XS := (μ.1, μ.2.1, μ.2.2.1, μ.2.2.2.1, μ.2.2.2.2.1, μ.2.2.2.2.2.1, μ.2.2.2.2.2.2.1, μ.2.2.2.2.2.2.2.1, μ.2.2.2.2.2.2.2.2.1, μ.2.2.2.2.2.2.2.2.2.1, μ.2.2.2.2.2.2.2.2.2.2.1, μ.2.2.2.2.2.2.2.2.2.2.2.1, μ.2.2.2.2.2.2.2.2.2.2.2.2.1, μ.2.2.2.2.2.2.2.2.2.2.2.2.2.1, v, μ.2.2.2.2.2.2.2.2.2.2.2.2.2.2.2)
abbrev x_walls (μ : XS) : Int64 := μ.2.2.2.2.2.2.2.2.2.2.2.2.2.2.2.1
abbrev x_walls' (μ : XS) (v : Int64) : XS := (μ.1, μ.2.1, μ.2.2.1, μ.2.2.2.1, μ.2.2.2.2.1, μ.2.2.2.2.2.1, μ.2.2.2.2.2.2.1, μ.2.2.2.2.2.2.2.1, μ.2.2.2.2.2.2.2.2.1, μ.2.2.2.2.2.2.2.2.2.1, μ.2.2.2.2.2.2.2.2.2.2.1, μ.2.2.2.2.2.2.2.2.2.2.2.1, μ.2.2.2.2.2.2.2.2.2.2.2.2.1, μ.2.2.2.2.2.2.2.2.2.2.2.2.2.1, μ.2.2.2.2.2.2.2.2.2.2.2.2.2.2.1, v, μ.2.2.2.2.2.2.2.2.2.2.2.2.2.2.2.2)
abbrev x_paved (μ : XS) : Int64 := μ.2.2.2.2.2.2.2.2.2.2.2.2.2.2.2.2.1
abbrev x_paved' (μ : XS) (v : Int64) : XS := (μ.1, μ.2.1, μ.2.2.1, μ.2.2.2.1, μ.2.2.2.2.1, μ.2.2.2.2.2.1, μ.2.2.2.2.2.2.1, μ.2.2.2.2.2.2.2.1, μ.2.2.2.2.2.2.2.2.1, μ.2.2.2.2.2.2.2.2.2.1, μ.2.2.2.2.2.2.2.2.2.2.1, μ.2.2.2.2.2.2.2.2.2.2.2.1, μ.2.2.2.2.2.2.2.2.2.2.2.2.1, μ.2.2.2.2.2.2.2.2.2.2.2.2.2.1, μ.2.2.2.2.2.2.2.2.2.2.2.2.2.2.1, μ.2.2.2.2.2.2.2.2.2.2.2.2.2.2.2.1, v, μ.2.2.2.2.2.2.2.2.2.2.2.2.2.2.2.2.2)
abbrev x_tc (μ : XS) : Int32 := μ.2.2.2.2.2.2.2.2.2.2.2.2.2.2.2.2.2.1
abbrev x_tc' (μ : XS) (v : Int32) : XS := (μ.1, μ.2.1, μ.2.2.1, μ.2.2.2.1, μ.2.2.2.2.1, μ.2.2.2.2.2.1, μ.2.2.2.2.2.2.1, μ.2.2.2.2.2.2.2.1, μ.2.2.2.2.2.2.2.2.1, μ.2.2.2.2.2.2.2.2.2.1, μ.2.2.2.2.2.2.2.2.2.2.1, μ.2.2.2.2.2.2.2.2.2.2.2.1, μ.2.2.2.2.2.2.2.2.2.2.2.2.1, μ.2.2.2.2.2.2.2.2.2.2.2.2.2.1, μ.2.2.2.2.2.2.2.2.2.2.2.2.2.2.1, μ.2.2.2.2.2.2.2.2.2.2.2.2.2.2.2.1, μ.2.2.2.2.2.2.2.2.2.2.2.2.2.2.2.2.1, v, μ.2.2.2.2.2.2.2.2.2.2.2.2.2.2.2.2.2.2)
abbrev x_flips (μ : XS) : Int32 := μ.2.2.2.2.2.2.2.2.2.2.2.2.2.2.2.2.2.2.1
abbrev x_flips' (μ : XS) (v : Int32) : XS := (μ.1, μ.2.1, μ.2.2.1, μ.2.2.2.1, μ.2.2.2.2.1, μ.2.2.2.2.2.1, μ.2.2.2.2.2.2.1, μ.2.2.2.2.2.2.2.1, μ.2.2.2.2.2.2.2.2.1, μ.2.2.2.2.2.2.2.2.2.1, μ.2.2.2.2.2.2.2.2.2.2.1, μ.2.2.2.2.2.2.2.2.2.2.2.1, μ.2.2.2.2.2.2.2.2.2.2.2.2.1, μ.2.2.2.2.2.2.2.2.2.2.2.2.2.1, μ.2.2.2.2.2.2.2.2.2.2.2.2.2.2.1, μ.2.2.2.2.2.2.2.2.2.2.2.2.2.2.2.1, μ.2.2.2.2.2.2.2.2.2.2.2.2.2.2.2.2.1, μ.2.2.2.2.2.2.2.2.2.2.2.2.2.2.2.2.2.1, v, μ.2.2.2.2.2.2.2.2.2.2.2.2.2.2.2.2.2.2.2)
abbrev x_refused (μ : XS) : Int32 := μ.2.2.2.2.2.2.2.2.2.2.2.2.2.2.2.2.2.2.2.1
abbrev x_refused' (μ : XS) (v : Int32) : XS := (μ.1, μ.2.1, μ.2.2.1, μ.2.2.2.1, μ.2.2.2.2.1, μ.2.2.2.2.2.1, μ.2.2.2.2.2.2.1, μ.2.2.2.2.2.2.2.1, μ.2.2.2.2.2.2.2.2.1, μ.2.2.2.2.2.2.2.2.2.1, μ.2.2.2.2.2.2.2.2.2.2.1, μ.2.2.2.2.2.2.2.2.2.2.2.1, μ.2.2.2.2.2.2.2.2.2.2.2.2.1, μ.2.2.2.2.2.2.2.2.2.2.2.2.2.1, μ.2.2.2.2.2.2.2.2.2.2.2.2.2.2.1, μ.2.2.2.2.2.2.2.2.2.2.2.2.2.2.2.1, μ.2.2.2.2.2.2.2.2.2.2.2.2.2.2.2.2.1, μ.2.2.2.2.2.2.2.2.2.2.2.2.2.2.2.2.2.1, μ.2.2.2.2.2.2.2.2.2.2.2.2.2.2.2.2.2.2.1, v, μ.2.2.2.2.2.2.2.2.2.2.2.2.2.2.2.2.2.2.2.2)
abbrev x_names (μ : XS) : Nat → Int32 := μ.2.2.2.2.2.2.2.2.2.2.2.2.2.2.2.2.2.2.2.2.1
abbrev x_names' (μ : XS) (v : Nat → Int32) : XS := (μ.1, μ.2.1, μ.2.2.1, μ.2.2.2.1, μ.2.2.2.2.1, μ.2.2.2.2.2.1, μ.2.2.2.2.2.2.1, μ.2.2.2.2.2.2.2.1, μ.2.2.2.2.2.2.2.2.1, μ.2.2.2.2.2.2.2.2.2.1, μ.2.2.2.2.2.2.2.2.2.2.1, μ.2.2.2.2.2.2.2.2.2.2.2.1, μ.2.2.2.2.2.2.2.2.2.2.2.2.1, μ.2.2.2.2.2.2.2.2.2.2.2.2.2.1, μ.2.2.2.2.2.2.2.2.2.2.2.2.2.2.1, μ.2.2.2.2.2.2.2.2.2.2.2.2.2.2.2.1, μ.2.2.2.2.2.2.2.2.2.2.2.2.2.2.2.2.1, μ.2.2.2.2.2.2.2.2.2.2.2.2.2.2.2.2.2.1, μ.2.2.2.2.2.2.2.2.2.2.2.2.2.2.2.2.2.2.1, μ.2.2.2.2.2.2.2.2.2.2.2.2.2.2.2.2.2.2.2.1, v, μ.2.2.2.2.2.2.2.2.2.2.2.2.2.2.2.2.2.2.2.2.2)
abbrev x_sl (μ : XS) : Nat → Option Nat := μ.2.2.2.2.2.2.2.2.2.2.2.2.2.2.2.2.2.2.2.2.2.1
abbrev x_sl' (μ : XS) (v : Nat → Option Nat) : XS := (μ.1, μ.2.1, μ.2.2.1, μ.2.2.2.1, μ.2.2.2.2.1, μ.2.2.2.2.2.1, μ.2.2.2.2.2.2.1, μ.2.2.2.2.2.2.2.1, μ.2.2.2.2.2.2.2.2.1, μ.2.2.2.2.2.2.2.2.2.1, μ.2.2.2.2.2.2.2.2.2.2.1, μ.2.2.2.2.2.2.2.2.2.2.2.1, μ.2.2.2.2.2.2.2.2.2.2.2.2.1, μ.2.2.2.2.2.2.2.2.2.2.2.2.2.1, μ.2.2.2.2.2.2.2.2.2.2.2.2.2.2.1, μ.2.2.2.2.2.2.2.2.2.2.2.2.2.2.2.1, μ.2.2.2.2.2.2.2.2.2.2.2.2.2.2.2.2.1, μ.2.2.2.2.2.2.2.2.2.2.2.2.2.2.2.2.2.1, μ.2.2.2.2.2.2.2.2.2.2.2.2.2.2.2.2.2.2.1, μ.2.2.2.2.2.2.2.2.2.2.2.2.2.2.2.2.2.2.2.1, μ.2.2.2.2.2.2.2.2.2.2.2.2.2.2.2.2.2.2.2.2.1, v, μ.2.2.2.2.2.2.2.2.2.2.2.2.2.2.2.2.2.2.2.2.2.2)
abbrev x_lmod (μ : XS) : Int32 := μ.2.2.2.2.2.2.2.2.2.2.2.2.2.2.2.2.2.2.2.2.2.2.1
abbrev x_lmod' (μ : XS) (v : Int32) : XS := (μ.1, μ.2.1, μ.2.2.1, μ.2.2.2.1, μ.2.2.2.2.1, μ.2.2.2.2.2.1, μ.2.2.2.2.2.2.1, μ.2.2.2.2.2.2.2.1, μ.2.2.2.2.2.2.2.2.1, μ.2.2.2.2.2.2.2.2.2.1, μ.2.2.2.2.2.2.2.2.2.2.1, μ.2.2.2.2.2.2.2.2.2.2.2.1, μ.2.2.2.2.2.2.2.2.2.2.2.2.1, μ.2.2.2.2.2.2.2.2.2.2.2.2.2.1, μ.2.2.2.2.2.2.2.2.2.2.2.2.2.2.1, μ.2.2.2.2.2.2.2.2.2.2.2.2.2.2.2.1, μ.2.2.2.2.2.2.2.2.2.2.2.2.2.2.2.2.1, μ.2.2.2.2.2.2.2.2.2.2.2.2.2.2.2.2.2.1, μ.2.2.2.2.2.2.2.2.2.2.2.2.2.2.2.2.2.2.1, μ.2.2.2.2.2.2.2.2.2.2.2.2.2.2.2.2.2.2.2.1, μ.2.2.2.2.2.2.2.2.2.2.2.2.2.2.2.2.2.2.2.2.1, μ.2.2.2.2.2.2.2.2.2.2.2.2.2.2.2.2.2.2.2.2.2.1, v, μ.2.2.2.2.2.2.2.2.2.2.2.2.2.2.2.2.2.2.2.2.2.2.2)
abbrev x_lsize (μ : XS) : Int32 := μ.2.2.2.2.2.2.2.2.2.2.2.2.2.2.2.2.2.2.2.2.2.2.2
abbrev x_lsize' (μ : XS) (v : Int32) : XS := (μ.1, μ.2.1, μ.2.2.1, μ.2.2.2.1, μ.2.2.2.2.1, μ.2.2.2.2.2.1, μ.2.2.2.2.2.2.1, μ.2.2.2.2.2.2.2.1, μ.2.2.2.2.2.2.2.2.1, μ.2.2.2.2.2.2.2.2.2.1, μ.2.2.2.2.2.2.2.2.2.2.1, μ.2.2.2.2.2.2.2.2.2.2.2.1, μ.2.2.2.2.2.2.2.2.2.2.2.2.1, μ.2.2.2.2.2.2.2.2.2.2.2.2.2.1, μ.2.2.2.2.2.2.2.2.2.2.2.2.2.2.1, μ.2.2.2.2.2.2.2.2.2.2.2.2.2.2.2.1, μ.2.2.2.2.2.2.2.2.2.2.2.2.2.2.2.2.1, μ.2.2.2.2.2.2.2.2.2.2.2.2.2.2.2.2.2.1, μ.2.2.2.2.2.2.2.2.2.2.2.2.2.2.2.2.2.2.1, μ.2.2.2.2.2.2.2.2.2.2.2.2.2.2.2.2.2.2.2.1, μ.2.2.2.2.2.2.2.2.2.2.2.2.2.2.2.2.2.2.2.2.1, μ.2.2.2.2.2.2.2.2.2.2.2.2.2.2.2.2.2.2.2.2.2.1, μ.2.2.2.2.2.2.2.2.2.2.2.2.2.2.2.2.2.2.2.2.2.2.1, v)
abbrev XW (x0 : Nat) (s0 : Nat) (s1 : Nat) (e0 : Nat) (E : Nat → Nat) (A : Nat → Nat) (B : Nat → Nat) (G : Nat → Nat) (T : va_W) (t : Nat → ClassId) (μ : XS) : va_W := [(x0, .inr (5, [.ref s0, .ref s1, .ref (E 0), .ref (A 0), .ref (G 0)])), (s1, .inl (t 3, (2, .inr (.inr (.inr (.inr (x_sl μ))))))), (E 0, .inr (1, [.int (x_length μ), .ref (E 1)])), (E 1, .inl (t 0, (71, .inl (x_codes μ)))), (A 0, .inr (3, [.ref (A 2), .ref (A 1), .ref ((x_u1 μ) 0), .ref ((x_u2 μ) 0)])), (A 1, .inl (t 0, (4, .inl (x_takes μ)))), (A 2, .inl (t 5, (65, .inr (.inr (.inr (.inr (fun i => if i < 65 then some (B i) else none))))))), ((x_u1 μ) 0, .inr (6, [.int (x_hsz μ), .ref ((x_u1 μ) 1), .ref ((x_u1 μ) 2)])), ((x_u1 μ) 1, .inl (t 0, (512, .inl (x_hwin μ)))), ((x_u1 μ) 2, .inl (t 0, (512, .inl (x_hway μ)))), ((x_u2 μ) 0, .inr (6, [.int (x_nsz μ), .ref ((x_u2 μ) 1), .ref ((x_u2 μ) 2)])), ((x_u2 μ) 1, .inl (t 0, (512, .inl (x_nwin μ)))), ((x_u2 μ) 2, .inl (t 0, (512, .inl (x_nway μ)))), (G 0, .inr (2, [.int (x_wide μ), .int (x_high μ), .int (x_pond μ), .long (x_walls μ), .long (x_paved μ), .int (x_tc μ), .int (x_flips μ), .int (x_refused μ), .ref (G 1)])), (G 1, .inl (t 0, (21, .inl (x_names μ)))), (s0, .inr (0, [.int (x_lmod μ), .ref e0, .int (x_lsize μ)]))] ++ ((List.range 65).map (fun i => (B i, .inl (t 0, (512, .inl ((x_rest μ) i))))) ++ T)
abbrev XL (x0 : Nat) (s0 : Nat) (s1 : Nat) (e0 : Nat) (E : Nat → Nat) (A : Nat → Nat) (B : Nat → Nat) (G : Nat → Nat) (T : va_W) (μ : XS) : List Nat := [x0, s1, E 0, E 1, A 0, A 1, A 2, (x_u1 μ) 0, (x_u1 μ) 1, (x_u1 μ) 2, (x_u2 μ) 0, (x_u2 μ) 1, (x_u2 μ) 2, G 0, G 1, s0] ++ ((List.range 65).map (fun i => B i) ++ T.map Prod.fst)
theorem at_IllegalArgumentException : (vx_atS RX4 49 "java/lang/IllegalArgumentException" ["java/lang/RuntimeException", "java/lang/Exception"]).all (fun w => decide (w ∈ lw_tbl) && (goodWord w || (isNest w && w.onTables))) = true := by decide +kernel
theorem ato_IllegalArgumentException : ∀ w ∈ Cond.classLink RX4 45 "java/lang/IllegalArgumentException" :: Cond.initialized "java/lang/IllegalArgumentException" :: (vx_atS RX4 49 "java/lang/IllegalArgumentException" ["java/lang/RuntimeException", "java/lang/Exception"]), vx_ot w = true := List.all_eq_true.mp (by decide +kernel)
theorem at_IllegalStateException : (vx_atS RX4 78 "java/lang/IllegalStateException" ["java/lang/RuntimeException", "java/lang/Exception"]).all (fun w => decide (w ∈ lw_tbl) && (goodWord w || (isNest w && w.onTables))) = true := by decide +kernel
theorem ato_IllegalStateException : ∀ w ∈ Cond.classLink RX4 74 "java/lang/IllegalStateException" :: Cond.initialized "java/lang/IllegalStateException" :: (vx_atS RX4 78 "java/lang/IllegalStateException" ["java/lang/RuntimeException", "java/lang/Exception"]), vx_ot w = true := List.all_eq_true.mp (by decide +kernel)
theorem at_IndexOutOfBoundsException : (vx_atS RX4 134 "java/lang/IndexOutOfBoundsException" ["java/lang/RuntimeException", "java/lang/Exception"]).all (fun w => decide (w ∈ lw_tbl) && (goodWord w || (isNest w && w.onTables))) = true := by decide +kernel
theorem ato_IndexOutOfBoundsException : ∀ w ∈ Cond.classLink RX4 130 "java/lang/IndexOutOfBoundsException" :: Cond.initialized "java/lang/IndexOutOfBoundsException" :: (vx_atS RX4 134 "java/lang/IndexOutOfBoundsException" ["java/lang/RuntimeException", "java/lang/Exception"]), vx_ot w = true := List.all_eq_true.mp (by decide +kernel)
theorem row_X {x0 : Nat} {s0 : Nat} {s1 : Nat} {e0 : Nat} {E : Nat → Nat} {A : Nat → Nat} {B : Nat → Nat} {G : Nat → Nat} {T : va_W} {t : Nat → ClassId} {μ : XS} {k : Nat} (hk : k < 65) : (XW x0 s0 s1 e0 E A B G T t μ)[16 + k]? = some (B k, .inl (t 0, (512, .inl (x_rest μ k)))) := tail_row (f := fun i => (B i, .inl (t 0, (512, .inl (x_rest μ i))))) rfl hk
theorem out_X {x0 : Nat} {s0 : Nat} {s1 : Nat} {e0 : Nat} {E : Nat → Nat} {A : Nat → Nat} {B : Nat → Nat} {G : Nat → Nat} {T : va_W} {t : Nat → ClassId} {μ : XS} {ν : XS} {i : Nat} (hi : 81 ≤ i) : (XW x0 s0 s1 e0 E A B G T t μ)[i]? = (XW x0 s0 s1 e0 E A B G T t ν)[i]? := tail_out (f := fun i => (B i, .inl (t 0, (512, .inl (x_rest μ i))))) (g := fun i => (B i, .inl (t 0, (512, .inl (x_rest ν i))))) (n := 65) (m := 16) rfl rfl hi
theorem sub_X_G {x0 : Nat} {s0 : Nat} {s1 : Nat} {e0 : Nat} {E : Nat → Nat} {A : Nat → Nat} {B : Nat → Nat} {G : Nat → Nat} {T : va_W} {t : Nat → ClassId} {μ : XS} {D : va_G} {H : Heap} (h : va_P D vwCl (XW x0 s0 s1 e0 E A B G T t μ) H) : va_P D vwCl (GW G t ((x_wide μ), (x_high μ), (x_pond μ), (x_walls μ), (x_paved μ), (x_tc μ), (x_flips μ), (x_refused μ), (x_names μ))) H := h.sub [13, 14] rfl
theorem subD_X_G {x0 : Nat} {s0 : Nat} {s1 : Nat} {e0 : Nat} {E : Nat → Nat} {A : Nat → Nat} {B : Nat → Nat} {G : Nat → Nat} {T : va_W} {t : Nat → ClassId} {μ : XS} {A0 : Nat → Prop} (h : va_D A0 (XW x0 s0 s1 e0 E A B G T t μ)) : va_D A0 (GW G t ((x_wide μ), (x_high μ), (x_pond μ), (x_walls μ), (x_paved μ), (x_tc μ), (x_flips μ), (x_refused μ), (x_names μ))) := h.sub [13, 14] (by decide) rfl
theorem back_X_G {x0 : Nat} {s0 : Nat} {s1 : Nat} {e0 : Nat} {E : Nat → Nat} {A : Nat → Nat} {B : Nat → Nat} {G : Nat → Nat} {T : va_W} {t : Nat → ClassId} {μ : XS} {ν : GS} {A0 : Nat → Prop} {D : va_G} {H H1 : Heap} (hP : va_P D vwCl (XW x0 s0 s1 e0 E A B G T t μ) H) (hD : va_D A0 (XW x0 s0 s1 e0 E A B G T t μ)) (hk : ∀ q : Nat, q < H.size → ¬ OA (GL G) H.size q → H1[q]? = H[q]?) (hP1 : va_P D vwCl (GW G t ν) H1) : va_P D vwCl (XW x0 s0 s1 e0 E A B G T t (x_length μ, x_codes μ, x_rest μ, x_takes μ, x_u1 μ, x_u2 μ, x_hsz μ, x_hwin μ, x_hway μ, x_nsz μ, x_nwin μ, x_nway μ, (g_wide ν), (g_high ν), (g_pond ν), (g_walls ν), (g_paved ν), (g_tc ν), (g_flips ν), (g_refused ν), (g_names ν), x_sl μ, x_lmod μ, x_lsize μ)) H1 ∧ va_D A0 (XW x0 s0 s1 e0 E A B G T t (x_length μ, x_codes μ, x_rest μ, x_takes μ, x_u1 μ, x_u2 μ, x_hsz μ, x_hwin μ, x_hway μ, x_nsz μ, x_nwin μ, x_nway μ, (g_wide ν), (g_high ν), (g_pond ν), (g_walls ν), (g_paved ν), (g_tc ν), (g_flips ν), (g_refused ν), (g_names ν), x_sl μ, x_lmod μ, x_lsize μ)) := by
  refine va_backP (fun i => i = 13 ∨ i = 14) hP hD ?_ ?_ rfl hk hP1
  · intro a h
    simp only [List.mem_cons, List.not_mem_nil, or_false] at h
    rcases h with rfl | rfl
    · exact ⟨13, _, by simp, rfl, rfl⟩
    · exact ⟨14, _, by simp, rfl, rfl⟩
  · intro i q hq
    rcases i with _ | _ | _ | _ | _ | _ | _ | _ | _ | _ | _ | _ | _ | _ | _ | _ | i
    · exact Or.inr ⟨by omega, hq⟩
    · exact Or.inr ⟨by omega, hq⟩
    · exact Or.inr ⟨by omega, hq⟩
    · exact Or.inr ⟨by omega, hq⟩
    · exact Or.inr ⟨by omega, hq⟩
    · exact Or.inr ⟨by omega, hq⟩
    · exact Or.inr ⟨by omega, hq⟩
    · exact Or.inr ⟨by omega, hq⟩
    · exact Or.inr ⟨by omega, hq⟩
    · exact Or.inr ⟨by omega, hq⟩
    · exact Or.inr ⟨by omega, hq⟩
    · exact Or.inr ⟨by omega, hq⟩
    · exact Or.inr ⟨by omega, hq⟩
    · exact Or.inl ⟨by simp, List.mem_of_getElem? (i := 0) hq⟩
    · exact Or.inl ⟨by simp, List.mem_of_getElem? (i := 1) hq⟩
    · exact Or.inr ⟨by omega, hq⟩
    · exact Or.inr ⟨by omega, hq⟩

theorem sub_X_V {x0 : Nat} {s0 : Nat} {s1 : Nat} {e0 : Nat} {E : Nat → Nat} {A : Nat → Nat} {B : Nat → Nat} {G : Nat → Nat} {T : va_W} {t : Nat → ClassId} {μ : XS} {D : va_G} {H : Heap} (h : va_P D vwCl (XW x0 s0 s1 e0 E A B G T t μ) H) : va_P D vwCl (VW A B t ((x_rest μ), (x_takes μ), (x_u1 μ), (x_u2 μ), (x_hsz μ), (x_hwin μ), (x_hway μ), (x_nsz μ), (x_nwin μ), (x_nway μ))) H := h.mem (fun i q hq => by
  rcases i with _ | _ | _ | _ | _ | _ | _ | _ | _ | i
  · exact ⟨4, hq⟩
  · exact ⟨5, hq⟩
  · exact ⟨6, hq⟩
  · exact ⟨7, hq⟩
  · exact ⟨8, hq⟩
  · exact ⟨9, hq⟩
  · exact ⟨10, hq⟩
  · exact ⟨11, hq⟩
  · exact ⟨12, hq⟩
  · obtain ⟨k, h1, -, rfl⟩ := grid_in (by simp) hq
    exact ⟨16 + k, tail_row rfl h1⟩)
theorem subD_X_V {x0 : Nat} {s0 : Nat} {s1 : Nat} {e0 : Nat} {E : Nat → Nat} {A : Nat → Nat} {B : Nat → Nat} {G : Nat → Nat} {T : va_W} {t : Nat → ClassId} {μ : XS} {A0 : Nat → Prop} (h : va_D A0 (XW x0 s0 s1 e0 E A B G T t μ)) : va_D A0 (VW A B t ((x_rest μ), (x_takes μ), (x_u1 μ), (x_u2 μ), (x_hsz μ), (x_hwin μ), (x_hway μ), (x_nsz μ), (x_nwin μ), (x_nway μ))) := h.mem (fun i => if i = 0 then 4 else if i = 1 then 5 else if i = 2 then 6 else if i = 3 then 7 else if i = 4 then 8 else if i = 5 then 9 else if i = 6 then 10 else if i = 7 then 11 else if i = 8 then 12 else i + 7) (by
  have inv : ∀ i : Nat, (fun r : Nat => if r = 4 then 0 else if r = 5 then 1 else if r = 6 then 2 else if r = 7 then 3 else if r = 8 then 4 else if r = 9 then 5 else if r = 10 then 6 else if r = 11 then 7 else if r = 12 then 8 else r - 7) ((fun i => if i = 0 then 4 else if i = 1 then 5 else if i = 2 then 6 else if i = 3 then 7 else if i = 4 then 8 else if i = 5 then 9 else if i = 6 then 10 else if i = 7 then 11 else if i = 8 then 12 else i + 7) i) = i := by
    intro i
    rcases i with _ | _ | _ | _ | _ | _ | _ | _ | _ | i
    · rfl
    · rfl
    · rfl
    · rfl
    · rfl
    · rfl
    · rfl
    · rfl
    · rfl
    · have e1 : (fun i => if i = 0 then 4 else if i = 1 then 5 else if i = 2 then 6 else if i = 3 then 7 else if i = 4 then 8 else if i = 5 then 9 else if i = 6 then 10 else if i = 7 then 11 else if i = 8 then 12 else i + 7) (i + 9) = i + 9 + 7 := by
        show (if i + 9 = 0 then 4 else if i + 9 = 1 then 5 else if i + 9 = 2 then 6 else if i + 9 = 3 then 7 else if i + 9 = 4 then 8 else if i + 9 = 5 then 9 else if i + 9 = 6 then 10 else if i + 9 = 7 then 11 else if i + 9 = 8 then 12 else i + 9 + 7) = _
        rw [if_neg (by omega), if_neg (by omega), if_neg (by omega), if_neg (by omega), if_neg (by omega), if_neg (by omega), if_neg (by omega), if_neg (by omega), if_neg (by omega)]
      rw [e1]
      show (if i + 9 + 7 = 4 then 0 else if i + 9 + 7 = 5 then 1 else if i + 9 + 7 = 6 then 2 else if i + 9 + 7 = 7 then 3 else if i + 9 + 7 = 8 then 4 else if i + 9 + 7 = 9 then 5 else if i + 9 + 7 = 10 then 6 else if i + 9 + 7 = 11 then 7 else if i + 9 + 7 = 12 then 8 else i + 9 + 7 - 7) = _
      rw [if_neg (by omega), if_neg (by omega), if_neg (by omega), if_neg (by omega), if_neg (by omega), if_neg (by omega), if_neg (by omega), if_neg (by omega), if_neg (by omega)]
      omega
  intro i j e
  exact (inv i).symm.trans ((congrArg (fun r : Nat => if r = 4 then 0 else if r = 5 then 1 else if r = 6 then 2 else if r = 7 then 3 else if r = 8 then 4 else if r = 9 then 5 else if r = 10 then 6 else if r = 11 then 7 else if r = 12 then 8 else r - 7) e).trans (inv j))) (fun i q hq => by
  rcases i with _ | _ | _ | _ | _ | _ | _ | _ | _ | i
  · exact hq
  · exact hq
  · exact hq
  · exact hq
  · exact hq
  · exact hq
  · exact hq
  · exact hq
  · exact hq
  · obtain ⟨k, h1, h2, rfl⟩ := grid_in (by simp) hq
    simp only [List.length_cons, List.length_nil] at h2
    have e : i = k := by omega
    subst e
    rw [if_neg (by omega), if_neg (by omega), if_neg (by omega), if_neg (by omega), if_neg (by omega), if_neg (by omega), if_neg (by omega), if_neg (by omega), if_neg (by omega)]
    show (XW x0 s0 s1 e0 E A B G T t μ)[i + 9 + 7]? = _
    rw [show i + 9 + 7 = 16 + i by omega]
    exact tail_row rfl h1)
theorem back_X_V {x0 : Nat} {s0 : Nat} {s1 : Nat} {e0 : Nat} {E : Nat → Nat} {A : Nat → Nat} {B : Nat → Nat} {G : Nat → Nat} {T : va_W} {t : Nat → ClassId} {μ : XS} {ν : VS} {A0 : Nat → Prop} {D : va_G} {H H1 : Heap} (hP : va_P D vwCl (XW x0 s0 s1 e0 E A B G T t μ) H) (hD : va_D A0 (XW x0 s0 s1 e0 E A B G T t μ)) (hk : ∀ q : Nat, q < H.size → ¬ OA (VL A B ((x_rest μ), (x_takes μ), (x_u1 μ), (x_u2 μ), (x_hsz μ), (x_hwin μ), (x_hway μ), (x_nsz μ), (x_nwin μ), (x_nway μ))) H.size q → H1[q]? = H[q]?) (hA : ∀ q, OA (VL A B ((x_rest μ), (x_takes μ), (x_u1 μ), (x_u2 μ), (x_hsz μ), (x_hwin μ), (x_hway μ), (x_nsz μ), (x_nwin μ), (x_nway μ))) H.size q → A0 q) (hP1 : va_P D vwCl (VW A B t ν) H1) (hD1 : va_D (OA (VL A B ((x_rest μ), (x_takes μ), (x_u1 μ), (x_u2 μ), (x_hsz μ), (x_hwin μ), (x_hway μ), (x_nsz μ), (x_nwin μ), (x_nway μ))) H.size) (VW A B t ν)) : va_P D vwCl (XW x0 s0 s1 e0 E A B G T t (x_length μ, x_codes μ, (v_rest ν), (v_takes ν), (v_u1 ν), (v_u2 ν), (v_hsz ν), (v_hwin ν), (v_hway ν), (v_nsz ν), (v_nwin ν), (v_nway ν), x_wide μ, x_high μ, x_pond μ, x_walls μ, x_paved μ, x_tc μ, x_flips μ, x_refused μ, x_names μ, x_sl μ, x_lmod μ, x_lsize μ)) H1 ∧ va_D A0 (XW x0 s0 s1 e0 E A B G T t (x_length μ, x_codes μ, (v_rest ν), (v_takes ν), (v_u1 ν), (v_u2 ν), (v_hsz ν), (v_hwin ν), (v_hway ν), (v_nsz ν), (v_nwin ν), (v_nway ν), x_wide μ, x_high μ, x_pond μ, x_walls μ, x_paved μ, x_tc μ, x_flips μ, x_refused μ, x_names μ, x_sl μ, x_lmod μ, x_lsize μ)) := by
  refine va_backQ (fun i => i = 4 ∨ i = 5 ∨ i = 6 ∨ i = 7 ∨ i = 8 ∨ i = 9 ∨ i = 10 ∨ i = 11 ∨ i = 12 ∨ (16 ≤ i ∧ i < 81)) (fun i => if i = 4 then 0 else if i = 5 then 1 else if i = 6 then 2 else if i = 7 then 3 else if i = 8 then 4 else if i = 9 then 5 else if i = 10 then 6 else if i = 11 then 7 else if i = 12 then 8 else i - 7) hP hD ?_ ?_ ?_ hA hk hP1 hD1
  · intro a h
    rcases List.mem_append.mp h with h | h
    · simp only [List.mem_cons, List.not_mem_nil, or_false] at h
      rcases h with rfl | rfl | rfl | rfl | rfl | rfl | rfl | rfl | rfl
      · exact ⟨4, _, by simp, rfl, rfl⟩
      · exact ⟨5, _, by simp, rfl, rfl⟩
      · exact ⟨6, _, by simp, rfl, rfl⟩
      · exact ⟨7, _, by simp, rfl, rfl⟩
      · exact ⟨8, _, by simp, rfl, rfl⟩
      · exact ⟨9, _, by simp, rfl, rfl⟩
      · exact ⟨10, _, by simp, rfl, rfl⟩
      · exact ⟨11, _, by simp, rfl, rfl⟩
      · exact ⟨12, _, by simp, rfl, rfl⟩
    · obtain ⟨k, hk, rfl⟩ := List.mem_map.mp h
      have hk := List.mem_range.mp hk
      exact ⟨16 + k, _, by omega, tail_row rfl hk, rfl⟩
  · intro i q hq
    by_cases hi : i < 16
    · rcases i with _ | _ | _ | _ | _ | _ | _ | _ | _ | _ | _ | _ | _ | _ | _ | _ | i
      · exact Or.inr ⟨by omega, hq⟩
      · exact Or.inr ⟨by omega, hq⟩
      · exact Or.inr ⟨by omega, hq⟩
      · exact Or.inr ⟨by omega, hq⟩
      · exact Or.inl ⟨by simp, hq⟩
      · exact Or.inl ⟨by simp, hq⟩
      · exact Or.inl ⟨by simp, hq⟩
      · exact Or.inl ⟨by simp, hq⟩
      · exact Or.inl ⟨by simp, hq⟩
      · exact Or.inl ⟨by simp, hq⟩
      · exact Or.inl ⟨by simp, hq⟩
      · exact Or.inl ⟨by simp, hq⟩
      · exact Or.inl ⟨by simp, hq⟩
      · exact Or.inr ⟨by omega, hq⟩
      · exact Or.inr ⟨by omega, hq⟩
      · exact Or.inr ⟨by omega, hq⟩
      · omega
    · by_cases h2 : i < 81
      · obtain ⟨k, rfl⟩ : ∃ k, i = 16 + k := ⟨i - 16, by omega⟩
        refine Or.inl ⟨by omega, ?_⟩
        rw [row_X (by omega)] at hq
        cases hq
        try dsimp only
        rw [if_neg (by omega), if_neg (by omega), if_neg (by omega), if_neg (by omega), if_neg (by omega), if_neg (by omega), if_neg (by omega), if_neg (by omega), if_neg (by omega), show 16 + k - 7 = 9 + k by omega]
        exact row_V (μ := ν) (k := k) (by omega)
      · exact Or.inr ⟨by omega, (out_X (by omega)).trans hq⟩
  · have inv : ∀ i : Nat, (i = 4 ∨ i = 5 ∨ i = 6 ∨ i = 7 ∨ i = 8 ∨ i = 9 ∨ i = 10 ∨ i = 11 ∨ i = 12 ∨ (16 ≤ i ∧ i < 81)) → (fun r : Nat => if r = 0 then 4 else if r = 1 then 5 else if r = 2 then 6 else if r = 3 then 7 else if r = 4 then 8 else if r = 5 then 9 else if r = 6 then 10 else if r = 7 then 11 else if r = 8 then 12 else r + 7) ((fun i => if i = 4 then 0 else if i = 5 then 1 else if i = 6 then 2 else if i = 7 then 3 else if i = 8 then 4 else if i = 9 then 5 else if i = 10 then 6 else if i = 11 then 7 else if i = 12 then 8 else i - 7) i) = i := by
      intro i c
      rcases c with rfl | rfl | rfl | rfl | rfl | rfl | rfl | rfl | rfl | c
      · rfl
      · rfl
      · rfl
      · rfl
      · rfl
      · rfl
      · rfl
      · rfl
      · rfl
      · have e1 : (fun i => if i = 4 then 0 else if i = 5 then 1 else if i = 6 then 2 else if i = 7 then 3 else if i = 8 then 4 else if i = 9 then 5 else if i = 10 then 6 else if i = 11 then 7 else if i = 12 then 8 else i - 7) i = i - 7 := by
          show (if i = 4 then 0 else if i = 5 then 1 else if i = 6 then 2 else if i = 7 then 3 else if i = 8 then 4 else if i = 9 then 5 else if i = 10 then 6 else if i = 11 then 7 else if i = 12 then 8 else i - 7) = _
          rw [if_neg (by omega), if_neg (by omega), if_neg (by omega), if_neg (by omega), if_neg (by omega), if_neg (by omega), if_neg (by omega), if_neg (by omega), if_neg (by omega)]
        rw [e1]
        show (if i - 7 = 0 then 4 else if i - 7 = 1 then 5 else if i - 7 = 2 then 6 else if i - 7 = 3 then 7 else if i - 7 = 4 then 8 else if i - 7 = 5 then 9 else if i - 7 = 6 then 10 else if i - 7 = 7 then 11 else if i - 7 = 8 then 12 else i - 7 + 7) = _
        rw [if_neg (by omega), if_neg (by omega), if_neg (by omega), if_neg (by omega), if_neg (by omega), if_neg (by omega), if_neg (by omega), if_neg (by omega), if_neg (by omega)]
        omega
    intro i j c1 c2 e
    exact (inv i c1).symm.trans ((congrArg (fun r : Nat => if r = 0 then 4 else if r = 1 then 5 else if r = 2 then 6 else if r = 3 then 7 else if r = 4 then 8 else if r = 5 then 9 else if r = 6 then 10 else if r = 7 then 11 else if r = 8 then 12 else r + 7) e).trans (inv j c2))

theorem sub_X_B {x0 : Nat} {s0 : Nat} {s1 : Nat} {e0 : Nat} {E : Nat → Nat} {A : Nat → Nat} {B : Nat → Nat} {G : Nat → Nat} {T : va_W} {t : Nat → ClassId} {μ : XS} {D : va_G} {H : Heap} (h : va_P D vwCl (XW x0 s0 s1 e0 E A B G T t μ) H) : va_P D vwCl (BW E t ((x_length μ), (x_codes μ))) H := h.sub [2, 3] rfl
theorem subD_X_B {x0 : Nat} {s0 : Nat} {s1 : Nat} {e0 : Nat} {E : Nat → Nat} {A : Nat → Nat} {B : Nat → Nat} {G : Nat → Nat} {T : va_W} {t : Nat → ClassId} {μ : XS} {A0 : Nat → Prop} (h : va_D A0 (XW x0 s0 s1 e0 E A B G T t μ)) : va_D A0 (BW E t ((x_length μ), (x_codes μ))) := h.sub [2, 3] (by decide) rfl
theorem back_X_B {x0 : Nat} {s0 : Nat} {s1 : Nat} {e0 : Nat} {E : Nat → Nat} {A : Nat → Nat} {B : Nat → Nat} {G : Nat → Nat} {T : va_W} {t : Nat → ClassId} {μ : XS} {ν : BS} {A0 : Nat → Prop} {D : va_G} {H H1 : Heap} (hP : va_P D vwCl (XW x0 s0 s1 e0 E A B G T t μ) H) (hD : va_D A0 (XW x0 s0 s1 e0 E A B G T t μ)) (hk : ∀ q : Nat, q < H.size → ¬ OA (BL E) H.size q → H1[q]? = H[q]?) (hP1 : va_P D vwCl (BW E t ν) H1) : va_P D vwCl (XW x0 s0 s1 e0 E A B G T t (x_codes' (x_length' μ (b_length ν)) (b_codes ν))) H1 ∧ va_D A0 (XW x0 s0 s1 e0 E A B G T t (x_codes' (x_length' μ (b_length ν)) (b_codes ν))) := by
  refine va_backP (fun i => i = 2 ∨ i = 3) hP hD ?_ ?_ rfl hk hP1
  · intro a h
    simp only [List.mem_cons, List.not_mem_nil, or_false] at h
    rcases h with rfl | rfl
    · exact ⟨2, _, by simp, rfl, rfl⟩
    · exact ⟨3, _, by simp, rfl, rfl⟩
  · intro i q hq
    rcases i with _ | _ | _ | _ | _ | _ | _ | _ | _ | _ | _ | _ | _ | _ | _ | _ | i
    · exact Or.inr ⟨by omega, hq⟩
    · exact Or.inr ⟨by omega, hq⟩
    · exact Or.inl ⟨by simp, List.mem_of_getElem? (i := 0) hq⟩
    · exact Or.inl ⟨by simp, List.mem_of_getElem? (i := 1) hq⟩
    · exact Or.inr ⟨by omega, hq⟩
    · exact Or.inr ⟨by omega, hq⟩
    · exact Or.inr ⟨by omega, hq⟩
    · exact Or.inr ⟨by omega, hq⟩
    · exact Or.inr ⟨by omega, hq⟩
    · exact Or.inr ⟨by omega, hq⟩
    · exact Or.inr ⟨by omega, hq⟩
    · exact Or.inr ⟨by omega, hq⟩
    · exact Or.inr ⟨by omega, hq⟩
    · exact Or.inr ⟨by omega, hq⟩
    · exact Or.inr ⟨by omega, hq⟩
    · exact Or.inr ⟨by omega, hq⟩
    · exact Or.inr ⟨by omega, hq⟩

theorem sub_X_LS {x0 : Nat} {s0 : Nat} {s1 : Nat} {e0 : Nat} {E : Nat → Nat} {A : Nat → Nat} {B : Nat → Nat} {G : Nat → Nat} {T : va_W} {t : Nat → ClassId} {μ : XS} {D : va_G} {H : Heap} (h : va_P D vwCl (XW x0 s0 s1 e0 E A B G T t μ) H) : va_P D vwCl (LSW s0 e0 t ((x_lmod μ), (x_lsize μ))) H := h.sub [15] rfl
theorem subD_X_LS {x0 : Nat} {s0 : Nat} {s1 : Nat} {e0 : Nat} {E : Nat → Nat} {A : Nat → Nat} {B : Nat → Nat} {G : Nat → Nat} {T : va_W} {t : Nat → ClassId} {μ : XS} {A0 : Nat → Prop} (h : va_D A0 (XW x0 s0 s1 e0 E A B G T t μ)) : va_D A0 (LSW s0 e0 t ((x_lmod μ), (x_lsize μ))) := h.sub [15] (by decide) rfl
theorem back_X_LS {x0 : Nat} {s0 : Nat} {s1 : Nat} {e0 : Nat} {E : Nat → Nat} {A : Nat → Nat} {B : Nat → Nat} {G : Nat → Nat} {T : va_W} {t : Nat → ClassId} {μ : XS} {ν : LSS} {A0 : Nat → Prop} {D : va_G} {H H1 : Heap} (hP : va_P D vwCl (XW x0 s0 s1 e0 E A B G T t μ) H) (hD : va_D A0 (XW x0 s0 s1 e0 E A B G T t μ)) (hk : ∀ q : Nat, q < H.size → ¬ OA (LSL s0 e0) H.size q → H1[q]? = H[q]?) (hP1 : va_P D vwCl (LSW s0 e0 t ν) H1) : va_P D vwCl (XW x0 s0 s1 e0 E A B G T t (x_lsize' (x_lmod' μ (ls_lmod ν)) (ls_lsize ν))) H1 ∧ va_D A0 (XW x0 s0 s1 e0 E A B G T t (x_lsize' (x_lmod' μ (ls_lmod ν)) (ls_lsize ν))) := by
  refine va_backP (fun i => i = 15) hP hD ?_ ?_ rfl hk hP1
  · intro a h
    simp only [List.mem_cons, List.not_mem_nil, or_false] at h
    rcases h with rfl
    · exact ⟨15, _, by simp, rfl, rfl⟩
  · intro i q hq
    rcases i with _ | _ | _ | _ | _ | _ | _ | _ | _ | _ | _ | _ | _ | _ | _ | _ | i
    · exact Or.inr ⟨by omega, hq⟩
    · exact Or.inr ⟨by omega, hq⟩
    · exact Or.inr ⟨by omega, hq⟩
    · exact Or.inr ⟨by omega, hq⟩
    · exact Or.inr ⟨by omega, hq⟩
    · exact Or.inr ⟨by omega, hq⟩
    · exact Or.inr ⟨by omega, hq⟩
    · exact Or.inr ⟨by omega, hq⟩
    · exact Or.inr ⟨by omega, hq⟩
    · exact Or.inr ⟨by omega, hq⟩
    · exact Or.inr ⟨by omega, hq⟩
    · exact Or.inr ⟨by omega, hq⟩
    · exact Or.inr ⟨by omega, hq⟩
    · exact Or.inr ⟨by omega, hq⟩
    · exact Or.inr ⟨by omega, hq⟩
    · exact Or.inl ⟨by simp, List.mem_of_getElem? (i := 0) hq⟩
    · exact Or.inr ⟨by omega, hq⟩
