/-! families of worlds of the class; grids; a callee's world within the caller's -/
def dfin (x : UInt64) : Option UInt64 := if x &&& 0x7fffffffffffffff ≤ 0x7ff0000000000000 then some x else none
theorem dfin_some {x z : UInt64} (h : dfin x = some z) : z = x ∧ vf_n64 x := by
  unfold dfin at h
  by_cases c : x &&& 0x7fffffffffffffff ≤ 0x7ff0000000000000
  · rw [if_pos c] at h
    exact ⟨(Option.some.inj h).symm, c⟩
  · rw [if_neg c] at h; cases h
def jix (n : Nat) (i : Int32) : Option Nat := if i < 0 ∨ n ≤ i.toNatClampNeg then none else some i.toNatClampNeg
theorem jix_some {n k : Nat} {i : Int32} (h : jix n i = some k) : vp_in i n ∧ i.toNatClampNeg = k := by
  unfold jix at h
  by_cases c : i < 0 ∨ n ≤ i.toNatClampNeg
  · rw [if_pos c] at h; cases h
  · rw [if_neg c] at h; exact ⟨c, Option.some.inj h⟩
theorem jix_lt {n k : Nat} {i : Int32} (h : jix n i = some k) : k < n := by
  obtain ⟨h1, rfl⟩ := jix_some h
  exact Nat.not_le.mp fun z => h1 (Or.inr z)
theorem grid_get {f : Nat → Nat × va_E} {fx : va_W} {n k m : Nat} (hm : fx.length = m) (hk : k < n) : (fx ++ (List.range n).map f)[m + k]? = some (f k) := by
  subst hm
  rw [List.getElem?_append_right (Nat.le_add_right _ _), Nat.add_sub_cancel_left, List.getElem?_map, List.getElem?_range hk]
  rfl
theorem grid_set {f g : Nat → Nat × va_E} {fx : va_W} {n k m : Nat} (hm : fx.length = m) (hk : k < n) (h : ∀ j, j ≠ k → f j = g j) : (fx ++ (List.range n).map f).set (m + k) (g k) = fx ++ (List.range n).map g := by
  subst hm
  rw [List.set_append_right _ _ (Nat.le_add_right _ _), Nat.add_sub_cancel_left]
  congr 1
  apply List.ext_getElem?
  intro j
  by_cases hj : j = k
  · subst hj
    rw [List.getElem?_set_self (by rw [List.length_map, List.length_range]; exact hk), List.getElem?_map, List.getElem?_range hk]
    rfl
  · rw [List.getElem?_set_ne (Ne.symm hj), List.getElem?_map, List.getElem?_map]
    by_cases hn : j < n
    · rw [List.getElem?_range hn]
      exact congrArg some (h j hj)
    · rw [List.getElem?_eq_none (by rw [List.length_range]; omega)]
      rfl
theorem grid_in {f : Nat → Nat × va_E} {fx : va_W} {n i : Nat} {q : Nat × va_E} (hi : fx.length ≤ i) (h : (fx ++ (List.range n).map f)[i]? = some q) : ∃ k, k < n ∧ i = fx.length + k ∧ q = f k := by
  rw [List.getElem?_append_right hi, List.getElem?_map] at h
  have hlt : i - fx.length < n := by
    by_cases c : i - fx.length < n
    · exact c
    · rw [List.getElem?_eq_none (by rw [List.length_range]; omega)] at h
      cases h
  rw [List.getElem?_range hlt] at h
  exact ⟨i - fx.length, hlt, by omega, (Option.some.inj h).symm⟩
theorem va_backP {A0 : Nat → Prop} {D : va_G} {ws w1 ws' : va_W} {Lc : List Nat} {H H1 : Heap} (C : Nat → Prop) (hP : va_P D vwCl ws H) (hD : va_D A0 ws) (hL : ∀ a ∈ Lc, ∃ (j : Nat) (p : Nat × va_E), C j ∧ ws[j]? = some p ∧ p.1 = a)
    (h : ∀ (i : Nat) (q : Nat × va_E), ws'[i]? = some q → (C i ∧ q ∈ w1) ∨ (¬ C i ∧ ws[i]? = some q)) (ha : ws'.map Prod.fst = ws.map Prod.fst) (hk : ∀ q : Nat, q < H.size → ¬ OA Lc H.size q → H1[q]? = H[q]?) (hP1 : va_P D vwCl w1 H1) : va_P D vwCl ws' H1 ∧ va_D A0 ws' := by
  refine ⟨fun i q hq => ?_, hD.addr ha⟩
  rcases h i q hq with ⟨-, hm⟩ | ⟨hc, hw⟩
  · obtain ⟨j, hj⟩ := List.getElem?_of_mem hm
    exact hP1 j q hj
  · have hlt := (hP i q hw).lt
    refine (hP i q hw).kept (hk q.1 hlt ?_)
    rintro (z | z)
    · obtain ⟨j, p, h1, h2, h3⟩ := hL _ z
      have hij := hD.1 j i p q h2 hw h3
      subst hij
      exact hc h1
    · omega
theorem va_P.mem {D : va_G} {ws ws' : va_W} {H : Heap} (hP : va_P D vwCl ws H) (h : ∀ (i : Nat) (q : Nat × va_E), ws'[i]? = some q → ∃ j : Nat, ws[j]? = some q) : va_P D vwCl ws' H := fun i q hq => by
  obtain ⟨j, hj⟩ := h i q hq
  exact hP j q hj
theorem OA.ofD {L L' : List Nat} {sz sz' : Nat} {ws : va_W} (hD : va_D (OA L sz) ws) (e : ws.map Prod.fst = L') (h : sz ≤ sz') : ∀ q, OA L' sz' q → OA L sz q := by
  intro q hq
  rcases hq with z | z
  · rw [← e] at z
    obtain ⟨x, hx, rfl⟩ := List.mem_map.mp z
    obtain ⟨k, hk⟩ := List.getElem?_of_mem hx
    exact hD.2 k x hk
  · exact Or.inr (Nat.le_trans h z)
section KROW2
variable {p : Program} {l : Launch} {e : Env} {R : Room} {s : State} {m : MethodId} {args : Array Value} {below : List Frame} {meth : Method} {c : Code} {H : Heap} {locs : List Loc} {cells slots : Nat} {Q : State → Prop}
variable {cc : ByteArray} {pc : Nat} {ls : Array Slot} {rest : List Value} {D : va_G} {cl : List vw_C} {A : Nat → Prop} {a : Nat} {t : Nat → ClassId} {ws ws' : va_W} {H0 : Heap}
theorem k_aaldR (hx : p.tables.exec = Jvm.exec) (hb : c.code = cc) (hK : va_K D cl (TY t) s) (hP : va_P D cl ws H) (q0 : Nat) {n : Nat} {B : Nat → Nat} (ha : ws[q0]? = some (a, .inl (t 5, (n, .inr (.inr (.inr (.inr (fun i => if i < n then some (B i) else none)))))))) {i : Int32} {k : Nat} (h : jix n i = some k) (hdg : decode cc pc = .ok (.aaload, 1))
    (kk : W p l e R s m args below meth c H locs cells slots Q (F0 m (pc + 1) ls (.ref (B k) :: rest))) : W p l e R s m args below meth c H locs cells slots Q (F0 m pc ls (.int i :: .ref a :: rest)) := by
  have hlt := jix_lt h
  obtain ⟨h1, h2⟩ := jix_some h
  have hlt2 : i.toNatClampNeg < n := by rw [h2]; exact hlt
  have hv : va_rf (if i.toNatClampNeg < n then some (B i.toNatClampNeg) else none) = .ref (B k) := by rw [if_pos hlt2, h2]; rfl
  exact W.aald (v := va_rf (if i.toNatClampNeg < n then some (B i.toNatClampNeg) else none)) (ty := .array .int) hx hb (hP q0 _ ha) ((hK.2 5 _ rfl).1 n (fun j => va_rf (if j < n then some (B j) else none))) rfl (fun q => by cases q) (by show ¬ (i < 0 ∨ (arrV _ _ _).slots.size ≤ _); rw [arrV_size]; exact h1) (by show (arrV _ _ _).slots[_]? = _; rw [arrV_read _ _ hlt2]) rfl rfl hdg (by rw [hv]; exact kk)
end KROW2
abbrev GS : Type := (Int32) × (Int32) × (Int32) × (Int64) × (Int64) × (Int32) × (Int32) × (Int32) × (Nat → Int32)
abbrev g_wide (μ : GS) : Int32 := μ.1
abbrev g_wide' (μ : GS) (v : Int32) : GS := (v, μ.2)
abbrev g_high (μ : GS) : Int32 := μ.2.1
abbrev g_high' (μ : GS) (v : Int32) : GS := (μ.1, v, μ.2.2)
abbrev g_pond (μ : GS) : Int32 := μ.2.2.1
abbrev g_pond' (μ : GS) (v : Int32) : GS := (μ.1, μ.2.1, v, μ.2.2.2)
abbrev g_walls (μ : GS) : Int64 := μ.2.2.2.1
abbrev g_walls' (μ : GS) (v : Int64) : GS := (μ.1, μ.2.1, μ.2.2.1, v, μ.2.2.2.2)
abbrev g_paved (μ : GS) : Int64 := μ.2.2.2.2.1
abbrev g_paved' (μ : GS) (v : Int64) : GS := (μ.1, μ.2.1, μ.2.2.1, μ.2.2.2.1, v, μ.2.2.2.2.2)
abbrev g_tc (μ : GS) : Int32 := μ.2.2.2.2.2.1
abbrev g_tc' (μ : GS) (v : Int32) : GS := (μ.1, μ.2.1, μ.2.2.1, μ.2.2.2.1, μ.2.2.2.2.1, v, μ.2.2.2.2.2.2)
abbrev g_flips (μ : GS) : Int32 := μ.2.2.2.2.2.2.1
abbrev g_flips' (μ : GS) (v : Int32) : GS := (μ.1, μ.2.1, μ.2.2.1, μ.2.2.2.1, μ.2.2.2.2.1, μ.2.2.2.2.2.1, v, μ.2.2.2.2.2.2.2)
abbrev g_refused (μ : GS) : Int32 := μ.2.2.2.2.2.2.2.1
abbrev g_refused' (μ : GS) (v : Int32) : GS := (μ.1, μ.2.1, μ.2.2.1, μ.2.2.2.1, μ.2.2.2.2.1, μ.2.2.2.2.2.1, μ.2.2.2.2.2.2.1, v, μ.2.2.2.2.2.2.2.2)
abbrev g_names (μ : GS) : Nat → Int32 := μ.2.2.2.2.2.2.2.2
abbrev g_names' (μ : GS) (v : Nat → Int32) : GS := (μ.1, μ.2.1, μ.2.2.1, μ.2.2.2.1, μ.2.2.2.2.1, μ.2.2.2.2.2.1, μ.2.2.2.2.2.2.1, μ.2.2.2.2.2.2.2.1, v)
abbrev GW (G : Nat → Nat) (t : Nat → ClassId) (μ : GS) : va_W := [(G 0, .inr (2, [.int (g_wide μ), .int (g_high μ), .int (g_pond μ), .long (g_walls μ), .long (g_paved μ), .int (g_tc μ), .int (g_flips μ), .int (g_refused μ), .ref (G 1)])), (G 1, .inl (t 0, (21, .inl (g_names μ))))]
abbrev GL (G : Nat → Nat) : List Nat := [G 0, G 1]

abbrev PS : Type := Nat → Int32
abbrev PW (A : Nat → Nat) (u1 : Nat) (u2 : Nat) (t : Nat → ClassId) (μ : PS) : va_W := [(A 0, .inr (3, [.ref (A 2), .ref (A 1), .ref u1, .ref u2])), (A 1, .inl (t 0, (4, .inl μ)))]
abbrev PL (A : Nat → Nat) (u1 : Nat) (u2 : Nat) : List Nat := [A 0, A 1]

abbrev PNS : Type := (Nat → Int32) × (Nat → Int32)
abbrev pn_takes (μ : PNS) : Nat → Int32 := μ.1
abbrev pn_takes' (μ : PNS) (v : Nat → Int32) : PNS := (v, μ.2)
abbrev pn_nx (μ : PNS) : Nat → Int32 := μ.2
abbrev pn_nx' (μ : PNS) (v : Nat → Int32) : PNS := (μ.1, v)
abbrev PNW (A : Nat → Nat) (u1 : Nat) (u2 : Nat) (n0 : Nat) (t : Nat → ClassId) (μ : PNS) : va_W := [(A 0, .inr (3, [.ref (A 2), .ref (A 1), .ref u1, .ref u2])), (A 1, .inl (t 0, (4, .inl (pn_takes μ)))), (n0, .inl (t 0, (512, .inl (pn_nx μ))))]
abbrev PNL (A : Nat → Nat) (u1 : Nat) (u2 : Nat) (n0 : Nat) : List Nat := [A 0, A 1, n0]

abbrev PHS : Type := (Nat → Int32) × (Nat → Int32) × (Nat → Int32)
abbrev ph_takes (μ : PHS) : Nat → Int32 := μ.1
abbrev ph_takes' (μ : PHS) (v : Nat → Int32) : PHS := (v, μ.2)
abbrev ph_hr (μ : PHS) : Nat → Int32 := μ.2.1
abbrev ph_hr' (μ : PHS) (v : Nat → Int32) : PHS := (μ.1, v, μ.2.2)
abbrev ph_nx (μ : PHS) : Nat → Int32 := μ.2.2
abbrev ph_nx' (μ : PHS) (v : Nat → Int32) : PHS := (μ.1, μ.2.1, v)
abbrev PHW (A : Nat → Nat) (u1 : Nat) (u2 : Nat) (h0 : Nat) (n0 : Nat) (t : Nat → ClassId) (μ : PHS) : va_W := [(A 0, .inr (3, [.ref (A 2), .ref (A 1), .ref u1, .ref u2])), (A 1, .inl (t 0, (4, .inl (ph_takes μ)))), (h0, .inl (t 0, (512, .inl (ph_hr μ)))), (n0, .inl (t 0, (512, .inl (ph_nx μ))))]
abbrev PHL (A : Nat → Nat) (u1 : Nat) (u2 : Nat) (h0 : Nat) (n0 : Nat) : List Nat := [A 0, A 1, h0, n0]

abbrev PRS : Type := (Nat → Int32) × (Nat → Int32) × (Nat → Int32)
abbrev pr_takes (μ : PRS) : Nat → Int32 := μ.1
abbrev pr_takes' (μ : PRS) (v : Nat → Int32) : PRS := (v, μ.2)
abbrev pr_reached (μ : PRS) : Nat → Int32 := μ.2.1
abbrev pr_reached' (μ : PRS) (v : Nat → Int32) : PRS := (μ.1, v, μ.2.2)
abbrev pr_rnext (μ : PRS) : Nat → Int32 := μ.2.2
abbrev pr_rnext' (μ : PRS) (v : Nat → Int32) : PRS := (μ.1, μ.2.1, v)
abbrev PRW (A : Nat → Nat) (u1 : Nat) (u2 : Nat) (t : Nat → ClassId) (μ : PRS) : va_W := [(A 0, .inr (3, [.ref (A 2), .ref (A 1), .ref u1, .ref u2])), (A 1, .inl (t 0, (4, .inl (pr_takes μ)))), (u1, .inl (t 0, (512, .inl (pr_reached μ)))), (u2, .inl (t 0, (512, .inl (pr_rnext μ))))]
abbrev PRL (A : Nat → Nat) (u1 : Nat) (u2 : Nat) : List Nat := [A 0, A 1, u1, u2]

abbrev VS : Type := (Nat → Nat → Int32) × (Nat → Int32) × (Nat → Int32) × (Nat → Int32)
abbrev v_rest (μ : VS) : Nat → Nat → Int32 := μ.1
abbrev v_rest' (μ : VS) (v : Nat → Nat → Int32) : VS := (v, μ.2)
abbrev v_takes (μ : VS) : Nat → Int32 := μ.2.1
abbrev v_takes' (μ : VS) (v : Nat → Int32) : VS := (μ.1, v, μ.2.2)
abbrev v_reached (μ : VS) : Nat → Int32 := μ.2.2.1
abbrev v_reached' (μ : VS) (v : Nat → Int32) : VS := (μ.1, μ.2.1, v, μ.2.2.2)
abbrev v_rnext (μ : VS) : Nat → Int32 := μ.2.2.2
abbrev v_rnext' (μ : VS) (v : Nat → Int32) : VS := (μ.1, μ.2.1, μ.2.2.1, v)
abbrev VW (A : Nat → Nat) (u1 : Nat) (u2 : Nat) (B : Nat → Nat) (t : Nat → ClassId) (μ : VS) : va_W := [(A 0, .inr (3, [.ref (A 2), .ref (A 1), .ref u1, .ref u2])), (A 1, .inl (t 0, (4, .inl (v_takes μ)))), (A 2, .inl (t 5, (65, .inr (.inr (.inr (.inr (fun i => if i < 65 then some (B i) else none))))))), (u1, .inl (t 0, (512, .inl (v_reached μ)))), (u2, .inl (t 0, (512, .inl (v_rnext μ))))] ++ (List.range 65).map (fun i => (B i, .inl (t 0, (512, .inl ((v_rest μ) i)))))
abbrev VL (A : Nat → Nat) (u1 : Nat) (u2 : Nat) (B : Nat → Nat) : List Nat := [A 0, A 1, A 2, u1, u2] ++ (List.range 65).map (fun i => B i)

abbrev VGS : Type := (Nat → Nat → Int32) × (Nat → Int32) × (Nat → Int32) × (Nat → Int32) × (Int32) × (Int32) × (Int32) × (Int64) × (Int64) × (Int32) × (Int32) × (Int32) × (Nat → Int32)
abbrev vg_rest (μ : VGS) : Nat → Nat → Int32 := μ.1
abbrev vg_rest' (μ : VGS) (v : Nat → Nat → Int32) : VGS := (v, μ.2)
abbrev vg_takes (μ : VGS) : Nat → Int32 := μ.2.1
abbrev vg_takes' (μ : VGS) (v : Nat → Int32) : VGS := (μ.1, v, μ.2.2)
abbrev vg_reached (μ : VGS) : Nat → Int32 := μ.2.2.1
abbrev vg_reached' (μ : VGS) (v : Nat → Int32) : VGS := (μ.1, μ.2.1, v, μ.2.2.2)
abbrev vg_rnext (μ : VGS) : Nat → Int32 := μ.2.2.2.1
abbrev vg_rnext' (μ : VGS) (v : Nat → Int32) : VGS := (μ.1, μ.2.1, μ.2.2.1, v, μ.2.2.2.2)
abbrev vg_wide (μ : VGS) : Int32 := μ.2.2.2.2.1
abbrev vg_wide' (μ : VGS) (v : Int32) : VGS := (μ.1, μ.2.1, μ.2.2.1, μ.2.2.2.1, v, μ.2.2.2.2.2)
abbrev vg_high (μ : VGS) : Int32 := μ.2.2.2.2.2.1
abbrev vg_high' (μ : VGS) (v : Int32) : VGS := (μ.1, μ.2.1, μ.2.2.1, μ.2.2.2.1, μ.2.2.2.2.1, v, μ.2.2.2.2.2.2)
abbrev vg_pond (μ : VGS) : Int32 := μ.2.2.2.2.2.2.1
abbrev vg_pond' (μ : VGS) (v : Int32) : VGS := (μ.1, μ.2.1, μ.2.2.1, μ.2.2.2.1, μ.2.2.2.2.1, μ.2.2.2.2.2.1, v, μ.2.2.2.2.2.2.2)
abbrev vg_walls (μ : VGS) : Int64 := μ.2.2.2.2.2.2.2.1
abbrev vg_walls' (μ : VGS) (v : Int64) : VGS := (μ.1, μ.2.1, μ.2.2.1, μ.2.2.2.1, μ.2.2.2.2.1, μ.2.2.2.2.2.1, μ.2.2.2.2.2.2.1, v, μ.2.2.2.2.2.2.2.2)
abbrev vg_paved (μ : VGS) : Int64 := μ.2.2.2.2.2.2.2.2.1
abbrev vg_paved' (μ : VGS) (v : Int64) : VGS := (μ.1, μ.2.1, μ.2.2.1, μ.2.2.2.1, μ.2.2.2.2.1, μ.2.2.2.2.2.1, μ.2.2.2.2.2.2.1, μ.2.2.2.2.2.2.2.1, v, μ.2.2.2.2.2.2.2.2.2)
abbrev vg_tc (μ : VGS) : Int32 := μ.2.2.2.2.2.2.2.2.2.1
abbrev vg_tc' (μ : VGS) (v : Int32) : VGS := (μ.1, μ.2.1, μ.2.2.1, μ.2.2.2.1, μ.2.2.2.2.1, μ.2.2.2.2.2.1, μ.2.2.2.2.2.2.1, μ.2.2.2.2.2.2.2.1, μ.2.2.2.2.2.2.2.2.1, v, μ.2.2.2.2.2.2.2.2.2.2)
abbrev vg_flips (μ : VGS) : Int32 := μ.2.2.2.2.2.2.2.2.2.2.1
abbrev vg_flips' (μ : VGS) (v : Int32) : VGS := (μ.1, μ.2.1, μ.2.2.1, μ.2.2.2.1, μ.2.2.2.2.1, μ.2.2.2.2.2.1, μ.2.2.2.2.2.2.1, μ.2.2.2.2.2.2.2.1, μ.2.2.2.2.2.2.2.2.1, μ.2.2.2.2.2.2.2.2.2.1, v, μ.2.2.2.2.2.2.2.2.2.2.2)
abbrev vg_refused (μ : VGS) : Int32 := μ.2.2.2.2.2.2.2.2.2.2.2.1
abbrev vg_refused' (μ : VGS) (v : Int32) : VGS := (μ.1, μ.2.1, μ.2.2.1, μ.2.2.2.1, μ.2.2.2.2.1, μ.2.2.2.2.2.1, μ.2.2.2.2.2.2.1, μ.2.2.2.2.2.2.2.1, μ.2.2.2.2.2.2.2.2.1, μ.2.2.2.2.2.2.2.2.2.1, μ.2.2.2.2.2.2.2.2.2.2.1, v, μ.2.2.2.2.2.2.2.2.2.2.2.2)
abbrev vg_names (μ : VGS) : Nat → Int32 := μ.2.2.2.2.2.2.2.2.2.2.2.2
abbrev vg_names' (μ : VGS) (v : Nat → Int32) : VGS := (μ.1, μ.2.1, μ.2.2.1, μ.2.2.2.1, μ.2.2.2.2.1, μ.2.2.2.2.2.1, μ.2.2.2.2.2.2.1, μ.2.2.2.2.2.2.2.1, μ.2.2.2.2.2.2.2.2.1, μ.2.2.2.2.2.2.2.2.2.1, μ.2.2.2.2.2.2.2.2.2.2.1, μ.2.2.2.2.2.2.2.2.2.2.2.1, v)
abbrev VGW (A : Nat → Nat) (u1 : Nat) (u2 : Nat) (B : Nat → Nat) (G : Nat → Nat) (t : Nat → ClassId) (μ : VGS) : va_W := [(A 0, .inr (3, [.ref (A 2), .ref (A 1), .ref u1, .ref u2])), (A 1, .inl (t 0, (4, .inl (vg_takes μ)))), (A 2, .inl (t 5, (65, .inr (.inr (.inr (.inr (fun i => if i < 65 then some (B i) else none))))))), (u1, .inl (t 0, (512, .inl (vg_reached μ)))), (u2, .inl (t 0, (512, .inl (vg_rnext μ)))), (G 0, .inr (2, [.int (vg_wide μ), .int (vg_high μ), .int (vg_pond μ), .long (vg_walls μ), .long (vg_paved μ), .int (vg_tc μ), .int (vg_flips μ), .int (vg_refused μ), .ref (G 1)])), (G 1, .inl (t 0, (21, .inl (vg_names μ))))] ++ (List.range 65).map (fun i => (B i, .inl (t 0, (512, .inl ((vg_rest μ) i)))))
abbrev VGL (A : Nat → Nat) (u1 : Nat) (u2 : Nat) (B : Nat → Nat) (G : Nat → Nat) : List Nat := [A 0, A 1, A 2, u1, u2, G 0, G 1] ++ (List.range 65).map (fun i => B i)

abbrev RDS : Type := (Int32) × (Int32) × (Int32) × (Int64) × (Int32)
abbrev rd_wide (μ : RDS) : Int32 := μ.1
abbrev rd_wide' (μ : RDS) (v : Int32) : RDS := (v, μ.2)
abbrev rd_row (μ : RDS) : Int32 := μ.2.1
abbrev rd_row' (μ : RDS) (v : Int32) : RDS := (μ.1, v, μ.2.2)
abbrev rd_pond (μ : RDS) : Int32 := μ.2.2.1
abbrev rd_pond' (μ : RDS) (v : Int32) : RDS := (μ.1, μ.2.1, v, μ.2.2.2)
abbrev rd_walls (μ : RDS) : Int64 := μ.2.2.2.1
abbrev rd_walls' (μ : RDS) (v : Int64) : RDS := (μ.1, μ.2.1, μ.2.2.1, v, μ.2.2.2.2)
abbrev rd_column (μ : RDS) : Int32 := μ.2.2.2.2
abbrev rd_column' (μ : RDS) (v : Int32) : RDS := (μ.1, μ.2.1, μ.2.2.1, μ.2.2.2.1, v)
abbrev RDW (r0 : Nat) (t : Nat → ClassId) (μ : RDS) : va_W := [(r0, .inr (4, [.int (rd_wide μ), .int (rd_row μ), .int (rd_pond μ), .long (rd_walls μ), .int (rd_column μ)]))]
abbrev RDL (r0 : Nat) : List Nat := [r0]

abbrev BS : Type := (Int32) × (Nat → Int32)
abbrev b_length (μ : BS) : Int32 := μ.1
abbrev b_length' (μ : BS) (v : Int32) : BS := (v, μ.2)
abbrev b_codes (μ : BS) : Nat → Int32 := μ.2
abbrev b_codes' (μ : BS) (v : Nat → Int32) : BS := (μ.1, v)
abbrev BW (E : Nat → Nat) (t : Nat → ClassId) (μ : BS) : va_W := [(E 0, .inr (1, [.int (b_length μ), .ref (E 1)])), (E 1, .inl (t 0, (71, .inl (b_codes μ))))]
abbrev BL (E : Nat → Nat) : List Nat := [E 0, E 1]

abbrev BRS : Type := (Int32) × (Nat → Int32) × (Int32) × (Int32) × (Int32) × (Int64) × (Int32)
abbrev br_length (μ : BRS) : Int32 := μ.1
abbrev br_length' (μ : BRS) (v : Int32) : BRS := (v, μ.2)
abbrev br_codes (μ : BRS) : Nat → Int32 := μ.2.1
abbrev br_codes' (μ : BRS) (v : Nat → Int32) : BRS := (μ.1, v, μ.2.2)
abbrev br_wide (μ : BRS) : Int32 := μ.2.2.1
abbrev br_wide' (μ : BRS) (v : Int32) : BRS := (μ.1, μ.2.1, v, μ.2.2.2)
abbrev br_row (μ : BRS) : Int32 := μ.2.2.2.1
abbrev br_row' (μ : BRS) (v : Int32) : BRS := (μ.1, μ.2.1, μ.2.2.1, v, μ.2.2.2.2)
abbrev br_pond (μ : BRS) : Int32 := μ.2.2.2.2.1
abbrev br_pond' (μ : BRS) (v : Int32) : BRS := (μ.1, μ.2.1, μ.2.2.1, μ.2.2.2.1, v, μ.2.2.2.2.2)
abbrev br_walls (μ : BRS) : Int64 := μ.2.2.2.2.2.1
abbrev br_walls' (μ : BRS) (v : Int64) : BRS := (μ.1, μ.2.1, μ.2.2.1, μ.2.2.2.1, μ.2.2.2.2.1, v, μ.2.2.2.2.2.2)
abbrev br_column (μ : BRS) : Int32 := μ.2.2.2.2.2.2
abbrev br_column' (μ : BRS) (v : Int32) : BRS := (μ.1, μ.2.1, μ.2.2.1, μ.2.2.2.1, μ.2.2.2.2.1, μ.2.2.2.2.2.1, v)
abbrev BRW (E : Nat → Nat) (r0 : Nat) (t : Nat → ClassId) (μ : BRS) : va_W := [(E 0, .inr (1, [.int (br_length μ), .ref (E 1)])), (E 1, .inl (t 0, (71, .inl (br_codes μ)))), (r0, .inr (4, [.int (br_wide μ), .int (br_row μ), .int (br_pond μ), .long (br_walls μ), .int (br_column μ)]))]
abbrev BRL (E : Nat → Nat) (r0 : Nat) : List Nat := [E 0, E 1, r0]

abbrev FS : Type := Nat → Int32
abbrev FW (a0 : Nat) (t : Nat → ClassId) (μ : FS) : va_W := [(a0, .inl (t 0, (512, .inl μ)))]
abbrev FL (a0 : Nat) : List Nat := [a0]
theorem row_V {A : Nat → Nat} {u1 : Nat} {u2 : Nat} {B : Nat → Nat} {t : Nat → ClassId} {μ : VS} {k : Nat} (hk : k < 65) : (VW A u1 u2 B t μ)[5 + k]? = some (B k, .inl (t 0, (512, .inl ((v_rest μ) k)))) := grid_get (f := fun i => (B i, .inl (t 0, (512, .inl ((v_rest μ) i))))) rfl hk
theorem rowset_V {A : Nat → Nat} {u1 : Nat} {u2 : Nat} {B : Nat → Nat} {t : Nat → ClassId} {μ : VS} {k : Nat} {x : Nat → Int32} (hk : k < 65) : (VW A u1 u2 B t μ).set (5 + k) (B k, .inl (t 0, (512, .inl x))) = (VW A u1 u2 B t (v_rest' μ (va_up (v_rest μ) k x))) := by
  have h := grid_set (f := fun i => (B i, .inl (t 0, (512, .inl ((v_rest μ) i))))) (g := fun i => (B i, .inl (t 0, (512, .inl (va_up (v_rest μ) k x i))))) (fx := [(A 0, .inr (3, [.ref (A 2), .ref (A 1), .ref u1, .ref u2])), (A 1, .inl (t 0, (4, .inl (v_takes μ)))), (A 2, .inl (t 5, (65, .inr (.inr (.inr (.inr (fun i => if i < 65 then some (B i) else none))))))), (u1, .inl (t 0, (512, .inl (v_reached μ)))), (u2, .inl (t 0, (512, .inl (v_rnext μ))))]) (m := 5) rfl hk (fun j hj => by simp only [va_up, if_neg hj])
  simp only [va_up, if_true] at h
  exact h

theorem row_VG {A : Nat → Nat} {u1 : Nat} {u2 : Nat} {B : Nat → Nat} {G : Nat → Nat} {t : Nat → ClassId} {μ : VGS} {k : Nat} (hk : k < 65) : (VGW A u1 u2 B G t μ)[7 + k]? = some (B k, .inl (t 0, (512, .inl ((vg_rest μ) k)))) := grid_get (f := fun i => (B i, .inl (t 0, (512, .inl ((vg_rest μ) i))))) rfl hk
theorem rowset_VG {A : Nat → Nat} {u1 : Nat} {u2 : Nat} {B : Nat → Nat} {G : Nat → Nat} {t : Nat → ClassId} {μ : VGS} {k : Nat} {x : Nat → Int32} (hk : k < 65) : (VGW A u1 u2 B G t μ).set (7 + k) (B k, .inl (t 0, (512, .inl x))) = (VGW A u1 u2 B G t (vg_rest' μ (va_up (vg_rest μ) k x))) := by
  have h := grid_set (f := fun i => (B i, .inl (t 0, (512, .inl ((vg_rest μ) i))))) (g := fun i => (B i, .inl (t 0, (512, .inl (va_up (vg_rest μ) k x i))))) (fx := [(A 0, .inr (3, [.ref (A 2), .ref (A 1), .ref u1, .ref u2])), (A 1, .inl (t 0, (4, .inl (vg_takes μ)))), (A 2, .inl (t 5, (65, .inr (.inr (.inr (.inr (fun i => if i < 65 then some (B i) else none))))))), (u1, .inl (t 0, (512, .inl (vg_reached μ)))), (u2, .inl (t 0, (512, .inl (vg_rnext μ)))), (G 0, .inr (2, [.int (vg_wide μ), .int (vg_high μ), .int (vg_pond μ), .long (vg_walls μ), .long (vg_paved μ), .int (vg_tc μ), .int (vg_flips μ), .int (vg_refused μ), .ref (G 1)])), (G 1, .inl (t 0, (21, .inl (vg_names μ))))]) (m := 7) rfl hk (fun j hj => by simp only [va_up, if_neg hj])
  simp only [va_up, if_true] at h
  exact h
theorem sub_V_Fr {A B : Nat → Nat} {u1 u2 : Nat} {t : Nat → ClassId} {μ : VS} {D : va_G} {H : Heap} {k : Nat} (hk : k < 65) (h : va_P D vwCl (VW A u1 u2 B t μ) H) : va_P D vwCl (FW (B k) t (v_rest μ k)) H := h.mem (fun i q hq => by
  rcases i with _ | i
  · exact ⟨5 + k, (row_V hk).trans hq⟩
  · cases hq)
theorem subD_V_Fr {A B : Nat → Nat} {u1 u2 : Nat} {t : Nat → ClassId} {μ : VS} {A0 : Nat → Prop} {k : Nat} (hk : k < 65) (h : va_D A0 (VW A u1 u2 B t μ)) : va_D A0 (FW (B k) t (v_rest μ k)) := h.sub [5 + k] rfl (by rw [List.map_cons, row_V hk]; rfl)
theorem in_V_row {A B : Nat → Nat} {u1 u2 : Nat} {k : Nat} (hk : k < 65) : B k ∈ VL A u1 u2 B := List.mem_append_right _ (List.mem_map.mpr ⟨k, List.mem_range.mpr hk, rfl⟩)
theorem in_V_Fr {A B : Nat → Nat} {u1 u2 : Nat} {k : Nat} (hk : k < 65) : ∀ a ∈ FL (B k), a ∈ VL A u1 u2 B := by
  intro a h
  rw [List.mem_singleton.mp h]
  exact in_V_row hk
theorem back_V_Fr {A B : Nat → Nat} {u1 u2 : Nat} {t : Nat → ClassId} {μ : VS} {ν : FS} {A0 : Nat → Prop} {D : va_G} {H H1 : Heap} {k : Nat} (hk0 : k < 65) (hP : va_P D vwCl (VW A u1 u2 B t μ) H) (hD : va_D A0 (VW A u1 u2 B t μ)) (hk : ∀ q : Nat, q < H.size → ¬ OA (FL (B k)) H.size q → H1[q]? = H[q]?) (hP1 : va_P D vwCl (FW (B k) t ν) H1) : va_P D vwCl (VW A u1 u2 B t (v_rest' μ (va_up (v_rest μ) k ν))) H1 ∧ va_D A0 (VW A u1 u2 B t (v_rest' μ (va_up (v_rest μ) k ν))) := by
  refine va_backP (fun i => i = 5 + k) hP hD ?_ ?_ ?_ hk hP1
  · intro a h
    rw [List.mem_singleton.mp h]
    exact ⟨5 + k, _, rfl, row_V hk0, rfl⟩
  · intro i q hq
    by_cases hi : i < 5
    · refine Or.inr ⟨by omega, ?_⟩
      rcases i with _ | _ | _ | _ | _ | i
      · exact hq
      · exact hq
      · exact hq
      · exact hq
      · exact hq
      · omega
    · obtain ⟨j, h1, h2, rfl⟩ := grid_in (by simp; omega) hq
      simp only [List.length_cons, List.length_nil] at h2
      by_cases hj : j = k
      · subst hj
        refine Or.inl ⟨by omega, ?_⟩
        simp [va_up, v_rest, v_rest']
      · refine Or.inr ⟨by omega, ?_⟩
        rw [show i = 5 + j by omega, row_V h1]
        simp only [va_up, v_rest, v_rest', if_neg hj]
  · simp only [List.map_append, List.map_map, List.map_cons, List.map_nil]
    rfl
theorem sub_V_PH {A B : Nat → Nat} {u1 u2 : Nat} {t : Nat → ClassId} {μ : VS} {D : va_G} {H : Heap} {j k : Nat} (hj : j < 65) (hk : k < 65) (h : va_P D vwCl (VW A u1 u2 B t μ) H) : va_P D vwCl (PHW A u1 u2 (B j) (B k) t (v_takes μ, v_rest μ j, v_rest μ k)) H := h.mem (fun i q hq => by
  rcases i with _ | _ | _ | _ | i
  · exact ⟨0, hq⟩
  · exact ⟨1, hq⟩
  · exact ⟨5 + j, (row_V hj).trans hq⟩
  · exact ⟨5 + k, (row_V hk).trans hq⟩
  · cases hq)
theorem subD_V_PH {A B : Nat → Nat} {u1 u2 : Nat} {t : Nat → ClassId} {μ : VS} {A0 : Nat → Prop} {j k : Nat} (hj : j < 65) (hk : k < 65) (hn : ¬ j = k) (h : va_D A0 (VW A u1 u2 B t μ)) : va_D A0 (PHW A u1 u2 (B j) (B k) t (v_takes μ, v_rest μ j, v_rest μ k)) := h.sub [0, 1, 5 + j, 5 + k] (by
  have h1 : ¬ (0 = 5 + j) := by omega
  have h2 : ¬ (0 = 5 + k) := by omega
  have h3 : ¬ (1 = 5 + j) := by omega
  have h4 : ¬ (1 = 5 + k) := by omega
  simp [va_nd, hn, h1, h2, h3, h4]) (by
  simp only [List.map_cons, List.map_nil, row_V hj, row_V hk]
  rfl)
theorem in_V_PH {A B : Nat → Nat} {u1 u2 : Nat} {j k : Nat} (hj : j < 65) (hk : k < 65) : ∀ a ∈ PHL A u1 u2 (B j) (B k), a ∈ VL A u1 u2 B := by
  intro a h
  simp only [List.mem_cons, List.not_mem_nil, or_false] at h
  rcases h with rfl | rfl | rfl | rfl
  · simp
  · simp
  · exact in_V_row hj
  · exact in_V_row hk
theorem back_V_PH {A B : Nat → Nat} {u1 u2 : Nat} {t : Nat → ClassId} {μ : VS} {x : Nat → Int32} {A0 : Nat → Prop} {D : va_G} {H H1 : Heap} {j k : Nat} (hj : j < 65) (hk9 : k < 65) (hn : ¬ j = k) (hP : va_P D vwCl (VW A u1 u2 B t μ) H) (hD : va_D A0 (VW A u1 u2 B t μ)) (hk : ∀ q : Nat, q < H.size → ¬ OA (PHL A u1 u2 (B j) (B k)) H.size q → H1[q]? = H[q]?) (hP1 : va_P D vwCl (PHW A u1 u2 (B j) (B k) t (v_takes μ, x, v_rest μ k)) H1) : va_P D vwCl (VW A u1 u2 B t (v_rest' μ (va_up (v_rest μ) j x))) H1 ∧ va_D A0 (VW A u1 u2 B t (v_rest' μ (va_up (v_rest μ) j x))) := by
  refine va_backP (fun i => i = 0 ∨ i = 1 ∨ i = 5 + j ∨ i = 5 + k) hP hD ?_ ?_ ?_ hk hP1
  · intro a h
    simp only [List.mem_cons, List.not_mem_nil, or_false] at h
    rcases h with rfl | rfl | rfl | rfl
    · exact ⟨0, _, by simp, rfl, rfl⟩
    · exact ⟨1, _, by simp, rfl, rfl⟩
    · exact ⟨5 + j, _, by simp, row_V hj, rfl⟩
    · exact ⟨5 + k, _, by simp, row_V hk9, rfl⟩
  · intro i q hq
    by_cases hi : i < 5
    · rcases i with _ | _ | _ | _ | _ | i
      · exact Or.inl ⟨by simp, List.mem_of_getElem? (i := 0) hq⟩
      · exact Or.inl ⟨by simp, List.mem_of_getElem? (i := 1) hq⟩
      · exact Or.inr ⟨by omega, hq⟩
      · exact Or.inr ⟨by omega, hq⟩
      · exact Or.inr ⟨by omega, hq⟩
      · omega
    · obtain ⟨a, h1, h2, rfl⟩ := grid_in (by simp; omega) hq
      simp only [List.length_cons, List.length_nil] at h2
      by_cases hj : a = j
      · subst hj
        refine Or.inl ⟨by omega, ?_⟩
        simp [va_up, v_rest, v_rest', ph_hr, ph_nx]
      · by_cases hk : a = k
        · subst hk
          refine Or.inl ⟨by omega, ?_⟩
          simp [va_up, v_rest, v_rest', ph_hr, ph_nx, hj]
        · refine Or.inr ⟨by omega, ?_⟩
          rw [show i = 5 + a by omega, row_V h1]
          simp only [va_up, v_rest, v_rest', if_neg hj]
  · simp only [List.map_append, List.map_map, List.map_cons, List.map_nil]
    rfl
theorem swap_V {A B : Nat → Nat} {u1 u2 : Nat} {t : Nat → ClassId} {μ : VS} {D : va_G} {H : Heap} {x : Nat × va_E} (h : va_P D vwCl (((VW A u1 u2 B t μ).set 0 x).set 0 (A 0, .inr (3, [.ref (A 2), .ref (A 1), .ref u2, .ref u1]))) H) : va_P D vwCl (VW A u2 u1 B t (v_rest μ, v_takes μ, v_rnext μ, v_reached μ)) H := h.mem (fun i q hq => by
  rcases i with _ | _ | _ | _ | _ | i
  · exact ⟨0, hq⟩
  · exact ⟨1, hq⟩
  · exact ⟨2, hq⟩
  · exact ⟨4, hq⟩
  · exact ⟨3, hq⟩
  · exact ⟨i + 5, hq⟩)
theorem swap_VD {A B : Nat → Nat} {u1 u2 : Nat} {t : Nat → ClassId} {μ : VS} {A0 : Nat → Prop} {x : Nat × va_E} (h : va_D A0 (((VW A u1 u2 B t μ).set 0 x).set 0 (A 0, .inr (3, [.ref (A 2), .ref (A 1), .ref u2, .ref u1])))) : va_D A0 (VW A u2 u1 B t (v_rest μ, v_takes μ, v_rnext μ, v_reached μ)) := by
  have key : ∀ (i : Nat) (q : Nat × va_E), (VW A u2 u1 B t (v_rest μ, v_takes μ, v_rnext μ, v_reached μ))[i]? = some q → (((VW A u1 u2 B t μ).set 0 x).set 0 (A 0, .inr (3, [.ref (A 2), .ref (A 1), .ref u2, .ref u1])))[if i = 3 then 4 else if i = 4 then 3 else i]? = some q := by
    intro i q hq
    rcases i with _ | _ | _ | _ | _ | i
    · exact hq
    · exact hq
    · exact hq
    · exact hq
    · exact hq
    · rw [if_neg (by omega), if_neg (by omega)]
      exact hq
  refine ⟨fun i j p q hi hj hpq => ?_, fun k q hq => h.2 _ q (key k q hq)⟩
  have e := h.1 _ _ p q (key i p hi) (key j q hj) hpq
  by_cases h1 : i = 3 <;> by_cases h2 : i = 4 <;> by_cases h3 : j = 3 <;> by_cases h4 : j = 4 <;> simp [h1, h2, h3, h4] at e <;> omega
/-- as QM, the addresses of the paver's two rows left open -/
def QMu (v : Option Value) (D : va_G) (ws : Nat → Nat → va_W) (L : List Nat) (sz : Nat) : Array Value → State → Outcome → State → Prop := fun _ st o t => o = .returned v ∧ ∃ u1 u2, va_P D vwCl (ws u1 u2) t.heap ∧ va_D (OA L sz) (ws u1 u2) ∧ va_F (OA L sz) st t
theorem sub_BR_B {E : Nat → Nat} {r0 : Nat} {t : Nat → ClassId} {μ : BRS} {D : va_G} {H : Heap} (h : va_P D vwCl (BRW E r0 t μ) H) : va_P D vwCl (BW E t ((br_length μ), (br_codes μ))) H := h.sub [0, 1] rfl
theorem subD_BR_B {E : Nat → Nat} {r0 : Nat} {t : Nat → ClassId} {μ : BRS} {A0 : Nat → Prop} (h : va_D A0 (BRW E r0 t μ)) : va_D A0 (BW E t ((br_length μ), (br_codes μ))) := h.sub [0, 1] (by decide) rfl
theorem in_BR_B {E : Nat → Nat} {r0 : Nat} : ∀ a ∈ (BL E), a ∈ (BRL E r0) := by
  intro a h
  simp only [List.mem_cons, List.not_mem_nil, or_false] at h
  rcases h with rfl | rfl <;> simp
theorem back_BR_B {E : Nat → Nat} {r0 : Nat} {t : Nat → ClassId} {μ : BRS} {ν : BS} {A0 : Nat → Prop} {D : va_G} {H H1 : Heap} (hP : va_P D vwCl (BRW E r0 t μ) H) (hD : va_D A0 (BRW E r0 t μ)) (hk : ∀ q : Nat, q < H.size → ¬ OA (BL E) H.size q → H1[q]? = H[q]?) (hP1 : va_P D vwCl (BW E t ν) H1) : va_P D vwCl (BRW E r0 t (br_codes' (br_length' μ (b_length ν)) (b_codes ν))) H1 ∧ va_D A0 (BRW E r0 t (br_codes' (br_length' μ (b_length ν)) (b_codes ν))) := by
  refine va_backP (fun i => i = 0 ∨ i = 1) hP hD ?_ ?_ rfl hk hP1
  · intro a h
    simp only [List.mem_cons, List.not_mem_nil, or_false] at h
    rcases h with rfl | rfl
    · exact ⟨0, _, by simp, rfl, rfl⟩
    · exact ⟨1, _, by simp, rfl, rfl⟩
  · intro i q hq
    rcases i with _ | _ | _ | i
    · exact Or.inl ⟨by simp, List.mem_of_getElem? (i := 0) hq⟩
    · exact Or.inl ⟨by simp, List.mem_of_getElem? (i := 1) hq⟩
    · exact Or.inr ⟨by omega, hq⟩
    · exact Or.inr ⟨by omega, hq⟩

theorem sub_BR_RD {E : Nat → Nat} {r0 : Nat} {t : Nat → ClassId} {μ : BRS} {D : va_G} {H : Heap} (h : va_P D vwCl (BRW E r0 t μ) H) : va_P D vwCl (RDW r0 t ((br_wide μ), (br_row μ), (br_pond μ), (br_walls μ), (br_column μ))) H := h.sub [2] rfl
theorem subD_BR_RD {E : Nat → Nat} {r0 : Nat} {t : Nat → ClassId} {μ : BRS} {A0 : Nat → Prop} (h : va_D A0 (BRW E r0 t μ)) : va_D A0 (RDW r0 t ((br_wide μ), (br_row μ), (br_pond μ), (br_walls μ), (br_column μ))) := h.sub [2] (by decide) rfl
theorem in_BR_RD {E : Nat → Nat} {r0 : Nat} : ∀ a ∈ (RDL r0), a ∈ (BRL E r0) := by
  intro a h
  simp only [List.mem_cons, List.not_mem_nil, or_false] at h
  rcases h with rfl <;> simp
theorem back_BR_RD {E : Nat → Nat} {r0 : Nat} {t : Nat → ClassId} {μ : BRS} {ν : RDS} {A0 : Nat → Prop} {D : va_G} {H H1 : Heap} (hP : va_P D vwCl (BRW E r0 t μ) H) (hD : va_D A0 (BRW E r0 t μ)) (hk : ∀ q : Nat, q < H.size → ¬ OA (RDL r0) H.size q → H1[q]? = H[q]?) (hP1 : va_P D vwCl (RDW r0 t ν) H1) : va_P D vwCl (BRW E r0 t (br_column' (br_walls' (br_pond' (br_row' (br_wide' μ (rd_wide ν)) (rd_row ν)) (rd_pond ν)) (rd_walls ν)) (rd_column ν))) H1 ∧ va_D A0 (BRW E r0 t (br_column' (br_walls' (br_pond' (br_row' (br_wide' μ (rd_wide ν)) (rd_row ν)) (rd_pond ν)) (rd_walls ν)) (rd_column ν))) := by
  refine va_backP (fun i => i = 2) hP hD ?_ ?_ rfl hk hP1
  · intro a h
    simp only [List.mem_cons, List.not_mem_nil, or_false] at h
    rcases h with rfl
    · exact ⟨2, _, by simp, rfl, rfl⟩
  · intro i q hq
    rcases i with _ | _ | _ | i
    · exact Or.inr ⟨by omega, hq⟩
    · exact Or.inr ⟨by omega, hq⟩
    · exact Or.inl ⟨by simp, List.mem_of_getElem? (i := 0) hq⟩
    · exact Or.inr ⟨by omega, hq⟩

theorem sub_PN_P {A : Nat → Nat} {u1 : Nat} {u2 : Nat} {n0 : Nat} {t : Nat → ClassId} {μ : PNS} {D : va_G} {H : Heap} (h : va_P D vwCl (PNW A u1 u2 n0 t μ) H) : va_P D vwCl (PW A u1 u2 t (pn_takes μ)) H := h.sub [0, 1] rfl
theorem subD_PN_P {A : Nat → Nat} {u1 : Nat} {u2 : Nat} {n0 : Nat} {t : Nat → ClassId} {μ : PNS} {A0 : Nat → Prop} (h : va_D A0 (PNW A u1 u2 n0 t μ)) : va_D A0 (PW A u1 u2 t (pn_takes μ)) := h.sub [0, 1] (by decide) rfl
theorem in_PN_P {A : Nat → Nat} {u1 : Nat} {u2 : Nat} {n0 : Nat} : ∀ a ∈ (PL A u1 u2), a ∈ (PNL A u1 u2 n0) := by
  intro a h
  simp only [List.mem_cons, List.not_mem_nil, or_false] at h
  rcases h with rfl | rfl <;> simp
theorem back_PN_P {A : Nat → Nat} {u1 : Nat} {u2 : Nat} {n0 : Nat} {t : Nat → ClassId} {μ : PNS} {ν : PS} {A0 : Nat → Prop} {D : va_G} {H H1 : Heap} (hP : va_P D vwCl (PNW A u1 u2 n0 t μ) H) (hD : va_D A0 (PNW A u1 u2 n0 t μ)) (hk : ∀ q : Nat, q < H.size → ¬ OA (PL A u1 u2) H.size q → H1[q]? = H[q]?) (hP1 : va_P D vwCl (PW A u1 u2 t ν) H1) : va_P D vwCl (PNW A u1 u2 n0 t (pn_takes' μ ν)) H1 ∧ va_D A0 (PNW A u1 u2 n0 t (pn_takes' μ ν)) := by
  refine va_backP (fun i => i = 0 ∨ i = 1) hP hD ?_ ?_ rfl hk hP1
  · intro a h
    simp only [List.mem_cons, List.not_mem_nil, or_false] at h
    rcases h with rfl | rfl
    · exact ⟨0, _, by simp, rfl, rfl⟩
    · exact ⟨1, _, by simp, rfl, rfl⟩
  · intro i q hq
    rcases i with _ | _ | _ | i
    · exact Or.inl ⟨by simp, List.mem_of_getElem? (i := 0) hq⟩
    · exact Or.inl ⟨by simp, List.mem_of_getElem? (i := 1) hq⟩
    · exact Or.inr ⟨by omega, hq⟩
    · exact Or.inr ⟨by omega, hq⟩

theorem sub_PH_PN {A : Nat → Nat} {u1 : Nat} {u2 : Nat} {h0 : Nat} {n0 : Nat} {t : Nat → ClassId} {μ : PHS} {D : va_G} {H : Heap} (h : va_P D vwCl (PHW A u1 u2 h0 n0 t μ) H) : va_P D vwCl (PNW A u1 u2 n0 t ((ph_takes μ), (ph_nx μ))) H := h.sub [0, 1, 3] rfl
theorem subD_PH_PN {A : Nat → Nat} {u1 : Nat} {u2 : Nat} {h0 : Nat} {n0 : Nat} {t : Nat → ClassId} {μ : PHS} {A0 : Nat → Prop} (h : va_D A0 (PHW A u1 u2 h0 n0 t μ)) : va_D A0 (PNW A u1 u2 n0 t ((ph_takes μ), (ph_nx μ))) := h.sub [0, 1, 3] (by decide) rfl
theorem in_PH_PN {A : Nat → Nat} {u1 : Nat} {u2 : Nat} {h0 : Nat} {n0 : Nat} : ∀ a ∈ (PNL A u1 u2 n0), a ∈ (PHL A u1 u2 h0 n0) := by
  intro a h
  simp only [List.mem_cons, List.not_mem_nil, or_false] at h
  rcases h with rfl | rfl | rfl <;> simp
theorem back_PH_PN {A : Nat → Nat} {u1 : Nat} {u2 : Nat} {h0 : Nat} {n0 : Nat} {t : Nat → ClassId} {μ : PHS} {ν : PNS} {A0 : Nat → Prop} {D : va_G} {H H1 : Heap} (hP : va_P D vwCl (PHW A u1 u2 h0 n0 t μ) H) (hD : va_D A0 (PHW A u1 u2 h0 n0 t μ)) (hk : ∀ q : Nat, q < H.size → ¬ OA (PNL A u1 u2 n0) H.size q → H1[q]? = H[q]?) (hP1 : va_P D vwCl (PNW A u1 u2 n0 t ν) H1) : va_P D vwCl (PHW A u1 u2 h0 n0 t (ph_nx' (ph_takes' μ (pn_takes ν)) (pn_nx ν))) H1 ∧ va_D A0 (PHW A u1 u2 h0 n0 t (ph_nx' (ph_takes' μ (pn_takes ν)) (pn_nx ν))) := by
  refine va_backP (fun i => i = 0 ∨ i = 1 ∨ i = 3) hP hD ?_ ?_ rfl hk hP1
  · intro a h
    simp only [List.mem_cons, List.not_mem_nil, or_false] at h
    rcases h with rfl | rfl | rfl
    · exact ⟨0, _, by simp, rfl, rfl⟩
    · exact ⟨1, _, by simp, rfl, rfl⟩
    · exact ⟨3, _, by simp, rfl, rfl⟩
  · intro i q hq
    rcases i with _ | _ | _ | _ | i
    · exact Or.inl ⟨by simp, List.mem_of_getElem? (i := 0) hq⟩
    · exact Or.inl ⟨by simp, List.mem_of_getElem? (i := 1) hq⟩
    · exact Or.inr ⟨by omega, hq⟩
    · exact Or.inl ⟨by simp, List.mem_of_getElem? (i := 2) hq⟩
    · exact Or.inr ⟨by omega, hq⟩

theorem sub_V_P {A : Nat → Nat} {u1 : Nat} {u2 : Nat} {B : Nat → Nat} {t : Nat → ClassId} {μ : VS} {D : va_G} {H : Heap} (h : va_P D vwCl (VW A u1 u2 B t μ) H) : va_P D vwCl (PW A u1 u2 t (v_takes μ)) H := h.sub [0, 1] rfl
theorem subD_V_P {A : Nat → Nat} {u1 : Nat} {u2 : Nat} {B : Nat → Nat} {t : Nat → ClassId} {μ : VS} {A0 : Nat → Prop} (h : va_D A0 (VW A u1 u2 B t μ)) : va_D A0 (PW A u1 u2 t (v_takes μ)) := h.sub [0, 1] (by decide) rfl
theorem in_V_P {A : Nat → Nat} {u1 : Nat} {u2 : Nat} {B : Nat → Nat} : ∀ a ∈ (PL A u1 u2), a ∈ (VL A u1 u2 B) := by
  intro a h
  simp only [List.mem_cons, List.not_mem_nil, or_false] at h
  rcases h with rfl | rfl <;> simp
theorem back_V_P {A : Nat → Nat} {u1 : Nat} {u2 : Nat} {B : Nat → Nat} {t : Nat → ClassId} {μ : VS} {ν : PS} {A0 : Nat → Prop} {D : va_G} {H H1 : Heap} (hP : va_P D vwCl (VW A u1 u2 B t μ) H) (hD : va_D A0 (VW A u1 u2 B t μ)) (hk : ∀ q : Nat, q < H.size → ¬ OA (PL A u1 u2) H.size q → H1[q]? = H[q]?) (hP1 : va_P D vwCl (PW A u1 u2 t ν) H1) : va_P D vwCl (VW A u1 u2 B t (v_takes' μ ν)) H1 ∧ va_D A0 (VW A u1 u2 B t (v_takes' μ ν)) := by
  refine va_backP (fun i => i = 0 ∨ i = 1) hP hD ?_ ?_ rfl hk hP1
  · intro a h
    simp only [List.mem_cons, List.not_mem_nil, or_false] at h
    rcases h with rfl | rfl
    · exact ⟨0, _, by simp, rfl, rfl⟩
    · exact ⟨1, _, by simp, rfl, rfl⟩
  · intro i q hq
    rcases i with _ | _ | _ | _ | _ | i
    · exact Or.inl ⟨by simp, List.mem_of_getElem? (i := 0) hq⟩
    · exact Or.inl ⟨by simp, List.mem_of_getElem? (i := 1) hq⟩
    · exact Or.inr ⟨by omega, hq⟩
    · exact Or.inr ⟨by omega, hq⟩
    · exact Or.inr ⟨by omega, hq⟩
    · exact Or.inr ⟨by omega, hq⟩

theorem sub_PR_P {A : Nat → Nat} {u1 : Nat} {u2 : Nat} {t : Nat → ClassId} {μ : PRS} {D : va_G} {H : Heap} (h : va_P D vwCl (PRW A u1 u2 t μ) H) : va_P D vwCl (PW A u1 u2 t (pr_takes μ)) H := h.sub [0, 1] rfl
theorem subD_PR_P {A : Nat → Nat} {u1 : Nat} {u2 : Nat} {t : Nat → ClassId} {μ : PRS} {A0 : Nat → Prop} (h : va_D A0 (PRW A u1 u2 t μ)) : va_D A0 (PW A u1 u2 t (pr_takes μ)) := h.sub [0, 1] (by decide) rfl
theorem in_PR_P {A : Nat → Nat} {u1 : Nat} {u2 : Nat} : ∀ a ∈ (PL A u1 u2), a ∈ (PRL A u1 u2) := by
  intro a h
  simp only [List.mem_cons, List.not_mem_nil, or_false] at h
  rcases h with rfl | rfl <;> simp
theorem back_PR_P {A : Nat → Nat} {u1 : Nat} {u2 : Nat} {t : Nat → ClassId} {μ : PRS} {ν : PS} {A0 : Nat → Prop} {D : va_G} {H H1 : Heap} (hP : va_P D vwCl (PRW A u1 u2 t μ) H) (hD : va_D A0 (PRW A u1 u2 t μ)) (hk : ∀ q : Nat, q < H.size → ¬ OA (PL A u1 u2) H.size q → H1[q]? = H[q]?) (hP1 : va_P D vwCl (PW A u1 u2 t ν) H1) : va_P D vwCl (PRW A u1 u2 t (pr_takes' μ ν)) H1 ∧ va_D A0 (PRW A u1 u2 t (pr_takes' μ ν)) := by
  refine va_backP (fun i => i = 0 ∨ i = 1) hP hD ?_ ?_ rfl hk hP1
  · intro a h
    simp only [List.mem_cons, List.not_mem_nil, or_false] at h
    rcases h with rfl | rfl
    · exact ⟨0, _, by simp, rfl, rfl⟩
    · exact ⟨1, _, by simp, rfl, rfl⟩
  · intro i q hq
    rcases i with _ | _ | _ | _ | i
    · exact Or.inl ⟨by simp, List.mem_of_getElem? (i := 0) hq⟩
    · exact Or.inl ⟨by simp, List.mem_of_getElem? (i := 1) hq⟩
    · exact Or.inr ⟨by omega, hq⟩
    · exact Or.inr ⟨by omega, hq⟩
    · exact Or.inr ⟨by omega, hq⟩

theorem sub_V_F_4 {A : Nat → Nat} {u1 : Nat} {u2 : Nat} {B : Nat → Nat} {t : Nat → ClassId} {μ : VS} {D : va_G} {H : Heap} (h : va_P D vwCl (VW A u1 u2 B t μ) H) : va_P D vwCl (FW u2 t (v_rnext μ)) H := h.sub [4] rfl
theorem subD_V_F_4 {A : Nat → Nat} {u1 : Nat} {u2 : Nat} {B : Nat → Nat} {t : Nat → ClassId} {μ : VS} {A0 : Nat → Prop} (h : va_D A0 (VW A u1 u2 B t μ)) : va_D A0 (FW u2 t (v_rnext μ)) := h.sub [4] (by decide) rfl
theorem in_V_F_4 {A : Nat → Nat} {u1 : Nat} {u2 : Nat} {B : Nat → Nat} : ∀ a ∈ (FL u2), a ∈ (VL A u1 u2 B) := by
  intro a h
  simp only [List.mem_cons, List.not_mem_nil, or_false] at h
  rcases h with rfl <;> simp
theorem back_V_F_4 {A : Nat → Nat} {u1 : Nat} {u2 : Nat} {B : Nat → Nat} {t : Nat → ClassId} {μ : VS} {ν : FS} {A0 : Nat → Prop} {D : va_G} {H H1 : Heap} (hP : va_P D vwCl (VW A u1 u2 B t μ) H) (hD : va_D A0 (VW A u1 u2 B t μ)) (hk : ∀ q : Nat, q < H.size → ¬ OA (FL u2) H.size q → H1[q]? = H[q]?) (hP1 : va_P D vwCl (FW u2 t ν) H1) : va_P D vwCl (VW A u1 u2 B t (v_rnext' μ ν)) H1 ∧ va_D A0 (VW A u1 u2 B t (v_rnext' μ ν)) := by
  refine va_backP (fun i => i = 4) hP hD ?_ ?_ rfl hk hP1
  · intro a h
    simp only [List.mem_cons, List.not_mem_nil, or_false] at h
    rcases h with rfl
    · exact ⟨4, _, by simp, rfl, rfl⟩
  · intro i q hq
    rcases i with _ | _ | _ | _ | _ | i
    · exact Or.inr ⟨by omega, hq⟩
    · exact Or.inr ⟨by omega, hq⟩
    · exact Or.inr ⟨by omega, hq⟩
    · exact Or.inr ⟨by omega, hq⟩
    · exact Or.inl ⟨by simp, List.mem_of_getElem? (i := 0) hq⟩
    · exact Or.inr ⟨by omega, hq⟩

theorem sub_V_PR {A : Nat → Nat} {u1 : Nat} {u2 : Nat} {B : Nat → Nat} {t : Nat → ClassId} {μ : VS} {D : va_G} {H : Heap} (h : va_P D vwCl (VW A u1 u2 B t μ) H) : va_P D vwCl (PRW A u1 u2 t ((v_takes μ), (v_reached μ), (v_rnext μ))) H := h.sub [0, 1, 3, 4] rfl
theorem subD_V_PR {A : Nat → Nat} {u1 : Nat} {u2 : Nat} {B : Nat → Nat} {t : Nat → ClassId} {μ : VS} {A0 : Nat → Prop} (h : va_D A0 (VW A u1 u2 B t μ)) : va_D A0 (PRW A u1 u2 t ((v_takes μ), (v_reached μ), (v_rnext μ))) := h.sub [0, 1, 3, 4] (by decide) rfl
theorem in_V_PR {A : Nat → Nat} {u1 : Nat} {u2 : Nat} {B : Nat → Nat} : ∀ a ∈ (PRL A u1 u2), a ∈ (VL A u1 u2 B) := by
  intro a h
  simp only [List.mem_cons, List.not_mem_nil, or_false] at h
  rcases h with rfl | rfl | rfl | rfl <;> simp
theorem back_V_PR {A : Nat → Nat} {u1 : Nat} {u2 : Nat} {B : Nat → Nat} {t : Nat → ClassId} {μ : VS} {ν : PRS} {A0 : Nat → Prop} {D : va_G} {H H1 : Heap} (hP : va_P D vwCl (VW A u1 u2 B t μ) H) (hD : va_D A0 (VW A u1 u2 B t μ)) (hk : ∀ q : Nat, q < H.size → ¬ OA (PRL A u1 u2) H.size q → H1[q]? = H[q]?) (hP1 : va_P D vwCl (PRW A u1 u2 t ν) H1) : va_P D vwCl (VW A u1 u2 B t (v_rnext' (v_reached' (v_takes' μ (pr_takes ν)) (pr_reached ν)) (pr_rnext ν))) H1 ∧ va_D A0 (VW A u1 u2 B t (v_rnext' (v_reached' (v_takes' μ (pr_takes ν)) (pr_reached ν)) (pr_rnext ν))) := by
  refine va_backP (fun i => i = 0 ∨ i = 1 ∨ i = 3 ∨ i = 4) hP hD ?_ ?_ rfl hk hP1
  · intro a h
    simp only [List.mem_cons, List.not_mem_nil, or_false] at h
    rcases h with rfl | rfl | rfl | rfl
    · exact ⟨0, _, by simp, rfl, rfl⟩
    · exact ⟨1, _, by simp, rfl, rfl⟩
    · exact ⟨3, _, by simp, rfl, rfl⟩
    · exact ⟨4, _, by simp, rfl, rfl⟩
  · intro i q hq
    rcases i with _ | _ | _ | _ | _ | i
    · exact Or.inl ⟨by simp, List.mem_of_getElem? (i := 0) hq⟩
    · exact Or.inl ⟨by simp, List.mem_of_getElem? (i := 1) hq⟩
    · exact Or.inr ⟨by omega, hq⟩
    · exact Or.inl ⟨by simp, List.mem_of_getElem? (i := 2) hq⟩
    · exact Or.inl ⟨by simp, List.mem_of_getElem? (i := 3) hq⟩
    · exact Or.inr ⟨by omega, hq⟩

theorem sub_V_F_3 {A : Nat → Nat} {u1 : Nat} {u2 : Nat} {B : Nat → Nat} {t : Nat → ClassId} {μ : VS} {D : va_G} {H : Heap} (h : va_P D vwCl (VW A u1 u2 B t μ) H) : va_P D vwCl (FW u1 t (v_reached μ)) H := h.sub [3] rfl
theorem subD_V_F_3 {A : Nat → Nat} {u1 : Nat} {u2 : Nat} {B : Nat → Nat} {t : Nat → ClassId} {μ : VS} {A0 : Nat → Prop} (h : va_D A0 (VW A u1 u2 B t μ)) : va_D A0 (FW u1 t (v_reached μ)) := h.sub [3] (by decide) rfl
theorem in_V_F_3 {A : Nat → Nat} {u1 : Nat} {u2 : Nat} {B : Nat → Nat} : ∀ a ∈ (FL u1), a ∈ (VL A u1 u2 B) := by
  intro a h
  simp only [List.mem_cons, List.not_mem_nil, or_false] at h
  rcases h with rfl <;> simp
theorem back_V_F_3 {A : Nat → Nat} {u1 : Nat} {u2 : Nat} {B : Nat → Nat} {t : Nat → ClassId} {μ : VS} {ν : FS} {A0 : Nat → Prop} {D : va_G} {H H1 : Heap} (hP : va_P D vwCl (VW A u1 u2 B t μ) H) (hD : va_D A0 (VW A u1 u2 B t μ)) (hk : ∀ q : Nat, q < H.size → ¬ OA (FL u1) H.size q → H1[q]? = H[q]?) (hP1 : va_P D vwCl (FW u1 t ν) H1) : va_P D vwCl (VW A u1 u2 B t (v_reached' μ ν)) H1 ∧ va_D A0 (VW A u1 u2 B t (v_reached' μ ν)) := by
  refine va_backP (fun i => i = 3) hP hD ?_ ?_ rfl hk hP1
  · intro a h
    simp only [List.mem_cons, List.not_mem_nil, or_false] at h
    rcases h with rfl
    · exact ⟨3, _, by simp, rfl, rfl⟩
  · intro i q hq
    rcases i with _ | _ | _ | _ | _ | i
    · exact Or.inr ⟨by omega, hq⟩
    · exact Or.inr ⟨by omega, hq⟩
    · exact Or.inr ⟨by omega, hq⟩
    · exact Or.inl ⟨by simp, List.mem_of_getElem? (i := 0) hq⟩
    · exact Or.inr ⟨by omega, hq⟩
    · exact Or.inr ⟨by omega, hq⟩

theorem sub_VG_G {A : Nat → Nat} {u1 : Nat} {u2 : Nat} {B : Nat → Nat} {G : Nat → Nat} {t : Nat → ClassId} {μ : VGS} {D : va_G} {H : Heap} (h : va_P D vwCl (VGW A u1 u2 B G t μ) H) : va_P D vwCl (GW G t ((vg_wide μ), (vg_high μ), (vg_pond μ), (vg_walls μ), (vg_paved μ), (vg_tc μ), (vg_flips μ), (vg_refused μ), (vg_names μ))) H := h.sub [5, 6] rfl
theorem subD_VG_G {A : Nat → Nat} {u1 : Nat} {u2 : Nat} {B : Nat → Nat} {G : Nat → Nat} {t : Nat → ClassId} {μ : VGS} {A0 : Nat → Prop} (h : va_D A0 (VGW A u1 u2 B G t μ)) : va_D A0 (GW G t ((vg_wide μ), (vg_high μ), (vg_pond μ), (vg_walls μ), (vg_paved μ), (vg_tc μ), (vg_flips μ), (vg_refused μ), (vg_names μ))) := h.sub [5, 6] (by decide) rfl
theorem in_VG_G {A : Nat → Nat} {u1 : Nat} {u2 : Nat} {B : Nat → Nat} {G : Nat → Nat} : ∀ a ∈ (GL G), a ∈ (VGL A u1 u2 B G) := by
  intro a h
  simp only [List.mem_cons, List.not_mem_nil, or_false] at h
  rcases h with rfl | rfl <;> simp
theorem back_VG_G {A : Nat → Nat} {u1 : Nat} {u2 : Nat} {B : Nat → Nat} {G : Nat → Nat} {t : Nat → ClassId} {μ : VGS} {ν : GS} {A0 : Nat → Prop} {D : va_G} {H H1 : Heap} (hP : va_P D vwCl (VGW A u1 u2 B G t μ) H) (hD : va_D A0 (VGW A u1 u2 B G t μ)) (hk : ∀ q : Nat, q < H.size → ¬ OA (GL G) H.size q → H1[q]? = H[q]?) (hP1 : va_P D vwCl (GW G t ν) H1) : va_P D vwCl (VGW A u1 u2 B G t (vg_names' (vg_refused' (vg_flips' (vg_tc' (vg_paved' (vg_walls' (vg_pond' (vg_high' (vg_wide' μ (g_wide ν)) (g_high ν)) (g_pond ν)) (g_walls ν)) (g_paved ν)) (g_tc ν)) (g_flips ν)) (g_refused ν)) (g_names ν))) H1 ∧ va_D A0 (VGW A u1 u2 B G t (vg_names' (vg_refused' (vg_flips' (vg_tc' (vg_paved' (vg_walls' (vg_pond' (vg_high' (vg_wide' μ (g_wide ν)) (g_high ν)) (g_pond ν)) (g_walls ν)) (g_paved ν)) (g_tc ν)) (g_flips ν)) (g_refused ν)) (g_names ν))) := by
  refine va_backP (fun i => i = 5 ∨ i = 6) hP hD ?_ ?_ rfl hk hP1
  · intro a h
    simp only [List.mem_cons, List.not_mem_nil, or_false] at h
    rcases h with rfl | rfl
    · exact ⟨5, _, by simp, rfl, rfl⟩
    · exact ⟨6, _, by simp, rfl, rfl⟩
  · intro i q hq
    rcases i with _ | _ | _ | _ | _ | _ | _ | i
    · exact Or.inr ⟨by omega, hq⟩
    · exact Or.inr ⟨by omega, hq⟩
    · exact Or.inr ⟨by omega, hq⟩
    · exact Or.inr ⟨by omega, hq⟩
    · exact Or.inr ⟨by omega, hq⟩
    · exact Or.inl ⟨by simp, List.mem_of_getElem? (i := 0) hq⟩
    · exact Or.inl ⟨by simp, List.mem_of_getElem? (i := 1) hq⟩
    · exact Or.inr ⟨by omega, hq⟩

theorem sub_VG_P {A : Nat → Nat} {u1 : Nat} {u2 : Nat} {B : Nat → Nat} {G : Nat → Nat} {t : Nat → ClassId} {μ : VGS} {D : va_G} {H : Heap} (h : va_P D vwCl (VGW A u1 u2 B G t μ) H) : va_P D vwCl (PW A u1 u2 t (vg_takes μ)) H := h.sub [0, 1] rfl
theorem subD_VG_P {A : Nat → Nat} {u1 : Nat} {u2 : Nat} {B : Nat → Nat} {G : Nat → Nat} {t : Nat → ClassId} {μ : VGS} {A0 : Nat → Prop} (h : va_D A0 (VGW A u1 u2 B G t μ)) : va_D A0 (PW A u1 u2 t (vg_takes μ)) := h.sub [0, 1] (by decide) rfl
theorem in_VG_P {A : Nat → Nat} {u1 : Nat} {u2 : Nat} {B : Nat → Nat} {G : Nat → Nat} : ∀ a ∈ (PL A u1 u2), a ∈ (VGL A u1 u2 B G) := by
  intro a h
  simp only [List.mem_cons, List.not_mem_nil, or_false] at h
  rcases h with rfl | rfl <;> simp
theorem back_VG_P {A : Nat → Nat} {u1 : Nat} {u2 : Nat} {B : Nat → Nat} {G : Nat → Nat} {t : Nat → ClassId} {μ : VGS} {ν : PS} {A0 : Nat → Prop} {D : va_G} {H H1 : Heap} (hP : va_P D vwCl (VGW A u1 u2 B G t μ) H) (hD : va_D A0 (VGW A u1 u2 B G t μ)) (hk : ∀ q : Nat, q < H.size → ¬ OA (PL A u1 u2) H.size q → H1[q]? = H[q]?) (hP1 : va_P D vwCl (PW A u1 u2 t ν) H1) : va_P D vwCl (VGW A u1 u2 B G t (vg_takes' μ ν)) H1 ∧ va_D A0 (VGW A u1 u2 B G t (vg_takes' μ ν)) := by
  refine va_backP (fun i => i = 0 ∨ i = 1) hP hD ?_ ?_ rfl hk hP1
  · intro a h
    simp only [List.mem_cons, List.not_mem_nil, or_false] at h
    rcases h with rfl | rfl
    · exact ⟨0, _, by simp, rfl, rfl⟩
    · exact ⟨1, _, by simp, rfl, rfl⟩
  · intro i q hq
    rcases i with _ | _ | _ | _ | _ | _ | _ | i
    · exact Or.inl ⟨by simp, List.mem_of_getElem? (i := 0) hq⟩
    · exact Or.inl ⟨by simp, List.mem_of_getElem? (i := 1) hq⟩
    · exact Or.inr ⟨by omega, hq⟩
    · exact Or.inr ⟨by omega, hq⟩
    · exact Or.inr ⟨by omega, hq⟩
    · exact Or.inr ⟨by omega, hq⟩
    · exact Or.inr ⟨by omega, hq⟩
    · exact Or.inr ⟨by omega, hq⟩

theorem sub_VG_V {A : Nat → Nat} {u1 : Nat} {u2 : Nat} {B : Nat → Nat} {G : Nat → Nat} {t : Nat → ClassId} {μ : VGS} {D : va_G} {H : Heap} (h : va_P D vwCl (VGW A u1 u2 B G t μ) H) : va_P D vwCl (VW A u1 u2 B t ((vg_rest μ), (vg_takes μ), (vg_reached μ), (vg_rnext μ))) H := h.mem (fun i q hq => by
  rcases i with _ | _ | _ | _ | _ | i
  · exact ⟨0, hq⟩
  · exact ⟨1, hq⟩
  · exact ⟨2, hq⟩
  · exact ⟨3, hq⟩
  · exact ⟨4, hq⟩
  · obtain ⟨k, h1, -, rfl⟩ := grid_in (by simp) hq
    exact ⟨7 + k, grid_get rfl h1⟩)
