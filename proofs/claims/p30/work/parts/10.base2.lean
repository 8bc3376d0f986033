/-! families of worlds of the class; grids; a callee's world within the caller's -/
def dfin (x : UInt64) : Option UInt64 := if x &&& 0x7fffffffffffffff ≤ 0x7ff0000000000000 then some x else none
theorem dfin_some {x z : UInt64} (h : dfin x = some z) : z = x ∧ vf_n64 x := by
  unfold dfin at h
  by_cases c : x &&& 0x7fffffffffffffff ≤ 0x7ff0000000000000
  · rw [if_pos c] at h
    exact ⟨(Option.some.inj h).symm, c⟩
  · rw [if_neg c] at h; cases h
def jix (n : Nat) (i : Int32) : Option Nat := if i < 0 ∨ n ≤ i.toNatClampNeg then none else some i.toNatClampNeg
theorem jix_some {n k : Nat} {i : Int32} (h : jix n i = some k) : vp_in i n ∧ i.toNatClampNeg = k := by
  unfold jix at h
  by_cases c : i < 0 ∨ n ≤ i.toNatClampNeg
  · rw [if_pos c] at h; cases h
  · rw [if_neg c] at h; exact ⟨c, Option.some.inj h⟩
theorem jix_lt {n k : Nat} {i : Int32} (h : jix n i = some k) : k < n := by
  obtain ⟨h1, rfl⟩ := jix_some h
  exact Nat.not_le.mp fun z => h1 (Or.inr z)
theorem grid_get {f : Nat → Nat × va_E} {fx : va_W} {n k m : Nat} (hm : fx.length = m) (hk : k < n) : (fx ++ (List.range n).map f)[m + k]? = some (f k) := by
  subst hm
  rw [List.getElem?_append_right (Nat.le_add_right _ _), Nat.add_sub_cancel_left, List.getElem?_map, List.getElem?_range hk]
  rfl
theorem grid_set {f g : Nat → Nat × va_E} {fx : va_W} {n k m : Nat} (hm : fx.length = m) (hk : k < n) (h : ∀ j, j ≠ k → f j = g j) : (fx ++ (List.range n).map f).set (m + k) (g k) = fx ++ (List.range n).map g := by
  subst hm
  rw [List.set_append_right _ _ (Nat.le_add_right _ _), Nat.add_sub_cancel_left]
  congr 1
  apply List.ext_getElem?
  intro j
  by_cases hj : j = k
  · subst hj
    rw [List.getElem?_set_self (by rw [List.length_map, List.length_range]; exact hk), List.getElem?_map, List.getElem?_range hk]
    rfl
  · rw [List.getElem?_set_ne (Ne.symm hj), List.getElem?_map, List.getElem?_map]
    by_cases hn : j < n
    · rw [List.getElem?_range hn]
      exact congrArg some (h j hj)
    · rw [List.getElem?_eq_none (by rw [List.length_range]; omega)]
      rfl
theorem grid_in {f : Nat → Nat × va_E} {fx : va_W} {n i : Nat} {q : Nat × va_E} (hi : fx.length ≤ i) (h : (fx ++ (List.range n).map f)[i]? = some q) : ∃ k, k < n ∧ i = fx.length + k ∧ q = f k := by
  rw [List.getElem?_append_right hi, List.getElem?_map] at h
  have hlt : i - fx.length < n := by
    by_cases c : i - fx.length < n
    · exact c
    · rw [List.getElem?_eq_none (by rw [List.length_range]; omega)] at h
      cases h
  rw [List.getElem?_range hlt] at h
  exact ⟨i - fx.length, hlt, by omega, (Option.some.inj h).symm⟩
theorem va_backP {A0 : Nat → Prop} {D : va_G} {ws w1 ws' : va_W} {Lc : List Nat} {H H1 : Heap} (C : Nat → Prop) (hP : va_P D vwCl ws H) (hD : va_D A0 ws) (hL : ∀ a ∈ Lc, ∃ (j : Nat) (p : Nat × va_E), C j ∧ ws[j]? = some p ∧ p.1 = a)
    (h : ∀ (i : Nat) (q : Nat × va_E), ws'[i]? = some q → (C i ∧ q ∈ w1) ∨ (¬ C i ∧ ws[i]? = some q)) (ha : ws'.map Prod.fst = ws.map Prod.fst) (hk : ∀ q : Nat, q < H.size → ¬ OA Lc H.size q → H1[q]? = H[q]?) (hP1 : va_P D vwCl w1 H1) : va_P D vwCl ws' H1 ∧ va_D A0 ws' := by
  refine ⟨fun i q hq => ?_, hD.addr ha⟩
  rcases h i q hq with ⟨-, hm⟩ | ⟨hc, hw⟩
  · obtain ⟨j, hj⟩ := List.getElem?_of_mem hm
    exact hP1 j q hj
  · have hlt := (hP i q hw).lt
    refine (hP i q hw).kept (hk q.1 hlt ?_)
    rintro (z | z)
    · obtain ⟨j, p, h1, h2, h3⟩ := hL _ z
      have hij := hD.1 j i p q h2 hw h3
      subst hij
      exact hc h1
    · omega
theorem va_P.mem {D : va_G} {ws ws' : va_W} {H : Heap} (hP : va_P D vwCl ws H) (h : ∀ (i : Nat) (q : Nat × va_E), ws'[i]? = some q → ∃ j : Nat, ws[j]? = some q) : va_P D vwCl ws' H := fun i q hq => by
  obtain ⟨j, hj⟩ := h i q hq
  exact hP j q hj
theorem OA.ofD {L L' : List Nat} {sz sz' : Nat} {ws : va_W} (hD : va_D (OA L sz) ws) (e : ws.map Prod.fst = L') (h : sz ≤ sz') : ∀ q, OA L' sz' q → OA L sz q := by
  intro q hq
  rcases hq with z | z
  · rw [← e] at z
    obtain ⟨x, hx, rfl⟩ := List.mem_map.mp z
    obtain ⟨k, hk⟩ := List.getElem?_of_mem hx
    exact hD.2 k x hk
  · exact Or.inr (Nat.le_trans h z)
section KROW2
variable {p : Program} {l : Launch} {e : Env} {R : Room} {s : State} {m : MethodId} {args : Array Value} {below : List Frame} {meth : Method} {c : Code} {H : Heap} {locs : List Loc} {cells slots : Nat} {Q : State → Prop}
variable {cc : ByteArray} {pc : Nat} {ls : Array Slot} {rest : List Value} {D : va_G} {cl : List vw_C} {A : Nat → Prop} {a : Nat} {t : Nat → ClassId} {ws ws' : va_W} {H0 : Heap}
theorem k_aaldR (hx : p.tables.exec = Jvm.exec) (hb : c.code = cc) (hK : va_K D cl (TY t) s) (hP : va_P D cl ws H) (q0 : Nat) {n : Nat} {B : Nat → Nat} (ha : ws[q0]? = some (a, .inl (t 5, (n, .inr (.inr (.inr (.inr (fun i => if i < n then some (B i) else none)))))))) {i : Int32} {k : Nat} (h : jix n i = some k) (hdg : decode cc pc = .ok (.aaload, 1))
    (kk : W p l e R s m args below meth c H locs cells slots Q (F0 m (pc + 1) ls (.ref (B k) :: rest))) : W p l e R s m args below meth c H locs cells slots Q (F0 m pc ls (.int i :: .ref a :: rest)) := by
  have hlt := jix_lt h
  obtain ⟨h1, h2⟩ := jix_some h
  have hlt2 : i.toNatClampNeg < n := by rw [h2]; exact hlt
  have hv : va_rf (if i.toNatClampNeg < n then some (B i.toNatClampNeg) else none) = .ref (B k) := by rw [if_pos hlt2, h2]; rfl
  exact W.aald (v := va_rf (if i.toNatClampNeg < n then some (B i.toNatClampNeg) else none)) (ty := .array .int) hx hb (hP q0 _ ha) ((hK.2 5 _ rfl).1 n (fun j => va_rf (if j < n then some (B j) else none))) rfl (fun q => by cases q) (by show ¬ (i < 0 ∨ (arrV _ _ _).slots.size ≤ _); rw [arrV_size]; exact h1) (by show (arrV _ _ _).slots[_]? = _; rw [arrV_read _ _ hlt2]) rfl rfl hdg (by rw [hv]; exact kk)
end KROW2
abbrev GS : Type := (Int32) × (Int32) × (Int32) × (Int64) × (Int64) × (Int32) × (Int32) × (Int32) × (Nat → Int32)
abbrev g_wide (μ : GS) : Int32 := μ.1
abbrev g_wide' (μ : GS) (v : Int32) : GS := (v, μ.2)
abbrev g_high (μ : GS) : Int32 := μ.2.1
abbrev g_high' (μ : GS) (v : Int32) : GS := (μ.1, v, μ.2.2)
abbrev g_pond (μ : GS) : Int32 := μ.2.2.1
abbrev g_pond' (μ : GS) (v : Int32) : GS := (μ.1, μ.2.1, v, μ.2.2.2)
abbrev g_walls (μ : GS) : Int64 := μ.2.2.2.1
abbrev g_walls' (μ : GS) (v : Int64) : GS := (μ.1, μ.2.1, μ.2.2.1, v, μ.2.2.2.2)
abbrev g_paved (μ : GS) : Int64 := μ.2.2.2.2.1
abbrev g_paved' (μ : GS) (v : Int64) : GS := (μ.1, μ.2.1, μ.2.2.1, μ.2.2.2.1, v, μ.2.2.2.2.2)
abbrev g_tc (μ : GS) : Int32 := μ.2.2.2.2.2.1
abbrev g_tc' (μ : GS) (v : Int32) : GS := (μ.1, μ.2.1, μ.2.2.1, μ.2.2.2.1, μ.2.2.2.2.1, v, μ.2.2.2.2.2.2)
abbrev g_flips (μ : GS) : Int32 := μ.2.2.2.2.2.2.1
abbrev g_flips' (μ : GS) (v : Int32) : GS := (μ.1, μ.2.1, μ.2.2.1, μ.2.2.2.1, μ.2.2.2.2.1, μ.2.2.2.2.2.1, v, μ.2.2.2.2.2.2.2)
abbrev g_refused (μ : GS) : Int32 := μ.2.2.2.2.2.2.2.1
abbrev g_refused' (μ : GS) (v : Int32) : GS := (μ.1, μ.2.1, μ.2.2.1, μ.2.2.2.1, μ.2.2.2.2.1, μ.2.2.2.2.2.1, μ.2.2.2.2.2.2.1, v, μ.2.2.2.2.2.2.2.2)
abbrev g_names (μ : GS) : Nat → Int32 := μ.2.2.2.2.2.2.2.2
abbrev g_names' (μ : GS) (v : Nat → Int32) : GS := (μ.1, μ.2.1, μ.2.2.1, μ.2.2.2.1, μ.2.2.2.2.1, μ.2.2.2.2.2.1, μ.2.2.2.2.2.2.1, μ.2.2.2.2.2.2.2.1, v)
abbrev GW (G : Nat → Nat) (t : Nat → ClassId) (μ : GS) : va_W := [(G 0, .inr (2, [.int (g_wide μ), .int (g_high μ), .int (g_pond μ), .long (g_walls μ), .long (g_paved μ), .int (g_tc μ), .int (g_flips μ), .int (g_refused μ), .ref (G 1)])), (G 1, .inl (t 0, (21, .inl (g_names μ))))]
abbrev GL (G : Nat → Nat) : List Nat := [G 0, G 1]

abbrev PS : Type := (Nat → Int32) × (Nat → Nat) × (Nat → Nat)
abbrev p_takes (μ : PS) : Nat → Int32 := μ.1
abbrev p_takes' (μ : PS) (v : Nat → Int32) : PS := (v, μ.2)
abbrev p_u1 (μ : PS) : Nat → Nat := μ.2.1
abbrev p_u1' (μ : PS) (v : Nat → Nat) : PS := (μ.1, v, μ.2.2)
abbrev p_u2 (μ : PS) : Nat → Nat := μ.2.2
abbrev p_u2' (μ : PS) (v : Nat → Nat) : PS := (μ.1, μ.2.1, v)
abbrev PW (A : Nat → Nat) (t : Nat → ClassId) (μ : PS) : va_W := [(A 0, .inr (3, [.ref (A 2), .ref (A 1), .ref ((p_u1 μ) 0), .ref ((p_u2 μ) 0)])), (A 1, .inl (t 0, (4, .inl (p_takes μ))))]
abbrev PL (A : Nat → Nat) : List Nat := [A 0, A 1]

abbrev PNS : Type := (Nat → Int32) × (Nat → Nat) × (Nat → Nat) × (Nat → Int32)
abbrev pn_takes (μ : PNS) : Nat → Int32 := μ.1
abbrev pn_takes' (μ : PNS) (v : Nat → Int32) : PNS := (v, μ.2)
abbrev pn_u1 (μ : PNS) : Nat → Nat := μ.2.1
abbrev pn_u1' (μ : PNS) (v : Nat → Nat) : PNS := (μ.1, v, μ.2.2)
abbrev pn_u2 (μ : PNS) : Nat → Nat := μ.2.2.1
abbrev pn_u2' (μ : PNS) (v : Nat → Nat) : PNS := (μ.1, μ.2.1, v, μ.2.2.2)
abbrev pn_nx (μ : PNS) : Nat → Int32 := μ.2.2.2
abbrev pn_nx' (μ : PNS) (v : Nat → Int32) : PNS := (μ.1, μ.2.1, μ.2.2.1, v)
abbrev PNW (A : Nat → Nat) (n0 : Nat) (t : Nat → ClassId) (μ : PNS) : va_W := [(A 0, .inr (3, [.ref (A 2), .ref (A 1), .ref ((pn_u1 μ) 0), .ref ((pn_u2 μ) 0)])), (A 1, .inl (t 0, (4, .inl (pn_takes μ)))), (n0, .inl (t 0, (512, .inl (pn_nx μ))))]
abbrev PNL (A : Nat → Nat) (n0 : Nat) : List Nat := [A 0, A 1, n0]

abbrev PHS : Type := (Nat → Int32) × (Nat → Nat) × (Nat → Nat) × (Nat → Int32) × (Nat → Int32)
abbrev ph_takes (μ : PHS) : Nat → Int32 := μ.1
abbrev ph_takes' (μ : PHS) (v : Nat → Int32) : PHS := (v, μ.2)
abbrev ph_u1 (μ : PHS) : Nat → Nat := μ.2.1
abbrev ph_u1' (μ : PHS) (v : Nat → Nat) : PHS := (μ.1, v, μ.2.2)
abbrev ph_u2 (μ : PHS) : Nat → Nat := μ.2.2.1
abbrev ph_u2' (μ : PHS) (v : Nat → Nat) : PHS := (μ.1, μ.2.1, v, μ.2.2.2)
abbrev ph_hr (μ : PHS) : Nat → Int32 := μ.2.2.2.1
abbrev ph_hr' (μ : PHS) (v : Nat → Int32) : PHS := (μ.1, μ.2.1, μ.2.2.1, v, μ.2.2.2.2)
abbrev ph_nx (μ : PHS) : Nat → Int32 := μ.2.2.2.2
abbrev ph_nx' (μ : PHS) (v : Nat → Int32) : PHS := (μ.1, μ.2.1, μ.2.2.1, μ.2.2.2.1, v)
abbrev PHW (A : Nat → Nat) (h0 : Nat) (n0 : Nat) (t : Nat → ClassId) (μ : PHS) : va_W := [(A 0, .inr (3, [.ref (A 2), .ref (A 1), .ref ((ph_u1 μ) 0), .ref ((ph_u2 μ) 0)])), (A 1, .inl (t 0, (4, .inl (ph_takes μ)))), (h0, .inl (t 0, (512, .inl (ph_hr μ)))), (n0, .inl (t 0, (512, .inl (ph_nx μ))))]
abbrev PHL (A : Nat → Nat) (h0 : Nat) (n0 : Nat) : List Nat := [A 0, A 1, h0, n0]

abbrev RES : Type := (Int32) × (Nat → Int32) × (Nat → Int32)
abbrev re_size (μ : RES) : Int32 := μ.1
abbrev re_size' (μ : RES) (v : Int32) : RES := (v, μ.2)
abbrev re_win (μ : RES) : Nat → Int32 := μ.2.1
abbrev re_win' (μ : RES) (v : Nat → Int32) : RES := (μ.1, v, μ.2.2)
abbrev re_way (μ : RES) : Nat → Int32 := μ.2.2
abbrev re_way' (μ : RES) (v : Nat → Int32) : RES := (μ.1, μ.2.1, v)
abbrev REW (r : Nat → Nat) (t : Nat → ClassId) (μ : RES) : va_W := [(r 0, .inr (6, [.int (re_size μ), .ref (r 1), .ref (r 2)])), (r 1, .inl (t 0, (512, .inl (re_win μ)))), (r 2, .inl (t 0, (512, .inl (re_way μ))))]
abbrev REL (r : Nat → Nat) : List Nat := [r 0, r 1, r 2]

abbrev VS : Type := (Nat → Nat → Int32) × (Nat → Int32) × (Nat → Nat) × (Nat → Nat) × (Int32) × (Nat → Int32) × (Nat → Int32) × (Int32) × (Nat → Int32) × (Nat → Int32)
abbrev v_rest (μ : VS) : Nat → Nat → Int32 := μ.1
abbrev v_rest' (μ : VS) (v : Nat → Nat → Int32) : VS := (v, μ.2)
abbrev v_takes (μ : VS) : Nat → Int32 := μ.2.1
abbrev v_takes' (μ : VS) (v : Nat → Int32) : VS := (μ.1, v, μ.2.2)
abbrev v_u1 (μ : VS) : Nat → Nat := μ.2.2.1
abbrev v_u1' (μ : VS) (v : Nat → Nat) : VS := (μ.1, μ.2.1, v, μ.2.2.2)
abbrev v_u2 (μ : VS) : Nat → Nat := μ.2.2.2.1
abbrev v_u2' (μ : VS) (v : Nat → Nat) : VS := (μ.1, μ.2.1, μ.2.2.1, v, μ.2.2.2.2)
abbrev v_hsz (μ : VS) : Int32 := μ.2.2.2.2.1
abbrev v_hsz' (μ : VS) (v : Int32) : VS := (μ.1, μ.2.1, μ.2.2.1, μ.2.2.2.1, v, μ.2.2.2.2.2)
abbrev v_hwin (μ : VS) : Nat → Int32 := μ.2.2.2.2.2.1
abbrev v_hwin' (μ : VS) (v : Nat → Int32) : VS := (μ.1, μ.2.1, μ.2.2.1, μ.2.2.2.1, μ.2.2.2.2.1, v, μ.2.2.2.2.2.2)
abbrev v_hway (μ : VS) : Nat → Int32 := μ.2.2.2.2.2.2.1
abbrev v_hway' (μ : VS) (v : Nat → Int32) : VS := (μ.1, μ.2.1, μ.2.2.1, μ.2.2.2.1, μ.2.2.2.2.1, μ.2.2.2.2.2.1, v, μ.2.2.2.2.2.2.2)
abbrev v_nsz (μ : VS) : Int32 := μ.2.2.2.2.2.2.2.1
abbrev v_nsz' (μ : VS) (v : Int32) : VS := (μ.1, μ.2.1, μ.2.2.1, μ.2.2.2.1, μ.2.2.2.2.1, μ.2.2.2.2.2.1, μ.2.2.2.2.2.2.1, v, μ.2.2.2.2.2.2.2.2)
abbrev v_nwin (μ : VS) : Nat → Int32 := μ.2.2.2.2.2.2.2.2.1
abbrev v_nwin' (μ : VS) (v : Nat → Int32) : VS := (μ.1, μ.2.1, μ.2.2.1, μ.2.2.2.1, μ.2.2.2.2.1, μ.2.2.2.2.2.1, μ.2.2.2.2.2.2.1, μ.2.2.2.2.2.2.2.1, v, μ.2.2.2.2.2.2.2.2.2)
abbrev v_nway (μ : VS) : Nat → Int32 := μ.2.2.2.2.2.2.2.2.2
abbrev v_nway' (μ : VS) (v : Nat → Int32) : VS := (μ.1, μ.2.1, μ.2.2.1, μ.2.2.2.1, μ.2.2.2.2.1, μ.2.2.2.2.2.1, μ.2.2.2.2.2.2.1, μ.2.2.2.2.2.2.2.1, μ.2.2.2.2.2.2.2.2.1, v)
abbrev VW (A : Nat → Nat) (B : Nat → Nat) (t : Nat → ClassId) (μ : VS) : va_W := [(A 0, .inr (3, [.ref (A 2), .ref (A 1), .ref ((v_u1 μ) 0), .ref ((v_u2 μ) 0)])), (A 1, .inl (t 0, (4, .inl (v_takes μ)))), (A 2, .inl (t 5, (65, .inr (.inr (.inr (.inr (fun i => if i < 65 then some (B i) else none))))))), ((v_u1 μ) 0, .inr (6, [.int (v_hsz μ), .ref ((v_u1 μ) 1), .ref ((v_u1 μ) 2)])), ((v_u1 μ) 1, .inl (t 0, (512, .inl (v_hwin μ)))), ((v_u1 μ) 2, .inl (t 0, (512, .inl (v_hway μ)))), ((v_u2 μ) 0, .inr (6, [.int (v_nsz μ), .ref ((v_u2 μ) 1), .ref ((v_u2 μ) 2)])), ((v_u2 μ) 1, .inl (t 0, (512, .inl (v_nwin μ)))), ((v_u2 μ) 2, .inl (t 0, (512, .inl (v_nway μ))))] ++ (List.range 65).map (fun i => (B i, .inl (t 0, (512, .inl ((v_rest μ) i)))))
abbrev VL (A : Nat → Nat) (B : Nat → Nat) (μ : VS) : List Nat := [A 0, A 1, A 2, (v_u1 μ) 0, (v_u1 μ) 1, (v_u1 μ) 2, (v_u2 μ) 0, (v_u2 μ) 1, (v_u2 μ) 2] ++ (List.range 65).map (fun i => B i)

abbrev VGS : Type := (Nat → Nat → Int32) × (Nat → Int32) × (Nat → Nat) × (Nat → Nat) × (Int32) × (Nat → Int32) × (Nat → Int32) × (Int32) × (Nat → Int32) × (Nat → Int32) × (Int32) × (Int32) × (Int32) × (Int64) × (Int64) × (Int32) × (Int32) × (Int32) × (Nat → Int32)
abbrev vg_rest (μ : VGS) : Nat → Nat → Int32 := μ.1
abbrev vg_rest' (μ : VGS) (v : Nat → Nat → Int32) : VGS := (v, μ.2)
abbrev vg_takes (μ : VGS) : Nat → Int32 := μ.2.1
abbrev vg_takes' (μ : VGS) (v : Nat → Int32) : VGS := (μ.1, v, μ.2.2)
abbrev vg_u1 (μ : VGS) : Nat → Nat := μ.2.2.1
abbrev vg_u1' (μ : VGS) (v : Nat → Nat) : VGS := (μ.1, μ.2.1, v, μ.2.2.2)
abbrev vg_u2 (μ : VGS) : Nat → Nat := μ.2.2.2.1
abbrev vg_u2' (μ : VGS) (v : Nat → Nat) : VGS := (μ.1, μ.2.1, μ.2.2.1, v, μ.2.2.2.2)
abbrev vg_hsz (μ : VGS) : Int32 := μ.2.2.2.2.1
abbrev vg_hsz' (μ : VGS) (v : Int32) : VGS := (μ.1, μ.2.1, μ.2.2.1, μ.2.2.2.1, v, μ.2.2.2.2.2)
abbrev vg_hwin (μ : VGS) : Nat → Int32 := μ.2.2.2.2.2.1
abbrev vg_hwin' (μ : VGS) (v : Nat → Int32) : VGS := (μ.1, μ.2.1, μ.2.2.1, μ.2.2.2.1, μ.2.2.2.2.1, v, μ.2.2.2.2.2.2)
abbrev vg_hway (μ : VGS) : Nat → Int32 := μ.2.2.2.2.2.2.1
abbrev vg_hway' (μ : VGS) (v : Nat → Int32) : VGS := (μ.1, μ.2.1, μ.2.2.1, μ.2.2.2.1, μ.2.2.2.2.1, μ.2.2.2.2.2.1, v, μ.2.2.2.2.2.2.2)
abbrev vg_nsz (μ : VGS) : Int32 := μ.2.2.2.2.2.2.2.1
abbrev vg_nsz' (μ : VGS) (v : Int32) : VGS := (μ.1, μ.2.1, μ.2.2.1, μ.2.2.2.1, μ.2.2.2.2.1, μ.2.2.2.2.2.1, μ.2.2.2.2.2.2.1, v, μ.2.2.2.2.2.2.2.2)
abbrev vg_nwin (μ : VGS) : Nat → Int32 := μ.2.2.2.2.2.2.2.2.1
abbrev vg_nwin' (μ : VGS) (v : Nat → Int32) : VGS := (μ.1, μ.2.1, μ.2.2.1, μ.2.2.2.1, μ.2.2.2.2.1, μ.2.2.2.2.2.1, μ.2.2.2.2.2.2.1, μ.2.2.2.2.2.2.2.1, v, μ.2.2.2.2.2.2.2.2.2)
abbrev vg_nway (μ : VGS) : Nat → Int32 := μ.2.2.2.2.2.2.2.2.2.1
abbrev vg_nway' (μ : VGS) (v : Nat → Int32) : VGS := (μ.1, μ.2.1, μ.2.2.1, μ.2.2.2.1, μ.2.2.2.2.1, μ.2.2.2.2.2.1, μ.2.2.2.2.2.2.1, μ.2.2.2.2.2.2.2.1, μ.2.2.2.2.2.2.2.2.1, v, μ.2.2.2.2.2.2.2.2.2.2)
abbrev vg_wide (μ : VGS) : Int32 := μ.2.2.2.2.2.2.2.2.2.2.1
abbrev vg_wide' (μ : VGS) (v : Int32) : VGS := (μ.1, μ.2.1, μ.2.2.1, μ.2.2.2.1, μ.2.2.2.2.1, μ.2.2.2.2.2.1, μ.2.2.2.2.2.2.1, μ.2.2.2.2.2.2.2.1, μ.2.2.2.2.2.2.2.2.1, μ.2.2.2.2.2.2.2.2.2.1, v, μ.2.2.2.2.2.2.2.2.2.2.2)
abbrev vg_high (μ : VGS) : Int32 := μ.2.2.2.2.2.2.2.2.2.2.2.1
abbrev vg_high' (μ : VGS) (v : Int32) : VGS := (μ.1, μ.2.1, μ.2.2.1, μ.2.2.2.1, μ.2.2.2.2.1, μ.2.2.2.2.2.1, μ.2.2.2.2.2.2.1, μ.2.2.2.2.2.2.2.1, μ.2.2.2.2.2.2.2.2.1, μ.2.2.2.2.2.2.2.2.2.1, μ.2.2.2.2.2.2.2.2.2.2.1, v, μ.2.2.2.2.2.2.2.2.2.2.2.2)
abbrev vg_pond (μ : VGS) : Int32 := μ.2.2.2.2.2.2.2.2.2.2.2.2.1
abbrev vg_pond' (μ : VGS) (v : Int32) : VGS := (μ.1, μ.2.1, μ.2.2.1, μ.2.2.2.1, μ.2.2.2.2.1, μ.2.2.2.2.2.1, μ.2.2.2.2.2.2.1, μ.2.2.2.2.2.2.2.1, μ.2.2.2.2.2.2.2.2.1, μ.2.2.2.2.2.2.2.2.2.1, μ.2.2.2.2.2.2.2.2.2.2.1, μ.2.2.2.2.2.2.2.2.2.2.2.1, v, μ.2.2.2.2.2.2.2.2.2.2.2.2.2)
abbrev vg_walls (μ : VGS) : Int64 := μ.2.2.2.2.2.2.2.2.2.2.2.2.2.1
abbrev vg_walls' (μ : VGS) (v : Int64) : VGS := (μ.1, μ.2.1, μ.2.2.1, μ.2.2.2.1, μ.2.2.2.2.1, μ.2.2.2.2.2.1, μ.2.2.2.2.2.2.1, μ.2.2.2.2.2.2.2.1, μ.2.2.2.2.2.2.2.2.1, μ.2.2.2.2.2.2.2.2.2.1, μ.2.2.2.2.2.2.2.2.2.2.1, μ.2.2.2.2.2.2.2.2.2.2.2.1, μ.2.2.2.2.2.2.2.2.2.2.2.2.1, v, μ.2.2.2.2.2.2.2.2.2.2.2.2.2.2)
abbrev vg_paved (μ : VGS) : Int64 := μ.2.2.2.2.2.2.2.2.2.2.2.2.2.2.1
abbrev vg_paved' (μ : VGS) (v : Int64) : VGS := (μ.1, μ.2.1, μ.2.2.1, μ.2.2.2.1, μ.2.2.2.2.1, μ.2.2.2.2.2.1, μ.2.2.2.2.2.2.1, μ.2.2.2.2.2.2.2.1, μ.2.2.2.2.2.2.2.2.1, μ.2.2.2.2.2.2.2.2.2.1, μ.2.2.2.2.2.2.2.2.2.2.1, μ.2.2.2.2.2.2.2.2.2.2.2.1, μ.2.2.2.2.2.2.2.2.2.2.2.2.1, μ.2.2.2.2.2.2.2.2.2.2.2.2.2.1, v, μ.2.2.2.2.2.2.2.2.2.2.2.2.2.2.2)
abbrev vg_tc (μ : VGS) : Int32 := μ.2.2.2.2.2.2.2.2.2.2.2.2.2.2.2.1
abbrev vg_tc' (μ : VGS) (v : Int32) : VGS := (μ.1, μ.2.1, μ.2.2.1, μ.2.2.2.1, μ.2.2.2.2.1, μ.2.2.2.2.2.1, μ.2.2.2.2.2.2.1, μ.2.2.2.2.2.2.2.1, μ.2.2.2.2.2.2.2.2.1, μ.2.2.2.2.2.2.2.2.2.1, μ.2.2.2.2.2.2.2.2.2.2.1, μ.2.2.2.2.2.2.2.2.2.2.2.1, μ.2.2.2.2.2.2.2.2.2.2.2.2.1, μ.2.2.2.2.2.2.2.2.2.2.2.2.2.1, μ.2.2.2.2.2.2.2.2.2.2.2.2.2.2.1, v, μ.2.2.2.2.2.2.2.2.2.2.2.2.2.2.2.2)
abbrev vg_flips (μ : VGS) : Int32 := μ.2.2.2.2.2.2.2.2.2.2.2.2.2.2.2.2.1
abbrev vg_flips' (μ : VGS) (v : Int32) : VGS := (μ.1, μ.2.1, μ.2.2.1, μ.2.2.2.1, μ.2.2.2.2.1, μ.2.2.2.2.2.1, μ.2.2.2.2.2.2.1, μ.2.2.2.2.2.2.2.1, μ.2.2.2.2.2.2.2.2.1, μ.2.2.2.2.2.2.2.2.2.1, μ.2.2.2.2.2.2.2.2.2.2.1, μ.2.2.2.2.2.2.2.2.2.2.2.1, μ.2.2.2.2.2.2.2.2.2.2.2.2.1, μ.2.2.2.2.2.2.2.2.2.2.2.2.2.1, μ.2.2.2.2.2.2.2.2.2.2.2.2.2.2.1, μ.2.2.2.2.2.2.2.2.2.2.2.2.2.2.2.1, v, μ.2.2.2.2.2.2.2.2.2.2.2.2.2.2.2.2.2)
abbrev vg_refused (μ : VGS) : Int32 := μ.2.2.2.2.2.2.2.2.2.2.2.2.2.2.2.2.2.1
abbrev vg_refused' (μ : VGS) (v : Int32) : VGS := (μ.1, μ.2.1, μ.2.2.1, μ.2.2.2.1, μ.2.2.2.2.1, μ.2.2.2.2.2.1, μ.2.2.2.2.2.2.1, μ.2.2.2.2.2.2.2.1, μ.2.2.2.2.2.2.2.2.1, μ.2.2.2.2.2.2.2.2.2.1, μ.2.2.2.2.2.2.2.2.2.2.1, μ.2.2.2.2.2.2.2.2.2.2.2.1, μ.2.2.2.2.2.2.2.2.2.2.2.2.1, μ.2.2.2.2.2.2.2.2.2.2.2.2.2.1, μ.2.2.2.2.2.2.2.2.2.2.2.2.2.2.1, μ.2.2.2.2.2.2.2.2.2.2.2.2.2.2.2.1, μ.2.2.2.2.2.2.2.2.2.2.2.2.2.2.2.2.1, v, μ.2.2.2.2.2.2.2.2.2.2.2.2.2.2.2.2.2.2)
abbrev vg_names (μ : VGS) : Nat → Int32 := μ.2.2.2.2.2.2.2.2.2.2.2.2.2.2.2.2.2.2
abbrev vg_names' (μ : VGS) (v : Nat → Int32) : VGS := (μ.1, μ.2.1, μ.2.2.1, μ.2.2.2.1, μ.2.2.2.2.1, μ.2.2.2.2.2.1, μ.2.2.2.2.2.2.1, μ.2.2.2.2.2.2.2.1, μ.2.2.2.2.2.2.2.2.1, μ.2.2.2.2.2.2.2.2.2.1, μ.2.2.2.2.2.2.2.2.2.2.1, μ.2.2.2.2.2.2.2.2.2.2.2.1, μ.2.2.2.2.2.2.2.2.2.2.2.2.1, μ.2.2.2.2.2.2.2.2.2.2.2.2.2.1, μ.2.2.2.2.2.2.2.2.2.2.2.2.2.2.1, μ.2.2.2.2.2.2.2.2.2.2.2.2.2.2.2.1, μ.2.2.2.2.2.2.2.2.2.2.2.2.2.2.2.2.1, μ.2.2.2.2.2.2.2.2.2.2.2.2.2.2.2.2.2.1, v)
abbrev VGW (A : Nat → Nat) (B : Nat → Nat) (G : Nat → Nat) (t : Nat → ClassId) (μ : VGS) : va_W := [(A 0, .inr (3, [.ref (A 2), .ref (A 1), .ref ((vg_u1 μ) 0), .ref ((vg_u2 μ) 0)])), (A 1, .inl (t 0, (4, .inl (vg_takes μ)))), (A 2, .inl (t 5, (65, .inr (.inr (.inr (.inr (fun i => if i < 65 then some (B i) else none))))))), ((vg_u1 μ) 0, .inr (6, [.int (vg_hsz μ), .ref ((vg_u1 μ) 1), .ref ((vg_u1 μ) 2)])), ((vg_u1 μ) 1, .inl (t 0, (512, .inl (vg_hwin μ)))), ((vg_u1 μ) 2, .inl (t 0, (512, .inl (vg_hway μ)))), ((vg_u2 μ) 0, .inr (6, [.int (vg_nsz μ), .ref ((vg_u2 μ) 1), .ref ((vg_u2 μ) 2)])), ((vg_u2 μ) 1, .inl (t 0, (512, .inl (vg_nwin μ)))), ((vg_u2 μ) 2, .inl (t 0, (512, .inl (vg_nway μ)))), (G 0, .inr (2, [.int (vg_wide μ), .int (vg_high μ), .int (vg_pond μ), .long (vg_walls μ), .long (vg_paved μ), .int (vg_tc μ), .int (vg_flips μ), .int (vg_refused μ), .ref (G 1)])), (G 1, .inl (t 0, (21, .inl (vg_names μ))))] ++ (List.range 65).map (fun i => (B i, .inl (t 0, (512, .inl ((vg_rest μ) i)))))
abbrev VGL (A : Nat → Nat) (B : Nat → Nat) (G : Nat → Nat) (μ : VGS) : List Nat := [A 0, A 1, A 2, (vg_u1 μ) 0, (vg_u1 μ) 1, (vg_u1 μ) 2, (vg_u2 μ) 0, (vg_u2 μ) 1, (vg_u2 μ) 2, G 0, G 1] ++ (List.range 65).map (fun i => B i)

abbrev RDS : Type := (Int32) × (Int32) × (Int32) × (Int64) × (Int32)
abbrev rd_wide (μ : RDS) : Int32 := μ.1
abbrev rd_wide' (μ : RDS) (v : Int32) : RDS := (v, μ.2)
abbrev rd_row (μ : RDS) : Int32 := μ.2.1
abbrev rd_row' (μ : RDS) (v : Int32) : RDS := (μ.1, v, μ.2.2)
abbrev rd_pond (μ : RDS) : Int32 := μ.2.2.1
abbrev rd_pond' (μ : RDS) (v : Int32) : RDS := (μ.1, μ.2.1, v, μ.2.2.2)
abbrev rd_walls (μ : RDS) : Int64 := μ.2.2.2.1
abbrev rd_walls' (μ : RDS) (v : Int64) : RDS := (μ.1, μ.2.1, μ.2.2.1, v, μ.2.2.2.2)
abbrev rd_column (μ : RDS) : Int32 := μ.2.2.2.2
abbrev rd_column' (μ : RDS) (v : Int32) : RDS := (μ.1, μ.2.1, μ.2.2.1, μ.2.2.2.1, v)
abbrev RDW (r0 : Nat) (t : Nat → ClassId) (μ : RDS) : va_W := [(r0, .inr (4, [.int (rd_wide μ), .int (rd_row μ), .int (rd_pond μ), .long (rd_walls μ), .int (rd_column μ)]))]
abbrev RDL (r0 : Nat) : List Nat := [r0]

abbrev BS : Type := (Int32) × (Nat → Int32)
abbrev b_length (μ : BS) : Int32 := μ.1
abbrev b_length' (μ : BS) (v : Int32) : BS := (v, μ.2)
abbrev b_codes (μ : BS) : Nat → Int32 := μ.2
abbrev b_codes' (μ : BS) (v : Nat → Int32) : BS := (μ.1, v)
abbrev BW (E : Nat → Nat) (t : Nat → ClassId) (μ : BS) : va_W := [(E 0, .inr (1, [.int (b_length μ), .ref (E 1)])), (E 1, .inl (t 0, (71, .inl (b_codes μ))))]
abbrev BL (E : Nat → Nat) : List Nat := [E 0, E 1]

abbrev BRS : Type := (Int32) × (Nat → Int32) × (Int32) × (Int32) × (Int32) × (Int64) × (Int32)
abbrev br_length (μ : BRS) : Int32 := μ.1
abbrev br_length' (μ : BRS) (v : Int32) : BRS := (v, μ.2)
abbrev br_codes (μ : BRS) : Nat → Int32 := μ.2.1
abbrev br_codes' (μ : BRS) (v : Nat → Int32) : BRS := (μ.1, v, μ.2.2)
abbrev br_wide (μ : BRS) : Int32 := μ.2.2.1
abbrev br_wide' (μ : BRS) (v : Int32) : BRS := (μ.1, μ.2.1, v, μ.2.2.2)
abbrev br_row (μ : BRS) : Int32 := μ.2.2.2.1
abbrev br_row' (μ : BRS) (v : Int32) : BRS := (μ.1, μ.2.1, μ.2.2.1, v, μ.2.2.2.2)
abbrev br_pond (μ : BRS) : Int32 := μ.2.2.2.2.1
abbrev br_pond' (μ : BRS) (v : Int32) : BRS := (μ.1, μ.2.1, μ.2.2.1, μ.2.2.2.1, v, μ.2.2.2.2.2)
abbrev br_walls (μ : BRS) : Int64 := μ.2.2.2.2.2.1
abbrev br_walls' (μ : BRS) (v : Int64) : BRS := (μ.1, μ.2.1, μ.2.2.1, μ.2.2.2.1, μ.2.2.2.2.1, v, μ.2.2.2.2.2.2)
abbrev br_column (μ : BRS) : Int32 := μ.2.2.2.2.2.2
abbrev br_column' (μ : BRS) (v : Int32) : BRS := (μ.1, μ.2.1, μ.2.2.1, μ.2.2.2.1, μ.2.2.2.2.1, μ.2.2.2.2.2.1, v)
abbrev BRW (E : Nat → Nat) (r0 : Nat) (t : Nat → ClassId) (μ : BRS) : va_W := [(E 0, .inr (1, [.int (br_length μ), .ref (E 1)])), (E 1, .inl (t 0, (71, .inl (br_codes μ)))), (r0, .inr (4, [.int (br_wide μ), .int (br_row μ), .int (br_pond μ), .long (br_walls μ), .int (br_column μ)]))]
abbrev BRL (E : Nat → Nat) (r0 : Nat) : List Nat := [E 0, E 1, r0]

abbrev FS : Type := Nat → Int32
abbrev FW (a0 : Nat) (t : Nat → ClassId) (μ : FS) : va_W := [(a0, .inl (t 0, (512, .inl μ)))]
abbrev FL (a0 : Nat) : List Nat := [a0]
theorem row_V {A : Nat → Nat} {B : Nat → Nat} {t : Nat → ClassId} {μ : VS} {k : Nat} (hk : k < 65) : (VW A B t μ)[9 + k]? = some (B k, .inl (t 0, (512, .inl ((v_rest μ) k)))) := grid_get (f := fun i => (B i, .inl (t 0, (512, .inl ((v_rest μ) i))))) rfl hk
theorem rowset_V {A : Nat → Nat} {B : Nat → Nat} {t : Nat → ClassId} {μ : VS} {k : Nat} {x : Nat → Int32} (hk : k < 65) : (VW A B t μ).set (9 + k) (B k, .inl (t 0, (512, .inl x))) = (VW A B t (v_rest' μ (va_up (v_rest μ) k x))) := by
  have h := grid_set (f := fun i => (B i, .inl (t 0, (512, .inl ((v_rest μ) i))))) (g := fun i => (B i, .inl (t 0, (512, .inl (va_up (v_rest μ) k x i))))) (fx := [(A 0, .inr (3, [.ref (A 2), .ref (A 1), .ref ((v_u1 μ) 0), .ref ((v_u2 μ) 0)])), (A 1, .inl (t 0, (4, .inl (v_takes μ)))), (A 2, .inl (t 5, (65, .inr (.inr (.inr (.inr (fun i => if i < 65 then some (B i) else none))))))), ((v_u1 μ) 0, .inr (6, [.int (v_hsz μ), .ref ((v_u1 μ) 1), .ref ((v_u1 μ) 2)])), ((v_u1 μ) 1, .inl (t 0, (512, .inl (v_hwin μ)))), ((v_u1 μ) 2, .inl (t 0, (512, .inl (v_hway μ)))), ((v_u2 μ) 0, .inr (6, [.int (v_nsz μ), .ref ((v_u2 μ) 1), .ref ((v_u2 μ) 2)])), ((v_u2 μ) 1, .inl (t 0, (512, .inl (v_nwin μ)))), ((v_u2 μ) 2, .inl (t 0, (512, .inl (v_nway μ))))]) (m := 9) rfl hk (fun j hj => by simp only [va_up, if_neg hj])
  simp only [va_up, if_true] at h
  exact h

theorem row_VG {A : Nat → Nat} {B : Nat → Nat} {G : Nat → Nat} {t : Nat → ClassId} {μ : VGS} {k : Nat} (hk : k < 65) : (VGW A B G t μ)[11 + k]? = some (B k, .inl (t 0, (512, .inl ((vg_rest μ) k)))) := grid_get (f := fun i => (B i, .inl (t 0, (512, .inl ((vg_rest μ) i))))) rfl hk
theorem rowset_VG {A : Nat → Nat} {B : Nat → Nat} {G : Nat → Nat} {t : Nat → ClassId} {μ : VGS} {k : Nat} {x : Nat → Int32} (hk : k < 65) : (VGW A B G t μ).set (11 + k) (B k, .inl (t 0, (512, .inl x))) = (VGW A B G t (vg_rest' μ (va_up (vg_rest μ) k x))) := by
  have h := grid_set (f := fun i => (B i, .inl (t 0, (512, .inl ((vg_rest μ) i))))) (g := fun i => (B i, .inl (t 0, (512, .inl (va_up (vg_rest μ) k x i))))) (fx := [(A 0, .inr (3, [.ref (A 2), .ref (A 1), .ref ((vg_u1 μ) 0), .ref ((vg_u2 μ) 0)])), (A 1, .inl (t 0, (4, .inl (vg_takes μ)))), (A 2, .inl (t 5, (65, .inr (.inr (.inr (.inr (fun i => if i < 65 then some (B i) else none))))))), ((vg_u1 μ) 0, .inr (6, [.int (vg_hsz μ), .ref ((vg_u1 μ) 1), .ref ((vg_u1 μ) 2)])), ((vg_u1 μ) 1, .inl (t 0, (512, .inl (vg_hwin μ)))), ((vg_u1 μ) 2, .inl (t 0, (512, .inl (vg_hway μ)))), ((vg_u2 μ) 0, .inr (6, [.int (vg_nsz μ), .ref ((vg_u2 μ) 1), .ref ((vg_u2 μ) 2)])), ((vg_u2 μ) 1, .inl (t 0, (512, .inl (vg_nwin μ)))), ((vg_u2 μ) 2, .inl (t 0, (512, .inl (vg_nway μ)))), (G 0, .inr (2, [.int (vg_wide μ), .int (vg_high μ), .int (vg_pond μ), .long (vg_walls μ), .long (vg_paved μ), .int (vg_tc μ), .int (vg_flips μ), .int (vg_refused μ), .ref (G 1)])), (G 1, .inl (t 0, (21, .inl (vg_names μ))))]) (m := 11) rfl hk (fun j hj => by simp only [va_up, if_neg hj])
  simp only [va_up, if_true] at h
  exact h
theorem sub_V_Fr {A B : Nat → Nat} {t : Nat → ClassId} {μ : VS} {D : va_G} {H : Heap} {k : Nat} (hk : k < 65) (h : va_P D vwCl (VW A B t μ) H) : va_P D vwCl (FW (B k) t (v_rest μ k)) H := h.mem (fun i q hq => by
  rcases i with _ | i
  · exact ⟨9 + k, (row_V hk).trans hq⟩
  · cases hq)
theorem subD_V_Fr {A B : Nat → Nat} {t : Nat → ClassId} {μ : VS} {A0 : Nat → Prop} {k : Nat} (hk : k < 65) (h : va_D A0 (VW A B t μ)) : va_D A0 (FW (B k) t (v_rest μ k)) := h.sub [9 + k] rfl (by rw [List.map_cons, row_V hk]; rfl)
theorem back_V_Fr {A B : Nat → Nat} {t : Nat → ClassId} {μ : VS} {ν : FS} {A0 : Nat → Prop} {D : va_G} {H H1 : Heap} {k : Nat} (hk0 : k < 65) (hP : va_P D vwCl (VW A B t μ) H) (hD : va_D A0 (VW A B t μ)) (hk : ∀ q : Nat, q < H.size → ¬ OA (FL (B k)) H.size q → H1[q]? = H[q]?) (hP1 : va_P D vwCl (FW (B k) t ν) H1) : va_P D vwCl (VW A B t (v_rest' μ (va_up (v_rest μ) k ν))) H1 ∧ va_D A0 (VW A B t (v_rest' μ (va_up (v_rest μ) k ν))) := by
  refine va_backP (fun i => i = 9 + k) hP hD ?_ ?_ ?_ hk hP1
  · intro a h
    rw [List.mem_singleton.mp h]
    exact ⟨9 + k, _, rfl, row_V hk0, rfl⟩
  · intro i q hq
    by_cases hi : i < 9
    · refine Or.inr ⟨by omega, ?_⟩
      rcases i with _ | _ | _ | _ | _ | _ | _ | _ | _ | i
      · exact hq
      · exact hq
      · exact hq
      · exact hq
      · exact hq
      · exact hq
      · exact hq
      · exact hq
      · exact hq
      · omega
    · obtain ⟨j, h1, h2, rfl⟩ := grid_in (by simp; omega) hq
      simp only [List.length_cons, List.length_nil] at h2
      by_cases hj : j = k
      · subst hj
        refine Or.inl ⟨by omega, ?_⟩
        simp [va_up, v_rest, v_rest']
      · refine Or.inr ⟨by omega, ?_⟩
        rw [show i = 9 + j by omega, row_V h1]
        simp only [va_up, v_rest, v_rest', if_neg hj]
  · simp only [List.map_append, List.map_map, List.map_cons, List.map_nil]
    rfl
theorem sub_V_PH {A B : Nat → Nat} {t : Nat → ClassId} {μ : VS} {D : va_G} {H : Heap} {j k : Nat} (hj : j < 65) (hk : k < 65) (h : va_P D vwCl (VW A B t μ) H) : va_P D vwCl (PHW A (B j) (B k) t (v_takes μ, v_u1 μ, v_u2 μ, v_rest μ j, v_rest μ k)) H := h.mem (fun i q hq => by
  rcases i with _ | _ | _ | _ | i
  · exact ⟨0, hq⟩
  · exact ⟨1, hq⟩
  · exact ⟨9 + j, (row_V hj).trans hq⟩
  · exact ⟨9 + k, (row_V hk).trans hq⟩
  · cases hq)
theorem subD_V_PH {A B : Nat → Nat} {t : Nat → ClassId} {μ : VS} {A0 : Nat → Prop} {j k : Nat} (hj : j < 65) (hk : k < 65) (hn : ¬ j = k) (h : va_D A0 (VW A B t μ)) : va_D A0 (PHW A (B j) (B k) t (v_takes μ, v_u1 μ, v_u2 μ, v_rest μ j, v_rest μ k)) := h.sub [0, 1, 9 + j, 9 + k] (by
  have h1 : ¬ (0 = 9 + j) := by omega
  have h2 : ¬ (0 = 9 + k) := by omega
  have h3 : ¬ (1 = 9 + j) := by omega
  have h4 : ¬ (1 = 9 + k) := by omega
  simp [va_nd, hn, h1, h2, h3, h4]) (by
  simp only [List.map_cons, List.map_nil, row_V hj, row_V hk]
  rfl)
theorem back_V_PH {A B : Nat → Nat} {t : Nat → ClassId} {μ : VS} {x : Nat → Int32} {A0 : Nat → Prop} {D : va_G} {H H1 : Heap} {j k : Nat} (hj : j < 65) (hk9 : k < 65) (hn : ¬ j = k) (hP : va_P D vwCl (VW A B t μ) H) (hD : va_D A0 (VW A B t μ)) (hk : ∀ q : Nat, q < H.size → ¬ OA (PHL A (B j) (B k)) H.size q → H1[q]? = H[q]?) (hP1 : va_P D vwCl (PHW A (B j) (B k) t (v_takes μ, v_u1 μ, v_u2 μ, x, v_rest μ k)) H1) : va_P D vwCl (VW A B t (v_rest' μ (va_up (v_rest μ) j x))) H1 ∧ va_D A0 (VW A B t (v_rest' μ (va_up (v_rest μ) j x))) := by
  refine va_backP (fun i => i = 0 ∨ i = 1 ∨ i = 9 + j ∨ i = 9 + k) hP hD ?_ ?_ ?_ hk hP1
  · intro a h
    simp only [List.mem_cons, List.not_mem_nil, or_false] at h
    rcases h with rfl | rfl | rfl | rfl
    · exact ⟨0, _, by simp, rfl, rfl⟩
    · exact ⟨1, _, by simp, rfl, rfl⟩
    · exact ⟨9 + j, _, by simp, row_V hj, rfl⟩
    · exact ⟨9 + k, _, by simp, row_V hk9, rfl⟩
  · intro i q hq
    by_cases hi : i < 9
    · rcases i with _ | _ | _ | _ | _ | _ | _ | _ | _ | i
      · exact Or.inl ⟨by simp, List.mem_of_getElem? (i := 0) hq⟩
      · exact Or.inl ⟨by simp, List.mem_of_getElem? (i := 1) hq⟩
      · exact Or.inr ⟨by omega, hq⟩
      · exact Or.inr ⟨by omega, hq⟩
      · exact Or.inr ⟨by omega, hq⟩
      · exact Or.inr ⟨by omega, hq⟩
      · exact Or.inr ⟨by omega, hq⟩
      · exact Or.inr ⟨by omega, hq⟩
      · exact Or.inr ⟨by omega, hq⟩
      · omega
    · obtain ⟨a, h1, h2, rfl⟩ := grid_in (by simp; omega) hq
      simp only [List.length_cons, List.length_nil] at h2
      by_cases hj : a = j
      · subst hj
        refine Or.inl ⟨by omega, ?_⟩
        simp [va_up, v_rest, v_rest', ph_hr, ph_nx]
      · by_cases hk : a = k
        · subst hk
          refine Or.inl ⟨by omega, ?_⟩
          simp [va_up, v_rest, v_rest', ph_hr, ph_nx, hj]
        · refine Or.inr ⟨by omega, ?_⟩
          rw [show i = 9 + a by omega, row_V h1]
          simp only [va_up, v_rest, v_rest', if_neg hj]
  · simp only [List.map_append, List.map_map, List.map_cons, List.map_nil]
    rfl
abbrev swV (μ : VS) : VS := (v_rest μ, v_takes μ, v_u2 μ, v_u1 μ, v_nsz μ, v_nwin μ, v_nway μ, v_hsz μ, v_hwin μ, v_hway μ)
theorem swap_V {A B : Nat → Nat} {t : Nat → ClassId} {μ : VS} {D : va_G} {H : Heap} {x : Nat × va_E} (h : va_P D vwCl (((VW A B t μ).set 0 x).set 0 (A 0, .inr (3, [.ref (A 2), .ref (A 1), .ref (v_u2 μ 0), .ref (v_u1 μ 0)]))) H) : va_P D vwCl (VW A B t (swV μ)) H := h.mem (fun i q hq => by
  rcases i with _ | _ | _ | _ | _ | _ | _ | _ | _ | i
  · exact ⟨0, hq⟩
  · exact ⟨1, hq⟩
  · exact ⟨2, hq⟩
  · exact ⟨6, hq⟩
  · exact ⟨7, hq⟩
  · exact ⟨8, hq⟩
  · exact ⟨3, hq⟩
  · exact ⟨4, hq⟩
  · exact ⟨5, hq⟩
  · exact ⟨i + 9, hq⟩)
theorem swap_VD {A B : Nat → Nat} {t : Nat → ClassId} {μ : VS} {A0 : Nat → Prop} {x : Nat × va_E} (h : va_D A0 (((VW A B t μ).set 0 x).set 0 (A 0, .inr (3, [.ref (A 2), .ref (A 1), .ref (v_u2 μ 0), .ref (v_u1 μ 0)])))) : va_D A0 (VW A B t (swV μ)) := by
  have key : ∀ (i : Nat) (q : Nat × va_E), (VW A B t (swV μ))[i]? = some q → (((VW A B t μ).set 0 x).set 0 (A 0, .inr (3, [.ref (A 2), .ref (A 1), .ref (v_u2 μ 0), .ref (v_u1 μ 0)])))[if i < 3 then i else if i < 6 then i + 3 else if i < 9 then i - 3 else i]? = some q := by
    intro i q hq
    rcases i with _ | _ | _ | _ | _ | _ | _ | _ | _ | i
    · exact hq
    · exact hq
    · exact hq
    · exact hq
    · exact hq
    · exact hq
    · exact hq
    · exact hq
    · exact hq
    · rw [if_neg (by omega), if_neg (by omega), if_neg (by omega)]
      exact hq
  refine ⟨fun i j p q hi hj hpq => ?_, fun k q hq => h.2 _ q (key k q hq)⟩
  have e := h.1 _ _ p q (key i p hi) (key j q hj) hpq
  repeat' split at e
  all_goals omega

theorem va_D.mem {A0 : Nat → Prop} {ws ws' : va_W} (hD : va_D A0 ws) (m : Nat → Nat) (hm : ∀ i j, m i = m j → i = j) (h : ∀ (i : Nat) (q : Nat × va_E), ws'[i]? = some q → ws[m i]? = some q) : va_D A0 ws' :=
  ⟨fun i j p q hi hj e => hm i j (hD.1 _ _ p q (h i p hi) (h j q hj) e), fun k q hq => hD.2 _ q (h k q hq)⟩
/-- as va_backP, where the callee's cells may lie at other addresses now -/
theorem va_backQ {A0 : Nat → Prop} {D : va_G} {ws w1 ws' : va_W} {Lc : List Nat} {H H1 : Heap} (C : Nat → Prop) (m : Nat → Nat) (hP : va_P D vwCl ws H) (hD : va_D A0 ws) (hL : ∀ a ∈ Lc, ∃ (j : Nat) (p : Nat × va_E), C j ∧ ws[j]? = some p ∧ p.1 = a)
    (h : ∀ (i : Nat) (q : Nat × va_E), ws'[i]? = some q → (C i ∧ w1[m i]? = some q) ∨ (¬ C i ∧ ws[i]? = some q)) (hm : ∀ i j, C i → C j → m i = m j → i = j) (hA : ∀ q, OA Lc H.size q → A0 q) (hk : ∀ q : Nat, q < H.size → ¬ OA Lc H.size q → H1[q]? = H[q]?) (hP1 : va_P D vwCl w1 H1) (hD1 : va_D (OA Lc H.size) w1) : va_P D vwCl ws' H1 ∧ va_D A0 ws' := by
  have out : ∀ (i : Nat) (q : Nat × va_E), ¬ C i → ws[i]? = some q → q.1 < H.size ∧ ¬ OA Lc H.size q.1 := by
    intro i q hc hw
    have hlt := (hP i q hw).lt
    refine ⟨hlt, ?_⟩
    rintro (z | z)
    · obtain ⟨j, p, h1, h2, h3⟩ := hL _ z
      have hij := hD.1 j i p q h2 hw h3
      subst hij
      exact hc h1
    · omega
  refine ⟨fun i q hq => ?_, fun i j p q hi hj e => ?_, fun k q hq => ?_⟩
  · rcases h i q hq with ⟨-, hw⟩ | ⟨hc, hw⟩
    · exact hP1 _ q hw
    · obtain ⟨h1, h2⟩ := out i q hc hw
      exact (hP i q hw).kept (hk q.1 h1 h2)
  · rcases h i p hi with ⟨c1, w1'⟩ | ⟨c1, w1'⟩ <;> rcases h j q hj with ⟨c2, w2'⟩ | ⟨c2, w2'⟩
    · exact hm i j c1 c2 (hD1.1 _ _ p q w1' w2' e)
    · exact absurd (e ▸ hD1.2 _ p w1') (out j q c2 w2').2
    · exact absurd (e.symm ▸ hD1.2 _ q w2') (out i p c1 w1').2
    · exact hD.1 i j p q w1' w2' e
  · rcases h k q hq with ⟨-, hw⟩ | ⟨-, hw⟩
    · exact hA _ (hD1.2 _ q hw)
    · exact hD.2 k q hw
theorem sub_BR_B {E : Nat → Nat} {r0 : Nat} {t : Nat → ClassId} {μ : BRS} {D : va_G} {H : Heap} (h : va_P D vwCl (BRW E r0 t μ) H) : va_P D vwCl (BW E t ((br_length μ), (br_codes μ))) H := h.sub [0, 1] rfl
theorem subD_BR_B {E : Nat → Nat} {r0 : Nat} {t : Nat → ClassId} {μ : BRS} {A0 : Nat → Prop} (h : va_D A0 (BRW E r0 t μ)) : va_D A0 (BW E t ((br_length μ), (br_codes μ))) := h.sub [0, 1] (by decide) rfl
theorem back_BR_B {E : Nat → Nat} {r0 : Nat} {t : Nat → ClassId} {μ : BRS} {ν : BS} {A0 : Nat → Prop} {D : va_G} {H H1 : Heap} (hP : va_P D vwCl (BRW E r0 t μ) H) (hD : va_D A0 (BRW E r0 t μ)) (hk : ∀ q : Nat, q < H.size → ¬ OA (BL E) H.size q → H1[q]? = H[q]?) (hP1 : va_P D vwCl (BW E t ν) H1) : va_P D vwCl (BRW E r0 t (br_codes' (br_length' μ (b_length ν)) (b_codes ν))) H1 ∧ va_D A0 (BRW E r0 t (br_codes' (br_length' μ (b_length ν)) (b_codes ν))) := by
  refine va_backP (fun i => i = 0 ∨ i = 1) hP hD ?_ ?_ rfl hk hP1
  · intro a h
    simp only [List.mem_cons, List.not_mem_nil, or_false] at h
    rcases h with rfl | rfl
    · exact ⟨0, _, by simp, rfl, rfl⟩
    · exact ⟨1, _, by simp, rfl, rfl⟩
  · intro i q hq
    rcases i with _ | _ | _ | i
    · exact Or.inl ⟨by simp, List.mem_of_getElem? (i := 0) hq⟩
    · exact Or.inl ⟨by simp, List.mem_of_getElem? (i := 1) hq⟩
    · exact Or.inr ⟨by omega, hq⟩
    · exact Or.inr ⟨by omega, hq⟩

theorem sub_BR_RD {E : Nat → Nat} {r0 : Nat} {t : Nat → ClassId} {μ : BRS} {D : va_G} {H : Heap} (h : va_P D vwCl (BRW E r0 t μ) H) : va_P D vwCl (RDW r0 t ((br_wide μ), (br_row μ), (br_pond μ), (br_walls μ), (br_column μ))) H := h.sub [2] rfl
theorem subD_BR_RD {E : Nat → Nat} {r0 : Nat} {t : Nat → ClassId} {μ : BRS} {A0 : Nat → Prop} (h : va_D A0 (BRW E r0 t μ)) : va_D A0 (RDW r0 t ((br_wide μ), (br_row μ), (br_pond μ), (br_walls μ), (br_column μ))) := h.sub [2] (by decide) rfl
theorem back_BR_RD {E : Nat → Nat} {r0 : Nat} {t : Nat → ClassId} {μ : BRS} {ν : RDS} {A0 : Nat → Prop} {D : va_G} {H H1 : Heap} (hP : va_P D vwCl (BRW E r0 t μ) H) (hD : va_D A0 (BRW E r0 t μ)) (hk : ∀ q : Nat, q < H.size → ¬ OA (RDL r0) H.size q → H1[q]? = H[q]?) (hP1 : va_P D vwCl (RDW r0 t ν) H1) : va_P D vwCl (BRW E r0 t (br_column' (br_walls' (br_pond' (br_row' (br_wide' μ (rd_wide ν)) (rd_row ν)) (rd_pond ν)) (rd_walls ν)) (rd_column ν))) H1 ∧ va_D A0 (BRW E r0 t (br_column' (br_walls' (br_pond' (br_row' (br_wide' μ (rd_wide ν)) (rd_row ν)) (rd_pond ν)) (rd_walls ν)) (rd_column ν))) := by
  refine va_backP (fun i => i = 2) hP hD ?_ ?_ rfl hk hP1
  · intro a h
    simp only [List.mem_cons, List.not_mem_nil, or_false] at h
    rcases h with rfl
    · exact ⟨2, _, by simp, rfl, rfl⟩
  · intro i q hq
    rcases i with _ | _ | _ | i
    · exact Or.inr ⟨by omega, hq⟩
    · exact Or.inr ⟨by omega, hq⟩
    · exact Or.inl ⟨by simp, List.mem_of_getElem? (i := 0) hq⟩
    · exact Or.inr ⟨by omega, hq⟩

theorem sub_V_RE_h {A : Nat → Nat} {B : Nat → Nat} {t : Nat → ClassId} {μ : VS} {D : va_G} {H : Heap} (h : va_P D vwCl (VW A B t μ) H) : va_P D vwCl (REW (v_u1 μ) t ((v_hsz μ), (v_hwin μ), (v_hway μ))) H := h.sub [3, 4, 5] rfl
theorem subD_V_RE_h {A : Nat → Nat} {B : Nat → Nat} {t : Nat → ClassId} {μ : VS} {A0 : Nat → Prop} (h : va_D A0 (VW A B t μ)) : va_D A0 (REW (v_u1 μ) t ((v_hsz μ), (v_hwin μ), (v_hway μ))) := h.sub [3, 4, 5] (by decide) rfl
theorem back_V_RE_h {A : Nat → Nat} {B : Nat → Nat} {t : Nat → ClassId} {μ : VS} {ν : RES} {A0 : Nat → Prop} {D : va_G} {H H1 : Heap} (hP : va_P D vwCl (VW A B t μ) H) (hD : va_D A0 (VW A B t μ)) (hk : ∀ q : Nat, q < H.size → ¬ OA (REL (v_u1 μ)) H.size q → H1[q]? = H[q]?) (hP1 : va_P D vwCl (REW (v_u1 μ) t ν) H1) : va_P D vwCl (VW A B t (v_hway' (v_hwin' (v_hsz' μ (re_size ν)) (re_win ν)) (re_way ν))) H1 ∧ va_D A0 (VW A B t (v_hway' (v_hwin' (v_hsz' μ (re_size ν)) (re_win ν)) (re_way ν))) := by
  refine va_backP (fun i => i = 3 ∨ i = 4 ∨ i = 5) hP hD ?_ ?_ rfl hk hP1
  · intro a h
    simp only [List.mem_cons, List.not_mem_nil, or_false] at h
    rcases h with rfl | rfl | rfl
    · exact ⟨3, _, by simp, rfl, rfl⟩
    · exact ⟨4, _, by simp, rfl, rfl⟩
    · exact ⟨5, _, by simp, rfl, rfl⟩
  · intro i q hq
    rcases i with _ | _ | _ | _ | _ | _ | _ | _ | _ | i
    · exact Or.inr ⟨by omega, hq⟩
    · exact Or.inr ⟨by omega, hq⟩
    · exact Or.inr ⟨by omega, hq⟩
    · exact Or.inl ⟨by simp, List.mem_of_getElem? (i := 0) hq⟩
    · exact Or.inl ⟨by simp, List.mem_of_getElem? (i := 1) hq⟩
    · exact Or.inl ⟨by simp, List.mem_of_getElem? (i := 2) hq⟩
    · exact Or.inr ⟨by omega, hq⟩
    · exact Or.inr ⟨by omega, hq⟩
    · exact Or.inr ⟨by omega, hq⟩
    · exact Or.inr ⟨by omega, hq⟩

theorem sub_V_P {A : Nat → Nat} {B : Nat → Nat} {t : Nat → ClassId} {μ : VS} {D : va_G} {H : Heap} (h : va_P D vwCl (VW A B t μ) H) : va_P D vwCl (PW A t ((v_takes μ), (v_u1 μ), (v_u2 μ))) H := h.sub [0, 1] rfl
theorem subD_V_P {A : Nat → Nat} {B : Nat → Nat} {t : Nat → ClassId} {μ : VS} {A0 : Nat → Prop} (h : va_D A0 (VW A B t μ)) : va_D A0 (PW A t ((v_takes μ), (v_u1 μ), (v_u2 μ))) := h.sub [0, 1] (by decide) rfl
theorem back_V_P {A : Nat → Nat} {B : Nat → Nat} {t : Nat → ClassId} {μ : VS} {x9takes : Nat → Int32} {A0 : Nat → Prop} {D : va_G} {H H1 : Heap} (hP : va_P D vwCl (VW A B t μ) H) (hD : va_D A0 (VW A B t μ)) (hk : ∀ q : Nat, q < H.size → ¬ OA (PL A) H.size q → H1[q]? = H[q]?) (hP1 : va_P D vwCl (PW A t (x9takes, (v_u1 μ), (v_u2 μ))) H1) : va_P D vwCl (VW A B t (v_takes' μ x9takes)) H1 ∧ va_D A0 (VW A B t (v_takes' μ x9takes)) := by
  refine va_backP (fun i => i = 0 ∨ i = 1) hP hD ?_ ?_ rfl hk hP1
  · intro a h
    simp only [List.mem_cons, List.not_mem_nil, or_false] at h
    rcases h with rfl | rfl
    · exact ⟨0, _, by simp, rfl, rfl⟩
    · exact ⟨1, _, by simp, rfl, rfl⟩
  · intro i q hq
    rcases i with _ | _ | _ | _ | _ | _ | _ | _ | _ | i
    · exact Or.inl ⟨by simp, List.mem_of_getElem? (i := 0) hq⟩
    · exact Or.inl ⟨by simp, List.mem_of_getElem? (i := 1) hq⟩
    · exact Or.inr ⟨by omega, hq⟩
    · exact Or.inr ⟨by omega, hq⟩
    · exact Or.inr ⟨by omega, hq⟩
    · exact Or.inr ⟨by omega, hq⟩
    · exact Or.inr ⟨by omega, hq⟩
    · exact Or.inr ⟨by omega, hq⟩
    · exact Or.inr ⟨by omega, hq⟩
    · exact Or.inr ⟨by omega, hq⟩

theorem sub_V_RE_n {A : Nat → Nat} {B : Nat → Nat} {t : Nat → ClassId} {μ : VS} {D : va_G} {H : Heap} (h : va_P D vwCl (VW A B t μ) H) : va_P D vwCl (REW (v_u2 μ) t ((v_nsz μ), (v_nwin μ), (v_nway μ))) H := h.sub [6, 7, 8] rfl
theorem subD_V_RE_n {A : Nat → Nat} {B : Nat → Nat} {t : Nat → ClassId} {μ : VS} {A0 : Nat → Prop} (h : va_D A0 (VW A B t μ)) : va_D A0 (REW (v_u2 μ) t ((v_nsz μ), (v_nwin μ), (v_nway μ))) := h.sub [6, 7, 8] (by decide) rfl
theorem back_V_RE_n {A : Nat → Nat} {B : Nat → Nat} {t : Nat → ClassId} {μ : VS} {ν : RES} {A0 : Nat → Prop} {D : va_G} {H H1 : Heap} (hP : va_P D vwCl (VW A B t μ) H) (hD : va_D A0 (VW A B t μ)) (hk : ∀ q : Nat, q < H.size → ¬ OA (REL (v_u2 μ)) H.size q → H1[q]? = H[q]?) (hP1 : va_P D vwCl (REW (v_u2 μ) t ν) H1) : va_P D vwCl (VW A B t (v_nway' (v_nwin' (v_nsz' μ (re_size ν)) (re_win ν)) (re_way ν))) H1 ∧ va_D A0 (VW A B t (v_nway' (v_nwin' (v_nsz' μ (re_size ν)) (re_win ν)) (re_way ν))) := by
  refine va_backP (fun i => i = 6 ∨ i = 7 ∨ i = 8) hP hD ?_ ?_ rfl hk hP1
  · intro a h
    simp only [List.mem_cons, List.not_mem_nil, or_false] at h
    rcases h with rfl | rfl | rfl
    · exact ⟨6, _, by simp, rfl, rfl⟩
    · exact ⟨7, _, by simp, rfl, rfl⟩
    · exact ⟨8, _, by simp, rfl, rfl⟩
  · intro i q hq
    rcases i with _ | _ | _ | _ | _ | _ | _ | _ | _ | i
    · exact Or.inr ⟨by omega, hq⟩
    · exact Or.inr ⟨by omega, hq⟩
    · exact Or.inr ⟨by omega, hq⟩
    · exact Or.inr ⟨by omega, hq⟩
    · exact Or.inr ⟨by omega, hq⟩
    · exact Or.inr ⟨by omega, hq⟩
    · exact Or.inl ⟨by simp, List.mem_of_getElem? (i := 0) hq⟩
    · exact Or.inl ⟨by simp, List.mem_of_getElem? (i := 1) hq⟩
    · exact Or.inl ⟨by simp, List.mem_of_getElem? (i := 2) hq⟩
    · exact Or.inr ⟨by omega, hq⟩

theorem sub_PN_P {A : Nat → Nat} {n0 : Nat} {t : Nat → ClassId} {μ : PNS} {D : va_G} {H : Heap} (h : va_P D vwCl (PNW A n0 t μ) H) : va_P D vwCl (PW A t ((pn_takes μ), (pn_u1 μ), (pn_u2 μ))) H := h.sub [0, 1] rfl
theorem subD_PN_P {A : Nat → Nat} {n0 : Nat} {t : Nat → ClassId} {μ : PNS} {A0 : Nat → Prop} (h : va_D A0 (PNW A n0 t μ)) : va_D A0 (PW A t ((pn_takes μ), (pn_u1 μ), (pn_u2 μ))) := h.sub [0, 1] (by decide) rfl
theorem back_PN_P {A : Nat → Nat} {n0 : Nat} {t : Nat → ClassId} {μ : PNS} {x9takes : Nat → Int32} {A0 : Nat → Prop} {D : va_G} {H H1 : Heap} (hP : va_P D vwCl (PNW A n0 t μ) H) (hD : va_D A0 (PNW A n0 t μ)) (hk : ∀ q : Nat, q < H.size → ¬ OA (PL A) H.size q → H1[q]? = H[q]?) (hP1 : va_P D vwCl (PW A t (x9takes, (pn_u1 μ), (pn_u2 μ))) H1) : va_P D vwCl (PNW A n0 t (pn_takes' μ x9takes)) H1 ∧ va_D A0 (PNW A n0 t (pn_takes' μ x9takes)) := by
  refine va_backP (fun i => i = 0 ∨ i = 1) hP hD ?_ ?_ rfl hk hP1
  · intro a h
    simp only [List.mem_cons, List.not_mem_nil, or_false] at h
    rcases h with rfl | rfl
    · exact ⟨0, _, by simp, rfl, rfl⟩
    · exact ⟨1, _, by simp, rfl, rfl⟩
  · intro i q hq
    rcases i with _ | _ | _ | i
    · exact Or.inl ⟨by simp, List.mem_of_getElem? (i := 0) hq⟩
    · exact Or.inl ⟨by simp, List.mem_of_getElem? (i := 1) hq⟩
    · exact Or.inr ⟨by omega, hq⟩
    · exact Or.inr ⟨by omega, hq⟩

theorem sub_PH_PN {A : Nat → Nat} {h0 : Nat} {n0 : Nat} {t : Nat → ClassId} {μ : PHS} {D : va_G} {H : Heap} (h : va_P D vwCl (PHW A h0 n0 t μ) H) : va_P D vwCl (PNW A n0 t ((ph_takes μ), (ph_u1 μ), (ph_u2 μ), (ph_nx μ))) H := h.sub [0, 1, 3] rfl
theorem subD_PH_PN {A : Nat → Nat} {h0 : Nat} {n0 : Nat} {t : Nat → ClassId} {μ : PHS} {A0 : Nat → Prop} (h : va_D A0 (PHW A h0 n0 t μ)) : va_D A0 (PNW A n0 t ((ph_takes μ), (ph_u1 μ), (ph_u2 μ), (ph_nx μ))) := h.sub [0, 1, 3] (by decide) rfl
theorem back_PH_PN {A : Nat → Nat} {h0 : Nat} {n0 : Nat} {t : Nat → ClassId} {μ : PHS} {x9takes : Nat → Int32} {x9nx : Nat → Int32} {A0 : Nat → Prop} {D : va_G} {H H1 : Heap} (hP : va_P D vwCl (PHW A h0 n0 t μ) H) (hD : va_D A0 (PHW A h0 n0 t μ)) (hk : ∀ q : Nat, q < H.size → ¬ OA (PNL A n0) H.size q → H1[q]? = H[q]?) (hP1 : va_P D vwCl (PNW A n0 t (x9takes, (ph_u1 μ), (ph_u2 μ), x9nx)) H1) : va_P D vwCl (PHW A h0 n0 t (ph_nx' (ph_takes' μ x9takes) x9nx)) H1 ∧ va_D A0 (PHW A h0 n0 t (ph_nx' (ph_takes' μ x9takes) x9nx)) := by
  refine va_backP (fun i => i = 0 ∨ i = 1 ∨ i = 3) hP hD ?_ ?_ rfl hk hP1
  · intro a h
    simp only [List.mem_cons, List.not_mem_nil, or_false] at h
    rcases h with rfl | rfl | rfl
    · exact ⟨0, _, by simp, rfl, rfl⟩
    · exact ⟨1, _, by simp, rfl, rfl⟩
    · exact ⟨3, _, by simp, rfl, rfl⟩
  · intro i q hq
    rcases i with _ | _ | _ | _ | i
    · exact Or.inl ⟨by simp, List.mem_of_getElem? (i := 0) hq⟩
    · exact Or.inl ⟨by simp, List.mem_of_getElem? (i := 1) hq⟩
    · exact Or.inr ⟨by omega, hq⟩
    · exact Or.inl ⟨by simp, List.mem_of_getElem? (i := 2) hq⟩
    · exact Or.inr ⟨by omega, hq⟩

theorem sub_VG_G {A : Nat → Nat} {B : Nat → Nat} {G : Nat → Nat} {t : Nat → ClassId} {μ : VGS} {D : va_G} {H : Heap} (h : va_P D vwCl (VGW A B G t μ) H) : va_P D vwCl (GW G t ((vg_wide μ), (vg_high μ), (vg_pond μ), (vg_walls μ), (vg_paved μ), (vg_tc μ), (vg_flips μ), (vg_refused μ), (vg_names μ))) H := h.sub [9, 10] rfl
theorem subD_VG_G {A : Nat → Nat} {B : Nat → Nat} {G : Nat → Nat} {t : Nat → ClassId} {μ : VGS} {A0 : Nat → Prop} (h : va_D A0 (VGW A B G t μ)) : va_D A0 (GW G t ((vg_wide μ), (vg_high μ), (vg_pond μ), (vg_walls μ), (vg_paved μ), (vg_tc μ), (vg_flips μ), (vg_refused μ), (vg_names μ))) := h.sub [9, 10] (by decide) rfl
theorem back_VG_G {A : Nat → Nat} {B : Nat → Nat} {G : Nat → Nat} {t : Nat → ClassId} {μ : VGS} {ν : GS} {A0 : Nat → Prop} {D : va_G} {H H1 : Heap} (hP : va_P D vwCl (VGW A B G t μ) H) (hD : va_D A0 (VGW A B G t μ)) (hk : ∀ q : Nat, q < H.size → ¬ OA (GL G) H.size q → H1[q]? = H[q]?) (hP1 : va_P D vwCl (GW G t ν) H1) : va_P D vwCl (VGW A B G t (vg_rest μ, vg_takes μ, vg_u1 μ, vg_u2 μ, vg_hsz μ, vg_hwin μ, vg_hway μ, vg_nsz μ, vg_nwin μ, vg_nway μ, (g_wide ν), (g_high ν), (g_pond ν), (g_walls ν), (g_paved ν), (g_tc ν), (g_flips ν), (g_refused ν), (g_names ν))) H1 ∧ va_D A0 (VGW A B G t (vg_rest μ, vg_takes μ, vg_u1 μ, vg_u2 μ, vg_hsz μ, vg_hwin μ, vg_hway μ, vg_nsz μ, vg_nwin μ, vg_nway μ, (g_wide ν), (g_high ν), (g_pond ν), (g_walls ν), (g_paved ν), (g_tc ν), (g_flips ν), (g_refused ν), (g_names ν))) := by
  refine va_backP (fun i => i = 9 ∨ i = 10) hP hD ?_ ?_ rfl hk hP1
  · intro a h
    simp only [List.mem_cons, List.not_mem_nil, or_false] at h
    rcases h with rfl | rfl
    · exact ⟨9, _, by simp, rfl, rfl⟩
    · exact ⟨10, _, by simp, rfl, rfl⟩
  · intro i q hq
    rcases i with _ | _ | _ | _ | _ | _ | _ | _ | _ | _ | _ | i
    · exact Or.inr ⟨by omega, hq⟩
    · exact Or.inr ⟨by omega, hq⟩
    · exact Or.inr ⟨by omega, hq⟩
    · exact Or.inr ⟨by omega, hq⟩
    · exact Or.inr ⟨by omega, hq⟩
    · exact Or.inr ⟨by omega, hq⟩
    · exact Or.inr ⟨by omega, hq⟩
    · exact Or.inr ⟨by omega, hq⟩
    · exact Or.inr ⟨by omega, hq⟩
    · exact Or.inl ⟨by simp, List.mem_of_getElem? (i := 0) hq⟩
    · exact Or.inl ⟨by simp, List.mem_of_getElem? (i := 1) hq⟩
    · exact Or.inr ⟨by omega, hq⟩

theorem sub_VG_V {A : Nat → Nat} {B : Nat → Nat} {G : Nat → Nat} {t : Nat → ClassId} {μ : VGS} {D : va_G} {H : Heap} (h : va_P D vwCl (VGW A B G t μ) H) : va_P D vwCl (VW A B t ((vg_rest μ), (vg_takes μ), (vg_u1 μ), (vg_u2 μ), (vg_hsz μ), (vg_hwin μ), (vg_hway μ), (vg_nsz μ), (vg_nwin μ), (vg_nway μ))) H := h.mem (fun i q hq => by
  rcases i with _ | _ | _ | _ | _ | _ | _ | _ | _ | i
  · exact ⟨0, hq⟩
  · exact ⟨1, hq⟩
  · exact ⟨2, hq⟩
  · exact ⟨3, hq⟩
  · exact ⟨4, hq⟩
  · exact ⟨5, hq⟩
  · exact ⟨6, hq⟩
  · exact ⟨7, hq⟩
  · exact ⟨8, hq⟩
  · obtain ⟨k, h1, -, rfl⟩ := grid_in (by simp) hq
    exact ⟨11 + k, grid_get rfl h1⟩)
theorem subD_VG_V {A : Nat → Nat} {B : Nat → Nat} {G : Nat → Nat} {t : Nat → ClassId} {μ : VGS} {A0 : Nat → Prop} (h : va_D A0 (VGW A B G t μ)) : va_D A0 (VW A B t ((vg_rest μ), (vg_takes μ), (vg_u1 μ), (vg_u2 μ), (vg_hsz μ), (vg_hwin μ), (vg_hway μ), (vg_nsz μ), (vg_nwin μ), (vg_nway μ))) := h.mem (fun i => if i = 0 then 0 else if i = 1 then 1 else if i = 2 then 2 else if i = 3 then 3 else if i = 4 then 4 else if i = 5 then 5 else if i = 6 then 6 else if i = 7 then 7 else if i = 8 then 8 else i + 2) (by
  have inv : ∀ i : Nat, (fun r : Nat => if r = 0 then 0 else if r = 1 then 1 else if r = 2 then 2 else if r = 3 then 3 else if r = 4 then 4 else if r = 5 then 5 else if r = 6 then 6 else if r = 7 then 7 else if r = 8 then 8 else r - 2) ((fun i => if i = 0 then 0 else if i = 1 then 1 else if i = 2 then 2 else if i = 3 then 3 else if i = 4 then 4 else if i = 5 then 5 else if i = 6 then 6 else if i = 7 then 7 else if i = 8 then 8 else i + 2) i) = i := by
    intro i
    rcases i with _ | _ | _ | _ | _ | _ | _ | _ | _ | i
    · rfl
    · rfl
    · rfl
    · rfl
    · rfl
    · rfl
    · rfl
    · rfl
    · rfl
    · have e1 : (fun i => if i = 0 then 0 else if i = 1 then 1 else if i = 2 then 2 else if i = 3 then 3 else if i = 4 then 4 else if i = 5 then 5 else if i = 6 then 6 else if i = 7 then 7 else if i = 8 then 8 else i + 2) (i + 9) = i + 9 + 2 := by
        show (if i + 9 = 0 then 0 else if i + 9 = 1 then 1 else if i + 9 = 2 then 2 else if i + 9 = 3 then 3 else if i + 9 = 4 then 4 else if i + 9 = 5 then 5 else if i + 9 = 6 then 6 else if i + 9 = 7 then 7 else if i + 9 = 8 then 8 else i + 9 + 2) = _
        rw [if_neg (by omega), if_neg (by omega), if_neg (by omega), if_neg (by omega), if_neg (by omega), if_neg (by omega), if_neg (by omega), if_neg (by omega), if_neg (by omega)]
      rw [e1]
      show (if i + 9 + 2 = 0 then 0 else if i + 9 + 2 = 1 then 1 else if i + 9 + 2 = 2 then 2 else if i + 9 + 2 = 3 then 3 else if i + 9 + 2 = 4 then 4 else if i + 9 + 2 = 5 then 5 else if i + 9 + 2 = 6 then 6 else if i + 9 + 2 = 7 then 7 else if i + 9 + 2 = 8 then 8 else i + 9 + 2 - 2) = _
      rw [if_neg (by omega), if_neg (by omega), if_neg (by omega), if_neg (by omega), if_neg (by omega), if_neg (by omega), if_neg (by omega), if_neg (by omega), if_neg (by omega)]
      omega
  intro i j e
  exact (inv i).symm.trans ((congrArg (fun r : Nat => if r = 0 then 0 else if r = 1 then 1 else if r = 2 then 2 else if r = 3 then 3 else if r = 4 then 4 else if r = 5 then 5 else if r = 6 then 6 else if r = 7 then 7 else if r = 8 then 8 else r - 2) e).trans (inv j))) (fun i q hq => by
  rcases i with _ | _ | _ | _ | _ | _ | _ | _ | _ | i
  · exact hq
  · exact hq
  · exact hq
  · exact hq
  · exact hq
  · exact hq
  · exact hq
  · exact hq
  · exact hq
  · obtain ⟨k, h1, h2, rfl⟩ := grid_in (by simp) hq
    simp only [List.length_cons, List.length_nil] at h2
    have e : i = k := by omega
    subst e
    rw [if_neg (by omega), if_neg (by omega), if_neg (by omega), if_neg (by omega), if_neg (by omega), if_neg (by omega), if_neg (by omega), if_neg (by omega), if_neg (by omega)]
    show (VGW A B G t μ)[i + 9 + 2]? = _
    rw [show i + 9 + 2 = 11 + i by omega]
    exact grid_get rfl h1)
theorem back_VG_V {A : Nat → Nat} {B : Nat → Nat} {G : Nat → Nat} {t : Nat → ClassId} {μ : VGS} {ν : VS} {A0 : Nat → Prop} {D : va_G} {H H1 : Heap} (hP : va_P D vwCl (VGW A B G t μ) H) (hD : va_D A0 (VGW A B G t μ)) (hk : ∀ q : Nat, q < H.size → ¬ OA (VL A B ((vg_rest μ), (vg_takes μ), (vg_u1 μ), (vg_u2 μ), (vg_hsz μ), (vg_hwin μ), (vg_hway μ), (vg_nsz μ), (vg_nwin μ), (vg_nway μ))) H.size q → H1[q]? = H[q]?) (hA : ∀ q, OA (VL A B ((vg_rest μ), (vg_takes μ), (vg_u1 μ), (vg_u2 μ), (vg_hsz μ), (vg_hwin μ), (vg_hway μ), (vg_nsz μ), (vg_nwin μ), (vg_nway μ))) H.size q → A0 q) (hP1 : va_P D vwCl (VW A B t ν) H1) (hD1 : va_D (OA (VL A B ((vg_rest μ), (vg_takes μ), (vg_u1 μ), (vg_u2 μ), (vg_hsz μ), (vg_hwin μ), (vg_hway μ), (vg_nsz μ), (vg_nwin μ), (vg_nway μ))) H.size) (VW A B t ν)) : va_P D vwCl (VGW A B G t ((v_rest ν), (v_takes ν), (v_u1 ν), (v_u2 ν), (v_hsz ν), (v_hwin ν), (v_hway ν), (v_nsz ν), (v_nwin ν), (v_nway ν), vg_wide μ, vg_high μ, vg_pond μ, vg_walls μ, vg_paved μ, vg_tc μ, vg_flips μ, vg_refused μ, vg_names μ)) H1 ∧ va_D A0 (VGW A B G t ((v_rest ν), (v_takes ν), (v_u1 ν), (v_u2 ν), (v_hsz ν), (v_hwin ν), (v_hway ν), (v_nsz ν), (v_nwin ν), (v_nway ν), vg_wide μ, vg_high μ, vg_pond μ, vg_walls μ, vg_paved μ, vg_tc μ, vg_flips μ, vg_refused μ, vg_names μ)) := by
  refine va_backQ (fun i => i = 0 ∨ i = 1 ∨ i = 2 ∨ i = 3 ∨ i = 4 ∨ i = 5 ∨ i = 6 ∨ i = 7 ∨ i = 8 ∨ (11 ≤ i ∧ i < 76)) (fun i => if i = 0 then 0 else if i = 1 then 1 else if i = 2 then 2 else if i = 3 then 3 else if i = 4 then 4 else if i = 5 then 5 else if i = 6 then 6 else if i = 7 then 7 else if i = 8 then 8 else i - 2) hP hD ?_ ?_ ?_ hA hk hP1 hD1
  · intro a h
    rcases List.mem_append.mp h with h | h
    · simp only [List.mem_cons, List.not_mem_nil, or_false] at h
      rcases h with rfl | rfl | rfl | rfl | rfl | rfl | rfl | rfl | rfl
      · exact ⟨0, _, by simp, rfl, rfl⟩
      · exact ⟨1, _, by simp, rfl, rfl⟩
      · exact ⟨2, _, by simp, rfl, rfl⟩
      · exact ⟨3, _, by simp, rfl, rfl⟩
      · exact ⟨4, _, by simp, rfl, rfl⟩
      · exact ⟨5, _, by simp, rfl, rfl⟩
      · exact ⟨6, _, by simp, rfl, rfl⟩
      · exact ⟨7, _, by simp, rfl, rfl⟩
      · exact ⟨8, _, by simp, rfl, rfl⟩
    · obtain ⟨k, hk, rfl⟩ := List.mem_map.mp h
      have hk := List.mem_range.mp hk
      exact ⟨11 + k, _, by omega, grid_get rfl hk, rfl⟩
  · intro i q hq
    by_cases hi : i < 11
    · rcases i with _ | _ | _ | _ | _ | _ | _ | _ | _ | _ | _ | i
      · exact Or.inl ⟨by simp, hq⟩
      · exact Or.inl ⟨by simp, hq⟩
      · exact Or.inl ⟨by simp, hq⟩
      · exact Or.inl ⟨by simp, hq⟩
      · exact Or.inl ⟨by simp, hq⟩
      · exact Or.inl ⟨by simp, hq⟩
      · exact Or.inl ⟨by simp, hq⟩
      · exact Or.inl ⟨by simp, hq⟩
      · exact Or.inl ⟨by simp, hq⟩
      · exact Or.inr ⟨by omega, hq⟩
      · exact Or.inr ⟨by omega, hq⟩
      · omega
    · obtain ⟨k, h1, h2, rfl⟩ := grid_in (by simp; omega) hq
      simp only [List.length_cons, List.length_nil] at h2
      obtain rfl : i = 11 + k := by omega
      refine Or.inl ⟨by omega, ?_⟩
      try dsimp only
      rw [if_neg (by omega), if_neg (by omega), if_neg (by omega), if_neg (by omega), if_neg (by omega), if_neg (by omega), if_neg (by omega), if_neg (by omega), if_neg (by omega), show 11 + k - 2 = 9 + k by omega]
      exact row_V (μ := ν) (k := k) (by omega)
  · have inv : ∀ i : Nat, (i = 0 ∨ i = 1 ∨ i = 2 ∨ i = 3 ∨ i = 4 ∨ i = 5 ∨ i = 6 ∨ i = 7 ∨ i = 8 ∨ (11 ≤ i ∧ i < 76)) → (fun r : Nat => if r = 0 then 0 else if r = 1 then 1 else if r = 2 then 2 else if r = 3 then 3 else if r = 4 then 4 else if r = 5 then 5 else if r = 6 then 6 else if r = 7 then 7 else if r = 8 then 8 else r + 2) ((fun i => if i = 0 then 0 else if i = 1 then 1 else if i = 2 then 2 else if i = 3 then 3 else if i = 4 then 4 else if i = 5 then 5 else if i = 6 then 6 else if i = 7 then 7 else if i = 8 then 8 else i - 2) i) = i := by
      intro i c
      rcases c with rfl | rfl | rfl | rfl | rfl | rfl | rfl | rfl | rfl | c
      · rfl
      · rfl
      · rfl
      · rfl
      · rfl
      · rfl
      · rfl
      · rfl
      · rfl
      · have e1 : (fun i => if i = 0 then 0 else if i = 1 then 1 else if i = 2 then 2 else if i = 3 then 3 else if i = 4 then 4 else if i = 5 then 5 else if i = 6 then 6 else if i = 7 then 7 else if i = 8 then 8 else i - 2) i = i - 2 := by
          show (if i = 0 then 0 else if i = 1 then 1 else if i = 2 then 2 else if i = 3 then 3 else if i = 4 then 4 else if i = 5 then 5 else if i = 6 then 6 else if i = 7 then 7 else if i = 8 then 8 else i - 2) = _
          rw [if_neg (by omega), if_neg (by omega), if_neg (by omega), if_neg (by omega), if_neg (by omega), if_neg (by omega), if_neg (by omega), if_neg (by omega), if_neg (by omega)]
        rw [e1]
        show (if i - 2 = 0 then 0 else if i - 2 = 1 then 1 else if i - 2 = 2 then 2 else if i - 2 = 3 then 3 else if i - 2 = 4 then 4 else if i - 2 = 5 then 5 else if i - 2 = 6 then 6 else if i - 2 = 7 then 7 else if i - 2 = 8 then 8 else i - 2 + 2) = _
        rw [if_neg (by omega), if_neg (by omega), if_neg (by omega), if_neg (by omega), if_neg (by omega), if_neg (by omega), if_neg (by omega), if_neg (by omega), if_neg (by omega)]
        omega
    intro i j c1 c2 e
    exact (inv i c1).symm.trans ((congrArg (fun r : Nat => if r = 0 then 0 else if r = 1 then 1 else if r = 2 then 2 else if r = 3 then 3 else if r = 4 then 4 else if r = 5 then 5 else if r = 6 then 6 else if r = 7 then 7 else if r = 8 then 8 else r + 2) e).trans (inv j c2))

theorem sub_VG_P {A : Nat → Nat} {B : Nat → Nat} {G : Nat → Nat} {t : Nat → ClassId} {μ : VGS} {D : va_G} {H : Heap} (h : va_P D vwCl (VGW A B G t μ) H) : va_P D vwCl (PW A t ((vg_takes μ), (vg_u1 μ), (vg_u2 μ))) H := h.sub [0, 1] rfl
theorem subD_VG_P {A : Nat → Nat} {B : Nat → Nat} {G : Nat → Nat} {t : Nat → ClassId} {μ : VGS} {A0 : Nat → Prop} (h : va_D A0 (VGW A B G t μ)) : va_D A0 (PW A t ((vg_takes μ), (vg_u1 μ), (vg_u2 μ))) := h.sub [0, 1] (by decide) rfl
theorem back_VG_P {A : Nat → Nat} {B : Nat → Nat} {G : Nat → Nat} {t : Nat → ClassId} {μ : VGS} {x9takes : Nat → Int32} {A0 : Nat → Prop} {D : va_G} {H H1 : Heap} (hP : va_P D vwCl (VGW A B G t μ) H) (hD : va_D A0 (VGW A B G t μ)) (hk : ∀ q : Nat, q < H.size → ¬ OA (PL A) H.size q → H1[q]? = H[q]?) (hP1 : va_P D vwCl (PW A t (x9takes, (vg_u1 μ), (vg_u2 μ))) H1) : va_P D vwCl (VGW A B G t (vg_takes' μ x9takes)) H1 ∧ va_D A0 (VGW A B G t (vg_takes' μ x9takes)) := by
  refine va_backP (fun i => i = 0 ∨ i = 1) hP hD ?_ ?_ rfl hk hP1
  · intro a h
    simp only [List.mem_cons, List.not_mem_nil, or_false] at h
    rcases h with rfl | rfl
    · exact ⟨0, _, by simp, rfl, rfl⟩
    · exact ⟨1, _, by simp, rfl, rfl⟩
  · intro i q hq
    rcases i with _ | _ | _ | _ | _ | _ | _ | _ | _ | _ | _ | i
    · exact Or.inl ⟨by simp, List.mem_of_getElem? (i := 0) hq⟩
    · exact Or.inl ⟨by simp, List.mem_of_getElem? (i := 1) hq⟩
    · exact Or.inr ⟨by omega, hq⟩
    · exact Or.inr ⟨by omega, hq⟩
    · exact Or.inr ⟨by omega, hq⟩
    · exact Or.inr ⟨by omega, hq⟩
    · exact Or.inr ⟨by omega, hq⟩
    · exact Or.inr ⟨by omega, hq⟩
    · exact Or.inr ⟨by omega, hq⟩
    · exact Or.inr ⟨by omega, hq⟩
    · exact Or.inr ⟨by omega, hq⟩
    · exact Or.inr ⟨by omega, hq⟩
