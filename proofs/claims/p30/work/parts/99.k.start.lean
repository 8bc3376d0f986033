theorem ZI_0 (u1 u2 : Nat → Nat) : ZI s0 (x0S u1 u2) [] none none := ⟨⟨s0_OK.1.1, ⟨rfl, rfl, rfl, rfl, rfl, rfl, rfl, rfl, fun i q hq => (by have hq : ([] : List TR)[i]? = some q := hq; simp at hq)⟩⟩, trivial, Or.inl ⟨rfl, rfl⟩, Or.inl ⟨rfl, rfl⟩, Nat.zero_le _, rfl, rfl, LST_0 u1 u2⟩
set_option maxHeartbeats 4000000 in
theorem whole_start {p : Program} {e : Env} {s : State} {m : MethodId} {below : List Frame} {meth : Method} {c : Code} (l : Launch) (hflags : l.flags = flags0) {b L : Nat} {xs : Nat → Int32} (hL : L ≤ 260) (C0 : lw_At p s m meth c b L xs) : W p l e room_1 s m #[Value.ref b] below meth c s.heap [] 0 0 (lw_Z below #[Value.ref b] s) (entryFrame m ([Value.ref b] : List Value).toArray 17) := by
  have C := C0
  obtain ⟨hx, hb, hr, hml, hown, hts0, hX, hbl, hlocks, hgv⟩ := C0
  obtain ⟨D, t, hC, hN⟩ := ent_law hts0 hgv
  have hl9 : l.stackTraces = false := by unfold Launch.stackTraces; rw [hflags]; decide
  have hts : ∀ w ∈ LA, w.before _ s = true := fun w hw => hts0 w (LA_tbl w hw)
  have hK := hC.1
  have hZ : ∀ q, OA [] s.heap.size q → s.heap.size ≤ q := fun q h => h.elim (fun z => nomatch z) id
  have hS : va_S (OA [] s.heap.size) s.heap s.heap [] := va_S.rf
  have hP : va_P D vwCl ([] : va_W) s.heap := fun k x h => by simp at h
  have hD : va_D (OA [] s.heap.size) ([] : va_W) := ⟨fun i j p q h => by simp at h, fun k x h => by simp at h⟩
  have hl := lv_entry ([.ref b]) (n := 17) (Nat.le_of_ble_eq_true rfl)
  rw [lg_entry_eq]
  generalize (lg_sl ([.ref b]) ++ List.replicate (17 - (lg_sl ([.ref b])).length) Slot.unset).toArray = ls at hl ⊢
  have hl : lv_has ls 17 [(0, .ref b)] := hl
  refine va_new (ci := 5) (fs := [.null, .null, .null, .null, .null]) hx hb hts inX4 tyX4 tyX4_ok hown (hts _ qw25) (hts _ qw26) (hts _ qw1) hK hP hD hS OA.new rfl (fun j hj => by rcases (show j = 0 ∨ j = 1 ∨ j = 2 ∨ j = 3 ∨ j = 4 by omega) with rfl | rfl | rfl | rfl | rfl <;> rfl) (Nat.le_of_ble_eq_true rfl) (Nat.le_of_ble_eq_true rfl) dL_law_0 (fun x0 H hP hD hS => ?_)
  have hP : va_P D vwCl ([(x0, .inr (5, [.null, .null, .null, .null, .null]))] : va_W) H := hP
  have hD : va_D (OA [] s.heap.size) ([(x0, .inr (5, [.null, .null, .null, .null, .null]))] : va_W) := hD
  have hSz : s.heap.size ≤ H.size := hS.1
  refine W.widen (k := 1) (n := 5) (by omega) (by omega) ?_
  refine lv_dup hx hb dL_law_3 rfl ?_
  have hsr := OA.ofD (L' := [x0]) hD rfl hSz
  refine call_E (va_runI (As := []) (rest := [.ref x0]) ⟨hx, hb, hml, hown, hts⟩ (c_X4_init l s.heap.size D t x0 H.size) (kI hts qw27 qw28 qw1 qw29 rfl ok_X4_init ⟨Nat.le_of_ble_eq_true rfl, Nat.le_of_ble_eq_true rfl⟩) ⟨PM.blind, fun U hU hW => ⟨rfl, by rw [hU]; exact (hC.at hS hZ).warm hW, by rw [hU], by rw [hU]; exact hP, ⟨hD.1, fun _ _ h9 => Or.inl (in_map (L := [x0]) rfl h9)⟩, fun q hq => hZ q (hsr q hq)⟩⟩ rfl rfl hl.1 rfl (lv_room (Nat.le_of_ble_eq_true rfl)) dL_law_4 ⟨Nat.le_of_ble_eq_true rfl, Nat.le_of_ble_eq_true rfl⟩) hS hsr (fun b9 H locs hP1 hD1 hS _ hk1 => ?_)
  obtain ⟨s9, s1, E, A4, B, G, u1, u2⟩ := b9
  have hP : va_P D vwCl (XW x0 s9 s1 (t 100) E A4 B G [] t (x0S u1 u2)) H := hP1
  have hD : va_D (OA [] s.heap.size) (XW x0 s9 s1 (t 100) E A4 B G [] t (x0S u1 u2)) := ⟨hD1.1, fun k x h9 => hsr _ (hD1.2 k x h9)⟩
  generalize hw : XW x0 s9 s1 (t 100) E A4 B G [] t (x0S u1 u2) = w at hP hD
  refine W.widen (k := 81) (n := 35520) (by omega) (by omega) ?_
  refine lv_astore_n (lv' := [(1, .ref x0), (0, .ref b)]) hx hb dL_law_7 rfl hl (by decide) rfl (fun ls hl => ?_)
  exact w_L_law C hC hN hl9 hL s0 (law_true L xs) hl ⟨x0S u1 u2, [], none, none, ZI_0 u1 u2, s9, s1, t 100, E, A4, B, G, [], hw.symm, [], none, none, by simp [TT], rfl, Nat.zero_le _, fun _ => rfl, rfl, rfl, rfl, rfl⟩ hP hD hS
