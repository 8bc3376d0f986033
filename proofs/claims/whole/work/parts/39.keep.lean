/-! keep, goBack, undo -/
def QB {β : Type} (vf : β → Option Value) (D : va_G) (wf : β → va_W) (Rp : β → Prop) (L : List Nat) (sz : Nat) : Array Value → State → Outcome → State → Prop := fun _ st o t => ∃ b, Rp b ∧ o = .returned (vf b) ∧ va_P D vwCl (wf b) t.heap ∧ va_D (OA L sz) (wf b) ∧ va_F (OA L sz) st t
abbrev xw7 (E A : Nat → Nat) (B : Nat → Nat) (t : Nat → ClassId) (μ : XS) : va_W := [((E 0), .inr (1, [.int (x_length μ), .ref (E 1)])), ((E 1), .inl (t 0, (71, .inl (x_codes μ)))), ((A 0), .inr (3, [.ref (A 2), .ref (A 1), .ref (x_u1 μ 0), .ref (x_u2 μ 0)])), ((A 1), .inl (t 0, (4, .inl (x_takes μ)))), ((A 2), .inl (t 5, (65, .inr (.inr (.inr (.inr (fun i => if i < 65 then some (B i) else none))))))), ((x_u1 μ 0), .inr (7, [.int (x_hsz μ), .ref (x_u1 μ 1), .ref (x_u1 μ 2)])), ((x_u1 μ 1), .inl (t 0, (512, .inl (x_hwin μ)))), ((x_u1 μ 2), .inl (t 0, (512, .inl (x_hway μ)))), ((x_u2 μ 0), .inr (7, [.int (x_nsz μ), .ref (x_u2 μ 1), .ref (x_u2 μ 2)])), ((x_u2 μ 1), .inl (t 0, (512, .inl (x_nwin μ)))), ((x_u2 μ 2), .inl (t 0, (512, .inl (x_nway μ))))]
abbrev TA (t : Nat → ClassId) (e0 : Nat) (P : List GE) : va_W := if e0 = t 100 then [] else [(e0, .inl (t 4, (10, .inr (.inr (.inr (.inr (refsP P)))))))]
theorem pmK0 {α : Type} {x s g0 g1 o n l : α} (X7 R Ar P S : List α) : ([x, s, g0, g1, o, n] ++ ((X7 ++ [l]) ++ (R ++ (Ar ++ (P ++ S))))).Perm ((x :: s :: (X7 ++ [g0, g1, l])) ++ (R ++ (Ar ++ (P ++ ([o, n] ++ S))))) := by
  haveI : DecidableEq α := fun a b => Classical.propDecidable (a = b)
  refine List.perm_iff_count.mpr fun z => ?_
  simp only [List.count_append, List.count_cons, List.count_nil]
  omega
theorem pmK1 {α : Type} {x s g0 g1 o n l : α} (X7 R Ar P S : List α) : ([x, s, g0, g1, o, n] ++ ((X7 ++ [l]) ++ (R ++ (Ar ++ (P ++ S))))).Perm ((x :: s :: (X7 ++ [g0, g1, l])) ++ (R ++ (Ar ++ (P ++ (S ++ [o, n]))))) := by
  haveI : DecidableEq α := fun a b => Classical.propDecidable (a = b)
  refine List.perm_iff_count.mpr fun z => ?_
  simp only [List.count_append, List.count_cons, List.count_nil]
  omega
theorem kp_drop0 {α : Type} {c X R Ar P A S : List α} : (c ++ (X ++ (R ++ (Ar ++ (P ++ S))))).Sublist (c ++ (X ++ (R ++ (Ar ++ (P ++ (A ++ S)))))) := ((((((List.sublist_append_right A S).append_left P).append_left Ar).append_left R).append_left X).append_left c)
theorem kp_drop1 {α : Type} {c X R Ar P A S : List α} : (c ++ (X ++ (R ++ (Ar ++ (P ++ A))))).Sublist (c ++ (X ++ (R ++ (Ar ++ (P ++ (A ++ S)))))) := ((((((List.sublist_append_left A S).append_left P).append_left Ar).append_left R).append_left X).append_left c)
theorem pmU {α : Type} {x l g0 g1 a o n : α} (X8 R P S : List α) : ((x :: (X8 ++ [g0, g1, l])) ++ (R ++ ([a] ++ ((P ++ [o, n]) ++ S)))).Perm ([g0, g1] ++ ([x, l, a, o, n] ++ ((X8 ++ R) ++ (P ++ S)))) := by
  haveI : DecidableEq α := fun a b => Classical.propDecidable (a = b)
  refine List.perm_iff_count.mpr fun z => ?_
  simp only [List.count_append, List.count_cons, List.count_nil]
  omega
theorem pmUo {α : Type} {x l a o n : α} (X8 R P S : List α) : ([x, l, a, o, n] ++ ((X8 ++ R) ++ (P ++ S))).Perm ((x :: (X8 ++ [o, n, l])) ++ (R ++ ([a] ++ (P ++ S)))) := by
  haveI : DecidableEq α := fun a b => Classical.propDecidable (a = b)
  refine List.perm_iff_count.mpr fun z => ?_
  simp only [List.count_append, List.count_cons, List.count_nil]
  omega
def undoX (μ : XS) (γ : GS) (n : Nat) : XS := x_lsize' (x_lmod' (x_names' (x_refused' (x_flips' (x_tc' (x_paved' (x_walls' (x_pond' (x_high' (x_wide' μ (g_wide γ)) (g_high γ)) (g_pond γ)) (g_walls γ)) (g_paved γ)) (g_tc γ)) (g_flips γ)) (g_refused γ)) (g_names γ)) (x_lmod μ + 1)) (nI n)
theorem map_snoc {P : List GE} {L : List GS} {γ : GS} (h : P.map (fun p => p.2.2) = L ++ [γ]) : ∃ (P2 : List GE) (p : GE), P = P2 ++ [p] ∧ P2.map (fun p => p.2.2) = L ∧ p.2.2 = γ := by
  obtain ⟨P2, Q, e1, e2, e3⟩ := List.map_eq_append_iff.mp h
  obtain ⟨p, Q2, f1, f2, f3⟩ := List.map_eq_cons_iff.mp e3
  cases List.map_eq_nil_iff.mp f3
  exact ⟨P2, p, by rw [e1, f1], e2, f2⟩
theorem refs_last {P : List GE} {p : GE} : refsP (P ++ [p]) P.length = some p.1 := by
  unfold refsP
  simp
theorem refs_l {P : List GE} {p : GE} : va_up (refsP (P ++ [p])) P.length none = refsP P := by
  rw [refs_app]
  funext j
  unfold va_up refsP
  by_cases h : j = P.length
  · subst h; simp
  · simp [h]
theorem xw_eqU {x0 s0 s1 e0 : Nat} {E A : Nat → Nat} {B G : Nat → Nat} {t : Nat → ClassId} {μ : XS} {P : List GE} {p : GE} {pa pb : Option GE} (hf : ¬ e0 = t 100) : XW x0 s0 s1 e0 E A B G (TT t e0 (P ++ [p]) pa pb) t μ = ((((x0, .inr (5, [.ref s0, .ref s1, .ref (E 0), .ref (A 0), .ref (G 0)])) : Nat × va_E) :: ((xw8 s1 E A B t μ) ++ [((G 0), .inr (2, [.int (x_wide μ), .int (x_high μ), .int (x_pond μ), .long (x_walls μ), .long (x_paved μ), .int (x_tc μ), .int (x_flips μ), .int (x_refused μ), .ref (G 1)])), ((G 1), .inl (t 0, (21, .inl (x_names μ)))), (s0, .inr (0, [.int (x_lmod μ), .ref e0, .int (x_lsize μ)]))])) ++ ((xwR B t μ) ++ ([(e0, .inl (t 4, (10, .inr (.inr (.inr (.inr (refsP (P ++ [p]))))))))] ++ ((P.flatMap (GWp t) ++ [(p.1, .inr (2, [.int (g_wide p.2.2), .int (g_high p.2.2), .int (g_pond p.2.2), .long (g_walls p.2.2), .long (g_paved p.2.2), .int (g_tc p.2.2), .int (g_flips p.2.2), .int (g_refused p.2.2), .ref p.2.1])), (p.2.1, .inl (t 0, (21, .inl (g_names p.2.2))))]) ++ (pa.toList.flatMap (GWp t) ++ pb.toList.flatMap (GWp t)))))) := by
  rw [xw_eq1 hf, List.flatMap_append]
  rfl
theorem xw_eqV {x0 s0 s1 e0 : Nat} {E A : Nat → Nat} {B : Nat → Nat} {t : Nat → ClassId} {μ : XS} {P : List GE} {p : GE} {n : Nat} {pa pb : Option GE} (hf : ¬ e0 = t 100) : XW x0 s0 s1 e0 E A B (gA p.1 p.2.1) (TT t e0 P pa pb) t (undoX μ p.2.2 n) = ((((x0, .inr (5, [.ref s0, .ref s1, .ref (E 0), .ref (A 0), .ref p.1])) : Nat × va_E) :: ((xw8 s1 E A B t μ) ++ [(p.1, .inr (2, [.int (g_wide p.2.2), .int (g_high p.2.2), .int (g_pond p.2.2), .long (g_walls p.2.2), .long (g_paved p.2.2), .int (g_tc p.2.2), .int (g_flips p.2.2), .int (g_refused p.2.2), .ref p.2.1])), (p.2.1, .inl (t 0, (21, .inl (g_names p.2.2)))), (s0, .inr (0, [.int (x_lmod μ + 1), .ref e0, .int (nI n)]))])) ++ ((xwR B t μ) ++ ([(e0, .inl (t 4, (10, .inr (.inr (.inr (.inr (refsP P)))))))] ++ (P.flatMap (GWp t) ++ (pa.toList.flatMap (GWp t) ++ pb.toList.flatMap (GWp t)))))) := by
  rw [xw_eq1 hf]
  rfl
theorem pmB {α : Type} {x l g0 g1 o n : α} (X8 R T : List α) : ((x :: (X8 ++ [g0, g1, l])) ++ (R ++ ([o, n] ++ T))).Perm ([x, o, n] ++ ((X8 ++ [g0, g1, l]) ++ (R ++ T))) := by
  haveI : DecidableEq α := fun a b => Classical.propDecidable (a = b)
  refine List.perm_iff_count.mpr fun z => ?_
  simp only [List.count_append, List.count_cons, List.count_nil]
  omega
theorem pmBo {α : Type} {x l g0 g1 o n o2 n2 : α} (X8 R T : List α) : ([x, o, n, o2, n2] ++ ((X8 ++ [g0, g1, l]) ++ (R ++ T))).Perm ([g0, g1] ++ ((x :: (X8 ++ [o2, n2, l])) ++ (R ++ ([o, n] ++ T)))) := by
  haveI : DecidableEq α := fun a b => Classical.propDecidable (a = b)
  refine List.perm_iff_count.mpr fun z => ?_
  simp only [List.count_append, List.count_cons, List.count_nil]
  omega
theorem pmS0 {α : Type} {o n : α} (A P S : List α) : (A ++ (P ++ ([o, n] ++ S))).Perm ([o, n] ++ (A ++ (P ++ S))) := by
  haveI : DecidableEq α := fun a b => Classical.propDecidable (a = b)
  refine List.perm_iff_count.mpr fun z => ?_
  simp only [List.count_append, List.count_cons, List.count_nil]
  omega
theorem pmS1 {α : Type} {o n : α} (A P S : List α) : (A ++ (P ++ (S ++ [o, n]))).Perm ([o, n] ++ (A ++ (P ++ S))) := by
  haveI : DecidableEq α := fun a b => Classical.propDecidable (a = b)
  refine List.perm_iff_count.mpr fun z => ?_
  simp only [List.count_append, List.count_cons, List.count_nil]
  omega
def gardX (μ : XS) (γ : GS) : XS := x_names' (x_refused' (x_flips' (x_tc' (x_paved' (x_walls' (x_pond' (x_high' (x_wide' μ (g_wide γ)) (g_high γ)) (g_pond γ)) (g_walls γ)) (g_paved γ)) (g_tc γ)) (g_flips γ)) (g_refused γ)) (g_names γ)
theorem rep_slot {t : Nat → ClassId} {e0 : Nat} {T : va_W} {L : List GS} {sl : Nat → Option Nat} {S0 S1 : Option GS} {k : Nat} {γ : GS} (h : Rep t e0 T L sl S0 S1) (hk : k < 2) (hγ : (if k = 0 then S0 else S1) = some γ) : ∃ (o n : Nat) (T2 : va_W), sl k = some o ∧ T.Perm (GW (gA o n) t γ ++ T2) := by
  obtain ⟨P, pa, pb, rfl, -, -, -, e1, e2, e3, e4⟩ := h
  rcases (show k = 0 ∨ k = 1 by omega) with rfl | rfl
  · rw [if_pos rfl] at hγ
    rw [hγ] at e3
    obtain ⟨⟨o, n, γ2⟩, rfl, rfl⟩ := Option.map_eq_some_iff.mp e3
    exact ⟨o, n, TA t e0 P ++ (P.flatMap (GWp t) ++ pb.toList.flatMap (GWp t)), e1, pmS0 _ _ _⟩
  · rw [if_neg (by decide)] at hγ
    rw [hγ] at e4
    obtain ⟨⟨o, n, γ2⟩, rfl, rfl⟩ := Option.map_eq_some_iff.mp e4
    exact ⟨o, n, TA t e0 P ++ (P.flatMap (GWp t) ++ pa.toList.flatMap (GWp t)), e2, pmS1 _ _ _⟩
abbrev rm_X4_keep : Room := { frames := 7, cells := 2, slots := 30, locals := 240 }
theorem ok_X4_keep : okY yX4_keep 1 := ⟨by decide +kernel, by decide +kernel, by decide +kernel⟩
set_option maxHeartbeats 4000000 in
set_option maxRecDepth 100000 in
theorem c_X4_keep (l : Launch) (z0 : Nat) (D : va_G) (t : Nat → ClassId) (x0 s0 s1 e0 : Nat) (E A : Nat → Nat) (B G : Nat → Nat) (T : va_W) (μ : XS) (L : List GS) (S0 S1 : Option GS) (k : Nat) (sz : Nat) (hk2 : k < 2) (h : f_X4_requireSlot μ (nI k) = some (.inl ())) (hR : Rep t e0 T L (x_sl μ) S0 S1) : Met l yX4_keep (ws_ yX4_keep cX4_keep 2 (some .int)) rm_X4_keep (PM z0 D t [.ref x0, .int (nI k)] (XW x0 s0 s1 e0 E A B G T t μ) (XL x0 s0 s1 e0 E A B G T μ) sz) (QB (fun _ : va_W × (Nat → Option Nat) => some (.int (x_tc μ))) D (fun b => XW x0 s0 s1 e0 E A B G b.1 t (x_sl' μ b.2)) (fun b => Rep t e0 b.1 L b.2 (if k = 0 then some (gsX μ) else S0) (if k = 0 then S1 else some (gsX μ))) (XL x0 s0 s1 e0 E A B G T μ) sz) 2 30 (OA (XL x0 s0 s1 e0 E A B G T μ) sz) := by
  refine Met.ofW (cc := cX4_keep) (maxL := 2) (ret := (some .int)) (by decide) rfl ?_
  intro p e s m args below meth c s₁ Bo hml hv
  obtain ⟨rfl, hC, hsz, hP, hD, hZ⟩ := hv
  have hx := Bo.exec
  have hb := Bo.bytes
  have hr := Bo.returns
  have hts : ∀ w ∈ LA, w.before _ s = true := fun w hw => atoms_spec (ws := ws_ yX4_keep cX4_keep 2 (some .int)) Bo.pre w (List.mem_cons_of_mem _ hw)
  have hown : s.vm.findClass RX4 = some m.cls := findClass_of_methodNamed Bo.named
  have hlocks := Bo.notSynchronized
  have hK := hC.1
  subst hsz
  obtain ⟨L0, hL0⟩ : ∃ L0, L0 = (XL x0 s0 s1 e0 E A B G T μ) := ⟨_, rfl⟩
  rw [← hL0] at hD hZ ⊢
  have hS : va_S (OA L0 s.heap.size) s.heap s.heap [] := va_S.rf
  suffices K9 : ∀ (H : Heap), va_P D vwCl (XW x0 s0 s1 e0 E A B G T t μ) H → va_S (OA L0 s.heap.size) s.heap H [] → W p l e (headSpec (ws_ yX4_keep cX4_keep 2 (some .int)) rm_X4_keep).room s m ([.ref x0, .int (nI k)] : List Value).toArray below meth c H [] 0 0 (MQ below (QB (fun _ : va_W × (Nat → Option Nat) => some (.int (x_tc μ))) D (fun b => XW x0 s0 s1 e0 E A B G b.1 t (x_sl' μ b.2)) (fun b => Rep t e0 b.1 L b.2 (if k = 0 then some (gsX μ) else S0) (if k = 0 then S1 else some (gsX μ))) L0 s.heap.size) ([.ref x0, .int (nI k)] : List Value).toArray s 2 30 (OA L0 s.heap.size)) (entryFrame m ([.ref x0, .int (nI k)] : List Value).toArray 2) from K9 s.heap hP hS
  intro H hP hS
  have hSz : s.heap.size ≤ H.size := hS.1
  have hl := lv_entry ([.ref x0, .int (nI k)]) (n := 2) (Nat.le_of_ble_eq_true rfl)
  rw [lg_entry_eq]
  generalize (lg_sl ([.ref x0, .int (nI k)]) ++ List.replicate (2 - (lg_sl ([.ref x0, .int (nI k)])).length) Slot.unset).toArray = ls at hl ⊢
  have hl : lv_has ls 2 [(0, .ref x0), (1, .int (nI k))] := hl
  refine lv_aload_n hx hb dX4_keep_0 rfl (lv_at hl 0 rfl) ?_
  refine lv_iload_n hx hb dX4_keep_1 rfl (lv_at hl 1 rfl) ?_
  refine call_R (va_runV (As := [.int (nI k)]) (rest := []) ⟨hx, hb, hml, hown, hts⟩ (c_X4_requireSlot l z0 D t x0 s0 s1 e0 E A B G T μ (nI k) () h) (kV hts qw897 qw899 qs29 qw1 qw900 ok_X4_requireSlot ⟨Nat.le_of_ble_eq_true rfl, Nat.le_of_ble_eq_true rfl⟩) ⟨PR.blind, va_recv hK hP (ci := 5) (q0 := 0) rfl rfl, fun U hU hW => ⟨rfl, by rw [hU]; exact (hC.at hS hZ).warm hW, by rw [hU]; exact hP⟩⟩ rfl rfl hl.1 rfl (lv_room (Nat.le_of_ble_eq_true rfl)) dX4_keep_2 ⟨Nat.le_of_ble_eq_true rfl, Nat.le_of_ble_eq_true rfl⟩) ?_
  obtain ⟨P, pa, pb, rfl, rfl, h6, hfr, e1, e2, e3, e4⟩ := hR
  have hP := hP.part (cx := [(x0, .inr (5, [.ref s0, .ref s1, .ref (E 0), .ref (A 0), .ref (G 0)])), (s1, .inl (t 3, (2, .inr (.inr (.inr (.inr (x_sl μ))))))), ((G 0), .inr (2, [.int (x_wide μ), .int (x_high μ), .int (x_pond μ), .long (x_walls μ), .long (x_paved μ), .int (x_tc μ), .int (x_flips μ), .int (x_refused μ), .ref (G 1)])), ((G 1), .inl (t 0, (21, .inl (x_names μ))))] ++ ((xw7 E A B t μ) ++ [(s0, .inr (0, [.int (x_lmod μ), .ref e0, .int (x_lsize μ)]))])) [0, 1, 13, 14, 2, 3, 4, 5, 6, 7, 8, 9, 10, 11, 12, 15] rfl
  have hD := hD.part (cx := [(x0, .inr (5, [.ref s0, .ref s1, .ref (E 0), .ref (A 0), .ref (G 0)])), (s1, .inl (t 3, (2, .inr (.inr (.inr (.inr (x_sl μ))))))), ((G 0), .inr (2, [.int (x_wide μ), .int (x_high μ), .int (x_pond μ), .long (x_walls μ), .long (x_paved μ), .int (x_tc μ), .int (x_flips μ), .int (x_refused μ), .ref (G 1)])), ((G 1), .inl (t 0, (21, .inl (x_names μ))))] ++ ((xw7 E A B t μ) ++ [(s0, .inr (0, [.int (x_lmod μ), .ref e0, .int (x_lsize μ)]))])) [0, 1, 13, 14, 2, 3, 4, 5, 6, 7, 8, 9, 10, 11, 12, 15] (by decide) rfl
  obtain ⟨R, hR⟩ : ∃ R : va_W, R = ((xw7 E A B t μ) ++ [(s0, .inr (0, [.int (x_lmod μ), .ref e0, .int (x_lsize μ)]))]) ++ ((xwR B t μ) ++ (TA t e0 P ++ (P.flatMap (GWp t) ++ (pa.toList.flatMap (GWp t) ++ pb.toList.flatMap (GWp t))))) := ⟨_, rfl⟩
  have hP : va_P D vwCl ([(x0, .inr (5, [.ref s0, .ref s1, .ref (E 0), .ref (A 0), .ref (G 0)])), (s1, .inl (t 3, (2, .inr (.inr (.inr (.inr (x_sl μ))))))), ((G 0), .inr (2, [.int (x_wide μ), .int (x_high μ), .int (x_pond μ), .long (x_walls μ), .long (x_paved μ), .int (x_tc μ), .int (x_flips μ), .int (x_refused μ), .ref (G 1)])), ((G 1), .inl (t 0, (21, .inl (x_names μ))))] ++ R : va_W) H := by rw [hR]; exact hP
  have hD : va_D (OA L0 s.heap.size) ([(x0, .inr (5, [.ref s0, .ref s1, .ref (E 0), .ref (A 0), .ref (G 0)])), (s1, .inl (t 3, (2, .inr (.inr (.inr (.inr (x_sl μ))))))), ((G 0), .inr (2, [.int (x_wide μ), .int (x_high μ), .int (x_pond μ), .long (x_walls μ), .long (x_paved μ), .int (x_tc μ), .int (x_flips μ), .int (x_refused μ), .ref (G 1)])), ((G 1), .inl (t 0, (21, .inl (x_names μ))))] ++ R : va_W) := by rw [hR]; exact hD
  have hSz : s.heap.size ≤ H.size := hS.1
  refine lv_aload_n hx hb dX4_keep_5 rfl (lv_at hl 0 rfl) ?_
  refine va_get hx hb hts inX4 hown hK hP 0 rfl rfl 1 (by decide) (hts _ qw158) (fun _ h9 => h9) rfl dX4_keep_6 ?_
  refine lv_iload_n hx hb dX4_keep_9 rfl (lv_at hl 1 rfl) ?_
  refine lv_aload_n hx hb dX4_keep_10 rfl (lv_at hl 0 rfl) ?_
  refine va_get hx hb hts inX4 hown hK hP 0 rfl rfl 4 (by decide) (hts _ qw161) (fun _ h9 => h9) rfl dX4_keep_11 ?_
  refine call_E (va_runV (As := []) (rest := [.int (nI k), .ref s1]) ⟨hx, hb, hml, hown, hts⟩ (c_X1_copied l z0 D t G (gsX μ) H.size) (kV hts qw683 qw684 qw685 qw8 qw686 ok_X1_copied ⟨Nat.le_of_ble_eq_true rfl, Nat.le_of_ble_eq_true rfl⟩) ⟨PM.blind, va_recv hK (hP.sub (ws' := [((G 0), .inr (2, [.int (x_wide μ), .int (x_high μ), .int (x_pond μ), .long (x_walls μ), .long (x_paved μ), .int (x_tc μ), .int (x_flips μ), .int (x_refused μ), .ref (G 1)])), ((G 1), .inl (t 0, (21, .inl (x_names μ))))]) [2, 3] rfl) (ci := 2) (q0 := 0) rfl rfl, fun U hU hW => ⟨rfl, by rw [hU]; exact (hC.at hS hZ).warm hW, by rw [hU], by rw [hU]; exact (hP.sub (ws' := [((G 0), .inr (2, [.int (x_wide μ), .int (x_high μ), .int (x_pond μ), .long (x_walls μ), .long (x_paved μ), .int (x_tc μ), .int (x_flips μ), .int (x_refused μ), .ref (G 1)])), ((G 1), .inl (t 0, (21, .inl (x_names μ))))]) [2, 3] rfl), ⟨(hD.sub (ws' := [((G 0), .inr (2, [.int (x_wide μ), .int (x_high μ), .int (x_pond μ), .long (x_walls μ), .long (x_paved μ), .int (x_tc μ), .int (x_flips μ), .int (x_refused μ), .ref (G 1)])), ((G 1), .inl (t 0, (21, .inl (x_names μ))))]) [2, 3] (by decide) rfl).1, fun _ _ h9 => Or.inl (in_map (L := [G 0, G 1]) rfl h9)⟩, fun q hq => hZ q (OA.ofD (hD.sub (ws' := [((G 0), .inr (2, [.int (x_wide μ), .int (x_high μ), .int (x_pond μ), .long (x_walls μ), .long (x_paved μ), .int (x_tc μ), .int (x_flips μ), .int (x_refused μ), .ref (G 1)])), ((G 1), .inl (t 0, (21, .inl (x_names μ))))]) [2, 3] (by decide) rfl) rfl hSz q hq)⟩⟩ rfl rfl hl.1 rfl (lv_room (Nat.le_of_ble_eq_true rfl)) dX4_keep_14 ⟨Nat.le_of_ble_eq_true rfl, Nat.le_of_ble_eq_true rfl⟩) hS (OA.ofD (hD.sub (ws' := [((G 0), .inr (2, [.int (x_wide μ), .int (x_high μ), .int (x_pond μ), .long (x_walls μ), .long (x_paved μ), .int (x_tc μ), .int (x_flips μ), .int (x_refused μ), .ref (G 1)])), ((G 1), .inl (t 0, (21, .inl (x_names μ))))]) [2, 3] (by decide) rfl) rfl hSz) (fun b9 H locs hP1 hD1 hS _ hk1 => ?_)
  obtain ⟨q1, q2⟩ := b9
  obtain ⟨hP, hD⟩ := va_backX (X := [(x0, .inr (5, [.ref s0, .ref s1, .ref (E 0), .ref (A 0), .ref (G 0)])), (s1, .inl (t 3, (2, .inr (.inr (.inr (.inr (x_sl μ))))))), ((G 0), .inr (2, [.int (x_wide μ), .int (x_high μ), .int (x_pond μ), .long (x_walls μ), .long (x_paved μ), .int (x_tc μ), .int (x_flips μ), .int (x_refused μ), .ref (G 1)])), ((G 1), .inl (t 0, (21, .inl (x_names μ))))]) (K := R) (wr := [(x0, .inr (5, [.ref s0, .ref s1, .ref (E 0), .ref (A 0), .ref (G 0)])), (s1, .inl (t 3, (2, .inr (.inr (.inr (.inr (x_sl μ)))))))]) (w1 := ([((G 0), .inr (2, [.int (x_wide μ), .int (x_high μ), .int (x_pond μ), .long (x_walls μ), .long (x_paved μ), .int (x_tc μ), .int (x_flips μ), .int (x_refused μ), .ref (G 1)])), ((G 1), .inl (t 0, (21, .inl (x_names μ)))), (q1, .inr (2, [.int (x_wide μ), .int (x_high μ), .int (x_pond μ), .long (x_walls μ), .long (x_paved μ), .int (x_tc μ), .int (x_flips μ), .int (x_refused μ), .ref q2])), (q2, .inl (t 0, (21, .inl (x_names μ))))] : va_W)) hP hD [2, 3] [0, 1] rfl rfl (by decide) (by decide) hk1 (OA.ofD (hD.sub (ws' := [((G 0), .inr (2, [.int (x_wide μ), .int (x_high μ), .int (x_pond μ), .long (x_walls μ), .long (x_paved μ), .int (x_tc μ), .int (x_flips μ), .int (x_refused μ), .ref (G 1)])), ((G 1), .inl (t 0, (21, .inl (x_names μ))))]) [2, 3] (by decide) rfl) rfl hSz) hP1 hD1
  have hP : va_P D vwCl ([(x0, .inr (5, [.ref s0, .ref s1, .ref (E 0), .ref (A 0), .ref (G 0)])), (s1, .inl (t 3, (2, .inr (.inr (.inr (.inr (x_sl μ))))))), ((G 0), .inr (2, [.int (x_wide μ), .int (x_high μ), .int (x_pond μ), .long (x_walls μ), .long (x_paved μ), .int (x_tc μ), .int (x_flips μ), .int (x_refused μ), .ref (G 1)])), ((G 1), .inl (t 0, (21, .inl (x_names μ)))), (q1, .inr (2, [.int (x_wide μ), .int (x_high μ), .int (x_pond μ), .long (x_walls μ), .long (x_paved μ), .int (x_tc μ), .int (x_flips μ), .int (x_refused μ), .ref q2])), (q2, .inl (t 0, (21, .inl (x_names μ))))] ++ R : va_W) H := hP
  have hD : va_D (OA L0 s.heap.size) ([(x0, .inr (5, [.ref s0, .ref s1, .ref (E 0), .ref (A 0), .ref (G 0)])), (s1, .inl (t 3, (2, .inr (.inr (.inr (.inr (x_sl μ))))))), ((G 0), .inr (2, [.int (x_wide μ), .int (x_high μ), .int (x_pond μ), .long (x_walls μ), .long (x_paved μ), .int (x_tc μ), .int (x_flips μ), .int (x_refused μ), .ref (G 1)])), ((G 1), .inl (t 0, (21, .inl (x_names μ)))), (q1, .inr (2, [.int (x_wide μ), .int (x_high μ), .int (x_pond μ), .long (x_walls μ), .long (x_paved μ), .int (x_tc μ), .int (x_flips μ), .int (x_refused μ), .ref q2])), (q2, .inl (t 0, (21, .inl (x_names μ))))] ++ R : va_W) := hD
  have hSz : s.heap.size ≤ H.size := hS.1
  refine W.widen (k := 2) (n := 30) (by omega) (by omega) ?_
  refine va_astq (r := (RX1, TX1, 9)) hx hb hK hP hD hS 1 3 4 2 rfl rfl rfl rfl (vp_in_nI hk2 (by decide)) dX4_keep_17 (fun H locs hP hD hS => ?_)
  rw [nI_clamp (by omega)] at hP hD
  have hP : va_P D vwCl ([(x0, .inr (5, [.ref s0, .ref s1, .ref (E 0), .ref (A 0), .ref (G 0)])), (s1, .inl (t 3, (2, .inr (.inr (.inr (.inr (va_up (x_sl μ) k (some q1)))))))), ((G 0), .inr (2, [.int (x_wide μ), .int (x_high μ), .int (x_pond μ), .long (x_walls μ), .long (x_paved μ), .int (x_tc μ), .int (x_flips μ), .int (x_refused μ), .ref (G 1)])), ((G 1), .inl (t 0, (21, .inl (x_names μ)))), (q1, .inr (2, [.int (x_wide μ), .int (x_high μ), .int (x_pond μ), .long (x_walls μ), .long (x_paved μ), .int (x_tc μ), .int (x_flips μ), .int (x_refused μ), .ref q2])), (q2, .inl (t 0, (21, .inl (x_names μ))))] ++ R : va_W) H := hP
  have hD : va_D (OA L0 s.heap.size) ([(x0, .inr (5, [.ref s0, .ref s1, .ref (E 0), .ref (A 0), .ref (G 0)])), (s1, .inl (t 3, (2, .inr (.inr (.inr (.inr (va_up (x_sl μ) k (some q1)))))))), ((G 0), .inr (2, [.int (x_wide μ), .int (x_high μ), .int (x_pond μ), .long (x_walls μ), .long (x_paved μ), .int (x_tc μ), .int (x_flips μ), .int (x_refused μ), .ref (G 1)])), ((G 1), .inl (t 0, (21, .inl (x_names μ)))), (q1, .inr (2, [.int (x_wide μ), .int (x_high μ), .int (x_pond μ), .long (x_walls μ), .long (x_paved μ), .int (x_tc μ), .int (x_flips μ), .int (x_refused μ), .ref q2])), (q2, .inl (t 0, (21, .inl (x_names μ))))] ++ R : va_W) := hD
  have hSz : s.heap.size ≤ H.size := hS.1
  refine lv_aload_n hx hb dX4_keep_18 rfl (lv_at hl 0 rfl) ?_
  refine va_get hx hb hts inX4 hown hK hP 0 rfl rfl 4 (by decide) (hts _ qw161) (fun _ h9 => h9) rfl dX4_keep_19 ?_
  refine va_get hx hb hts inX1 hown hK hP 2 rfl rfl 5 (by decide) (hts _ qw132) (fun _ h9 => h9) rfl dX4_keep_22 ?_
  have hP := hP.part (cx := [(x0, .inr (5, [.ref s0, .ref s1, .ref (E 0), .ref (A 0), .ref (G 0)])), (s1, .inl (t 3, (2, .inr (.inr (.inr (.inr (va_up (x_sl μ) k (some q1)))))))), ((G 0), .inr (2, [.int (x_wide μ), .int (x_high μ), .int (x_pond μ), .long (x_walls μ), .long (x_paved μ), .int (x_tc μ), .int (x_flips μ), .int (x_refused μ), .ref (G 1)])), ((G 1), .inl (t 0, (21, .inl (x_names μ)))), (q1, .inr (2, [.int (x_wide μ), .int (x_high μ), .int (x_pond μ), .long (x_walls μ), .long (x_paved μ), .int (x_tc μ), .int (x_flips μ), .int (x_refused μ), .ref q2])), (q2, .inl (t 0, (21, .inl (x_names μ))))]) [0, 1, 2, 3, 4, 5] rfl
  have hD := hD.part (cx := [(x0, .inr (5, [.ref s0, .ref s1, .ref (E 0), .ref (A 0), .ref (G 0)])), (s1, .inl (t 3, (2, .inr (.inr (.inr (.inr (va_up (x_sl μ) k (some q1)))))))), ((G 0), .inr (2, [.int (x_wide μ), .int (x_high μ), .int (x_pond μ), .long (x_walls μ), .long (x_paved μ), .int (x_tc μ), .int (x_flips μ), .int (x_refused μ), .ref (G 1)])), ((G 1), .inl (t 0, (21, .inl (x_names μ)))), (q1, .inr (2, [.int (x_wide μ), .int (x_high μ), .int (x_pond μ), .long (x_walls μ), .long (x_paved μ), .int (x_tc μ), .int (x_flips μ), .int (x_refused μ), .ref q2])), (q2, .inl (t 0, (21, .inl (x_names μ))))]) [0, 1, 2, 3, 4, 5] (by decide) rfl
  rw [hR] at hP hD
  rcases (show k = 0 ∨ k = 1 by omega) with rfl | rfl
  · have hPD := pd_sub (kp_drop0 (A := pa.toList.flatMap (GWp t)) (S := pb.toList.flatMap (GWp t))) hP hD
    have hPD := pd_perm (pmK0 (xw7 E A B t μ) (xwR B t μ) (TA t e0 P) (P.flatMap (GWp t)) (pb.toList.flatMap (GWp t))) hPD.1 hPD.2
    exact W.iret hx hb hr (fun t9 ht hW => ⟨(TT t e0 P (some (q1, q2, gsX μ)) pb, va_up (x_sl μ) 0 (some q1)), ⟨P, (some (q1, q2, gsX μ)), pb, rfl, rfl, h6, hfr, rfl, e2, rfl, e4⟩, rfl, by rw [ht]; exact hPD.1, hPD.2, hS.F ht⟩) hS.2.2 dX4_keep_25
  · have hPD := pd_sub (kp_drop1 (A := pa.toList.flatMap (GWp t)) (S := pb.toList.flatMap (GWp t))) hP hD
    have hPD := pd_perm (pmK1 (xw7 E A B t μ) (xwR B t μ) (TA t e0 P) (P.flatMap (GWp t)) (pa.toList.flatMap (GWp t))) hPD.1 hPD.2
    exact W.iret hx hb hr (fun t9 ht hW => ⟨(TT t e0 P pa (some (q1, q2, gsX μ)), va_up (x_sl μ) 1 (some q1)), ⟨P, pa, (some (q1, q2, gsX μ)), rfl, rfl, h6, hfr, e1, rfl, e3, rfl⟩, rfl, by rw [ht]; exact hPD.1, hPD.2, hS.F ht⟩) hS.2.2 dX4_keep_25

abbrev rm_X4_undo : Room := { frames := 7, cells := 0, slots := 0, locals := 240 }
theorem ok_X4_undo : okY yX4_undo 0 := ⟨by decide +kernel, by decide +kernel, by decide +kernel⟩
set_option maxHeartbeats 4000000 in
set_option maxRecDepth 100000 in
theorem c_X4_undo (l : Launch) (z0 : Nat) (D : va_G) (t : Nat → ClassId) (x0 s0 s1 e0 : Nat) (E A : Nat → Nat) (B G : Nat → Nat) (T : va_W) (μ : XS) (L : List GS) (S0 S1 : Option GS) (γ : GS) (sz : Nat) (hR : Rep t e0 T (L ++ [γ]) (x_sl μ) S0 S1) (hn : x_lsize μ = nI (L.length + 1)) : Met l yX4_undo (ws_ yX4_undo cX4_undo 2 (some .int)) rm_X4_undo (PM z0 D t [.ref x0] (XW x0 s0 s1 e0 E A B G T t μ) (XL x0 s0 s1 e0 E A B G T μ) sz) (QB (fun _ : (Nat × Nat) × va_W => some (.int (nI L.length))) D (fun b => XW x0 s0 s1 e0 E A B (gA b.1.1 b.1.2) b.2 t (undoX μ γ L.length)) (fun b => Rep t e0 b.2 L (x_sl μ) S0 S1) (XL x0 s0 s1 e0 E A B G T μ) sz) 0 0 (OA (XL x0 s0 s1 e0 E A B G T μ) sz) := by
  refine Met.ofW (cc := cX4_undo) (maxL := 2) (ret := (some .int)) (by decide) rfl ?_
  intro p e s m args below meth c s₁ Bo hml hv
  obtain ⟨rfl, hC, hsz, hP, hD, hZ⟩ := hv
  have hx := Bo.exec
  have hb := Bo.bytes
  have hr := Bo.returns
  have hts : ∀ w ∈ LA, w.before _ s = true := fun w hw => atoms_spec (ws := ws_ yX4_undo cX4_undo 2 (some .int)) Bo.pre w (List.mem_cons_of_mem _ hw)
  have hown : s.vm.findClass RX4 = some m.cls := findClass_of_methodNamed Bo.named
  have hlocks := Bo.notSynchronized
  have hK := hC.1
  subst hsz
  obtain ⟨L0, hL0⟩ : ∃ L0, L0 = (XL x0 s0 s1 e0 E A B G T μ) := ⟨_, rfl⟩
  rw [← hL0] at hD hZ ⊢
  have hS : va_S (OA L0 s.heap.size) s.heap s.heap [] := va_S.rf
  suffices K9 : ∀ (H : Heap), va_P D vwCl (XW x0 s0 s1 e0 E A B G T t μ) H → va_S (OA L0 s.heap.size) s.heap H [] → W p l e (headSpec (ws_ yX4_undo cX4_undo 2 (some .int)) rm_X4_undo).room s m ([.ref x0] : List Value).toArray below meth c H [] 0 0 (MQ below (QB (fun _ : (Nat × Nat) × va_W => some (.int (nI L.length))) D (fun b => XW x0 s0 s1 e0 E A B (gA b.1.1 b.1.2) b.2 t (undoX μ γ L.length)) (fun b => Rep t e0 b.2 L (x_sl μ) S0 S1) L0 s.heap.size) ([.ref x0] : List Value).toArray s 0 0 (OA L0 s.heap.size)) (entryFrame m ([.ref x0] : List Value).toArray 2) from K9 s.heap hP hS
  intro H hP hS
  have hSz : s.heap.size ≤ H.size := hS.1
  have hl := lv_entry ([.ref x0]) (n := 2) (Nat.le_of_ble_eq_true rfl)
  rw [lg_entry_eq]
  generalize (lg_sl ([.ref x0]) ++ List.replicate (2 - (lg_sl ([.ref x0])).length) Slot.unset).toArray = ls at hl ⊢
  have hl : lv_has ls 2 [(0, .ref x0)] := hl
  obtain ⟨P9, pa, pb, rfl, e0L, h6, hfr, e1, e2, e3, e4⟩ := hR
  obtain ⟨P, p, rfl, rfl, rfl⟩ := map_snoc e0L
  have hf : ¬ e0 = t 100 := fun z => by have := hfr z; simp at this
  rw [List.length_map] at hn
  rw [List.length_append, List.length_singleton] at h6
  obtain ⟨R, hR⟩ : ∃ R : va_W, R = ((xw8 s1 E A B t μ) ++ (xwR B t μ)) ++ (P.flatMap (GWp t) ++ (pa.toList.flatMap (GWp t) ++ pb.toList.flatMap (GWp t))) := ⟨_, rfl⟩
  have hPD := pd_perm (pmU (xw8 s1 E A B t μ) (xwR B t μ) (P.flatMap (GWp t)) (pa.toList.flatMap (GWp t) ++ pb.toList.flatMap (GWp t))) (xw_inP (xw_eqU hf) hP) (xw_inD (xw_eqU hf) hD)
  have hPD := pd_sub (List.sublist_append_right _ _) hPD.1 hPD.2
  rw [← hR, hn] at hPD
  obtain ⟨hP, hD⟩ := hPD
  have hP : va_P D vwCl ([(x0, .inr (5, [.ref s0, .ref s1, .ref (E 0), .ref (A 0), .ref (G 0)])), (s0, .inr (0, [.int (x_lmod μ), .ref e0, .int (nI (P.length + 1))])), (e0, .inl (t 4, (10, .inr (.inr (.inr (.inr (refsP (P ++ [p])))))))), (p.1, .inr (2, [.int (g_wide p.2.2), .int (g_high p.2.2), .int (g_pond p.2.2), .long (g_walls p.2.2), .long (g_paved p.2.2), .int (g_tc p.2.2), .int (g_flips p.2.2), .int (g_refused p.2.2), .ref p.2.1])), (p.2.1, .inl (t 0, (21, .inl (g_names p.2.2))))] ++ R : va_W) H := hP
  have hD : va_D (OA L0 s.heap.size) ([(x0, .inr (5, [.ref s0, .ref s1, .ref (E 0), .ref (A 0), .ref (G 0)])), (s0, .inr (0, [.int (x_lmod μ), .ref e0, .int (nI (P.length + 1))])), (e0, .inl (t 4, (10, .inr (.inr (.inr (.inr (refsP (P ++ [p])))))))), (p.1, .inr (2, [.int (g_wide p.2.2), .int (g_high p.2.2), .int (g_pond p.2.2), .long (g_walls p.2.2), .long (g_paved p.2.2), .int (g_tc p.2.2), .int (g_flips p.2.2), .int (g_refused p.2.2), .ref p.2.1])), (p.2.1, .inl (t 0, (21, .inl (g_names p.2.2))))] ++ R : va_W) := hD
  have hSz : s.heap.size ≤ H.size := hS.1
  refine lv_aload_n hx hb dX4_undo_0 rfl (lv_at hl 0 rfl) ?_
  refine va_get hx hb hts inX4 hown hK hP 0 rfl rfl 0 (by decide) (hts _ qw157) (fun _ h9 => h9) rfl dX4_undo_1 ?_
  refine call_R (va_runV (As := []) (rest := []) ⟨hx, hb, hml, hown, hts⟩ (c_Jx4a65c_size_8abf5 l z0 D t s0 e0 ((x_lmod μ), (nI (P.length + 1))) _ rfl) (kV hts qw467 qw468 qw469 qw4 qw470 ok_Jx4a65c_size_8abf5 ⟨Nat.le_of_ble_eq_true rfl, Nat.le_of_ble_eq_true rfl⟩) ⟨PR.blind, va_recv hK (hP.sub (ws' := LSW s0 e0 t ((x_lmod μ), (nI (P.length + 1)))) [1] rfl) (ci := 0) (q0 := 0) rfl rfl, fun U hU hW => ⟨rfl, by rw [hU]; exact (hC.at hS hZ).warm hW, by rw [hU]; exact (hP.sub (ws' := LSW s0 e0 t ((x_lmod μ), (nI (P.length + 1)))) [1] rfl)⟩⟩ rfl rfl hl.1 rfl (lv_room (Nat.le_of_ble_eq_true rfl)) dX4_undo_4 ⟨Nat.le_of_ble_eq_true rfl, Nat.le_of_ble_eq_true rfl⟩) ?_
  refine topI (x := nI (P.length + 1)) rfl ?_
  refine lv_iconst (v := (1)) hx hb dX4_undo_7 (by decide) ?_
  refine lv_isub hx hb dX4_undo_8 ?_
  refine topI (nI_pred _).symm ?_
  refine lv_istore_n (lv' := [(1, .int (nI P.length)), (0, .ref x0)]) hx hb dX4_undo_9 rfl hl (by decide) rfl (fun ls hl => ?_)
  refine lv_iload_n hx hb dX4_undo_10 rfl (lv_at hl 0 rfl) ?_
  refine lv_if_ge (tgt := 24) hx hb dX4_undo_11 (by decide) (fun _ => ?_) (fun hc => absurd (nI_pos' (by omega)) hc)
  refine lv_aload_n hx hb dX4_undo_24 rfl (lv_at hl 1 rfl) ?_
  refine lv_aload_n hx hb dX4_undo_25 rfl (lv_at hl 1 rfl) ?_
  refine va_get hx hb hts inX4 hown hK hP 0 rfl rfl 0 (by decide) (hts _ qw157) (fun _ h9 => h9) rfl dX4_undo_26 ?_
  refine lv_iload_n hx hb dX4_undo_29 rfl (lv_at hl 0 rfl) ?_
  refine call_E (va_runV (As := [.int (nI P.length)]) (rest := [.ref x0]) ⟨hx, hb, hml, hown, hts⟩ (c_Jx4a65c_get_915e3 l z0 D t s0 e0 p.1 (x_lmod μ) (nI (P.length + 1)) (refsP (P ++ [p])) (nI P.length) H.size (vp_in_nI (by omega) (by decide)) (nI_pos (by omega)) (nI_lt (by omega) (by omega)) (by rw [nI_clamp (by omega)]; exact refs_last)) (kV hts qw918 qw919 qw920 qw4 qw921 ok_Jx4a65c_get_915e3 ⟨Nat.le_of_ble_eq_true rfl, Nat.le_of_ble_eq_true rfl⟩) ⟨PM.blind, va_recv hK (hP.sub (ws' := [(s0, .inr (0, [.int (x_lmod μ), .ref e0, .int (nI (P.length + 1))])), (e0, .inl (t 4, (10, .inr (.inr (.inr (.inr (refsP (P ++ [p]))))))))]) [1, 2] rfl) (ci := 0) (q0 := 0) rfl rfl, fun U hU hW => ⟨rfl, by rw [hU]; exact (hC.at hS hZ).warm hW, by rw [hU], by rw [hU]; exact (hP.sub (ws' := [(s0, .inr (0, [.int (x_lmod μ), .ref e0, .int (nI (P.length + 1))])), (e0, .inl (t 4, (10, .inr (.inr (.inr (.inr (refsP (P ++ [p]))))))))]) [1, 2] rfl), ⟨(hD.sub (ws' := [(s0, .inr (0, [.int (x_lmod μ), .ref e0, .int (nI (P.length + 1))])), (e0, .inl (t 4, (10, .inr (.inr (.inr (.inr (refsP (P ++ [p]))))))))]) [1, 2] (by decide) rfl).1, fun _ _ h9 => Or.inl (in_map (L := [s0, e0]) rfl h9)⟩, fun q hq => hZ q (OA.ofD (hD.sub (ws' := [(s0, .inr (0, [.int (x_lmod μ), .ref e0, .int (nI (P.length + 1))])), (e0, .inl (t 4, (10, .inr (.inr (.inr (.inr (refsP (P ++ [p]))))))))]) [1, 2] (by decide) rfl) rfl hSz q hq)⟩⟩ rfl rfl hl.1 rfl (lv_room (Nat.le_of_ble_eq_true rfl)) dX4_undo_30 ⟨Nat.le_of_ble_eq_true rfl, Nat.le_of_ble_eq_true rfl⟩) hS (OA.ofD (hD.sub (ws' := [(s0, .inr (0, [.int (x_lmod μ), .ref e0, .int (nI (P.length + 1))])), (e0, .inl (t 4, (10, .inr (.inr (.inr (.inr (refsP (P ++ [p]))))))))]) [1, 2] (by decide) rfl) rfl hSz) (fun b9 H locs hP1 hD1 hS _ hk1 => ?_)
  obtain ⟨hP, hD⟩ := va_backX (X := [(x0, .inr (5, [.ref s0, .ref s1, .ref (E 0), .ref (A 0), .ref (G 0)])), (s0, .inr (0, [.int (x_lmod μ), .ref e0, .int (nI (P.length + 1))])), (e0, .inl (t 4, (10, .inr (.inr (.inr (.inr (refsP (P ++ [p])))))))), (p.1, .inr (2, [.int (g_wide p.2.2), .int (g_high p.2.2), .int (g_pond p.2.2), .long (g_walls p.2.2), .long (g_paved p.2.2), .int (g_tc p.2.2), .int (g_flips p.2.2), .int (g_refused p.2.2), .ref p.2.1])), (p.2.1, .inl (t 0, (21, .inl (g_names p.2.2))))]) (K := R) (wr := [(x0, .inr (5, [.ref s0, .ref s1, .ref (E 0), .ref (A 0), .ref (G 0)])), (p.1, .inr (2, [.int (g_wide p.2.2), .int (g_high p.2.2), .int (g_pond p.2.2), .long (g_walls p.2.2), .long (g_paved p.2.2), .int (g_tc p.2.2), .int (g_flips p.2.2), .int (g_refused p.2.2), .ref p.2.1])), (p.2.1, .inl (t 0, (21, .inl (g_names p.2.2))))]) (w1 := ([(s0, .inr (0, [.int (x_lmod μ), .ref e0, .int (nI (P.length + 1))])), (e0, .inl (t 4, (10, .inr (.inr (.inr (.inr (refsP (P ++ [p]))))))))] : va_W)) hP hD [1, 2] [0, 3, 4] rfl rfl (by decide) (by decide) hk1 (OA.ofD (hD.sub (ws' := [(s0, .inr (0, [.int (x_lmod μ), .ref e0, .int (nI (P.length + 1))])), (e0, .inl (t 4, (10, .inr (.inr (.inr (.inr (refsP (P ++ [p]))))))))]) [1, 2] (by decide) rfl) rfl hSz) hP1 hD1
  have hP : va_P D vwCl ([(x0, .inr (5, [.ref s0, .ref s1, .ref (E 0), .ref (A 0), .ref (G 0)])), (p.1, .inr (2, [.int (g_wide p.2.2), .int (g_high p.2.2), .int (g_pond p.2.2), .long (g_walls p.2.2), .long (g_paved p.2.2), .int (g_tc p.2.2), .int (g_flips p.2.2), .int (g_refused p.2.2), .ref p.2.1])), (p.2.1, .inl (t 0, (21, .inl (g_names p.2.2)))), (s0, .inr (0, [.int (x_lmod μ), .ref e0, .int (nI (P.length + 1))])), (e0, .inl (t 4, (10, .inr (.inr (.inr (.inr (refsP (P ++ [p]))))))))] ++ R : va_W) H := hP
  have hD : va_D (OA L0 s.heap.size) ([(x0, .inr (5, [.ref s0, .ref s1, .ref (E 0), .ref (A 0), .ref (G 0)])), (p.1, .inr (2, [.int (g_wide p.2.2), .int (g_high p.2.2), .int (g_pond p.2.2), .long (g_walls p.2.2), .long (g_paved p.2.2), .int (g_tc p.2.2), .int (g_flips p.2.2), .int (g_refused p.2.2), .ref p.2.1])), (p.2.1, .inl (t 0, (21, .inl (g_names p.2.2)))), (s0, .inr (0, [.int (x_lmod μ), .ref e0, .int (nI (P.length + 1))])), (e0, .inl (t 4, (10, .inr (.inr (.inr (.inr (refsP (P ++ [p]))))))))] ++ R : va_W) := hD
  have hSz : s.heap.size ≤ H.size := hS.1
  refine W.widen (k := 0) (n := 0) (by omega) (by omega) ?_
  refine va_castE hx hb hown (hts _ qw61) (va_recv hK hP (ci := 2) (q0 := 1) rfl rfl) dX4_undo_33 ?_
  refine va_put (D := D) (ci := 5) (v := .ref p.1) (ty := (.object "BentGardens$Garden")) hx hb hts inX4 tyX4 tyX4_ok nmX4 hown hK hP hD hS 0 rfl rfl 4 (by decide) (hts _ qw161) (fun _ h9 => h9) rfl (by decide +kernel) rfl rfl (Nat.le_of_ble_eq_true rfl) dX4_undo_36 (fun H locs hP hD hS => ?_)
  have hP : va_P D vwCl ([(x0, .inr (5, [.ref s0, .ref s1, .ref (E 0), .ref (A 0), .ref p.1])), (p.1, .inr (2, [.int (g_wide p.2.2), .int (g_high p.2.2), .int (g_pond p.2.2), .long (g_walls p.2.2), .long (g_paved p.2.2), .int (g_tc p.2.2), .int (g_flips p.2.2), .int (g_refused p.2.2), .ref p.2.1])), (p.2.1, .inl (t 0, (21, .inl (g_names p.2.2)))), (s0, .inr (0, [.int (x_lmod μ), .ref e0, .int (nI (P.length + 1))])), (e0, .inl (t 4, (10, .inr (.inr (.inr (.inr (refsP (P ++ [p]))))))))] ++ R : va_W) H := hP
  have hD : va_D (OA L0 s.heap.size) ([(x0, .inr (5, [.ref s0, .ref s1, .ref (E 0), .ref (A 0), .ref p.1])), (p.1, .inr (2, [.int (g_wide p.2.2), .int (g_high p.2.2), .int (g_pond p.2.2), .long (g_walls p.2.2), .long (g_paved p.2.2), .int (g_tc p.2.2), .int (g_flips p.2.2), .int (g_refused p.2.2), .ref p.2.1])), (p.2.1, .inl (t 0, (21, .inl (g_names p.2.2)))), (s0, .inr (0, [.int (x_lmod μ), .ref e0, .int (nI (P.length + 1))])), (e0, .inl (t 4, (10, .inr (.inr (.inr (.inr (refsP (P ++ [p]))))))))] ++ R : va_W) := hD
  have hSz : s.heap.size ≤ H.size := hS.1
  refine lv_aload_n hx hb dX4_undo_39 rfl (lv_at hl 1 rfl) ?_
  refine va_get hx hb hts inX4 hown hK hP 0 rfl rfl 0 (by decide) (hts _ qw157) (fun _ h9 => h9) rfl dX4_undo_40 ?_
  refine lv_iload_n hx hb dX4_undo_43 rfl (lv_at hl 0 rfl) ?_
  refine call_E (va_runV (As := [.int (nI P.length)]) (rest := []) ⟨hx, hb, hml, hown, hts⟩ (c_Jx4a65c_remove_915e3_l l z0 D t s0 e0 p.1 (x_lmod μ) P.length (refsP (P ++ [p])) H.size (by omega) refs_last) (kV hts qw666 qw667 qw668 qw4 qw669 ok_Jx4a65c_remove_915e3 ⟨Nat.le_of_ble_eq_true rfl, Nat.le_of_ble_eq_true rfl⟩) ⟨PM.blind, va_recv hK (hP.sub (ws' := [(s0, .inr (0, [.int (x_lmod μ), .ref e0, .int (nI (P.length + 1))])), (e0, .inl (t 4, (10, .inr (.inr (.inr (.inr (refsP (P ++ [p]))))))))]) [3, 4] rfl) (ci := 0) (q0 := 0) rfl rfl, fun U hU hW => ⟨rfl, by rw [hU]; exact (hC.at hS hZ).warm hW, by rw [hU], by rw [hU]; exact (hP.sub (ws' := [(s0, .inr (0, [.int (x_lmod μ), .ref e0, .int (nI (P.length + 1))])), (e0, .inl (t 4, (10, .inr (.inr (.inr (.inr (refsP (P ++ [p]))))))))]) [3, 4] rfl), ⟨(hD.sub (ws' := [(s0, .inr (0, [.int (x_lmod μ), .ref e0, .int (nI (P.length + 1))])), (e0, .inl (t 4, (10, .inr (.inr (.inr (.inr (refsP (P ++ [p]))))))))]) [3, 4] (by decide) rfl).1, fun _ _ h9 => Or.inl (in_map (L := [s0, e0]) rfl h9)⟩, fun q hq => hZ q (OA.ofD (hD.sub (ws' := [(s0, .inr (0, [.int (x_lmod μ), .ref e0, .int (nI (P.length + 1))])), (e0, .inl (t 4, (10, .inr (.inr (.inr (.inr (refsP (P ++ [p]))))))))]) [3, 4] (by decide) rfl) rfl hSz q hq)⟩⟩ rfl rfl hl.1 rfl (lv_room (Nat.le_of_ble_eq_true rfl)) dX4_undo_44 ⟨Nat.le_of_ble_eq_true rfl, Nat.le_of_ble_eq_true rfl⟩) hS (OA.ofD (hD.sub (ws' := [(s0, .inr (0, [.int (x_lmod μ), .ref e0, .int (nI (P.length + 1))])), (e0, .inl (t 4, (10, .inr (.inr (.inr (.inr (refsP (P ++ [p]))))))))]) [3, 4] (by decide) rfl) rfl hSz) (fun b9 H locs hP1 hD1 hS _ hk1 => ?_)
  obtain ⟨hP, hD⟩ := va_backX (X := [(x0, .inr (5, [.ref s0, .ref s1, .ref (E 0), .ref (A 0), .ref p.1])), (p.1, .inr (2, [.int (g_wide p.2.2), .int (g_high p.2.2), .int (g_pond p.2.2), .long (g_walls p.2.2), .long (g_paved p.2.2), .int (g_tc p.2.2), .int (g_flips p.2.2), .int (g_refused p.2.2), .ref p.2.1])), (p.2.1, .inl (t 0, (21, .inl (g_names p.2.2)))), (s0, .inr (0, [.int (x_lmod μ), .ref e0, .int (nI (P.length + 1))])), (e0, .inl (t 4, (10, .inr (.inr (.inr (.inr (refsP (P ++ [p]))))))))]) (K := R) (wr := [(x0, .inr (5, [.ref s0, .ref s1, .ref (E 0), .ref (A 0), .ref p.1])), (p.1, .inr (2, [.int (g_wide p.2.2), .int (g_high p.2.2), .int (g_pond p.2.2), .long (g_walls p.2.2), .long (g_paved p.2.2), .int (g_tc p.2.2), .int (g_flips p.2.2), .int (g_refused p.2.2), .ref p.2.1])), (p.2.1, .inl (t 0, (21, .inl (g_names p.2.2))))]) (w1 := ([(s0, .inr (0, [.int (x_lmod μ + 1), .ref e0, .int (nI P.length)])), (e0, .inl (t 4, (10, .inr (.inr (.inr (.inr (va_up (refsP (P ++ [p])) P.length none)))))))] : va_W)) hP hD [3, 4] [0, 1, 2] rfl rfl (by decide) (by decide) hk1 (OA.ofD (hD.sub (ws' := [(s0, .inr (0, [.int (x_lmod μ), .ref e0, .int (nI (P.length + 1))])), (e0, .inl (t 4, (10, .inr (.inr (.inr (.inr (refsP (P ++ [p]))))))))]) [3, 4] (by decide) rfl) rfl hSz) hP1 hD1
  have hP : va_P D vwCl ([(x0, .inr (5, [.ref s0, .ref s1, .ref (E 0), .ref (A 0), .ref p.1])), (p.1, .inr (2, [.int (g_wide p.2.2), .int (g_high p.2.2), .int (g_pond p.2.2), .long (g_walls p.2.2), .long (g_paved p.2.2), .int (g_tc p.2.2), .int (g_flips p.2.2), .int (g_refused p.2.2), .ref p.2.1])), (p.2.1, .inl (t 0, (21, .inl (g_names p.2.2)))), (s0, .inr (0, [.int (x_lmod μ + 1), .ref e0, .int (nI P.length)])), (e0, .inl (t 4, (10, .inr (.inr (.inr (.inr (va_up (refsP (P ++ [p])) P.length none)))))))] ++ R : va_W) H := hP
  have hD : va_D (OA L0 s.heap.size) ([(x0, .inr (5, [.ref s0, .ref s1, .ref (E 0), .ref (A 0), .ref p.1])), (p.1, .inr (2, [.int (g_wide p.2.2), .int (g_high p.2.2), .int (g_pond p.2.2), .long (g_walls p.2.2), .long (g_paved p.2.2), .int (g_tc p.2.2), .int (g_flips p.2.2), .int (g_refused p.2.2), .ref p.2.1])), (p.2.1, .inl (t 0, (21, .inl (g_names p.2.2)))), (s0, .inr (0, [.int (x_lmod μ + 1), .ref e0, .int (nI P.length)])), (e0, .inl (t 4, (10, .inr (.inr (.inr (.inr (va_up (refsP (P ++ [p])) P.length none)))))))] ++ R : va_W) := hD
  have hSz : s.heap.size ≤ H.size := hS.1
  refine W.widen (k := 0) (n := 0) (by omega) (by omega) ?_
  refine lv_pop hx hb dX4_undo_47 rfl ?_
  refine lv_iload_n hx hb dX4_undo_48 rfl (lv_at hl 0 rfl) ?_
  rw [refs_l] at hP hD
  have hP := hP.part (cx := [(x0, .inr (5, [.ref s0, .ref s1, .ref (E 0), .ref (A 0), .ref p.1])), (s0, .inr (0, [.int (x_lmod μ + 1), .ref e0, .int (nI P.length)])), (e0, .inl (t 4, (10, .inr (.inr (.inr (.inr (refsP P))))))), (p.1, .inr (2, [.int (g_wide p.2.2), .int (g_high p.2.2), .int (g_pond p.2.2), .long (g_walls p.2.2), .long (g_paved p.2.2), .int (g_tc p.2.2), .int (g_flips p.2.2), .int (g_refused p.2.2), .ref p.2.1])), (p.2.1, .inl (t 0, (21, .inl (g_names p.2.2))))]) [0, 3, 4, 1, 2] rfl
  have hD := hD.part (cx := [(x0, .inr (5, [.ref s0, .ref s1, .ref (E 0), .ref (A 0), .ref p.1])), (s0, .inr (0, [.int (x_lmod μ + 1), .ref e0, .int (nI P.length)])), (e0, .inl (t 4, (10, .inr (.inr (.inr (.inr (refsP P))))))), (p.1, .inr (2, [.int (g_wide p.2.2), .int (g_high p.2.2), .int (g_pond p.2.2), .long (g_walls p.2.2), .long (g_paved p.2.2), .int (g_tc p.2.2), .int (g_flips p.2.2), .int (g_refused p.2.2), .ref p.2.1])), (p.2.1, .inl (t 0, (21, .inl (g_names p.2.2))))]) [0, 3, 4, 1, 2] (by decide) rfl
  rw [hR] at hP hD
  have hPD := pd_perm (pmUo (xw8 s1 E A B t μ) (xwR B t μ) (P.flatMap (GWp t)) (pa.toList.flatMap (GWp t) ++ pb.toList.flatMap (GWp t))) hP hD
  rw [show nI P.length = nI (P.map (fun p => p.2.2)).length by rw [List.length_map]] at hPD
  refine topI (x := nI (P.map (fun p => p.2.2)).length) (by rw [List.length_map]) ?_
  exact W.iret hx hb hr (fun t9 ht hW => ⟨((p.1, p.2.1), TT t e0 P pa pb), ⟨P, pa, pb, rfl, rfl, by omega, fun z => absurd z hf, e1, e2, e3, e4⟩, rfl, by rw [ht]; exact xw_inP (xw_eqV hf).symm hPD.1, xw_inD (xw_eqV hf).symm hPD.2, hS.F ht⟩) hS.2.2 dX4_undo_49

abbrev rm_X4_goBack : Room := { frames := 10, cells := 5, slots := 70, locals := 360 }
theorem ok_X4_goBack : okY yX4_goBack 1 := ⟨by decide +kernel, by decide +kernel, by decide +kernel⟩
set_option maxHeartbeats 4000000 in
set_option maxRecDepth 100000 in
theorem c_X4_goBack (l : Launch) (z0 : Nat) (D : va_G) (t : Nat → ClassId) (x0 s0 s1 e0 : Nat) (E A : Nat → Nat) (B G : Nat → Nat) (T : va_W) (μ : XS) (L : List GS) (S0 S1 : Option GS) (k : Nat) (γ : GS) (sz : Nat) (hk2 : k < 2) (h : f_X4_requireSlot μ (nI k) = some (.inl ())) (hR : Rep t e0 T L (x_sl μ) S0 S1) (hn : x_lsize μ = nI L.length) (hγ : (if k = 0 then S0 else S1) = some γ) : Met l yX4_goBack (ws_ yX4_goBack cX4_goBack 3 (some .int)) rm_X4_goBack (PM z0 D t [.ref x0, .int (nI k)] (XW x0 s0 s1 e0 E A B G T t μ) (XL x0 s0 s1 e0 E A B G T μ) sz) (QB (fun _ : (Nat × Nat) × Nat × va_W => some (.int (g_tc γ))) D (fun b => XW x0 s0 s1 b.2.1 E A B (gA b.1.1 b.1.2) b.2.2 t (gardX (svX μ) γ)) (fun b => Rep t b.2.1 b.2.2 (svL L (gsX μ)) (x_sl μ) S0 S1) (XL x0 s0 s1 e0 E A B G T μ) sz) 5 70 (OA (XL x0 s0 s1 e0 E A B G T μ) sz) := by
  refine Met.ofW (cc := cX4_goBack) (maxL := 3) (ret := (some .int)) (by decide) rfl ?_
  intro p e s m args below meth c s₁ Bo hml hv
  obtain ⟨rfl, hC, hsz, hP, hD, hZ⟩ := hv
  have hx := Bo.exec
  have hb := Bo.bytes
  have hr := Bo.returns
  have hts : ∀ w ∈ LA, w.before _ s = true := fun w hw => atoms_spec (ws := ws_ yX4_goBack cX4_goBack 3 (some .int)) Bo.pre w (List.mem_cons_of_mem _ hw)
  have hown : s.vm.findClass RX4 = some m.cls := findClass_of_methodNamed Bo.named
  have hlocks := Bo.notSynchronized
  have hK := hC.1
  subst hsz
  obtain ⟨L0, hL0⟩ : ∃ L0, L0 = (XL x0 s0 s1 e0 E A B G T μ) := ⟨_, rfl⟩
  rw [← hL0] at hD hZ ⊢
  have hS : va_S (OA L0 s.heap.size) s.heap s.heap [] := va_S.rf
  suffices K9 : ∀ (H : Heap), va_P D vwCl (XW x0 s0 s1 e0 E A B G T t μ) H → va_S (OA L0 s.heap.size) s.heap H [] → W p l e (headSpec (ws_ yX4_goBack cX4_goBack 3 (some .int)) rm_X4_goBack).room s m ([.ref x0, .int (nI k)] : List Value).toArray below meth c H [] 0 0 (MQ below (QB (fun _ : (Nat × Nat) × Nat × va_W => some (.int (g_tc γ))) D (fun b => XW x0 s0 s1 b.2.1 E A B (gA b.1.1 b.1.2) b.2.2 t (gardX (svX μ) γ)) (fun b => Rep t b.2.1 b.2.2 (svL L (gsX μ)) (x_sl μ) S0 S1) L0 s.heap.size) ([.ref x0, .int (nI k)] : List Value).toArray s 5 70 (OA L0 s.heap.size)) (entryFrame m ([.ref x0, .int (nI k)] : List Value).toArray 3) from K9 s.heap hP hS
  intro H hP hS
  have hSz : s.heap.size ≤ H.size := hS.1
  have hl := lv_entry ([.ref x0, .int (nI k)]) (n := 3) (Nat.le_of_ble_eq_true rfl)
  rw [lg_entry_eq]
  generalize (lg_sl ([.ref x0, .int (nI k)]) ++ List.replicate (3 - (lg_sl ([.ref x0, .int (nI k)])).length) Slot.unset).toArray = ls at hl ⊢
  have hl : lv_has ls 3 [(0, .ref x0), (1, .int (nI k))] := hl
  refine lv_aload_n hx hb dX4_goBack_0 rfl (lv_at hl 0 rfl) ?_
  refine lv_iload_n hx hb dX4_goBack_1 rfl (lv_at hl 1 rfl) ?_
  refine call_R (va_runV (As := [.int (nI k)]) (rest := []) ⟨hx, hb, hml, hown, hts⟩ (c_X4_requireSlot l z0 D t x0 s0 s1 e0 E A B G T μ (nI k) () h) (kV hts qw897 qw899 qs29 qw1 qw900 ok_X4_requireSlot ⟨Nat.le_of_ble_eq_true rfl, Nat.le_of_ble_eq_true rfl⟩) ⟨PR.blind, va_recv hK hP (ci := 5) (q0 := 0) rfl rfl, fun U hU hW => ⟨rfl, by rw [hU]; exact (hC.at hS hZ).warm hW, by rw [hU]; exact hP⟩⟩ rfl rfl hl.1 rfl (lv_room (Nat.le_of_ble_eq_true rfl)) dX4_goBack_2 ⟨Nat.le_of_ble_eq_true rfl, Nat.le_of_ble_eq_true rfl⟩) ?_
  refine lv_aload_n hx hb dX4_goBack_5 rfl (lv_at hl 0 rfl) ?_
  refine va_get hx hb hts inX4 hown hK hP 0 rfl rfl 1 (by decide) (hts _ qw158) (fun _ h9 => h9) rfl dX4_goBack_6 ?_
  refine lv_iload_n hx hb dX4_goBack_9 rfl (lv_at hl 1 rfl) ?_
  obtain ⟨o, n9, T9, ho, -⟩ := rep_slot hR hk2 hγ
  refine va_aldq hx hb hK hP 1 3 rfl rfl (vp_in_nI hk2 (by decide)) dX4_goBack_10 ?_
  refine topQ (x := some o) (by rw [nI_clamp (by omega)]; exact ho.symm) ?_
  refine lv_astore_n (lv' := [(2, .ref o), (0, .ref x0), (1, .int (nI k))]) hx hb dX4_goBack_11 rfl hl (by decide) rfl (fun ls hl => ?_)
  refine lv_aload_n hx hb dX4_goBack_12 rfl (lv_at hl 0 rfl) ?_
  refine lv_ifnonnull (tgt := 26) hx hb dX4_goBack_13 (by decide) ?_
  refine lv_aload_n hx hb dX4_goBack_26 rfl (lv_at hl 1 rfl) ?_
  refine call_S (va_runV (As := []) (rest := []) ⟨hx, hb, hml, hown, hts⟩ (c_X4_saveState l z0 D t x0 s0 s1 e0 E A B G T μ L S0 S1 H.size hR hn) (kV hts qw662 qw664 qs23 qw1 qw665 ok_X4_saveState ⟨Nat.le_of_ble_eq_true rfl, Nat.le_of_ble_eq_true rfl⟩) ⟨PM.blind, va_recv hK hP (ci := 5) (q0 := 0) rfl rfl, fun U hU hW => ⟨rfl, by rw [hU]; exact (hC.at hS hZ).warm hW, by rw [hU], by rw [hU]; exact hP, ⟨hD.1, fun _ _ h9 => Or.inl (in_map (L := (XL x0 s0 s1 e0 E A B G T μ)) rfl h9)⟩, fun q hq => hZ q (OA.ofD hD rfl hSz q hq)⟩⟩ rfl rfl hl.1 rfl (lv_room (Nat.le_of_ble_eq_true rfl)) dX4_goBack_27 ⟨Nat.le_of_ble_eq_true rfl, Nat.le_of_ble_eq_true rfl⟩) hS (OA.ofD hD rfl hSz) (fun e1 T1 H locs hRp hP hD1 hS _ _ => ?_)
  have hP : va_P D vwCl (XW x0 s0 s1 e1 E A B G T1 t (svX μ)) H := hP
  have hD : va_D (OA L0 s.heap.size) (XW x0 s0 s1 e1 E A B G T1 t (svX μ)) := hD1.weaken (fun _ q _ h9 => OA.ofD hD rfl hSz q.1 h9)
  have hSz : s.heap.size ≤ H.size := hS.1
  obtain ⟨o2, n, T2, ho2, hpm⟩ := rep_slot hRp hk2 hγ
  obtain rfl : o = o2 := Option.some.inj (ho.symm.trans ho2)
  obtain ⟨μ2, hμ2⟩ : ∃ z, z = svX μ := ⟨_, rfl⟩
  rw [← hμ2] at hP hD
  obtain ⟨R, hR9⟩ : ∃ R : va_W, R = (((xw8 s1 E A B t μ2) ++ [((G 0), .inr (2, [.int (x_wide μ2), .int (x_high μ2), .int (x_pond μ2), .long (x_walls μ2), .long (x_paved μ2), .int (x_tc μ2), .int (x_flips μ2), .int (x_refused μ2), .ref (G 1)])), ((G 1), .inl (t 0, (21, .inl (x_names μ2)))), (s0, .inr (0, [.int (x_lmod μ2), .ref e1, .int (x_lsize μ2)]))]) ++ ((xwR B t μ2) ++ T2)) := ⟨_, rfl⟩
  have hPD := pd_perm ((List.Perm.append_left _ (List.Perm.append_left _ hpm)).trans (pmB (xw8 s1 E A B t μ2) (xwR B t μ2) T2)) hP hD
  rw [← hR9] at hPD
  obtain ⟨hP, hD⟩ := hPD
  have hP : va_P D vwCl ([(x0, .inr (5, [.ref s0, .ref s1, .ref (E 0), .ref (A 0), .ref (G 0)])), (o, .inr (2, [.int (g_wide γ), .int (g_high γ), .int (g_pond γ), .long (g_walls γ), .long (g_paved γ), .int (g_tc γ), .int (g_flips γ), .int (g_refused γ), .ref n])), (n, .inl (t 0, (21, .inl (g_names γ))))] ++ R : va_W) H := hP
  have hD : va_D (OA L0 s.heap.size) ([(x0, .inr (5, [.ref s0, .ref s1, .ref (E 0), .ref (A 0), .ref (G 0)])), (o, .inr (2, [.int (g_wide γ), .int (g_high γ), .int (g_pond γ), .long (g_walls γ), .long (g_paved γ), .int (g_tc γ), .int (g_flips γ), .int (g_refused γ), .ref n])), (n, .inl (t 0, (21, .inl (g_names γ))))] ++ R : va_W) := hD
  have hSz : s.heap.size ≤ H.size := hS.1
  refine W.widen (k := 3) (n := 40) (by omega) (by omega) ?_
  refine lv_aload_n hx hb dX4_goBack_30 rfl (lv_at hl 1 rfl) ?_
  refine lv_aload_n hx hb dX4_goBack_31 rfl (lv_at hl 0 rfl) ?_
  refine call_E (va_runV (As := []) (rest := [.ref x0]) ⟨hx, hb, hml, hown, hts⟩ (c_X1_copied l z0 D t (gA o n) γ H.size) (kV hts qw683 qw684 qw685 qw8 qw686 ok_X1_copied ⟨Nat.le_of_ble_eq_true rfl, Nat.le_of_ble_eq_true rfl⟩) ⟨PM.blind, va_recv hK (hP.sub (ws' := [(o, .inr (2, [.int (g_wide γ), .int (g_high γ), .int (g_pond γ), .long (g_walls γ), .long (g_paved γ), .int (g_tc γ), .int (g_flips γ), .int (g_refused γ), .ref n])), (n, .inl (t 0, (21, .inl (g_names γ))))]) [1, 2] rfl) (ci := 2) (q0 := 0) rfl rfl, fun U hU hW => ⟨rfl, by rw [hU]; exact (hC.at hS hZ).warm hW, by rw [hU], by rw [hU]; exact (hP.sub (ws' := [(o, .inr (2, [.int (g_wide γ), .int (g_high γ), .int (g_pond γ), .long (g_walls γ), .long (g_paved γ), .int (g_tc γ), .int (g_flips γ), .int (g_refused γ), .ref n])), (n, .inl (t 0, (21, .inl (g_names γ))))]) [1, 2] rfl), ⟨(hD.sub (ws' := [(o, .inr (2, [.int (g_wide γ), .int (g_high γ), .int (g_pond γ), .long (g_walls γ), .long (g_paved γ), .int (g_tc γ), .int (g_flips γ), .int (g_refused γ), .ref n])), (n, .inl (t 0, (21, .inl (g_names γ))))]) [1, 2] (by decide) rfl).1, fun _ _ h9 => Or.inl (in_map (L := [o, n]) rfl h9)⟩, fun q hq => hZ q (OA.ofD (hD.sub (ws' := [(o, .inr (2, [.int (g_wide γ), .int (g_high γ), .int (g_pond γ), .long (g_walls γ), .long (g_paved γ), .int (g_tc γ), .int (g_flips γ), .int (g_refused γ), .ref n])), (n, .inl (t 0, (21, .inl (g_names γ))))]) [1, 2] (by decide) rfl) rfl hSz q hq)⟩⟩ rfl rfl hl.1 rfl (lv_room (Nat.le_of_ble_eq_true rfl)) dX4_goBack_32 ⟨Nat.le_of_ble_eq_true rfl, Nat.le_of_ble_eq_true rfl⟩) hS (OA.ofD (hD.sub (ws' := [(o, .inr (2, [.int (g_wide γ), .int (g_high γ), .int (g_pond γ), .long (g_walls γ), .long (g_paved γ), .int (g_tc γ), .int (g_flips γ), .int (g_refused γ), .ref n])), (n, .inl (t 0, (21, .inl (g_names γ))))]) [1, 2] (by decide) rfl) rfl hSz) (fun b9 H locs hP1 hD1 hS _ hk1 => ?_)
  obtain ⟨q1, q2⟩ := b9
  obtain ⟨hP, hD⟩ := va_backX (X := [(x0, .inr (5, [.ref s0, .ref s1, .ref (E 0), .ref (A 0), .ref (G 0)])), (o, .inr (2, [.int (g_wide γ), .int (g_high γ), .int (g_pond γ), .long (g_walls γ), .long (g_paved γ), .int (g_tc γ), .int (g_flips γ), .int (g_refused γ), .ref n])), (n, .inl (t 0, (21, .inl (g_names γ))))]) (K := R) (wr := [(x0, .inr (5, [.ref s0, .ref s1, .ref (E 0), .ref (A 0), .ref (G 0)]))]) (w1 := ([(o, .inr (2, [.int (g_wide γ), .int (g_high γ), .int (g_pond γ), .long (g_walls γ), .long (g_paved γ), .int (g_tc γ), .int (g_flips γ), .int (g_refused γ), .ref n])), (n, .inl (t 0, (21, .inl (g_names γ)))), (q1, .inr (2, [.int (g_wide γ), .int (g_high γ), .int (g_pond γ), .long (g_walls γ), .long (g_paved γ), .int (g_tc γ), .int (g_flips γ), .int (g_refused γ), .ref q2])), (q2, .inl (t 0, (21, .inl (g_names γ))))] : va_W)) hP hD [1, 2] [0] rfl rfl (by decide) (by decide) hk1 (OA.ofD (hD.sub (ws' := [(o, .inr (2, [.int (g_wide γ), .int (g_high γ), .int (g_pond γ), .long (g_walls γ), .long (g_paved γ), .int (g_tc γ), .int (g_flips γ), .int (g_refused γ), .ref n])), (n, .inl (t 0, (21, .inl (g_names γ))))]) [1, 2] (by decide) rfl) rfl hSz) hP1 hD1
  have hP : va_P D vwCl ([(x0, .inr (5, [.ref s0, .ref s1, .ref (E 0), .ref (A 0), .ref (G 0)])), (o, .inr (2, [.int (g_wide γ), .int (g_high γ), .int (g_pond γ), .long (g_walls γ), .long (g_paved γ), .int (g_tc γ), .int (g_flips γ), .int (g_refused γ), .ref n])), (n, .inl (t 0, (21, .inl (g_names γ)))), (q1, .inr (2, [.int (g_wide γ), .int (g_high γ), .int (g_pond γ), .long (g_walls γ), .long (g_paved γ), .int (g_tc γ), .int (g_flips γ), .int (g_refused γ), .ref q2])), (q2, .inl (t 0, (21, .inl (g_names γ))))] ++ R : va_W) H := hP
  have hD : va_D (OA L0 s.heap.size) ([(x0, .inr (5, [.ref s0, .ref s1, .ref (E 0), .ref (A 0), .ref (G 0)])), (o, .inr (2, [.int (g_wide γ), .int (g_high γ), .int (g_pond γ), .long (g_walls γ), .long (g_paved γ), .int (g_tc γ), .int (g_flips γ), .int (g_refused γ), .ref n])), (n, .inl (t 0, (21, .inl (g_names γ)))), (q1, .inr (2, [.int (g_wide γ), .int (g_high γ), .int (g_pond γ), .long (g_walls γ), .long (g_paved γ), .int (g_tc γ), .int (g_flips γ), .int (g_refused γ), .ref q2])), (q2, .inl (t 0, (21, .inl (g_names γ))))] ++ R : va_W) := hD
  have hSz : s.heap.size ≤ H.size := hS.1
  refine W.widen (k := 5) (n := 70) (by omega) (by omega) ?_
  refine va_put (D := D) (ci := 5) (v := .ref q1) (ty := (.object "BentGardens$Garden")) hx hb hts inX4 tyX4 tyX4_ok nmX4 hown hK hP hD hS 0 rfl rfl 4 (by decide) (hts _ qw161) (fun _ h9 => h9) rfl (by decide +kernel) rfl rfl (Nat.le_of_ble_eq_true rfl) dX4_goBack_35 (fun H locs hP hD hS => ?_)
  have hP : va_P D vwCl ([(x0, .inr (5, [.ref s0, .ref s1, .ref (E 0), .ref (A 0), .ref q1])), (o, .inr (2, [.int (g_wide γ), .int (g_high γ), .int (g_pond γ), .long (g_walls γ), .long (g_paved γ), .int (g_tc γ), .int (g_flips γ), .int (g_refused γ), .ref n])), (n, .inl (t 0, (21, .inl (g_names γ)))), (q1, .inr (2, [.int (g_wide γ), .int (g_high γ), .int (g_pond γ), .long (g_walls γ), .long (g_paved γ), .int (g_tc γ), .int (g_flips γ), .int (g_refused γ), .ref q2])), (q2, .inl (t 0, (21, .inl (g_names γ))))] ++ R : va_W) H := hP
  have hD : va_D (OA L0 s.heap.size) ([(x0, .inr (5, [.ref s0, .ref s1, .ref (E 0), .ref (A 0), .ref q1])), (o, .inr (2, [.int (g_wide γ), .int (g_high γ), .int (g_pond γ), .long (g_walls γ), .long (g_paved γ), .int (g_tc γ), .int (g_flips γ), .int (g_refused γ), .ref n])), (n, .inl (t 0, (21, .inl (g_names γ)))), (q1, .inr (2, [.int (g_wide γ), .int (g_high γ), .int (g_pond γ), .long (g_walls γ), .long (g_paved γ), .int (g_tc γ), .int (g_flips γ), .int (g_refused γ), .ref q2])), (q2, .inl (t 0, (21, .inl (g_names γ))))] ++ R : va_W) := hD
  have hSz : s.heap.size ≤ H.size := hS.1
  refine lv_aload_n hx hb dX4_goBack_38 rfl (lv_at hl 1 rfl) ?_
  refine va_get hx hb hts inX4 hown hK hP 0 rfl rfl 4 (by decide) (hts _ qw161) (fun _ h9 => h9) rfl dX4_goBack_39 ?_
  refine va_get hx hb hts inX1 hown hK hP 3 rfl rfl 5 (by decide) (hts _ qw132) (fun _ h9 => h9) rfl dX4_goBack_42 ?_
  have hP := hP.part (cx := [(x0, .inr (5, [.ref s0, .ref s1, .ref (E 0), .ref (A 0), .ref q1])), (o, .inr (2, [.int (g_wide γ), .int (g_high γ), .int (g_pond γ), .long (g_walls γ), .long (g_paved γ), .int (g_tc γ), .int (g_flips γ), .int (g_refused γ), .ref n])), (n, .inl (t 0, (21, .inl (g_names γ)))), (q1, .inr (2, [.int (g_wide γ), .int (g_high γ), .int (g_pond γ), .long (g_walls γ), .long (g_paved γ), .int (g_tc γ), .int (g_flips γ), .int (g_refused γ), .ref q2])), (q2, .inl (t 0, (21, .inl (g_names γ))))]) [0, 1, 2, 3, 4] rfl
  have hD := hD.part (cx := [(x0, .inr (5, [.ref s0, .ref s1, .ref (E 0), .ref (A 0), .ref q1])), (o, .inr (2, [.int (g_wide γ), .int (g_high γ), .int (g_pond γ), .long (g_walls γ), .long (g_paved γ), .int (g_tc γ), .int (g_flips γ), .int (g_refused γ), .ref n])), (n, .inl (t 0, (21, .inl (g_names γ)))), (q1, .inr (2, [.int (g_wide γ), .int (g_high γ), .int (g_pond γ), .long (g_walls γ), .long (g_paved γ), .int (g_tc γ), .int (g_flips γ), .int (g_refused γ), .ref q2])), (q2, .inl (t 0, (21, .inl (g_names γ))))]) [0, 1, 2, 3, 4] (by decide) rfl
  rw [hR9] at hP hD
  have hPD := pd_perm (pmBo (xw8 s1 E A B t μ2) (xwR B t μ2) T2) hP hD
  have hPD := pd_sub (List.sublist_append_right _ _) hPD.1 hPD.2
  have hPD := pd_perm (List.Perm.append_left _ (List.Perm.append_left _ hpm.symm)) hPD.1 hPD.2
  exact W.iret hx hb hr (fun t9 ht hW => ⟨((q1, q2), e1, T1), hRp, rfl, by rw [ht, ← hμ2]; exact hPD.1, by rw [← hμ2]; exact hPD.2, hS.F ht⟩) hS.2.2 dX4_goBack_45
