/-! ===== p30: the reading methods of the class answer as the state of numbers tells ===== -/
section RQ
variable {W H P wm : Nat} {T : List TR} {fl rf : Int32} {x : XS}
theorem reqIn (hG : GR W H P wm T fl rf (gsX x)) (hO : OK W H P wm T) {X Y : Nat} (hX : X < W) (hY : Y < H) : f_X4_requireCell x (nI X) (nI Y) = some (.inl ()) := by
  have hW := hO.2.1
  have hH := hO.2.2.2.1
  unfold f_X4_requireCell
  simp only [LIT]
  rw [show f_X1_hasBlock (gsX x) (nI X) (nI Y) (nI 1) (nI 1) = some (nI 1) from hasBlockIn hG hW hH (by omega) (by omega), ob, if_neg (by rw [nI_eq (by decide) (by decide)]; decide)]
theorem reqOut (hG : GR W H P wm T fl rf (gsX x)) (hO : OK W H P wm T) {a b : Int32} (h : jix W a = none ∨ jix H b = none) : f_X4_requireCell x a b = some (.inr IOE) := by
  have hW := hO.2.1
  have hH := hO.2.2.2.1
  unfold f_X4_requireCell
  simp only [LIT]
  rw [show f_X1_hasBlock (gsX x) a b (nI 1) (nI 1) = some (nI 0) from hasBlockOut hG hW hH (by decide) (by decide) (jxB (bw := 1) (bh := 1) hW hH (by decide) (by decide) h), ob, if_pos rfl]
theorem whyE (hG : GR W H P wm T fl rf (gsX x)) (hO : OK W H P wm T) (a b : Int32) {t : Nat} (ht : t < 4) : f_X1_whyRefused (gsX x) a b (nI t) = some (nI (zwhy (W, H, P, wm, T, fl, rf) a b t)) := by
  have hW := hO.2.1
  have hH := hO.2.2.2.1
  unfold zwhy
  cases e1 : jix (W + 1 - 2) a with
  | none => rw [oelN, whyOut hG hO (jxB (bw := 2) (bh := 2) hW hH (by decide) (by decide) (Or.inl e1))]
  | some X =>
    cases e2 : jix (H + 1 - 2) b with
    | none => rw [oelS, oelN, whyOut hG hO (jxB (bw := 2) (bh := 2) hW hH (by decide) (by decide) (Or.inr e2))]
    | some Y =>
      obtain ⟨hX, rfl⟩ := jxS e1
      obtain ⟨hY, rfl⟩ := jxS e2
      rw [oelS, oelS, whyIn hG hO (by omega) (by omega) ht]
end RQ
theorem propN {a : Int32} (h : jix 3 a = none) : f_X4_requireProperty a = some (.inr IAE) := by
  rcases propArg a with ⟨t, ht, rfl, -⟩ | ⟨e, -⟩
  · exact absurd rfl (jxN (by decide) h t ht)
  · exact e
theorem propS {t : Nat} (ht : t < 3) : f_X4_requireProperty (nI t) = some (.inl ()) := by
  have : ∀ t, t < 3 → f_X4_requireProperty (nI t) = some (.inl ()) := by decide +kernel
  exact this t ht
theorem turnN {a : Int32} (h : jix 4 a = none) : f_X4_requireTurn a = some (.inr IAE) := by
  rcases turnArg a with ⟨t, ht, rfl, -⟩ | ⟨e, -⟩
  · exact absurd rfl (jxN (by decide) h t ht)
  · exact e
theorem turnS {t : Nat} (ht : t < 4) : f_X4_requireTurn (nI t) = some (.inl ()) := by
  have : ∀ t, t < 4 → f_X4_requireTurn (nI t) = some (.inl ()) := by decide +kernel
  exact this t ht
section ZR
variable {σ : ZT} {x : XS} {L : List GS} {S0 S1 : Option GS}
theorem cq_cellOf (hI : ZI σ x L S0 S1) {a b c v : Int32} (h : q_cellOf σ a b c = some v) : f_X4_cell x a b c = some (.inl v) := by
  obtain ⟨⟨hO, hG⟩, -⟩ := hI
  obtain ⟨X, e1, h1_⟩ := obind h
  obtain ⟨Y, e2, h2_⟩ := obind h1_
  obtain ⟨t, e3, h9_⟩ := obind h2_
  obtain ⟨hX, rfl⟩ := jxS e1
  obtain ⟨hY, rfl⟩ := jxS e2
  obtain ⟨ht, rfl⟩ := jxS e3
  have hW := hO.2.1
  have hH := hO.2.2.2.1
  have hc : 8 * Y + X < 64 := by omega
  have hC : ∀ v, (if nI t = nI 0 then (Option.bind (f_X4_cellAt (nI X) (nI Y)) fun r7 => Option.bind (f_X1_kindOf (gsX x) r7) fun r8 => some (Sum.inl r8)) else (if nI t = nI 1 then (Option.bind (f_X4_cellAt (nI X) (nI Y)) fun r5 => Option.bind (f_X1_tripleOver (gsX x) r5) fun r6 => some (Sum.inl r6)) else (Option.bind (f_X4_placeOf (nI X) (nI Y)) fun r3 => Option.bind (f_X1_coverCount (gsX x) r3) fun r4 => some (Sum.inl r4)))) = (some (Sum.inl v) : Option (Int32 ⊕ String)) → f_X4_cell x (nI X) (nI Y) (nI t) = some (.inl v) := fun v hv => by
    unfold f_X4_cell
    simp only [LIT]
    rw [reqIn hG hO hX hY, obl, propS ht, obl]
    exact hv
  rw [← Option.some.inj h9_]
  rcases (show t = 0 ∨ t = 1 ∨ t = 2 by omega) with rfl | rfl | rfl
  · exact hC _ (by rw [if_pos rfl, cellAtE hc, ob, kindE hG hO hc, ob]; rfl)
  · exact hC _ (by rw [if_neg n10, if_pos rfl, cellAtE hc, ob, tripleOverE hG hO hc, ob]; rfl)
  · exact hC _ (by rw [if_neg n20, if_neg n21, placeOfE, ob, coverCountE hG hO hc, ob]; rfl)
theorem ct_cellOf (hI : ZI σ x L S0 S1) {a b c v : Int32} (h : t_cellOf σ a b c = some v) : (v = -2000001 ∧ f_X4_cell x a b c = some (.inr IOE)) ∨ (v = -2000002 ∧ f_X4_cell x a b c = some (.inr IAE)) := by
  obtain ⟨⟨hO, hG⟩, -⟩ := hI
  unfold t_cellOf at h
  unfold f_X4_cell
  cases e1 : jix (zW (zs_g σ)) a with
  | none =>
    rw [e1, oelN] at h
    exact Or.inl ⟨(Option.some.inj h).symm, by rw [reqOut hG hO (Or.inl e1), obr]⟩
  | some X =>
    cases e2 : jix (zH (zs_g σ)) b with
    | none =>
      rw [e1, oelS, e2, oelN] at h
      exact Or.inl ⟨(Option.some.inj h).symm, by rw [reqOut hG hO (Or.inr e2), obr]⟩
    | some Y =>
      obtain ⟨hX, rfl⟩ := jxS e1
      obtain ⟨hY, rfl⟩ := jxS e2
      cases e3 : jix 3 c with
      | none =>
        rw [e1, oelS, e2, oelS, e3, oelN] at h
        exact Or.inr ⟨(Option.some.inj h).symm, by rw [reqIn hG hO hX hY, obl, propN e3, obr]⟩
      | some t =>
        rw [e1, oelS, e2, oelS, e3, oelS] at h
        cases h
theorem cq_triple (hI : ZI σ x L S0 S1) {a b v : Int32} (h : q_triple σ a b = some v) : f_X4_triple x a b = some (.inl v) := by
  obtain ⟨⟨hO, hG⟩, -⟩ := hI
  obtain ⟨i, e1, h1_⟩ := obind h
  obtain ⟨q, hq, h2_⟩ := obind h1_
  obtain ⟨t, e3, h9_⟩ := obind h2_
  obtain ⟨hi, rfl⟩ := jxS e1
  obtain ⟨ht, rfl⟩ := jxS e3
  have hl := OK_len hO
  have hW := hO.2.1
  have hH := hO.2.2.2.1
  have htc : x_tc x = nI (zT (zs_g σ)).length := hG.2.2.2.2.2.1
  have k1 := TO_get hO.2.2.2.2.2.2.2.2 hq
  obtain ⟨p1, p2, p3⟩ := nam_parts (q := q) (by omega) (by omega) k1.2.2
  have c1 : ¬ nI i < nI 0 := nI_nlt (Nat.zero_le _) (by omega)
  have c2 : nI i < x_tc x := by rw [htc]; exact nI_lt hi (by omega)
  have hC : ∀ v, (if nI t = nI 0 then (Option.bind (f_X4_columnOf (nI (nam q))) fun r5 => some (Sum.inl r5)) else (if nI t = nI 1 then (Option.bind (f_X4_rowOf (nI (nam q))) fun r4 => some (Sum.inl r4)) else (Option.bind (f_X4_turnOf (nI (nam q))) fun r3 => some (Sum.inl r3)))) = (some (Sum.inl v) : Option (Int32 ⊕ String)) → f_X4_triple x (nI i) (nI t) = some (.inl v) := fun v hv => by
    unfold f_X4_triple
    simp only [LIT]
    rw [if_neg c1, if_pos c2, propS ht, obl, show f_X1_tripleName (x_wide x, x_high x, x_pond x, x_walls x, x_paved x, x_tc x, x_flips x, x_refused x, x_names x) (nI i) = _ from nameE hG hO hq, ob]
    exact hv
  rw [← Option.some.inj h9_]
  rcases (show t = 0 ∨ t = 1 ∨ t = 2 by omega) with rfl | rfl | rfl
  · exact hC _ (by rw [if_pos rfl, p1, ob]; rfl)
  · exact hC _ (by rw [if_neg n10, if_pos rfl, p2, ob]; rfl)
  · exact hC _ (by rw [if_neg n20, if_neg n21, p3, ob]; rfl)
theorem ct_triple (hI : ZI σ x L S0 S1) {a b v : Int32} (h : t_triple σ a b = some v) : (v = -2000001 ∧ f_X4_triple x a b = some (.inr IOE)) ∨ (v = -2000002 ∧ f_X4_triple x a b = some (.inr IAE)) := by
  obtain ⟨⟨hO, hG⟩, -⟩ := hI
  have hl := OK_len hO
  have htc : x_tc x = nI (zT (zs_g σ)).length := hG.2.2.2.2.2.1
  unfold t_triple at h
  unfold f_X4_triple
  simp only [LIT]
  cases e1 : jix (zT (zs_g σ)).length a with
  | none =>
    rw [e1, oelN] at h
    refine Or.inl ⟨(Option.some.inj h).symm, ?_⟩
    by_cases c : a < nI 0
    · rw [if_pos c]
    · rw [if_neg c, if_neg (by rw [htc]; exact (jxL (by omega) e1).resolve_left c)]
  | some i =>
    obtain ⟨hi, rfl⟩ := jxS e1
    cases e3 : jix 3 b with
    | none =>
      rw [e1, oelS, e3, oelN] at h
      refine Or.inr ⟨(Option.some.inj h).symm, ?_⟩
      rw [if_neg (nI_nlt (Nat.zero_le _) (by omega)), if_pos (by rw [htc]; exact nI_lt hi (by omega)), propN e3, obr]
    | some t =>
      rw [e1, oelS, e3, oelS] at h
      cases h
theorem cq_row (hI : ZI σ x L S0 S1) {a b v : Int32} (h : q_row σ a b = some v) : f_X4_row x a b = some (.inl v) := by
  obtain ⟨⟨hO, hG⟩, -⟩ := hI
  obtain ⟨y, e1, h1_⟩ := obind h
  obtain ⟨t, e3, h9_⟩ := obind h1_
  obtain ⟨hy, rfl⟩ := jxS e1
  obtain ⟨ht, rfl⟩ := jxS e3
  have hH := hO.2.2.2.1
  have hx : x_high x = nI (zH (zs_g σ)) := hG.2.1
  rw [← Option.some.inj h9_]
  unfold f_X4_row
  simp only [LIT]
  rw [if_neg (nI_nlt (Nat.zero_le _) (by omega)), if_pos (by rw [hx]; exact nI_lt hy (by omega)), propS ht, obl]
  exact rowC hO hG hy ht
theorem ct_row (hI : ZI σ x L S0 S1) {a b v : Int32} (h : t_row σ a b = some v) : (v = -2000001 ∧ f_X4_row x a b = some (.inr IOE)) ∨ (v = -2000002 ∧ f_X4_row x a b = some (.inr IAE)) := by
  obtain ⟨⟨hO, hG⟩, -⟩ := hI
  have hH := hO.2.2.2.1
  have hx : x_high x = nI (zH (zs_g σ)) := hG.2.1
  unfold t_row at h
  unfold f_X4_row
  simp only [LIT]
  cases e1 : jix (zH (zs_g σ)) a with
  | none =>
    rw [e1, oelN] at h
    refine Or.inl ⟨(Option.some.inj h).symm, ?_⟩
    by_cases c : a < nI 0
    · rw [if_pos c]
    · rw [if_neg c, if_neg (by rw [hx]; exact (jxL (by omega) e1).resolve_left c)]
  | some i =>
    obtain ⟨hi, rfl⟩ := jxS e1
    cases e3 : jix 3 b with
    | none =>
      rw [e1, oelS, e3, oelN] at h
      refine Or.inr ⟨(Option.some.inj h).symm, ?_⟩
      rw [if_neg (nI_nlt (Nat.zero_le _) (by omega)), if_pos (by rw [hx]; exact nI_lt hi (by omega)), propN e3, obr]
    | some t =>
      rw [e1, oelS, e3, oelS] at h
      cases h
theorem cq_whyNot (hI : ZI σ x L S0 S1) {a b c v : Int32} (h : q_whyNot σ a b c = some v) : f_X4_whyNot x a b c = some (.inl v) := by
  obtain ⟨⟨hO, hG⟩, -⟩ := hI
  obtain ⟨t, e1, h9_⟩ := obind h
  obtain ⟨ht, rfl⟩ := jxS e1
  rw [← Option.some.inj h9_]
  unfold f_X4_whyNot
  rw [turnS ht, obl, show f_X1_whyRefused (x_wide x, x_high x, x_pond x, x_walls x, x_paved x, x_tc x, x_flips x, x_refused x, x_names x) a b (nI t) = _ from whyE hG hO a b ht, ob]
theorem cq_ways (hI : ZI σ x L S0 S1) {v : Int32} (h : q_ways σ = some v) : ∃ p : PB, f_X4_ways x = some (v, p) ∧ LB p := by
  obtain ⟨⟨hO, hG⟩, -, -, -, -, -, -, hl9⟩ := hI
  obtain ⟨p, h1, h9⟩ := waysToPaveE (fm_lt (P := zP (zs_g σ)) (wm := zM (zs_g σ)) (pm := pv (zT (zs_g σ))) hO.2.1 hO.2.2.2.1) (vX x) hl9.1 hl9.2
  refine ⟨p, ?_, h9⟩
  rw [← Option.some.inj h]
  unfold f_X4_ways
  rw [show f_X1_freeCells (x_wide x, x_high x, x_pond x, x_walls x, x_paved x, x_tc x, x_flips x, x_refused x, x_names x) = _ from freeCellsG hG hO, ob]
  exact (congrArg (fun o => Option.bind o _) h1).trans rfl
theorem cq_waysWith (hI : ZI σ x L S0 S1) {a b c v : Int32} (h : q_waysWith σ a b c = some v) : ∃ p : PB, f_X4_waysWith x a b c = some (.inl (v, p)) ∧ LB p := by
  obtain ⟨⟨hO, hG⟩, -, -, -, -, -, -, hl9⟩ := hI
  obtain ⟨t, e1, h9_⟩ := obind h
  obtain ⟨ht, rfl⟩ := jxS e1
  have hW := hO.2.1
  have hH := hO.2.2.2.1
  rw [← Option.some.inj h9_]
  have hC : ∀ (v : Int32) (p : PB), (Option.bind (f_X1_whyRefused (gsX x) a b (nI t)) fun r2 => (if r2 = nI 0 then (Option.bind (f_X1_freeCells (gsX x)) fun r3 => (Option.bind (f_X4_cellsOf a b (nI t)) fun r4 => (Option.bind (f_X2_waysToPave (vX x) (r3 &&& (r4 ^^^ (-1 : Int64)))) fun r5 => some (Sum.inl r5)))) else some (Sum.inl (-nI 1, (v_takes (vX x), v_u1 (vX x), v_u2 (vX x), v_hsz (vX x), v_hwin (vX x), v_hway (vX x), v_nsz (vX x), v_nwin (vX x), v_nway (vX x)))))) = (some (Sum.inl (v, p)) : Option ((Int32 × PB) ⊕ String)) → f_X4_waysWith x a b (nI t) = some (.inl (v, p)) := fun v p hv => by
    unfold f_X4_waysWith
    rw [turnS ht, obl]
    exact hv
  have none1 : ∀ r, r < 10 → r ≠ 0 → f_X1_whyRefused (gsX x) a b (nI t) = some (nI r) → ∃ p : PB, f_X4_waysWith x a b (nI t) = some (.inl (-nI 1, p)) ∧ LB p := fun r hr hz hw => ⟨(v_takes (vX x), v_u1 (vX x), v_u2 (vX x), v_hsz (vX x), v_hwin (vX x), v_hway (vX x), v_nsz (vX x), v_nwin (vX x), v_nway (vX x)), hC _ _ (by rw [hw, ob, if_neg (by rw [nI_eq (by omega) (by decide)]; exact hz)]), hl9⟩
  unfold zwith
  cases e1 : jix (zW (zs_g σ) + 1 - 2) a with
  | none => exact none1 1 (by decide) (by decide) (whyOut hG hO (jxB (bw := 2) (bh := 2) hW hH (by decide) (by decide) (Or.inl e1)))
  | some X =>
    cases e2 : jix (zH (zs_g σ) + 1 - 2) b with
    | none => exact none1 1 (by decide) (by decide) (whyOut hG hO (jxB (bw := 2) (bh := 2) hW hH (by decide) (by decide) (Or.inr e2)))
    | some Y =>
      obtain ⟨hX, rfl⟩ := jxS e1
      obtain ⟨hY, rfl⟩ := jxS e2
      have h1 : X + 2 ≤ zW (zs_g σ) := by omega
      have h2 : Y + 2 ≤ zH (zs_g σ) := by omega
      have hw := whyIn hG hO h1 h2 ht
      rw [oelS, oelS]
      by_cases z : wn (zP (zs_g σ)) (zM (zs_g σ)) (pv (zT (zs_g σ))) X Y t = 0
      · rw [if_pos z]
        rw [z] at hw
        obtain ⟨p, w1, w9⟩ := waysToPaveE (fm_lt (P := zP (zs_g σ)) (wm := zM (zs_g σ)) (pm := pv (zT (zs_g σ) ++ [(X, Y, t)])) hW hH) (vX x) hl9.1 hl9.2
        refine ⟨p, hC _ _ ?_, w9⟩
        rw [hw, ob, if_pos rfl, freeCellsG hG hO, ob, cellsOfE (by omega) (by omega) ht, ob, xorM, fb_andL, fm_lay hO h1 h2 ht, w1, ob]
      · rw [if_neg z]
        have := wn_le (zP (zs_g σ)) (zM (zs_g σ)) (pv (zT (zs_g σ))) X Y t
        exact none1 _ (by omega) z hw
theorem ct_waysWith {a b c v : Int32} (h : t_waysWith σ a b c = some v) : v = -2000001 ∧ f_X4_waysWith x a b c = some (.inr IAE) := by
  unfold t_waysWith at h
  cases e : jix 4 c with
  | none =>
    rw [e, oelN] at h
    refine ⟨(Option.some.inj h).symm, ?_⟩
    unfold f_X4_waysWith
    rw [turnN e, obr]
  | some t => rw [e, oelS] at h; cases h
theorem cq_firstError (hI : ZI σ x L S0 S1) {v : Int32} (h : q_firstError σ = some v) : ∃ c, f_X0_readInto (x_length x, x_codes x, 8, 0, -1, 0, 0) = some (v, c) := by
  obtain ⟨-, -, -, -, -, -, h7, -⟩ := hI
  rw [← Option.some.inj h, h7]
  exact ⟨(8, 0, -1, 0, 0), rfl⟩
theorem zm_load (hI : ZI σ x L S0 S1) : f_X0_readInto (x_length x, x_codes x, 8, 0, -1, 0, 0) = some (nI 0, 8, 0, -1, 0, 0) := by
  obtain ⟨-, -, -, -, -, -, h7, -⟩ := hI
  rw [h7]
  rfl
end ZR
/-! first cells -/
theorem fst_of {p : Nat → Bool} {r : Int32} (h : FFW p r) : (r = -nI 1 ∧ ¬ fa_first p 64 < 64) ∨ (r = nI (fa_first p 64) ∧ fa_first p 64 < 64 ∧ p (fa_first p 64) = true) := by
  rcases h with ⟨rfl, h⟩ | ⟨c, hc, rfl, h, h2⟩
  · refine Or.inl ⟨rfl, fun z => ?_⟩
    have := fa_first_yes p 64 z
    rw [h _ z] at this
    cases this
  · have e : fa_first p 64 = c := by
      rcases Nat.lt_trichotomy (fa_first p 64) c with z | z | z
      · have := fa_first_yes p 64 (by omega)
        rw [h2 _ z] at this; cases this
      · exact z
      · have := fa_first_no p 64 c z
        rw [this] at h; cases h
    rw [e]
    exact Or.inr ⟨rfl, hc, h⟩
section FCV
variable {W H P wm : Nat} {T : List TR} {fl rf : Int32} {g : GS}
theorem firstCoverF (hG : GR W H P wm T fl rf g) (hO : OK W H P wm T) {c : Nat} (hc : c < 64) (hx : ∃ h, h < 16 ∧ chz W H P wm (pv T) c h = true) : f_X1_firstCover g (nI c) = some (nI (nam (cvq c (fa_first (chz W H P wm (pv T) c) 16)))) := by
  obtain ⟨v, h1, h2⟩ := loopQ (L := fun n j (_ : Unit) => f_X1_firstCover_L2 (nI c) g n j) (N := 16) (I := fun j _ => ∀ h, h < j → chz W H P wm (pv T) c h = false) (Q := fun r => ∃ h, h < 16 ∧ chz W H P wm (pv T) c h = true ∧ (∀ k, k < h → chz W H P wm (pv T) c k = false) ∧ r = .inr (nI (nam (cvq c h)))) (fun n j s hj hI => by
    simp only [f_X1_firstCover_L2, f_X1_firstCover_L2_b]
    by_cases e : j = 16
    · exfalso
      subst e
      obtain ⟨h, a, b⟩ := hx
      rw [hI h a] at b
      cases b
    · simp only [LIT]
      rw [if_neg (nI_ge (show j < 16 by omega) (by decide)), couldCoverE hG hO hc (by omega), ob, bn_if]
      cases z : chz W H P wm (pv T) c j with
      | true =>
        refine Or.inl ⟨_, ?_, j, by omega, z, hI, rfl⟩
        unfold chz at z
        simp only [Bool.and_eq_true, decide_eq_true_iff] at z
        simp only [if_true]
        unfold f_X1_coverX f_X1_coverY f_X4_nameOf
        simp only [LIT]
        rw [pk_rem (by omega) (by decide) (by decide), pk_rem (by omega) (by decide) (by decide), ob, pk_div (by omega) (by decide) (by decide), pk_div (by omega) (by decide) (by decide), pk_rem (by omega) (by decide) (by decide), ob, pk_sub z.1.1, pk_sub z.1.2, pk_div (by omega) (by decide) (by decide), pk_mul, pk_mul, nI_add, nI_add, ob]
        rfl
      | false =>
        refine Or.inr ⟨by omega, (), fun h hh => ?_, by simp only [Bool.false_eq_true, if_false]; rw [jletE, nI_add]⟩
        by_cases e2 : h = j
        · rw [e2]; exact z
        · exact hI h (by omega)) 16 4096 0 () (by omega) (by omega) (fun h hh => absurd hh (by omega))
  obtain ⟨k, hk, k1, k2, rfl⟩ := h2
  have e : fa_first (chz W H P wm (pv T) c) 16 = k := by
    rcases Nat.lt_trichotomy (fa_first (chz W H P wm (pv T) c) 16) k with z | z | z
    · have := fa_first_yes (chz W H P wm (pv T) c) 16 (by omega)
      rw [k2 _ z] at this; cases this
    · exact z
    · have := fa_first_no (chz W H P wm (pv T) c) 16 k z
      rw [this] at k1; cases k1
  unfold f_X1_firstCover
  rw [show f_X1_firstCover_L2 (nI c) g 4096 0 = some (.inr (nI (nam (cvq c k)))) from h1, ob, e]
  rfl
end FCV
section ZR2
variable {σ : ZT} {x : XS} {L : List GS} {S0 S1 : Option GS}
theorem cq_lonely (hI : ZI σ x L S0 S1) {v : Int32} (h : q_lonely σ = some v) : f_X4_lonely x = some v := by
  obtain ⟨⟨hO, hG⟩, -⟩ := hI
  obtain ⟨r, r1, r2⟩ := firstFreeWithE hG hO (a := 0) (by decide)
  rw [← Option.some.inj h]
  have hC : ∀ v, (if r = -nI 1 then some (-nI 1) else (Option.bind (f_X4_cellName r) fun r2 => some r2)) = some v → f_X4_lonely x = some v := fun v hv => by
    unfold f_X4_lonely
    simp only [LIT]
    rw [show f_X1_firstFreeWith (x_wide x, x_high x, x_pond x, x_walls x, x_paved x, x_tc x, x_flips x, x_refused x, x_names x) (nI 0) = some r from r1, ob]
    exact hv
  apply hC
  unfold zfst
  rcases fst_of r2 with ⟨rfl, h2⟩ | ⟨rfl, h2, -⟩
  · rw [if_pos rfl, if_neg h2]
  · rw [if_neg (m1_ne (by omega)), if_pos h2, (toldE h2).2, ob]
theorem cq_forced (hI : ZI σ x L S0 S1) {a v : Int32} (h : q_forced σ a = some v) : f_X4_forced x a = some (.inl v) := by
  obtain ⟨⟨hO, hG⟩, -⟩ := hI
  obtain ⟨k, e1, h9_⟩ := obind h
  obtain ⟨hk, rfl⟩ := jxS e1
  obtain ⟨r, r1, r2⟩ := firstFreeWithE hG hO (a := 1) (by decide)
  rw [← Option.some.inj h9_]
  have hC : ∀ v, (if r = -nI 1 then some (Sum.inl (-nI 1)) else (if nI k = nI 0 then (Option.bind (f_X4_cellName r) fun r3 => some (Sum.inl r3)) else (Option.bind (f_X1_firstCover (gsX x) r) fun r2 => some (Sum.inl r2)))) = (some (Sum.inl v) : Option (Int32 ⊕ String)) → f_X4_forced x (nI k) = some (.inl v) := fun v hv => by
    unfold f_X4_forced
    simp only [LIT]
    rcases (show k = 0 ∨ k = 1 by omega) with rfl | rfl
    · rw [if_pos rfl, show f_X1_firstFreeWith (x_wide x, x_high x, x_pond x, x_walls x, x_paved x, x_tc x, x_flips x, x_refused x, x_names x) (nI 1) = some r from r1, ob]
      exact hv
    · rw [if_neg n10, if_pos rfl, show f_X1_firstFreeWith (x_wide x, x_high x, x_pond x, x_walls x, x_paved x, x_tc x, x_flips x, x_refused x, x_names x) (nI 1) = some r from r1, ob]
      exact hv
  apply hC
  unfold zforce zfst
  rcases fst_of r2 with ⟨rfl, h2⟩ | ⟨rfl, h2, hp⟩
  · rw [if_pos rfl, if_neg h2, if_neg h2, ite_self]
  · rw [if_neg (m1_ne (by omega)), if_pos h2, if_pos h2]
    rcases (show k = 0 ∨ k = 1 by omega) with rfl | rfl
    · rw [if_pos rfl, if_pos rfl, (toldE h2).2, ob]
    · rw [if_neg n10, if_neg (by decide), firstCoverF hG hO h2 ?_, ob]
      have hp2 : (fb_ct (chz (zW (zs_g σ)) (zH (zs_g σ)) (zP (zs_g σ)) (zM (zs_g σ)) (pv (zT (zs_g σ))) (fa_first (zpw (zs_g σ) 1) 64)) 16 == 1) = true := ((Bool.and_eq_true _ _).mp (show ((zFr (zs_g σ)).testBit (fa_first (zpw (zs_g σ) 1) 64) && (fb_ct (chz (zW (zs_g σ)) (zH (zs_g σ)) (zP (zs_g σ)) (zM (zs_g σ)) (pv (zT (zs_g σ))) (fa_first (zpw (zs_g σ) 1) 64)) 16 == 1)) = true from hp)).2
      rw [beq_iff_eq] at hp2
      exact fb_ct_pos.mp (by rw [hp2]; decide)
theorem ct_forced {a v : Int32} (h : t_forced σ a = some v) : v = -2000001 ∧ f_X4_forced x a = some (.inr IAE) := by
  unfold t_forced at h
  cases e : jix 2 a with
  | none =>
    rw [e, oelN] at h
    refine ⟨(Option.some.inj h).symm, ?_⟩
    unfold f_X4_forced
    simp only [LIT]
    rw [if_neg (jxN (by decide) e 0 (by decide)), if_neg (jxN (by decide) e 1 (by decide))]
  | some t => rw [e, oelS] at h; cases h
theorem cq_bestPond (hI : ZI σ x L S0 S1) {v : Int32} (h : q_bestPond σ = some v) : ∃ R, ∃ p : PB, f_X4_bestPond x = some (v, R, p) ∧ LB p := by
  obtain ⟨⟨hO, hG⟩, -, -, -, -, -, -, hl9⟩ := hI
  have hg : mgap (zW (zs_g σ)) (zH (zs_g σ)) (zP (zs_g σ)) (zM (zs_g σ)) (pv (zT (zs_g σ))) < 2 ^ 64 := Nat.or_lt_two_pow (fm_lt hO.2.1 hO.2.2.2.1) (pw_lt (OK_P hO))
  obtain ⟨R, p, b1, b9⟩ := bestGapE hg (vX x) hl9.1 hl9.2
  refine ⟨R, p, ?_, b9⟩
  have hC : ∀ v, (if (BP (mgap (zW (zs_g σ)) (zH (zs_g σ)) (zP (zs_g σ)) (zM (zs_g σ)) (pv (zT (zs_g σ)))) 64).1 = -nI 1 then some (-nI 1, R, p) else (Option.bind (f_X4_cellName (BP (mgap (zW (zs_g σ)) (zH (zs_g σ)) (zP (zs_g σ)) (zM (zs_g σ)) (pv (zT (zs_g σ)))) 64).1) fun r4 => some (r4, R, p))) = some (v, R, p) → f_X4_bestPond x = some (v, R, p) := fun v hv => by
    unfold f_X4_bestPond
    simp only [LIT]
    rw [show f_X1_freeCells (x_wide x, x_high x, x_pond x, x_walls x, x_paved x, x_tc x, x_flips x, x_refused x, x_names x) = _ from freeCellsG hG hO, ob, show f_X1_pondCell (x_wide x, x_high x, x_pond x, x_walls x, x_paved x, x_tc x, x_flips x, x_refused x, x_names x) = _ from pondCellG hG hO, ob, fb_orL, show fm (zW (zs_g σ)) (zH (zs_g σ)) (zP (zs_g σ)) (zM (zs_g σ)) (pv (zT (zs_g σ))) ||| 2 ^ zP (zs_g σ) = mgap (zW (zs_g σ)) (zH (zs_g σ)) (zP (zs_g σ)) (zM (zs_g σ)) (pv (zT (zs_g σ))) from rfl]
    exact (congrArg (fun o => Option.bind o _) b1).trans hv
  rw [← Option.some.inj h]
  apply hC
  unfold znm
  rcases (BP_f (mgap (zW (zs_g σ)) (zH (zs_g σ)) (zP (zs_g σ)) (zM (zs_g σ)) (pv (zT (zs_g σ)))) 64).2 with e | ⟨c, hc, e⟩
  · rw [e, if_pos rfl, if_pos rfl]
  · rw [e, if_neg (m1_ne (by omega)), if_neg (m1_ne (by omega)), (toldE hc).2, ob, nI_clamp (by omega)]
end ZR2
