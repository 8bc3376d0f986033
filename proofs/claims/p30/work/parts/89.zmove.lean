/-! ===== p30: the moving methods of the class do as the state of numbers tells ===== -/
theorem side_cases (a : Int32) : (∃ A, jix 9 a = some A ∧ a = nI A ∧ A ≤ 8 ∧ 2 ≤ A ∧ f_X4_isSide a = some (nI 1)) ∨ ((jix 9 a = none ∨ ∃ A, jix 9 a = some A ∧ ¬ 2 ≤ A) ∧ f_X4_isSide a = some (nI 0)) := by
  rcases sideArg a with ⟨t, h1, h2, rfl, h3, -⟩ | ⟨h, -⟩
  · exact Or.inl ⟨t, jixE (by omega) (by decide), rfl, h2, h1, h3⟩
  · refine Or.inr ⟨?_, h⟩
    cases e : jix 9 a with
    | none => exact Or.inl rfl
    | some A =>
      obtain ⟨hA, rfl⟩ := jxS e
      refine Or.inr ⟨A, rfl, fun z => ?_⟩
      have : ∀ A, A < 9 → 2 ≤ A → f_X4_isSide (nI A) = some (nI 1) := by decide +kernel
      rw [this A hA z] at h
      exact absurd (Option.some.inj h) (by decide +kernel)
theorem slotS {x : XS} {k : Nat} (hk : k < 2) : f_X4_requireSlot x (nI k) = some (.inl ()) := by
  rcases slotArg x (nI k) with ⟨_, _, _, h, -⟩ | ⟨h, h2⟩
  · exact h
  · exfalso
    rw [inE (by omega) (by decide) (by decide), if_pos ⟨Nat.zero_le _, by omega⟩] at h2
    exact absurd (Option.some.inj h2) (by decide +kernel)
theorem slotN {x : XS} {a : Int32} (h : jix 2 a = none) : f_X4_requireSlot x a = some (.inr IAE) := by
  rcases slotArg x a with ⟨t, ht, rfl, -⟩ | ⟨e, -⟩
  · exact absurd rfl (jxN (by decide) h t ht)
  · exact e
theorem LST_gd {x : XS} {γ : GS} (h : LST x) : LST (gdX x γ) := h
section ZM
variable {σ σ' : ZT} {x : XS} {L : List GS} {S0 S1 : Option GS} {v : Int32}
theorem zm_garden (hI : ZI σ x L S0 S1) {a b : Int32} (h : mv_garden σ a b = some (v, σ')) : (∃ res, f_X4_garden x a b = some (.inl res) ∧ res.1 = v ∧ ZI σ' (xGarden x res) (svL L (gsX x)) S0 S1) ∨ (v = -2000001 ∧ σ' = σ ∧ f_X4_garden x a b = some (.inr IAE)) := by
  obtain ⟨hO, hG⟩ := hI.1
  unfold mv_garden at h
  rcases side_cases a with ⟨A, e1, rfl, hA1, hA2, e2⟩ | ⟨e1, e2⟩
  · rw [e1, oelS] at h
    rcases side_cases b with ⟨B, f1, rfl, hB1, hB2, f2⟩ | ⟨f1, f2⟩
    · rw [f1, oelS, if_pos ⟨hA2, hB2⟩] at h
      obtain ⟨rfl, rfl⟩ := Prod.mk.inj (Option.some.inj h)
      refine Or.inl ⟨(nI A * nI B, nI A, nI B, nI 0, 0, 0, nI 0, x_lmod (svX x), x_lsize (svX x)), ?_, pk_mul _ _, ?_⟩
      · unfold f_X4_garden f_X4_saveState f_X1_layOut
        simp only [LIT]
        rw [e2, ob, if_neg n10, f2, ob, if_neg n10, ob, ob]
      · have hN : OK A B 0 0 [] := ⟨hA2, hA1, hB2, hB1, by omega, by omega, by decide, fun j hj => absurd hj (by rw [Nat.zero_testBit]; decide), trivial⟩
        have hGN : GR A B 0 0 [] (zF (zs_g σ)) (zR (zs_g σ)) (nI A, nI B, nI 0, 0, 0, nI 0, x_flips x, x_refused x, x_names x) := ⟨rfl, rfl, rfl, rfl, rfl, rfl, hG.2.2.2.2.2.2.1, hG.2.2.2.2.2.2.2.1, fun i q hq => by simp at hq⟩
        exact ZI_mv hI (gX_Garden _ _) ⟨hN, hGN⟩ rfl hI.2.2.2.2.2.2.2
    · have h1 : zth1 σ = some (v, σ') := by
        rcases f1 with f1 | ⟨B, f1, f3⟩
        · rw [f1, oelN] at h; exact h
        · rw [f1, oelS, if_neg (fun z => f3 z.2)] at h; exact h
      obtain ⟨rfl, rfl⟩ := Prod.mk.inj (Option.some.inj h1)
      refine Or.inr ⟨rfl, rfl, ?_⟩
      unfold f_X4_garden
      simp only [LIT]
      rw [e2, ob, if_neg n10, f2, ob, if_pos rfl]
  · have h1 : zth1 σ = some (v, σ') := by
      rcases e1 with e1 | ⟨A, e1, e3⟩
      · rw [e1, oelN] at h; exact h
      · rw [e1, oelS] at h
        cases f1 : jix 9 b with
        | none => rw [f1, oelN] at h; exact h
        | some B => rw [f1, oelS, if_neg (fun z => e3 z.1)] at h; exact h
    obtain ⟨rfl, rfl⟩ := Prod.mk.inj (Option.some.inj h1)
    refine Or.inr ⟨rfl, rfl, ?_⟩
    unfold f_X4_garden
    simp only [LIT]
    rw [e2, ob, if_pos rfl]
theorem zm_pond (hI : ZI σ x L S0 S1) {a b : Int32} (h : mv_pond σ a b = some (v, σ')) : (∃ res, f_X4_pond x a b = some (.inl res) ∧ res.1 = v ∧ ZI σ' (xPond x res) (svL L (gsX x)) S0 S1) ∨ (v = -2000001 ∧ σ' = σ ∧ f_X4_pond x a b = some (.inr IOE)) ∨ (v = -2000002 ∧ σ' = σ ∧ f_X4_pond x a b = some (.inr ISE)) := by
  obtain ⟨hO, hG⟩ := hI.1
  have hW := hO.2.1
  have hH := hO.2.2.2.1
  have hP := OK_P hO
  unfold mv_pond at h
  have out : (jix (zW (zs_g σ)) a = none ∨ jix (zH (zs_g σ)) b = none) → zth1 σ = some (v, σ') → v = -2000001 ∧ σ' = σ ∧ f_X4_pond x a b = some (.inr IOE) := fun ho h1 => by
    obtain ⟨rfl, rfl⟩ := Prod.mk.inj (Option.some.inj h1)
    refine ⟨rfl, rfl, ?_⟩
    unfold f_X4_pond
    rw [reqOut hG hO ho, obr]
  cases e1 : jix (zW (zs_g σ)) a with
  | none => rw [e1, oelN] at h; exact Or.inr (Or.inl (out (Or.inl e1) h))
  | some X =>
    cases e2 : jix (zH (zs_g σ)) b with
    | none => rw [e1, oelS, e2, oelN] at h; exact Or.inr (Or.inl (out (Or.inr e2) h))
    | some Y =>
      rw [e1, oelS, e2, oelS] at h
      obtain ⟨hX, rfl⟩ := jxS e1
      obtain ⟨hY, rfl⟩ := jxS e2
      have hc : 8 * Y + X < 64 := by omega
      have hwp : x_walls x ||| x_paved x = lN (zM (zs_g σ) ||| pv (zT (zs_g σ))) := by
        rw [show x_walls x = lN (zM (zs_g σ)) from hG.2.2.2.1, show x_paved x = lN (pv (zT (zs_g σ))) from hG.2.2.2.2.1, fb_orL]
      have hcmp : lg_cmp (lN (2 ^ (8 * Y + X)) &&& (x_walls x ||| x_paved x)) (0 : Int64) = nI 0 ↔ ((zM (zs_g σ)).testBit (8 * Y + X) = false ∧ (pv (zT (zs_g σ))).testBit (8 * Y + X) = false) := by
        rw [hwp, cmpZ (pw_lt hc), Nat.and_comm, fb_bit_nat, Nat.testBit_or, Bool.or_eq_false_iff]
      by_cases c : (zM (zs_g σ)).testBit (8 * Y + X) = false ∧ (pv (zT (zs_g σ))).testBit (8 * Y + X) = false
      · rw [if_pos c] at h
        obtain ⟨rfl, rfl⟩ := Prod.mk.inj (Option.some.inj h)
        refine Or.inl ⟨(nI (zP (zs_g σ) % 8 + 10 * (zP (zs_g σ) / 8)), nI (8 * Y + X), x_lmod (svX x), x_lsize (svX x)), ?_, rfl, ?_⟩
        · unfold f_X4_pond f_X4_saveState
          simp only [LIT]
          rw [reqIn hG hO hX hY, obl, cellAtE hc, ob, if_pos (hcmp.mpr c), ob, jletE, placeOfE, ob, show x_pond x = nI (zP (zs_g σ)) from hG.2.2.1, (toldE hP).2, ob]
        · exact ZI_mv hI (gX_Pond _ _) ⟨OK_pond hO (c := 8 * Y + X) (by omega) (by omega) c.1 c.2, ⟨hG.1, hG.2.1, rfl, hG.2.2.2.1, hG.2.2.2.2.1, hG.2.2.2.2.2.1, hG.2.2.2.2.2.2.1, hG.2.2.2.2.2.2.2.1, hG.2.2.2.2.2.2.2.2⟩⟩ rfl hI.2.2.2.2.2.2.2
      · rw [if_neg c] at h
        obtain ⟨rfl, rfl⟩ := Prod.mk.inj (Option.some.inj h)
        refine Or.inr (Or.inr ⟨rfl, rfl, ?_⟩)
        unfold f_X4_pond
        simp only [LIT]
        rw [reqIn hG hO hX hY, obl, cellAtE hc, ob, if_neg (fun z => c (hcmp.mp z))]
theorem zm_wall (hI : ZI σ x L S0 S1) {a b : Int32} (h : mv_wall σ a b = some (v, σ')) : (∃ res, f_X4_wall x a b = some (.inl res) ∧ res.1 = v ∧ ZI σ' (xWall x res) (svL L (gsX x)) S0 S1) ∨ (v = -2000001 ∧ σ' = σ ∧ f_X4_wall x a b = some (.inr IOE)) ∨ (v = -2000002 ∧ σ' = σ ∧ f_X4_wall x a b = some (.inr ISE)) := by
  obtain ⟨hO, hG⟩ := hI.1
  have hW := hO.2.1
  have hH := hO.2.2.2.1
  have hP := OK_P hO
  unfold mv_wall at h
  have out : (jix (zW (zs_g σ)) a = none ∨ jix (zH (zs_g σ)) b = none) → zth1 σ = some (v, σ') → v = -2000001 ∧ σ' = σ ∧ f_X4_wall x a b = some (.inr IOE) := fun ho h1 => by
    obtain ⟨rfl, rfl⟩ := Prod.mk.inj (Option.some.inj h1)
    refine ⟨rfl, rfl, ?_⟩
    unfold f_X4_wall
    rw [reqOut hG hO ho, obr]
  cases e1 : jix (zW (zs_g σ)) a with
  | none => rw [e1, oelN] at h; exact Or.inr (Or.inl (out (Or.inl e1) h))
  | some X =>
    cases e2 : jix (zH (zs_g σ)) b with
    | none => rw [e1, oelS, e2, oelN] at h; exact Or.inr (Or.inl (out (Or.inr e2) h))
    | some Y =>
      rw [e1, oelS, e2, oelS] at h
      obtain ⟨hX, rfl⟩ := jxS e1
      obtain ⟨hY, rfl⟩ := jxS e2
      have hc : 8 * Y + X < 64 := by omega
      have hwp : lN (2 ^ zP (zs_g σ)) ||| x_paved x = lN (2 ^ zP (zs_g σ) ||| pv (zT (zs_g σ))) := by
        rw [show x_paved x = lN (pv (zT (zs_g σ))) from hG.2.2.2.2.1, fb_orL]
      have hcmp : lg_cmp (lN (2 ^ (8 * Y + X)) &&& (lN (2 ^ zP (zs_g σ)) ||| x_paved x)) (0 : Int64) = nI 0 ↔ (8 * Y + X ≠ zP (zs_g σ) ∧ (pv (zT (zs_g σ))).testBit (8 * Y + X) = false) := by
        rw [hwp, cmpZ (pw_lt hc), Nat.and_comm, fb_bit_nat, Nat.testBit_or, Bool.or_eq_false_iff, pw_bit, decide_eq_false_iff_not]
      by_cases c : 8 * Y + X ≠ zP (zs_g σ) ∧ (pv (zT (zs_g σ))).testBit (8 * Y + X) = false
      · rw [if_pos c] at h
        obtain ⟨rfl, rfl⟩ := Prod.mk.inj (Option.some.inj h)
        have hOw := OK_wall hO (c := 8 * Y + X) (by omega) (by omega) c.1 c.2
        refine Or.inl ⟨(nI (pc (zM (zs_g σ) ^^^ 2 ^ (8 * Y + X))), lN (zM (zs_g σ) ^^^ 2 ^ (8 * Y + X)), x_lmod (svX x), x_lsize (svX x)), ?_, rfl, ?_⟩
        · unfold f_X4_wall f_X4_saveState
          simp only [LIT]
          rw [reqIn hG hO hX hY, obl, cellAtE hc, ob, show f_X1_pondCell (x_wide x, x_high x, x_pond x, x_walls x, x_paved x, x_tc x, x_flips x, x_refused x, x_names x) = _ from pondCellG hG hO, ob, if_pos (hcmp.mpr c), ob, show x_walls x = lN (zM (zs_g σ)) from hG.2.2.2.1, fb_xorL, jletE, bitCountE hOw.2.2.2.2.2.2.1, ob]
        · exact ZI_mv hI (gX_Wall _ _) ⟨hOw, ⟨hG.1, hG.2.1, hG.2.2.1, rfl, hG.2.2.2.2.1, hG.2.2.2.2.2.1, hG.2.2.2.2.2.2.1, hG.2.2.2.2.2.2.2.1, hG.2.2.2.2.2.2.2.2⟩⟩ rfl hI.2.2.2.2.2.2.2
      · rw [if_neg c] at h
        obtain ⟨rfl, rfl⟩ := Prod.mk.inj (Option.some.inj h)
        refine Or.inr (Or.inr ⟨rfl, rfl, ?_⟩)
        unfold f_X4_wall
        simp only [LIT]
        rw [reqIn hG hO hX hY, obl, cellAtE hc, ob, show f_X1_pondCell (x_wide x, x_high x, x_pond x, x_walls x, x_paved x, x_tc x, x_flips x, x_refused x, x_names x) = _ from pondCellG hG hO, ob, if_neg (fun z => c (hcmp.mp z))]
theorem zm_lay (hI : ZI σ x L S0 S1) {a b c : Int32} (h : mv_lay σ a b c = some (v, σ')) : (∃ res, f_X4_lay x a b c = some (.inl res) ∧ res.1 = v ∧ ZI σ' (xLay x res) (svL L (gsX x)) S0 S1) ∨ (v = -2000001 ∧ σ' = σ ∧ f_X4_lay x a b c = some (.inr IAE)) := by
  obtain ⟨hO, hG⟩ := hI.1
  have hW := hO.2.1
  have hH := hO.2.2.2.1
  have hl := OK_len hO
  unfold mv_lay at h
  cases e0 : jix 4 c with
  | none =>
    rw [e0, oelN] at h
    obtain ⟨rfl, rfl⟩ := Prod.mk.inj (Option.some.inj h)
    refine Or.inr ⟨rfl, rfl, ?_⟩
    unfold f_X4_lay
    rw [turnN e0, obr]
  | some t =>
    rw [e0, oelS] at h
    obtain ⟨ht, rfl⟩ := jxS e0
    have hC : ∀ r v, f_X1_whyRefused (gsX x) a b (nI t) = some (nI r) → (if nI r = nI 0 then (Option.bind (f_X1_putTriple (gsX x) a b (nI t)) fun r5 => some (Sum.inl (nI r, r5.1, r5.2.1, (x_refused x), r5.2.2, x_lmod (svX x), x_lsize (svX x)))) else some (Sum.inl (nI r, (x_paved x), (x_tc x), x_refused x + nI 1, (x_names x), x_lmod (svX x), x_lsize (svX x)))) = (some (Sum.inl v) : Option ((Int32 × (Int64) × (Int32) × (Int32) × (Nat → Int32) × (Int32) × (Int32)) ⊕ String)) → f_X4_lay x a b (nI t) = some (.inl v) := fun r v r1 hv => by
      unfold f_X4_lay f_X4_saveState
      simp only [LIT]
      rw [turnS ht, obl, ob, show f_X1_whyRefused (x_wide x, x_high x, x_pond x, x_walls x, x_paved x, x_tc x, x_flips x, x_refused x, x_names x) a b (nI t) = _ from r1, ob]
      exact hv
    have xr : x_refused x = zR (zs_g σ) := hG.2.2.2.2.2.2.2.1
    have no : ∀ r, r < 10 → r ≠ 0 → f_X1_whyRefused (gsX x) a b (nI t) = some (nI r) → some (nI r, zsav σ (zref (zs_g σ))) = some (v, σ') → ∃ res, f_X4_lay x a b (nI t) = some (.inl res) ∧ res.1 = v ∧ ZI σ' (xLay x res) (svL L (gsX x)) S0 S1 := fun r hr hz r1 h1 => by
      obtain ⟨rfl, rfl⟩ := Prod.mk.inj (Option.some.inj h1)
      refine ⟨(nI r, x_paved x, x_tc x, x_refused x + nI 1, x_names x, x_lmod (svX x), x_lsize (svX x)), hC r _ r1 (by rw [if_neg (by rw [nI_eq (by omega) (by decide)]; exact hz)]), rfl, ?_⟩
      exact ZI_mv hI (gX_Lay _ _) ⟨hO, ⟨hG.1, hG.2.1, hG.2.2.1, hG.2.2.2.1, hG.2.2.2.2.1, hG.2.2.2.2.2.1, hG.2.2.2.2.2.2.1, by show x_refused x + nI 1 = _; rw [xr], hG.2.2.2.2.2.2.2.2⟩⟩ rfl hI.2.2.2.2.2.2.2
    cases e1 : jix (zW (zs_g σ) + 1 - 2) a with
    | none =>
      rw [e1, oelN] at h
      exact Or.inl (no 1 (by decide) (by decide) (whyOut hG hO (jxB (bw := 2) (bh := 2) hW hH (by decide) (by decide) (Or.inl e1))) h)
    | some X =>
      cases e2 : jix (zH (zs_g σ) + 1 - 2) b with
      | none =>
        rw [e1, oelS, e2, oelN] at h
        exact Or.inl (no 1 (by decide) (by decide) (whyOut hG hO (jxB (bw := 2) (bh := 2) hW hH (by decide) (by decide) (Or.inr e2))) h)
      | some Y =>
        rw [e1, oelS, e2, oelS] at h
        obtain ⟨hX, rfl⟩ := jxS e1
        obtain ⟨hY, rfl⟩ := jxS e2
        have h1 : X + 2 ≤ zW (zs_g σ) := by omega
        have h2 : Y + 2 ≤ zH (zs_g σ) := by omega
        have hw := whyIn hG hO h1 h2 ht
        by_cases z : wn (zP (zs_g σ)) (zM (zs_g σ)) (pv (zT (zs_g σ))) X Y t = 0
        · rw [if_pos z] at h
          obtain ⟨rfl, rfl⟩ := Prod.mk.inj (Option.some.inj h)
          obtain ⟨hO1, hd⟩ := OK_app hO h1 h2 ht z
          obtain ⟨nm, p1, p2⟩ := putE hG hO h1 h2 ht z
          rw [z] at hw
          refine Or.inl ⟨(nI 0, lN (pv (zT (zs_g σ) ++ [(X, Y, t)])), nI (zT (zs_g σ) ++ [(X, Y, t)]).length, x_refused x, nm, x_lmod (svX x), x_lsize (svX x)), hC 0 _ hw (by rw [if_pos rfl, p1, ob]), rfl, ?_⟩
          exact ZI_mv hI (gX_Lay _ _) ⟨hO1, ⟨hG.1, hG.2.1, hG.2.2.1, hG.2.2.2.1, rfl, rfl, hG.2.2.2.2.2.2.1, hG.2.2.2.2.2.2.2.1, p2⟩⟩ rfl hI.2.2.2.2.2.2.2
        · rw [if_neg z] at h
          have := wn_le (zP (zs_g σ)) (zM (zs_g σ)) (pv (zT (zs_g σ))) X Y t
          exact Or.inl (no _ (by omega) z hw h)
theorem zm_lift (hI : ZI σ x L S0 S1) {a b : Int32} (h : mv_lift σ a b = some (v, σ')) : (∃ res, f_X4_lift x a b = some (.inl res) ∧ res.1 = v ∧ ZI σ' (xLift x res) (svL L (gsX x)) S0 S1) ∨ (v = -2000001 ∧ σ' = σ ∧ f_X4_lift x a b = some (.inr IOE)) ∨ (v = -2000002 ∧ σ' = σ ∧ f_X4_lift x a b = some (.inr ISE)) := by
  obtain ⟨hO, hG⟩ := hI.1
  have hW := hO.2.1
  have hH := hO.2.2.2.1
  have hl := OK_len hO
  unfold mv_lift at h
  have out : (jix (zW (zs_g σ)) a = none ∨ jix (zH (zs_g σ)) b = none) → zth1 σ = some (v, σ') → v = -2000001 ∧ σ' = σ ∧ f_X4_lift x a b = some (.inr IOE) := fun ho h1 => by
    obtain ⟨rfl, rfl⟩ := Prod.mk.inj (Option.some.inj h1)
    refine ⟨rfl, rfl, ?_⟩
    unfold f_X4_lift
    rw [reqOut hG hO ho, obr]
  cases e1 : jix (zW (zs_g σ)) a with
  | none => rw [e1, oelN] at h; exact Or.inr (Or.inl (out (Or.inl e1) h))
  | some X =>
    cases e2 : jix (zH (zs_g σ)) b with
    | none => rw [e1, oelS, e2, oelN] at h; exact Or.inr (Or.inl (out (Or.inr e2) h))
    | some Y =>
      rw [e1, oelS, e2, oelS] at h
      obtain ⟨hX, rfl⟩ := jxS e1
      obtain ⟨hY, rfl⟩ := jxS e2
      have hc : 8 * Y + X < 64 := by omega
      have hC : ∀ v, (if owI (zT (zs_g σ)) (8 * Y + X) = (-1 : Int32) then some (.inr ISE) else (Option.bind (f_X1_takeTriple (gsX x) (owI (zT (zs_g σ)) (8 * Y + X))) fun r5 => some (.inl (owI (zT (zs_g σ)) (8 * Y + X), r5.1, r5.2.1, r5.2.2, x_lmod (svX x), x_lsize (svX x))))) = (v : Option ((Int32 × (Int64) × (Int32) × (Nat → Int32) × (Int32) × (Int32)) ⊕ String)) → f_X4_lift x (nI X) (nI Y) = v := fun v hv => by
        unfold f_X4_lift f_X4_saveState
        rw [reqIn hG hO hX hY, obl, cellAtE hc, ob, show f_X1_tripleOver (x_wide x, x_high x, x_pond x, x_walls x, x_paved x, x_tc x, x_flips x, x_refused x, x_names x) (lN (2 ^ (8 * Y + X))) = _ from tripleOverE hG hO hc, ob]
        exact hv
      by_cases c : (pv (zT (zs_g σ))).testBit (8 * Y + X) = true
      · rw [if_pos c] at h
        obtain ⟨rfl, rfl⟩ := Prod.mk.inj (Option.some.inj h)
        have ho : owI (zT (zs_g σ)) (8 * Y + X) = nI (ow (zT (zs_g σ)) (8 * Y + X)) := by unfold owI; rw [if_pos c]
        have hi := ow_lt c
        obtain ⟨nm, p1, p2⟩ := takeE hG hO hi
        rw [ho] at hC
        refine Or.inl ⟨(nI (ow (zT (zs_g σ)) (8 * Y + X)), lN (pv ((zT (zs_g σ)).eraseIdx (ow (zT (zs_g σ)) (8 * Y + X)))), nI ((zT (zs_g σ)).eraseIdx (ow (zT (zs_g σ)) (8 * Y + X))).length, nm, x_lmod (svX x), x_lsize (svX x)), hC _ ?_, rfl, ?_⟩
        · rw [if_neg (show ¬ nI (ow (zT (zs_g σ)) (8 * Y + X)) = -1 from m1_ne (by omega)), p1, ob]
        · exact ZI_mv hI (gX_Lift _ _) ⟨OK_erase hO, ⟨hG.1, hG.2.1, hG.2.2.1, hG.2.2.2.1, rfl, rfl, hG.2.2.2.2.2.2.1, hG.2.2.2.2.2.2.2.1, p2⟩⟩ rfl hI.2.2.2.2.2.2.2
      · rw [if_neg c] at h
        obtain ⟨rfl, rfl⟩ := Prod.mk.inj (Option.some.inj h)
        have c2 : (pv (zT (zs_g σ))).testBit (8 * Y + X) = false := by simpa using c
        have ho : owI (zT (zs_g σ)) (8 * Y + X) = -nI 1 := by unfold owI; rw [c2]; rfl
        exact Or.inr (Or.inr ⟨rfl, rfl, hC _ (by rw [ho, if_pos (by decide +kernel)])⟩)
theorem zm_flip (hI : ZI σ x L S0 S1) {a b c : Int32} (h : mv_flip σ a b c = some (v, σ')) : ∃ hb : Bool, c = nI (bn hb) ∧ ((∃ res, f_X4_flip x a b (nI (bn hb)) = some (.inl res) ∧ res.1 = v ∧ ZI σ' (xFlip x res) (svL L (gsX x)) S0 S1) ∨ (v = -2000001 ∧ σ' = σ ∧ f_X4_flip x a b (nI (bn hb)) = some (.inr IOE)) ∨ (v = -2000002 ∧ σ' = σ ∧ f_X4_flip x a b (nI (bn hb)) = some (.inr ISE))) := by
  obtain ⟨hO, hG⟩ := hI.1
  have hW := hO.2.1
  have hH := hO.2.2.2.1
  obtain ⟨k, e0, h9_⟩ := obind h
  clear h
  have h := h9_
  clear h9_
  obtain ⟨hk, rfl⟩ := jxS e0
  have hkb : k = bn (k == 1) := by rcases (show k = 0 ∨ k = 1 by omega) with rfl | rfl <;> rfl
  obtain ⟨hb, hhb⟩ : ∃ hb, hb = (k == 1) := ⟨_, rfl⟩
  rw [← hhb] at hkb h
  refine ⟨hb, by rw [hkb], ?_⟩
  have out : (jix (zW (zs_g σ) + 1 - bw_ hb) a = none ∨ jix (zH (zs_g σ) + 1 - bh_ hb) b = none) → zth1 σ = some (v, σ') → v = -2000001 ∧ σ' = σ ∧ f_X4_flip x a b (nI (bn hb)) = some (.inr IOE) := fun ho h1 => by
    obtain ⟨rfl, rfl⟩ := Prod.mk.inj (Option.some.inj h1)
    refine ⟨rfl, rfl, ?_⟩
    unfold f_X4_flip
    simp only [LIT]
    rw [show f_X1_hasFlipBlock (x_wide x, x_high x, x_pond x, x_walls x, x_paved x, x_tc x, x_flips x, x_refused x, x_names x) a b (nI (bn hb)) = _ from hasFlipOut hG hW hH (jxB hW hH (bw_le hb).1 (bw_le hb).2.1 ho), ob, if_pos rfl]
  cases e1 : jix (zW (zs_g σ) + 1 - bw_ hb) a with
  | none => rw [e1, oelN] at h; exact Or.inr (Or.inl (out (Or.inl e1) h))
  | some X =>
    cases e2 : jix (zH (zs_g σ) + 1 - bh_ hb) b with
    | none => rw [e1, oelS, e2, oelN] at h; exact Or.inr (Or.inl (out (Or.inr e2) h))
    | some Y =>
      rw [e1, oelS, e2, oelS] at h
      obtain ⟨hX, rfl⟩ := jxS e1
      obtain ⟨hY, rfl⟩ := jxS e2
      have hx : X + bw_ hb ≤ zW (zs_g σ) := by omega
      have hy : Y + bh_ hb ≤ zH (zs_g σ) := by omega
      have hf1 : f_X1_hasFlipBlock (x_wide x, x_high x, x_pond x, x_walls x, x_paved x, x_tc x, x_flips x, x_refused x, x_names x) (nI X) (nI Y) (nI (bn hb)) = some (nI 1) := hasFlipIn hG hW hH hx hy
      have hf2 : f_X1_isFlippable (x_wide x, x_high x, x_pond x, x_walls x, x_paved x, x_tc x, x_flips x, x_refused x, x_names x) (nI X) (nI Y) (nI (bn hb)) = _ := isFlippableE hG hO hx hy
      by_cases c : FLb hb (zT (zs_g σ)) X Y = true
      · rw [if_pos c] at h
        obtain ⟨rfl, rfl⟩ := Prod.mk.inj (Option.some.inj h)
        rw [c] at hf2
        obtain ⟨hOF, nm, p1, p2⟩ := flipBlockE hG hO hx hy c
        refine Or.inl ⟨(zF (zs_g σ) + 1, lN (pv (TF hb (zT (zs_g σ)) X Y)), nI (TF hb (zT (zs_g σ)) X Y).length, zF (zs_g σ) + 1, nm, x_lmod (svX x), x_lsize (svX x)), ?_, rfl, ?_⟩
        · unfold f_X4_flip f_X4_saveState
          simp only [show (0 : Int32) = nI 0 from rfl]
          rw [hf1, ob, if_neg n10, hf2, ob, if_neg (by decide +kernel), ob, show f_X1_flipBlock (x_wide x, x_high x, x_pond x, x_walls x, x_paved x, x_tc x, x_flips x, x_refused x, x_names x) (nI X) (nI Y) (nI (bn hb)) = _ from p1, ob]
        · exact ZI_mv hI (gX_Flip _ _) ⟨hOF, ⟨hG.1, hG.2.1, hG.2.2.1, hG.2.2.2.1, rfl, rfl, rfl, hG.2.2.2.2.2.2.2.1, p2⟩⟩ rfl hI.2.2.2.2.2.2.2
      · rw [if_neg c] at h
        obtain ⟨rfl, rfl⟩ := Prod.mk.inj (Option.some.inj h)
        have c2 : FLb hb (zT (zs_g σ)) X Y = false := by simpa using c
        rw [c2] at hf2
        refine Or.inr (Or.inr ⟨rfl, rfl, ?_⟩)
        unfold f_X4_flip
        simp only [LIT]
        rw [hf1, ob, if_neg n10, hf2, ob, if_pos (show nI (bn false) = nI 0 from rfl)]
theorem zm_fill (hI : ZI σ x L S0 S1) (h : mv_fill σ = some (v, σ')) : (∃ res, f_X4_fill x = some (.inl res) ∧ res.1 = v ∧ ZI σ' (xFill x res) (svL L (gsX x)) S0 S1) ∨ (v = -2000001 ∧ σ' = σ ∧ ∃ p : PB, f_X4_fill x = some (.inr (ISE, p)) ∧ ZI σ (xP x (x_rest x) p) L S0 S1) := by
  obtain ⟨hO, hG⟩ := hI.1
  have hl9 := hI.2.2.2.2.2.2.2
  obtain ⟨p, w1, w9⟩ := waysToPaveE (fm_lt (P := zP (zs_g σ)) (wm := zM (zs_g σ)) (pm := pv (zT (zs_g σ))) hO.2.1 hO.2.2.2.1) (vX x) hl9.1 hl9.2
  have hsm := CW_small (zFr (zs_g σ))
  unfold mv_fill at h
  by_cases z : CW (zFr (zs_g σ)) 64 0 = 0
  · rw [if_pos z] at h
    obtain ⟨rfl, rfl⟩ := Prod.mk.inj (Option.some.inj h)
    rw [z] at w1
    refine Or.inr ⟨rfl, rfl, p, ?_, ?_⟩
    · unfold f_X4_fill
      simp only [LIT]
      rw [show f_X1_freeCells (x_wide x, x_high x, x_pond x, x_walls x, x_paved x, x_tc x, x_flips x, x_refused x, x_names x) = _ from freeCellsG hG hO, ob, w1, ob, if_pos rfl]
    · obtain ⟨h1, h2, h3, h4, h5, h6, h7, h8⟩ := hI
      exact ⟨h1, h2, h3, h4, h5, h6, h7, w9⟩
  · rw [if_neg z] at h
    obtain ⟨rfl, rfl⟩ := Prod.mk.inj (Option.some.inj h)
    obtain ⟨hOG, R, tks, nm, g1, g2⟩ := paveE (x_rest x, p.1, p.2.1, p.2.2.1, p.2.2.2.1, p.2.2.2.2.1, p.2.2.2.2.2.1, p.2.2.2.2.2.2.1, p.2.2.2.2.2.2.2.1, p.2.2.2.2.2.2.2.2, x_wide x, x_high x, x_pond x, x_walls x, x_paved x, x_tc x, x_flips x, x_refused x, x_names x) hG hO z
    have htc : x_tc x = nI (zT (zs_g σ)).length := hG.2.2.2.2.2.1
    refine Or.inl ⟨(nI (GRD (zFr (zs_g σ)) 64 0 (zT (zs_g σ))).length - nI (zT (zs_g σ)).length, R, tks, p.2.1, p.2.2.1, p.2.2.2.1, p.2.2.2.2.1, p.2.2.2.2.2.1, p.2.2.2.2.2.2.1, p.2.2.2.2.2.2.2.1, p.2.2.2.2.2.2.2.2, lN (pv (GRD (zFr (zs_g σ)) 64 0 (zT (zs_g σ)))), nI (GRD (zFr (zs_g σ)) 64 0 (zT (zs_g σ))).length, nm, x_lmod (svX (xP x (x_rest x) p)), x_lsize (svX (xP x (x_rest x) p))), ?_, rfl, ?_⟩
    · unfold f_X4_fill f_X4_saveState
      simp only [LIT]
      rw [show f_X1_freeCells (x_wide x, x_high x, x_pond x, x_walls x, x_paved x, x_tc x, x_flips x, x_refused x, x_names x) = _ from freeCellsG hG hO, ob, w1, ob, if_neg (by rw [nI_eq hsm (by decide)]; exact z), ob, jletE]
      dsimp only
      rw [g1, ob, ← htc]
    · exact ZI_mv hI (gX_Fill _ _) ⟨hOG, ⟨hG.1, hG.2.1, hG.2.2.1, hG.2.2.2.1, rfl, rfl, hG.2.2.2.2.2.2.1, hG.2.2.2.2.2.2.2.1, g2⟩⟩ (svX_rt x (x_rest x) p) w9
theorem zm_halve (hI : ZI σ x L S0 S1) (h : mv_halve σ = some (v, σ')) : (∃ res, f_X4_halve x = some (.inl res) ∧ res.1 = v ∧ ZI σ' (xHalve x res) (svL L (gsX x)) S0 S1) ∨ (v = -2000001 ∧ σ' = σ ∧ f_X4_halve x = some (.inr ISE)) := by
  obtain ⟨hO, hG⟩ := hI.1
  have hc := isHalvableE hG hO
  have hP := OK_P hO
  unfold mv_halve at h
  by_cases c : hvb (zW (zs_g σ)) (zH (zs_g σ)) (zM (zs_g σ)) (zT (zs_g σ)).length = true
  · rw [if_pos c] at h
    obtain ⟨rfl, rfl⟩ := Prod.mk.inj (Option.some.inj h)
    rw [c] at hc
    have c2 := c
    unfold hvb at c2
    simp only [Bool.and_eq_true, Bool.or_eq_true, decide_eq_true_eq] at c2
    obtain ⟨⟨⟨d1, d2⟩, d4⟩, d3⟩ := c2
    have dT := List.eq_nil_of_length_eq_zero d3
    have hWs : zW (zs_g σ) = 2 ∨ zW (zs_g σ) = 4 ∨ zW (zs_g σ) = 8 := by rcases d1 with (d | d) | d <;> omega
    have hO2 : OK (zW (zs_g σ)) (zW (zs_g σ)) (zP (zs_g σ)) 0 [] := by
      have := hO
      unfold zOK at this
      rw [← d2, d4, dT] at this
      exact this
    have hG2 : GR (zW (zs_g σ)) (zW (zs_g σ)) (zP (zs_g σ)) 0 [] (zF (zs_g σ)) (zR (zs_g σ)) (gsX x) := by
      have := hG
      rw [← d2, d4, dT] at this
      exact this
    obtain ⟨q1, q2⟩ := sq_ok hWs hO2.2.2.2.2.1 hO2.2.2.2.2.2.1
    obtain ⟨nm, p1, p2⟩ := psq_4 (W := zW (zs_g σ)) (H := zW (zs_g σ)) (P := zP (zs_g σ)) (wm := 0) (fl := zF (zs_g σ)) (rf := zR (zs_g σ)) [] (gsX x) 0 0 (zW (zs_g σ)) (zP (zs_g σ)) hG2 hO2 q1 (by omega) (by omega) hP (by omega)
    rw [List.nil_append] at p1 p2
    have hOL := LSq_OK hO2 q1
    rw [List.nil_append] at hOL
    refine Or.inl ⟨(nI (sq 4 0 0 (zW (zs_g σ)) (zP (zs_g σ))).length, lN (pv (sq 4 0 0 (zW (zs_g σ)) (zP (zs_g σ)))), nI (sq 4 0 0 (zW (zs_g σ)) (zP (zs_g σ))).length, nm, x_lmod (svX x), x_lsize (svX x)), ?_, rfl, ?_⟩
    · unfold f_X4_halve f_X4_saveState
      simp only [LIT]
      rw [show f_X1_isHalvable (x_wide x, x_high x, x_pond x, x_walls x, x_paved x, x_tc x, x_flips x, x_refused x, x_names x) = _ from hc, ob, if_neg (show ¬ nI (bn true) = nI 0 from n10), ob]
      unfold f_X1_paveSquares
      simp only [LIT]
      have : f_X1_paveSquare_4 (x_wide x, x_high x, x_pond x, x_walls x, x_paved x, x_tc x, x_flips x, x_refused x, x_names x) (nI 0) (nI 0) (x_wide x) (x_pond x) = f_X1_paveSquare_4 (gsX x) (nI 0) (nI 0) (nI (zW (zs_g σ))) (nI (zP (zs_g σ))) := by
        rw [show x_wide x = nI (zW (zs_g σ)) from hG.1, show x_pond x = nI (zP (zs_g σ)) from hG.2.2.1]
        rw [show gsX x = (x_wide x, x_high x, x_pond x, x_walls x, x_paved x, x_tc x, x_flips x, x_refused x, x_names x) from rfl, show x_wide x = nI (zW (zs_g σ)) from hG.1, show x_pond x = nI (zP (zs_g σ)) from hG.2.2.1]
      rw [this, p1, ob, ob]
    · refine ZI_mv hI (gX_Lift _ _) ⟨?_, ?_⟩ rfl hI.2.2.2.2.2.2.2
      · unfold zOK
        show OK (zW (zs_g σ)) (zH (zs_g σ)) (zP (zs_g σ)) (zM (zs_g σ)) _
        rw [← d2, d4]
        exact hOL
      · exact ⟨hG.1, hG.2.1, hG.2.2.1, hG.2.2.2.1, rfl, rfl, hG.2.2.2.2.2.2.1, hG.2.2.2.2.2.2.2.1, p2⟩
  · rw [if_neg c] at h
    obtain ⟨rfl, rfl⟩ := Prod.mk.inj (Option.some.inj h)
    have c2 : hvb (zW (zs_g σ)) (zH (zs_g σ)) (zM (zs_g σ)) (zT (zs_g σ)).length = false := by simpa using c
    rw [c2] at hc
    refine Or.inr ⟨rfl, rfl, ?_⟩
    unfold f_X4_halve
    simp only [LIT]
    rw [show f_X1_isHalvable (x_wide x, x_high x, x_pond x, x_walls x, x_paved x, x_tc x, x_flips x, x_refused x, x_names x) = _ from hc, ob, if_pos (show nI (bn false) = nI 0 from rfl)]
theorem zm_goBack (hI : ZI σ x L S0 S1) (k0 : SLk S0 (x_sl x 0)) (k1 : SLk S1 (x_sl x 1)) {a : Int32} (h : mv_goBack σ a = some (v, σ')) : (∃ k γ, k < 2 ∧ a = nI k ∧ (if k = 0 then S0 else S1) = some γ ∧ g_tc γ = v ∧ ZI σ' (gdX (svX x) γ) (svL L (gsX x)) S0 S1) ∨ (v = -2000001 ∧ σ' = σ ∧ f_X4_goBack x a = some (.inr IAE)) ∨ (v = -2000002 ∧ σ' = σ ∧ f_X4_goBack x a = some (.inr ISE)) := by
  unfold mv_goBack at h
  cases e1 : jix 2 a with
  | none =>
    rw [e1, oelN] at h
    obtain ⟨rfl, rfl⟩ := Prod.mk.inj (Option.some.inj h)
    refine Or.inr (Or.inl ⟨rfl, rfl, ?_⟩)
    unfold f_X4_goBack
    rw [slotN e1, obr]
  | some k =>
    rw [e1, oelS] at h
    obtain ⟨hk, rfl⟩ := jxS e1
    have hs : LKO (zslot σ k) (if k = 0 then S0 else S1) ∧ SLk (if k = 0 then S0 else S1) (x_sl x k) := by
      unfold zslot
      rcases (show k = 0 ∨ k = 1 by omega) with rfl | rfl
      · exact ⟨hI.2.2.1, k0⟩
      · exact ⟨hI.2.2.2.1, k1⟩
    rcases hs.1 with ⟨s1, s2⟩ | ⟨α, γ, s1, s2, s3⟩
    · rw [s1, oelAN] at h
      obtain ⟨rfl, rfl⟩ := Prod.mk.inj (Option.some.inj h)
      refine Or.inr (Or.inr ⟨rfl, rfl, ?_⟩)
      have g2 : x_sl x k = none := by
        rcases hs.2 with ⟨-, g⟩ | ⟨γ, q, g, -⟩
        · exact g
        · rw [s2] at g; cases g
      unfold f_X4_goBack
      rw [slotS hk, obl, jldE hk (by decide), ob, if_pos g2]
    · rw [s1, oelAS] at h
      obtain ⟨rfl, rfl⟩ := Prod.mk.inj (Option.some.inj h)
      obtain ⟨e1, e2, e3⟩ := svX_sl x
      obtain ⟨d1, d2, d3, d4, d5⟩ := gX_gd (svX x) γ
      exact Or.inl ⟨k, γ, hk, rfl, s2, s3.2.2.2.2.2.2.1, ZI_mv hI (k := x_lsize (svX x)) ⟨d1, d2.trans e1, d3, d4.trans e2, d5.trans e3⟩ s3 rfl (LST_gd (LST_sv hI.2.2.2.2.2.2.2))⟩
theorem zm_keep (hI : ZI σ x L S0 S1) {a : Int32} (h : mv_keep σ a = some (v, σ')) : (∃ k, k < 2 ∧ a = nI k ∧ x_tc x = v ∧ ∀ sl', ZI σ' (x_sl' x sl') L (if k = 0 then some (gsX x) else S0) (if k = 0 then S1 else some (gsX x))) ∨ (v = -2000001 ∧ σ' = σ ∧ f_X4_keep x a = some (.inr IAE)) := by
  unfold mv_keep at h
  cases e1 : jix 2 a with
  | none =>
    rw [e1, oelN] at h
    obtain ⟨rfl, rfl⟩ := Prod.mk.inj (Option.some.inj h)
    refine Or.inr ⟨rfl, rfl, ?_⟩
    unfold f_X4_keep
    rw [slotN e1, obr]
  | some k =>
    rw [e1, oelS] at h
    obtain ⟨hk, rfl⟩ := jxS e1
    obtain ⟨rfl, rfl⟩ := Prod.mk.inj (Option.some.inj h)
    obtain ⟨h1, h2, h3, h4, h5, h6, h7, h8⟩ := hI
    refine Or.inl ⟨k, hk, rfl, h1.2.2.2.2.2.2.1, fun sl' => ⟨h1, h2, ?_, ?_, h5, h6, h7, h8⟩⟩
    · rcases (show k = 0 ∨ k = 1 by omega) with rfl | rfl
      · exact Or.inr ⟨_, _, rfl, rfl, h1⟩
      · exact h3
    · rcases (show k = 0 ∨ k = 1 by omega) with rfl | rfl
      · exact h4
      · exact Or.inr ⟨_, _, rfl, rfl, h1⟩
theorem zm_undo (hI : ZI σ x L S0 S1) (h : mv_undo σ = some (v, σ')) : (L = [] ∧ v = -2000001 ∧ σ' = σ) ∨ ∃ L1 γ, L = L1 ++ [γ] ∧ nI L1.length = v ∧ ZI σ' (unX x γ L1.length) L1 S0 S1 := by
  have hlen := ZI_len hI
  unfold mv_undo at h
  obtain ⟨h1, h2, h3, h4, h5, h6, h7, h8⟩ := hI
  rcases List.eq_nil_or_concat L with rfl | ⟨L1, γ, hL⟩
  · have : zs_L σ = [] := List.eq_nil_of_length_eq_zero (by rw [hlen]; rfl)
    rw [this] at h
    obtain ⟨rfl, rfl⟩ := Prod.mk.inj (Option.some.inj (show zth1 σ = some (v, σ') from h))
    exact Or.inl ⟨rfl, rfl, rfl⟩
  · rw [List.concat_eq_append] at hL
    subst hL
    obtain ⟨α, a1, a2, a3⟩ := LKL_last h2
    rw [a1, oelAS] at h
    obtain ⟨rfl, rfl⟩ := Prod.mk.inj (Option.some.inj h)
    rw [List.length_append] at h5 hlen
    simp only [List.length_cons, List.length_nil] at h5 hlen
    exact Or.inr ⟨L1, γ, rfl, by rw [hlen]; rfl, a2, a3, h3, h4, by omega, rfl, h7, h8⟩
theorem zm_append {a : Int32} (h : mv_append σ a = some (v, σ')) : v = -2000001 ∧ σ' = σ ∧ f_X4_append x a = some (.inr IAE) := by
  unfold mv_append at h
  by_cases c : a < nI 33 ∨ ¬ a ≤ nI 126
  · rw [if_pos c] at h
    obtain ⟨rfl, rfl⟩ := Prod.mk.inj (Option.some.inj h)
    refine ⟨rfl, rfl, ?_⟩
    unfold f_X4_append
    simp only [LIT]
    by_cases z : a < nI 33
    · rw [if_pos z]
    · rw [if_neg z, if_neg (c.resolve_left z)]
  · rw [if_neg c] at h; cases h
end ZM
