/-! ===== more moves, answered alike ===== -/
section MV3
variable {x : XS} {L : List GS} {S0 S1 : Option GS} {m : MS}
abbrev xLay (μ : XS) (res : Int32 × (Int64) × (Int32) × (Int32) × (Nat → Int32) × (Int32) × (Int32)) : XS := (x_lsize' (x_lmod' (x_names' (x_refused' (x_tc' (x_paved' μ res.2.1) res.2.2.1) res.2.2.2.1) res.2.2.2.2.1) res.2.2.2.2.2.1) res.2.2.2.2.2.2)
theorem gX_Lay (μ : XS) (res : Int32 × (Int64) × (Int32) × (Int32) × (Nat → Int32) × (Int32) × (Int32)) : gsX (xLay μ res) = (x_wide μ, x_high μ, x_pond μ, x_walls μ, res.2.1, res.2.2.1, x_flips μ, res.2.2.2.1, res.2.2.2.2.1) ∧ x_sl (xLay μ res) = x_sl μ ∧ x_lsize (xLay μ res) = res.2.2.2.2.2.2 ∧ x_length (xLay μ res) = x_length μ ∧ x_codes (xLay μ res) = x_codes μ := ⟨rfl, rfl, rfl, rfl, rfl⟩
theorem pr_lay (h : RR x L S0 S1 m) (a b c : Int32) : (∃ res r, f_X4_lay x a b c = some (.inl res) ∧ f_X5_lay m a b c = some r ∧ r.1 = res.1 ∧ r.2.2.2 = nI 0 ∧ RR (xLay x res) (svL L (gsX x)) S0 S1 (pM m r)) ∨ (f_X4_lay x a b c = some (.inr IAE) ∧ f_X5_lay m a b c = some (nI 0, m_s m, m_states m, nI 1)) := by
  obtain ⟨W, H, P, wm, T, fl, rf, hO, hG, hS⟩ := h.1
  have hl := OK_len hO
  rcases turnArg c with ⟨t, ht, rfl, e3, e4⟩ | ⟨e3, e4⟩
  · obtain ⟨s', v1, v2, v3⟩ := svs h (m_thrown' m (nI 0)) rfl rfl
    have hS' : SR W H P wm T fl rf s' 0 := SR_cong (s' := s') (b' := 0) (fun k hk => by rw [Nat.zero_add]; exact v2 k hk) hl hS
    obtain ⟨r, hr, r1, r2, r3⟩ := whyBoth (μ := m_thrown' (m_states' (m_s' m s') (nI (svL L (gsX x)).length)) (nI 0)) hG hS' hO a b ht
    have hM : ∀ v, (if nI r ≤ nI 0 then (Option.bind (f_X5_lays (m_thrown' (m_states' (m_s' m s') (nI (svL L (gsX x)).length)) (nI 0)) (nI 0) a b (nI t)) fun r5 => some (nI r, r5, nI (svL L (gsX x)).length, nI 0)) else (Option.bind (jld 1970 s' (nI 196)) fun v6 => (Option.bind (jst 1970 s' (nI 196) (v6 + nI 1)) fun f7 => some (nI r, f7, nI (svL L (gsX x)).length, nI 0)))) = some v → f_X5_lay m a b (nI t) = some v := fun v hv => by
      unfold f_X5_lay
      simp only [LIT]
      rw [e4, ob, show f_X5_goes m (nI 1) (nI 1) = some (nI 1, nI 0) from goes1 m true, ob, if_neg n10, v1, ob]
      dsimp only
      rw [r2, ob]
      exact hv
    have hC : ∀ v, (if nI r = nI 0 then (Option.bind (f_X1_putTriple (gsX x) a b (nI t)) fun r5 => some (Sum.inl (nI r, r5.1, r5.2.1, (x_refused x), r5.2.2, x_lmod (svX x), x_lsize (svX x)))) else some (Sum.inl (nI r, (x_paved x), (x_tc x), x_refused x + nI 1, (x_names x), x_lmod (svX x), x_lsize (svX x)))) = (some (Sum.inl v) : Option ((Int32 × (Int64) × (Int32) × (Int32) × (Nat → Int32) × (Int32) × (Int32)) ⊕ String)) → f_X4_lay x a b (nI t) = some (.inl v) := fun v hv => by
      unfold f_X4_lay f_X4_saveState
      simp only [LIT]
      rw [e3, obl, ob, show f_X1_whyRefused (x_wide x, x_high x, x_pond x, x_walls x, x_paved x, x_tc x, x_flips x, x_refused x, x_names x) a b (nI t) = _ from r1, ob]
      exact hv
    by_cases z : r = 0
    · obtain ⟨X, Y, rfl, rfl, h1, h2, h3⟩ := r3 z
      subst z
      obtain ⟨hO1, hd⟩ := OK_app hO h1 h2 ht h3
      have hlen := OK_len hO1
      rw [List.length_append] at hlen
      simp at hlen
      have hW := hO.2.1
      have hH := hO.2.2.2.1
      obtain ⟨nm, p1, p2⟩ := putE hG hO h1 h2 ht h3
      obtain ⟨s2, d1, d2, d3⟩ := laysE (μ := m_thrown' (m_states' (m_s' m s') (nI (svL L (gsX x)).length)) (nI 0)) (b := 0) hS' (by decide) (by omega) (show X < 7 by omega) (show Y < 7 by omega) ht hd
      refine Or.inl ⟨(nI 0, lN (pv (T ++ [(X, Y, t)])), nI (T ++ [(X, Y, t)]).length, x_refused x, nm, x_lmod (svX x), x_lsize (svX x)), (nI 0, s2, nI (svL L (gsX x)).length, nI 0), hC _ ?_, hM _ ?_, rfl, rfl, ?_⟩
      · rw [if_pos rfl, p1, ob]
      · rw [if_pos (nI_le (by decide) (by decide)), d1, ob]
      · refine RR_mv h v3 (svL_le h.2.2.1 _) (f := s2) rfl (fun i h1 h2 => d3 i (by omega)) (gX_Lay _ _) ⟨W, H, P, wm, T ++ [(X, Y, t)], fl, rf, hO1, ⟨hG.1, hG.2.1, hG.2.2.1, hG.2.2.2.1, rfl, rfl, hG.2.2.2.2.2.2.1, hG.2.2.2.2.2.2.2.1, p2⟩, d2⟩ (svX_len h.2.2.1 h.2.2.2.1) rfl rfl rfl rfl
    · have s196 : s' 196 = rf := hS'.2.2.2.2.2.2.2.2
      have xr : x_refused x = rf := hG.2.2.2.2.2.2.2.1
      refine Or.inl ⟨(nI r, x_paved x, x_tc x, x_refused x + nI 1, x_names x, x_lmod (svX x), x_lsize (svX x)), (nI r, va_up s' 196 (rf + nI 1), nI (svL L (gsX x)).length, nI 0), hC _ ?_, hM _ ?_, rfl, rfl, ?_⟩
      · rw [if_neg (by rw [nI_eq (by omega) (by decide)]; exact z)]
      · rw [if_neg (nI_ge (by omega) (by omega)), jldE (by decide) (by decide), ob, s196, jstE (by decide) (by decide), ob]
      · refine RR_mv h v3 (svL_le h.2.2.1 _) (f := va_up s' 196 (rf + nI 1)) rfl (fun i h1 h2 => up_n (by omega)) (gX_Lay _ _) ⟨W, H, P, wm, T, fl, rf + nI 1, hO, ⟨hG.1, hG.2.1, hG.2.2.1, hG.2.2.2.1, hG.2.2.2.2.1, hG.2.2.2.2.2.1, hG.2.2.2.2.2.2.1, by show x_refused x + nI 1 = _; rw [xr], hG.2.2.2.2.2.2.2.2⟩, ?_⟩ (svX_len h.2.2.1 h.2.2.2.1) rfl rfl rfl rfl
        have := SR_rf hS' hl (rf + nI 1)
        rwa [Nat.zero_add] at this
  · refine Or.inr ⟨?_, ?_⟩
    · unfold f_X4_lay
      rw [e3, obr]
    · unfold f_X5_lay
      simp only [LIT]
      rw [e4, ob, show f_X5_goes m (nI 0) (nI 1) = some (nI 0, nI 1) from goes1 m false, ob, if_pos rfl]
abbrev xLift (μ : XS) (res : Int32 × (Int64) × (Int32) × (Nat → Int32) × (Int32) × (Int32)) : XS := (x_lsize' (x_lmod' (x_names' (x_tc' (x_paved' μ res.2.1) res.2.2.1) res.2.2.2.1) res.2.2.2.2.1) res.2.2.2.2.2)
theorem gX_Lift (μ : XS) (res : Int32 × (Int64) × (Int32) × (Nat → Int32) × (Int32) × (Int32)) : gsX (xLift μ res) = (x_wide μ, x_high μ, x_pond μ, x_walls μ, res.2.1, res.2.2.1, x_flips μ, x_refused μ, res.2.2.2.1) ∧ x_sl (xLift μ res) = x_sl μ ∧ x_lsize (xLift μ res) = res.2.2.2.2.2 ∧ x_length (xLift μ res) = x_length μ ∧ x_codes (xLift μ res) = x_codes μ := ⟨rfl, rfl, rfl, rfl, rfl⟩
theorem pr_lift (h : RR x L S0 S1 m) (a b : Int32) : (∃ res r, f_X4_lift x a b = some (.inl res) ∧ f_X5_lift m a b = some r ∧ r.1 = res.1 ∧ r.2.2.2 = nI 0 ∧ RR (xLift x res) (svL L (gsX x)) S0 S1 (pM m r)) ∨ (f_X4_lift x a b = some (.inr IOE) ∧ f_X5_lift m a b = some (nI 0, m_s m, m_states m, nI 1)) ∨ (f_X4_lift x a b = some (.inr ISE) ∧ f_X5_lift m a b = some (nI 0, m_s m, m_states m, nI 2)) := by
  obtain ⟨W, H, P, wm, T, fl, rf, hO, hG, hS⟩ := h.1
  have hW := hO.2.1
  have hH := hO.2.2.2.1
  have hl := OK_len hO
  rcases cellArg hG hS hO a b with ⟨X, Y, hX, hY, rfl, rfl, e1, e2⟩ | ⟨e1, e2⟩
  · have hc : 8 * Y + X < 64 := by omega
    have s67 : m_s m (67 + 8 * Y + X) = owI T (8 * Y + X) := by
      have := hS.2.2.2.2.1 _ hc
      rwa [Nat.zero_add, ← Nat.add_assoc] at this
    have hz := owI_neg (T := T) (by omega) (8 * Y + X)
    have hM : f_X5_lift m (nI X) (nI Y) = Option.bind (f_X5_goes m (nI 1) (nI (bn ((pv T).testBit (8 * Y + X))))) fun r6 => if r6.1 = nI 0 then some (nI 0, m_s m, m_states m, r6.2) else Option.bind (f_X5_saves (m_thrown' m r6.2)) fun r7 => Option.bind (f_X5_lifts (m_thrown' (m_states' (m_s' m r7.1) r7.2) r6.2) (nI 0) (owI T (8 * Y + X))) fun r8 => some (owI T (8 * Y + X), r8, r7.2, r6.2) := by
      have h5 : (if owI T (8 * Y + X) < nI 0 then some (nI 0) else some (nI 1)) = some (nI (bn ((pv T).testBit (8 * Y + X)))) := by
        cases z2 : (pv T).testBit (8 * Y + X)
        · rw [if_pos (hz.mpr z2)]; rfl
        · rw [if_neg (fun q => by rw [hz.mp q] at z2; cases z2)]; rfl
      unfold f_X5_lift
      simp only [LIT]
      rw [e2, ob, if_neg n10, pk_mul, nI_add, nI_add, jldE (by omega) (by decide), ob, s67, ob, h5, ob]
    have hC : ∀ v, (if owI T (8 * Y + X) = (-1 : Int32) then some (.inr ISE) else (Option.bind (f_X1_takeTriple (gsX x) (owI T (8 * Y + X))) fun r5 => some (.inl (owI T (8 * Y + X), r5.1, r5.2.1, r5.2.2, x_lmod (svX x), x_lsize (svX x))))) = (v : Option ((Int32 × (Int64) × (Int32) × (Nat → Int32) × (Int32) × (Int32)) ⊕ String)) → f_X4_lift x (nI X) (nI Y) = v := fun v hv => by
      unfold f_X4_lift f_X4_saveState
      rw [e1, obl, cellAtE hc, ob, show f_X1_tripleOver (x_wide x, x_high x, x_pond x, x_walls x, x_paved x, x_tc x, x_flips x, x_refused x, x_names x) (lN (2 ^ (8 * Y + X))) = _ from tripleOverE hG hO hc, ob]
      exact hv
    cases c : (pv T).testBit (8 * Y + X)
    · right; right
      rw [c] at hM
      have ho : owI T (8 * Y + X) = -nI 1 := by unfold owI; rw [c]; rfl
      refine ⟨hC _ (by rw [ho, if_pos (by decide +kernel)]), ?_⟩
      rw [hM, show f_X5_goes m (nI 1) (nI (bn false)) = some (nI 0, nI 2) from goesE m true false, ob, if_pos rfl]
    · left
      rw [c] at hM
      have ho : owI T (8 * Y + X) = nI (ow T (8 * Y + X)) := by unfold owI; rw [if_pos c]
      have hi := ow_lt c
      obtain ⟨s', v1, v2, v3⟩ := svs h (m_thrown' m (nI 0)) rfl rfl
      have hS' : SR W H P wm T fl rf s' 0 := SR_cong (s' := s') (b' := 0) (fun k hk => by rw [Nat.zero_add]; exact v2 k hk) hl hS
      obtain ⟨nm, p1, p2⟩ := takeE hG hO hi
      obtain ⟨s2, d1, d2, d3⟩ := liftsE (μ := m_thrown' (m_states' (m_s' m s') (nI (svL L (gsX x)).length)) (nI 0)) (b := 0) hS' hO (by decide) hi
      rw [ho] at hM hC
      refine ⟨(nI (ow T (8 * Y + X)), lN (pv (T.eraseIdx (ow T (8 * Y + X)))), nI (T.eraseIdx (ow T (8 * Y + X))).length, nm, x_lmod (svX x), x_lsize (svX x)), (nI (ow T (8 * Y + X)), s2, nI (svL L (gsX x)).length, nI 0), hC _ ?_, ?_, rfl, rfl, ?_⟩
      · rw [if_neg (show ¬ nI (ow T (8 * Y + X)) = -1 from m1_ne (by omega)), p1, ob]
      · rw [hM, show f_X5_goes m (nI 1) (nI (bn true)) = some (nI 1, nI 0) from goesE m true true, ob, if_neg n10, v1, ob]
        dsimp only
        rw [d1, ob]
      · refine RR_mv h v3 (svL_le h.2.2.1 _) (f := s2) rfl (fun i h1 h2 => d3 i (by omega)) (gX_Lift _ _) ⟨W, H, P, wm, T.eraseIdx (ow T (8 * Y + X)), fl, rf, OK_erase hO, ⟨hG.1, hG.2.1, hG.2.2.1, hG.2.2.2.1, rfl, rfl, hG.2.2.2.2.2.2.1, hG.2.2.2.2.2.2.2.1, p2⟩, d2⟩ (svX_len h.2.2.1 h.2.2.2.1) rfl rfl rfl rfl
  · refine Or.inr (Or.inl ⟨?_, ?_⟩)
    · unfold f_X4_lift
      rw [e1, obr]
    · unfold f_X5_lift
      simp only [LIT]
      rw [e2, ob, if_pos rfl, ob, if_pos (by decide +kernel), ob, show f_X5_goes m (nI 0) (nI 0) = some (nI 0, nI 1) from goesE m false false, ob, if_pos rfl]
abbrev xFlip (μ : XS) (res : Int32 × (Int64) × (Int32) × (Int32) × (Nat → Int32) × (Int32) × (Int32)) : XS := (x_lsize' (x_lmod' (x_names' (x_flips' (x_tc' (x_paved' μ res.2.1) res.2.2.1) res.2.2.2.1) res.2.2.2.2.1) res.2.2.2.2.2.1) res.2.2.2.2.2.2)
theorem gX_Flip (μ : XS) (res : Int32 × (Int64) × (Int32) × (Int32) × (Nat → Int32) × (Int32) × (Int32)) : gsX (xFlip μ res) = (x_wide μ, x_high μ, x_pond μ, x_walls μ, res.2.1, res.2.2.1, res.2.2.2.1, x_refused μ, res.2.2.2.2.1) ∧ x_sl (xFlip μ res) = x_sl μ ∧ x_lsize (xFlip μ res) = res.2.2.2.2.2.2 ∧ x_length (xFlip μ res) = x_length μ ∧ x_codes (xFlip μ res) = x_codes μ := ⟨rfl, rfl, rfl, rfl, rfl⟩
theorem pr_flip (h : RR x L S0 S1 m) (a b : Int32) (hb : Bool) : (∃ res r, f_X4_flip x a b (nI (bn hb)) = some (.inl res) ∧ f_X5_flip m a b (nI (bn hb)) = some r ∧ r.1 = res.1 ∧ r.2.2.2 = nI 0 ∧ RR (xFlip x res) (svL L (gsX x)) S0 S1 (pM m r)) ∨ (f_X4_flip x a b (nI (bn hb)) = some (.inr IOE) ∧ f_X5_flip m a b (nI (bn hb)) = some (nI 0, m_s m, m_states m, nI 1)) ∨ (f_X4_flip x a b (nI (bn hb)) = some (.inr ISE) ∧ f_X5_flip m a b (nI (bn hb)) = some (nI 0, m_s m, m_states m, nI 2)) := by
  obtain ⟨W, H, P, wm, T, fl, rf, hO, hG, hS⟩ := h.1
  have hW := hO.2.1
  have hH := hO.2.2.2.1
  have hl := OK_len hO
  by_cases c : InB W H (bw_ hb) (bh_ hb) a b
  · obtain ⟨X, Y, rfl, rfl, hx, hy⟩ := c
    have hf1 : f_X1_hasFlipBlock (x_wide x, x_high x, x_pond x, x_walls x, x_paved x, x_tc x, x_flips x, x_refused x, x_names x) (nI X) (nI Y) (nI (bn hb)) = some (nI 1) := hasFlipIn hG hW hH hx hy
    have hf2 : f_X1_isFlippable (x_wide x, x_high x, x_pond x, x_walls x, x_paved x, x_tc x, x_flips x, x_refused x, x_names x) (nI X) (nI Y) (nI (bn hb)) = _ := isFlippableE hG hO hx hy
    have hb1 := isBlockIn (μ := m) hS hW hH hx hy
    have ht1 := turnOfE (μ := m) hS hO hx hy
    cases c : FLb hb T X Y
    · rw [c] at hf2 ht1
      refine Or.inr (Or.inr ⟨?_, ?_⟩)
      · unfold f_X4_flip
        simp only [LIT]
        rw [hf1, ob, if_neg n10, hf2, ob, if_pos (show nI (bn false) = nI 0 from rfl)]
      · unfold f_X5_flip
        simp only [LIT]
        rw [hb1, ob, if_neg n10, ht1, if_neg (by decide), ob, ob, if_pos (by decide +kernel), ob, show f_X5_goes m (nI 1) (nI 0) = some (nI 0, nI 2) from goesE m true false, ob, if_pos rfl]
    · rw [c] at hf2 ht1
      obtain ⟨s', v1, v2, v3⟩ := svs h (m_thrown' m (nI 0)) rfl rfl
      have hS' : SR W H P wm T fl rf s' 0 := SR_cong (s' := s') (b' := 0) (fun k hk => by rw [Nat.zero_add]; exact v2 k hk) hl hS
      obtain ⟨f1, f2, f3, f4, hc2⟩ : 8 * Y + X < 64 ∧ c2f hb X Y < 64 ∧ X < 8 ∧ Y < 8 ∧ True := by
        obtain ⟨q1, q2, q3, q4⟩ := flip_small hW hH hx hy
        exact ⟨q1, q2, q3, q4, trivial⟩
      obtain ⟨hOF, nm, p1, p2⟩ := flipBlockE hG hO hx hy c
      obtain ⟨d1, d2, d3, d4, d5, d6, d7, d8, d9, d10, d11, d12, d13, d14, d15, d16⟩ := flipData hO hx hy c
      obtain ⟨n, hn⟩ : ∃ n, n = nI (svL L (gsX x)).length := ⟨_, rfl⟩
      have hO1 : OK W H P wm (T.eraseIdx (ow T (8 * Y + X))) := OK_erase hO
      have hO2 : OK W H P wm (T2f hb T X Y) := OK_erase hO1
      obtain ⟨hO3, g3⟩ := OK_app hO2 d13 d14 d10 d15
      obtain ⟨hO4, g4⟩ := OK_app hO3 d11 d12 (Nat.mod_lt _ (by decide)) d16
      have l4 := OK_len hO4
      simp only [List.length_append, List.length_cons, List.length_nil] at l4
      obtain ⟨s1, a1, a2, a3⟩ := liftsE (μ := m_thrown' (m_states' (m_s' m s') n) (nI 0)) (b := 0) hS' hO (by decide) d1
      obtain ⟨s2, b1, b2, b3⟩ := liftsE (μ := m_thrown' (m_states' (m_s' m s1) n) (nI 0)) (b := 0) a2 hO1 (by decide) d8
      obtain ⟨s3, c1, c2, c3⟩ := laysE (μ := m_thrown' (m_states' (m_s' m s2) n) (nI 0)) (b := 0) (T := T2f hb T X Y) b2 (by decide) (by omega) (show X < 7 by omega) (show Y < 7 by omega) d10 g3
      obtain ⟨s4, i1, i2, i3⟩ := laysE (μ := m_thrown' (m_states' (m_s' m s3) n) (nI 0)) (b := 0) c2 (by decide) (by rw [List.length_append]; simp; omega) (show x2f hb X < 7 by omega) (show y2f hb Y < 7 by omega) (Nat.mod_lt (tnf hb (trf hb T X Y) + 2) (by decide)) g4
      have hS4 : SR W H P wm (TF hb T X Y) fl rf s4 0 := i2
      have ow1 : s' (67 + 8 * Y + X) = nI (ow T (8 * Y + X)) := by
        have := hS'.2.2.2.2.1 _ f1
        rw [Nat.zero_add, ← Nat.add_assoc] at this
        rw [this, d5]
      have ow2 : s1 (67 + c2f hb X Y) = nI (jf (ow T (8 * Y + X)) (ow T (c2f hb X Y))) := by
        have := a2.2.2.2.2.1 _ f2
        rw [Nat.zero_add] at this
        rw [this, d7]
      have s195 : s4 195 = fl := hS4.2.2.2.2.2.2.2.1
      have k10 : (if nI (bn hb) = nI 0 then some (nI 1) else some (nI 2)) = some (nI (bh_ hb - 1)) := by rw [bn_if]; cases hb <;> rfl
      have k11 : (if nI (bn hb) = nI 0 then some (nI 2) else some (nI 1)) = some (nI (bw_ hb - 1)) := by rw [bn_if]; cases hb <;> rfl
      have kad : nI 67 + nI 8 * (nI Y + nI (bh_ hb - 1)) + nI X + nI (bw_ hb - 1) = nI (67 + c2f hb X Y) := by
        rw [nI_add, pk_mul, nI_add, nI_add, nI_add]
        unfold c2f
        cases hb
        · show nI (67 + 8 * (Y + 1) + X + 2) = nI (67 + (8 * (Y + 1) + (X + 2)))
          exact congrArg nI (by omega)
        · show nI (67 + 8 * (Y + 2) + X + 1) = nI (67 + (8 * (Y + 2) + (X + 1)))
          exact congrArg nI (by omega)
      have k14 : (if nI (trf hb T X Y) = nI 2 then (if nI (bn hb) = nI 0 then some (nI 1) else some (nI 3)) else some (nI 2)) = some (nI (tnf hb (trf hb T X Y))) := by
        rw [bn_if]
        unfold tnf
        rcases d4 with e | e <;> rw [e] <;> cases hb <;> decide +kernel
      have k18 : (if nI (tnf hb (trf hb T X Y)) = nI 2 then some (nI 0) else (if nI (bn hb) = nI 0 then some (nI 3) else some (nI 1))) = some (nI ((tnf hb (trf hb T X Y) + 2) % 4)) := by
        rw [bn_if]
        unfold tnf
        rcases d4 with e | e <;> rw [e] <;> cases hb <;> decide +kernel
      have k16 : (if nI (bn hb) = nI 0 then some (nI X + nI 1) else some (nI X)) = some (nI (x2f hb X)) := by rw [bn_if, nI_add]; cases hb <;> rfl
      have k17 : (if nI (bn hb) = nI 0 then some (nI Y) else some (nI Y + nI 1)) = some (nI (y2f hb Y)) := by rw [bn_if, nI_add]; cases hb <;> rfl
      have ht0 : (T.getD (ow T (8 * Y + X)) (0, 0, 0)).2.2 = trf hb T X Y := rfl
      have htl : trf hb T X Y < 4 := by rcases d4 with e | e <;> rw [e] <;> cases hb <;> decide
      refine Or.inl ⟨(fl + 1, lN (pv (TF hb T X Y)), nI (TF hb T X Y).length, fl + 1, nm, x_lmod (svX x), x_lsize (svX x)), (fl + 1, va_up s4 195 (fl + 1), n, nI 0), ?_, ?_, rfl, rfl, ?_⟩
      · unfold f_X4_flip f_X4_saveState
        simp only [show (0 : Int32) = nI 0 from rfl]
        rw [hf1, ob, if_neg n10, hf2, ob, if_neg (by decide +kernel), ob, show f_X1_flipBlock (x_wide x, x_high x, x_pond x, x_walls x, x_paved x, x_tc x, x_flips x, x_refused x, x_names x) (nI X) (nI Y) (nI (bn hb)) = _ from p1, ob]
      · unfold f_X5_flip
        simp only [LIT]
        rw [hb1, ob, if_neg n10, ht1, if_pos rfl, ob, ob, ht0, if_neg (nI_nlt (Nat.zero_le _) (by omega)), ob, show f_X5_goes m (nI 1) (nI 1) = some (nI 1, nI 0) from goesE m true true, ob, if_neg n10, v1, ob, ← hn]
        dsimp only
        rw [pk_mul, nI_add, nI_add, jldE (by omega) (by decide), ob, ow1, a1, ob, k10, ob, k11, ob, kad, jldE (by omega) (by decide), ob, ow2, b1, ob, k14, ob, c1, ob, k16, ob, k17, ob, k18, ob, i1, ob, jldE (by decide) (by decide), ob, jstE (by decide) (by decide), ob, jldE (by decide) (by decide), ob, up_s, s195]
      · refine RR_mv h v3 (svL_le h.2.2.1 _) (f := va_up s4 195 (fl + 1)) rfl (fun i h1 h2 => ?_) (gX_Flip _ _) ⟨W, H, P, wm, TF hb T X Y, fl + 1, rf, hOF, ⟨hG.1, hG.2.1, hG.2.2.1, hG.2.2.2.1, rfl, rfl, rfl, hG.2.2.2.2.2.2.2.1, p2⟩, ?_⟩ (svX_len h.2.2.1 h.2.2.2.1) hn rfl rfl rfl
        · rw [up_n (by omega), i3 i (by omega)]
          show s3 i = _
          rw [c3 i (by omega)]
          show s2 i = _
          rw [b3 i (by omega)]
          show s1 i = _
          exact a3 i (by omega)
        · have := SR_fl hS4 (OK_len hOF) (fl + 1)
          rwa [Nat.zero_add] at this
  · refine Or.inr (Or.inl ⟨?_, ?_⟩)
    · unfold f_X4_flip
      simp only [LIT]
      rw [show f_X1_hasFlipBlock (x_wide x, x_high x, x_pond x, x_walls x, x_paved x, x_tc x, x_flips x, x_refused x, x_names x) a b (nI (bn hb)) = _ from hasFlipOut hG hW hH c, ob, if_pos rfl]
    · unfold f_X5_flip
      simp only [LIT]
      rw [isBlockOut hS hW hH c, ob, if_pos rfl, ob, if_pos (by decide +kernel), ob, show f_X5_goes m (nI 0) (nI 0) = some (nI 0, nI 1) from goesE m false false, ob, if_pos rfl]
end MV3
