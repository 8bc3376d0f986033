/-! ===== slots, undo, the beginning ===== -/
def SLk (S : Option GS) (a : Option Nat) : Prop := (S = none ∧ a = none) ∨ ∃ γ q, S = some γ ∧ a = some q
def gdX (μ : XS) (γ : GS) : XS := x_names' (x_refused' (x_flips' (x_tc' (x_paved' (x_walls' (x_pond' (x_high' (x_wide' μ (g_wide γ)) (g_high γ)) (g_pond γ)) (g_walls γ)) (g_paved γ)) (g_tc γ)) (g_flips γ)) (g_refused γ)) (g_names γ)
def unX (μ : XS) (γ : GS) (n : Nat) : XS := x_lsize' (x_lmod' (x_names' (x_refused' (x_flips' (x_tc' (x_paved' (x_walls' (x_pond' (x_high' (x_wide' μ (g_wide γ)) (g_high γ)) (g_pond γ)) (g_walls γ)) (g_paved γ)) (g_tc γ)) (g_flips γ)) (g_refused γ)) (g_names γ)) (x_lmod μ + 1)) (nI n)
theorem gX_gd (μ : XS) (γ : GS) : gsX (gdX μ γ) = γ ∧ x_sl (gdX μ γ) = x_sl μ ∧ x_lsize (gdX μ γ) = x_lsize μ ∧ x_length (gdX μ γ) = x_length μ ∧ x_codes (gdX μ γ) = x_codes μ := ⟨rfl, rfl, rfl, rfl, rfl⟩
theorem gX_un (μ : XS) (γ : GS) (n : Nat) : gsX (unX μ γ n) = γ ∧ x_sl (unX μ γ n) = x_sl μ ∧ x_lsize (unX μ γ n) = nI n ∧ x_length (unX μ γ n) = x_length μ ∧ x_codes (unX μ γ n) = x_codes μ := ⟨rfl, rfl, rfl, rfl, rfl⟩
theorem svX_sl (x : XS) : x_sl (svX x) = x_sl x ∧ x_length (svX x) = x_length x ∧ x_codes (svX x) = x_codes x := by
  unfold svX
  by_cases c : x_lsize x < 6
  · rw [if_pos c]; exact ⟨rfl, rfl, rfl⟩
  · rw [if_neg c]; exact ⟨rfl, rfl, rfl⟩
theorem SLr_k {S : Option GS} {a a' : Option Nat} {k : Int32} {s : Nat → Int32} {b : Nat} (h : SLr S a k s b) (h2 : SLk S a') : SLr S a' k s b := by
  rcases h with ⟨h3, h4, h5⟩ | ⟨γ, q, h3, h4, h5, h6⟩
  · subst h3
    rcases h2 with ⟨-, h2⟩ | ⟨_, _, h2, -⟩
    · exact Or.inl ⟨rfl, h2, h5⟩
    · cases h2
  · subst h3
    rcases h2 with ⟨h2, -⟩ | ⟨γ', q', h2, h7⟩
    · cases h2
    · exact Or.inr ⟨γ, q', rfl, h7, h5, h6⟩
theorem narB : vp_nar .boolean (1 : Int32) = nI 1 := by decide +kernel
section SLT
variable {x : XS} {L : List GS} {S0 S1 : Option GS} {m : MS}
abbrev pMK (m : MS) (r : Int32 × (Nat → Int32) × (Nat → Int32) × (Int32)) : MS := m_thrown' (m_kept' (m_s' m r.2.1) r.2.2.1) r.2.2.2
theorem pr_keep (h : RR x L S0 S1 m) {k : Nat} (hk : k < 2) : ∃ r, f_X5_keep m (nI k) = some r ∧ r.1 = x_tc x ∧ r.2.2.2 = nI 0 ∧ ∀ sl', SLk (if k = 0 then some (gsX x) else S0) (sl' 0) → SLk (if k = 0 then S1 else some (gsX x)) (sl' 1) → RR (x_sl' x sl') L (if k = 0 then some (gsX x) else S0) (if k = 0 then S1 else some (gsX x)) (pMK m r) := by
  obtain ⟨h1, ⟨h2, h3, h4⟩, hl, h5, h6, h7⟩ := h
  obtain ⟨s', c1, c2, c3⟩ := copiesE (m_thrown' m (nI 0)) (a := 0) (c := 7 + k) (by decide) (by omega) (by omega)
  have c2 : ∀ i, i < 197 → s' (197 * (7 + k) + i) = m_s m i := fun i hi => by have := c2 i hi; rwa [show 197 * 0 + i = i by omega] at this
  have c3 : ∀ i, (i < 197 * (7 + k) ∨ 197 * (7 + k) + 197 ≤ i) → s' i = m_s m i := c3
  obtain ⟨W, H, P, wm, T, fl, rf, hO, hG, hS⟩ := h1
  have s131 : m_s m 131 = nI T.length := hS.2.2.2.2.2.1
  have xt : x_tc x = nI T.length := hG.2.2.2.2.2.1
  refine ⟨(nI T.length, s', va_up (m_kept m) k (nI 1), nI 0), ?_, xt.symm, rfl, fun sl' g0 g1 => ?_⟩
  · unfold f_X5_keep
    rw [narB]
    simp only [LIT]
    rw [inE (by omega) (by decide) (by decide), if_pos ⟨Nat.zero_le _, by omega⟩, ob, show f_X5_goes m (nI 1) (nI 1) = some (nI 1, nI 0) from goes1 m true, ob, if_neg n10, nI_add, c1, ob, jstE hk (by decide), ob, jldE (by decide) (by decide), ob, c3 _ (by omega), s131]
  · have hN : LNK (gsX x) s' (197 * (7 + k)) := LNK_cong (b := 0) (fun i hi => by rw [Nat.zero_add]; exact c2 i hi) ⟨W, H, P, wm, T, fl, rf, hO, hG, hS⟩
    have hL : ∀ i γ, L[i]? = some γ → LNK γ s' (197 * (i + 1)) := fun i γ hi => by
      have := (List.getElem?_eq_some_iff.mp hi).1
      exact LNK_cong (fun j hj => c3 _ (by omega)) (h2 i γ hi)
    refine ⟨LNK_cong (fun i hi => c3 _ (by omega)) ⟨W, H, P, wm, T, fl, rf, hO, hG, hS⟩, ⟨hL, ?_, ?_⟩, hl, h5, h6, h7⟩
    · rcases (show k = 0 ∨ k = 1 by omega) with rfl | rfl
      · rw [if_pos rfl] at g0 ⊢
        rcases g0 with ⟨g, -⟩ | ⟨γ, q, g, gq⟩
        · cases g
        · exact Or.inr ⟨gsX x, q, rfl, gq, show va_up (m_kept m) 0 (nI 1) 0 = nI 1 from up_s, hN⟩
      · rw [if_neg (by decide)] at g0 ⊢
        have := SLr_k (SLr_cong (s' := s') (fun i hi => c3 _ (by omega)) h3) g0
        rwa [show m_kept m 0 = va_up (m_kept m) 1 (nI 1) 0 from (up_n (by decide)).symm] at this
    · rcases (show k = 0 ∨ k = 1 by omega) with rfl | rfl
      · rw [if_pos rfl] at g1 ⊢
        have := SLr_k (SLr_cong (s' := s') (fun i hi => c3 _ (by omega)) h4) g1
        rwa [show m_kept m 1 = va_up (m_kept m) 0 (nI 1) 1 from (up_n (by decide)).symm] at this
      · rw [if_neg (by decide)] at g1 ⊢
        rcases g1 with ⟨g, -⟩ | ⟨γ, q, g, gq⟩
        · cases g
        · exact Or.inr ⟨gsX x, q, rfl, gq, show va_up (m_kept m) 1 (nI 1) 1 = nI 1 from up_s, hN⟩
theorem pr_keepX (μ : MS) (a : Int32) (e : f_X5_in a (nI 0) (nI 1) = some (nI 0)) : f_X5_keep μ a = some (nI 0, m_s μ, m_kept μ, nI 1) := by
  unfold f_X5_keep
  simp only [LIT]
  rw [e, ob, show f_X5_goes μ (nI 0) (nI 1) = some (nI 0, nI 1) from goes1 μ false, ob, if_pos rfl]
theorem pr_goBackX (μ : MS) (a : Int32) (e : f_X5_in a (nI 0) (nI 1) = some (nI 0)) : f_X5_goBack μ a = some (nI 0, m_s μ, m_states μ, nI 1) := by
  unfold f_X5_goBack
  simp only [LIT]
  rw [e, ob, ob, if_pos rfl, ob, show f_X5_goes μ (nI 0) (nI 0) = some (nI 0, nI 1) from goesE μ false false, ob, if_pos rfl]
theorem pr_goBack (h : RR x L S0 S1 m) {k : Nat} (hk : k < 2) : ((if k = 0 then S0 else S1) = none ∧ x_sl x k = none ∧ f_X5_goBack m (nI k) = some (nI 0, m_s m, m_states m, nI 2)) ∨ ∃ γ q r, (if k = 0 then S0 else S1) = some γ ∧ x_sl x k = some q ∧ f_X5_goBack m (nI k) = some r ∧ r.1 = g_tc γ ∧ r.2.2.2 = nI 0 ∧ RR (gdX (svX x) γ) (svL L (gsX x)) S0 S1 (pM m r) := by
  have h0 := h
  obtain ⟨h1, ⟨h2, h3, h4⟩, hl, h5, h6, h7⟩ := h
  have hin : f_X5_in (nI k) (nI 0) (nI 1) = some (nI 1) := by
    rw [inE (by omega) (by decide) (by decide), if_pos ⟨Nat.zero_le _, by omega⟩]
  have hsl : SLr (if k = 0 then S0 else S1) (x_sl x k) (m_kept m k) (m_s m) (197 * (7 + k)) := by
    rcases (show k = 0 ∨ k = 1 by omega) with rfl | rfl
    · exact h3
    · exact h4
  rcases hsl with ⟨g1, g2, g3⟩ | ⟨γ, q, g1, g2, g3, g4⟩
  · refine Or.inl ⟨g1, g2, ?_⟩
    unfold f_X5_goBack
    simp only [LIT]
    rw [hin, ob, ob, if_neg n10, jldE hk (by decide), ob, g3, if_pos rfl, ob, show f_X5_goes m (nI 1) (nI 0) = some (nI 0, nI 2) from goesE m true false, ob, if_pos rfl]
  · obtain ⟨s', v1, v2, v3⟩ := svs h0 (m_thrown' m (nI 0)) rfl rfl
    obtain ⟨n, hn⟩ : ∃ n, n = nI (svL L (gsX x)).length := ⟨_, rfl⟩
    obtain ⟨s2, c1, c2, c3⟩ := copiesE (m_thrown' (m_states' (m_s' m s') n) (nI 0)) (a := 7 + k) (c := 0) (by omega) (by decide) (by omega)
    have c2 : ∀ i, i < 197 → s2 i = s' (197 * (7 + k) + i) := fun i hi => by have := c2 i hi; rwa [show 197 * 0 + i = i by omega] at this
    have c3 : ∀ i, (i < 197 * 0 ∨ 197 * 0 + 197 ≤ i) → s2 i = s' i := c3
    have hs' : ∀ i, i < 197 → s' (197 * (7 + k) + i) = m_s m (197 * (7 + k) + i) := fun i hi => by
      obtain ⟨w1, w2, w3⟩ := v3 s' (fun _ _ _ => rfl)
      obtain ⟨s'', b1, -, b2, -⟩ := savesE (m_thrown' m (nI 0)) hl h6
      rw [v1] at b1
      have b3 : s' = s'' := congrArg Prod.fst (Option.some.inj b1)
      rw [b3]
      exact b2 _ (by omega)
    have hN : LNK γ s2 0 := LNK_cong (b := 197 * (7 + k)) (fun i hi => by rw [Nat.zero_add, c2 i hi, hs' i hi]) g4
    obtain ⟨W, H, P, wm, T, fl, rf, hO, hG, hS⟩ := hN
    have s131 : s2 131 = nI T.length := hS.2.2.2.2.2.1
    have xt : g_tc γ = nI T.length := hG.2.2.2.2.2.1
    refine Or.inr ⟨γ, q, (nI T.length, s2, n, nI 0), g1, g2, ?_, xt.symm, rfl, ?_⟩
    · unfold f_X5_goBack
      simp only [LIT]
      rw [hin, ob, ob, if_neg n10, jldE hk (by decide), ob, g3, if_neg n10, ob, show f_X5_goes m (nI 1) (nI 1) = some (nI 1, nI 0) from goes1 m true, ob, if_neg n10, v1, ob, ← hn]
      dsimp only
      rw [nI_add, c1, ob, jldE (by decide) (by decide), ob, s131]
    · obtain ⟨e1, e2, e3⟩ := svX_sl x
      obtain ⟨d1, d2, d3, d4, d5⟩ := gX_gd (svX x) γ
      exact RR_mv h0 v3 (svL_le hl _) (f := s2) rfl (fun i h1 h2 => c3 i (by omega)) (γ := γ) (k := x_lsize (svX x)) ⟨d1, d2.trans e1, d3, d4.trans e2, d5.trans e3⟩ ⟨W, H, P, wm, T, fl, rf, hO, hG, hS⟩ (svX_len hl h5) hn rfl rfl rfl
theorem pr_undo0 (h : RR x [] S0 S1 m) : f_X5_undo m = some (nI 0, m_s m, m_states m, nI 1) := by
  have h6 : m_states m = nI 0 := h.2.2.2.2.1
  unfold f_X5_undo
  simp only [LIT]
  rw [h6, if_pos (nI_le (by decide) (by decide)), ob, show f_X5_goes m (nI 0) (nI 1) = some (nI 0, nI 1) from goes1 m false, ob, if_pos rfl]
theorem pr_undo {γ : GS} (h : RR x (L ++ [γ]) S0 S1 m) : ∃ r, f_X5_undo m = some r ∧ r.1 = nI L.length ∧ r.2.2.2 = nI 0 ∧ RR (unX x γ L.length) L S0 S1 (pM m r) := by
  have h0 := h
  obtain ⟨h1, ⟨h2, h3, h4⟩, hl, h5, h6, h7⟩ := h
  rw [List.length_append] at hl h6
  simp only [List.length_cons, List.length_nil, Nat.zero_add] at hl h6
  obtain ⟨s2, c1, c2, c3⟩ := copiesE (m_thrown' m (nI 0)) (a := L.length + 1) (c := 0) (by omega) (by decide) (by omega)
  have c2 : ∀ i, i < 197 → s2 i = m_s m (197 * (L.length + 1) + i) := fun i hi => by have := c2 i hi; rwa [show 197 * 0 + i = i by omega] at this
  have c3 : ∀ i, (i < 197 * 0 ∨ 197 * 0 + 197 ≤ i) → s2 i = m_s m i := c3
  refine ⟨(nI L.length, s2, nI L.length, nI 0), ?_, rfl, rfl, ?_⟩
  · unfold f_X5_undo
    simp only [LIT]
    rw [h6, if_neg (nI_ge (by omega) (by omega)), ob, show f_X5_goes m (nI 1) (nI 1) = some (nI 1, nI 0) from goes1 m true, ob, if_neg n10, c1, ob, pk_sub (by omega), jletE, Nat.add_sub_cancel]
  · obtain ⟨cd, n, b1, b2, b3, b4, b5⟩ := h7
    refine ⟨LNK_cong (b := 197 * (L.length + 1)) (fun i hi => by rw [Nat.zero_add]; exact c2 i hi) (h2 L.length γ (by rw [List.getElem?_append_right (Nat.le_refl _), Nat.sub_self]; rfl)), SVr_cong (fun i hi _ => c3 i (by omega)) (by omega) ⟨fun i δ hi => ?_, h3, h4⟩, by omega, rfl, rfl, cd, n, b1, b2, b3, b4, b5⟩
    have := (List.getElem?_eq_some_iff.mp hi).1
    exact h2 i δ (by rw [List.getElem?_append_left this]; exact hi)
end SLT
theorem RR_0 (u1 u2 : Nat → Nat) : ∃ res, f_X5_laysOut m0S 0 4 4 = some res ∧ RR (x0S u1 u2) [] none none (m_s' m0S res) := by
  obtain ⟨s', h1, h2, h3⟩ := laysOutE m0S (W := 4) (H := 4) (fl := nI 0) (rf := nI 0) rfl rfl
  refine ⟨s', h1, ⟨4, 4, 0, 0, [], nI 0, nI 0, ⟨by decide, by decide, by decide, by decide, by decide, by decide, by decide, fun j hj => absurd hj (by rw [Nat.zero_testBit]; decide), trivial⟩, ⟨rfl, rfl, rfl, rfl, rfl, rfl, rfl, rfl, fun i q hq => by simp at hq⟩, h2⟩, ⟨fun i γ hi => by simp at hi, Or.inl ⟨rfl, rfl, rfl⟩, Or.inl ⟨rfl, rfl, rfl⟩⟩, by decide, rfl, rfl, (fun _ => 0), 0, by decide, rfl, rfl, fun i hi => absurd hi (by omega), fun i hi => absurd hi (by omega)⟩
