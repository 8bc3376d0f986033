/-! ===== the buffer, texts, slots, undo: answered alike ===== -/
theorem codeArg (a : Int32) : (∃ k, 33 ≤ k ∧ k ≤ 126 ∧ a = nI k ∧ f_X5_in a (nI 33) (nI 126) = some (nI 1)) ∨ ((a < nI 33 ∨ ¬ a ≤ nI 126) ∧ f_X5_in a (nI 33) (nI 126) = some (nI 0)) := by
  unfold f_X5_in
  simp only [LIT]
  by_cases c : a < nI 33
  · exact Or.inr ⟨Or.inl c, by rw [if_pos c]⟩
  · rw [if_neg c]
    by_cases d : nI 126 < a
    · exact Or.inr ⟨Or.inr (by rw [le_not_lt]; exact fun z => z d), by rw [if_pos d]⟩
    · rw [if_neg d]
      have h0 : ¬ a < nI 0 := fun z => c (Int32.lt_trans z (nI_lt (by decide) (by decide)))
      obtain ⟨k, hk, rfl⟩ := nI_of h0
      rw [nI_ltI hk (by decide)] at c
      rw [nI_ltI (by decide) hk] at d
      exact Or.inl ⟨k, by omega, by omega, rfl, rfl⟩
theorem narE : ∀ k, k < 127 → vp_nar .char (((nI k).toUInt32 % 65536).toInt32) = nI k := by decide +kernel
section RST
variable {x : XS} {L : List GS} {S0 S1 : Option GS} {m : MS}
theorem pr_append (h : RR x L S0 S1 m) (a : Int32) : (∃ res r, f_X4_append x a = some (.inl res) ∧ f_X5_append m a = some r ∧ r.1 = res.1 ∧ r.2.1 = nI 0 ∧ RR (x_codes' (x_length' x res.2.1) res.2.2) L S0 S1 (m_typed' (m_text' (m_thrown' m r.2.1) r.2.2.1) r.2.2.2)) ∨ (f_X4_append x a = some (.inr IAE) ∧ f_X5_append m a = some (nI 0, nI 1, m_text m, m_typed m)) ∨ (f_X4_append x a = some (.inr ISE) ∧ f_X5_append m a = some (nI 0, nI 2, m_text m, m_typed m)) := by
  obtain ⟨h1, h2, h3, h4, h5, cd, n, hn, bx, bm, bc, bt⟩ := h
  have hfull : (if nI 71 ≤ m_typed m then some (nI 0) else some (nI 1)) = some (nI (bn (decide (n < 71)))) := by
    rw [bm]
    by_cases c : n < 71
    · rw [if_neg (nI_ge c (by decide)), decide_eq_true c]; rfl
    · rw [if_pos (nI_le (by omega) (by omega)), decide_eq_false c]; rfl
  rcases codeArg a with ⟨k, k1, k2, rfl, e⟩ | ⟨k1, e⟩
  · by_cases c : n < 71
    · left
      have hb : ∀ f : Nat → Int32, buf cd n f → buf (fun i => if i = n then k else cd i) (n + 1) (va_up f n (nI k)) := fun f hf i hi => by
        by_cases z : i = n
        · subst z
          dsimp only
          rw [up_s, if_pos rfl]
          exact ⟨rfl, by omega⟩
        · dsimp only
          rw [up_n z, if_neg z]
          exact hf i (by omega)
      refine ⟨(nI (n + 1), nI (n + 1), va_up (x_codes x) n (nI k)), (nI (n + 1), nI 0, va_up (m_text m) n (nI k), nI (n + 1)), ?_, ?_, rfl, rfl, ?_⟩
      · unfold f_X4_append f_X0_isFull f_X0_add
        simp only [LIT]
        rw [if_neg (nI_nlt k1 (by omega)), if_pos (nI_le k2 (by decide))]
        rw [bx]
        rw [if_pos (nI_lt c (by decide)), ob, if_pos rfl, if_neg (nI_ge c (by decide)), jstE c (by decide), ob, nI_add, jletE, ob]
      · unfold f_X5_append
        simp only [LIT]
        rw [e, ob, hfull, ob, decide_eq_true c, show f_X5_goes m (nI 1) (nI (bn true)) = some (nI 1, nI 0) from goesE m true true, ob, if_neg n10, bm, show vp_nar .char (((nI k).toUInt32 % 65536).toInt32) = nI k from narE k (by omega), jstE c (by decide), ob, nI_add, jletE]
      · exact ⟨h1, h2, h3, h4, h5, _, n + 1, by omega, rfl, rfl, hb _ bc, hb _ bt⟩
    · right; right
      refine ⟨?_, ?_⟩
      · unfold f_X4_append f_X0_isFull
        simp only [LIT]
        rw [if_neg (nI_nlt k1 (by omega)), if_pos (nI_le k2 (by decide))]
        rw [bx]
        rw [if_neg (nI_nlt (by omega) (by omega)), ob, if_neg n10]
      · unfold f_X5_append
        simp only [LIT]
        rw [e, ob, hfull, ob, decide_eq_false c, show f_X5_goes m (nI 1) (nI (bn false)) = some (nI 0, nI 2) from goesE m true false, ob, if_pos rfl]
  · right; left
    refine ⟨?_, ?_⟩
    · unfold f_X4_append
      simp only [LIT]
      by_cases z : a < nI 33
      · rw [if_pos z]
      · rw [if_neg z, if_neg (k1.resolve_left z)]
    · unfold f_X5_append
      simp only [LIT]
      rw [e, ob, hfull, ob]
      cases decide (n < 71)
      · rw [show f_X5_goes m (nI 0) (nI (bn false)) = some (nI 0, nI 1) from goesE m false false, ob, if_pos rfl]
      · rw [show f_X5_goes m (nI 0) (nI (bn true)) = some (nI 0, nI 1) from goesE m false true, ob, if_pos rfl]
theorem pr_clearBuffer (h : RR x L S0 S1 m) : ∃ v, f_X4_clearBuffer x = some (v, nI 0) ∧ f_X5_clearBuffer m = some (v, nI 0, nI 0) ∧ RR (x_length' x (nI 0)) L S0 S1 (m_typed' (m_thrown' m (nI 0)) (nI 0)) := by
  obtain ⟨h1, h2, h3, h4, h5, cd, n, hn, bx, bm, bc, bt⟩ := h
  refine ⟨nI n, ?_, ?_, ⟨h1, h2, h3, h4, h5, cd, 0, by omega, rfl, rfl, fun i hi => absurd hi (by omega), fun i hi => absurd hi (by omega)⟩⟩
  · unfold f_X4_clearBuffer
    simp only [LIT]
    rw [jletE, bx]
  · unfold f_X5_clearBuffer
    simp only [LIT]
    rw [jletE, bm]
theorem EC0 : EC (0, 0, 0, 0, 0, 0) = (8, 0, -1, 0, 0) := by decide +kernel
theorem pr_firstError (h : RR x L S0 S1 m) : ∃ a c r, f_X0_readInto (x_length x, x_codes x, 8, 0, -1, 0, 0) = some (a, c) ∧ f_X5_firstError m = some r ∧ r.1 = a ∧ r.2.1 = nI 0 ∧ RR x L S0 S1 (m_told' (m_thrown' m r.2.1) r.2.2) := by
  have h0 := h
  obtain ⟨-, -, -, -, -, cd, n, hn, bx, bm, bc, bt⟩ := h
  obtain ⟨a, st, q1, q2⟩ := readIntoE hn bc
  obtain ⟨a', st', r1, r2⟩ := errorE (μ := m_thrown' m (nI 0)) hn bt bm
  obtain ⟨rfl, rfl⟩ := EA_one q1 r1
  have han := q1.2.1
  rw [EC0, ← bx] at q2
  refine ⟨nI a, EC st, (nI a, nI 0, nI (st.1 + 1)), q2, ?_, rfl, rfl, RR_t h0 _ rfl rfl rfl rfl rfl⟩
  unfold f_X5_firstError
  simp only [LIT]
  rw [r2, ob]
  dsimp only
  by_cases c : a = n ∧ whl st = true
  · rw [if_pos c, if_neg (by rw [le_not_lt]; exact fun z => z (m1_lt (by decide))), bm, c.1]
  · rw [if_neg c, if_pos (nI_le (Nat.zero_le _) (by omega))]
def f_X4_load (μ : XS) : Option ((Int32 × (Int32) × (Int32) × (Int32) × (Int64) × (Int64) × (Int32) × (Int32) × (Int32)) ⊕ (String)) :=
Option.bind (f_X0_readInto (x_length μ, x_codes μ, 8, 0, -1, 0, 0)) fun r1 => if r1.1 < x_length μ then some (.inr IAE) else Option.bind (f_X3_isWhole r1.2) fun r2 => if r2 = 0 then some (.inr IAE) else Option.bind (f_X4_saveState μ) fun r3 => Option.bind (f_X1_layOut (gsX μ) (rd_wide r1.2) (rd_row r1.2 + 1) (rd_pond r1.2) (rd_walls r1.2)) fun r4 => Option.bind (f_X1_freeCells (r4.1, r4.2.1, r4.2.2.1, r4.2.2.2.1, r4.2.2.2.2.1, r4.2.2.2.2.2, x_flips μ, x_refused μ, x_names μ)) fun r5 => Option.bind (f_J13_bitCount_95d88 r5) fun r6 => some (.inl (r6, r4.1, r4.2.1, r4.2.2.1, r4.2.2.2.1, r4.2.2.2.2.1, r4.2.2.2.2.2, r3.1, r3.2))
theorem RR_clear (h : RR x L S0 S1 m) (m' : MS) (e : m_s m' = m_s m) (e1 : m_states m' = m_states m) (e2 : m_kept m' = m_kept m) (e4 : m_typed m' = nI 0) : RR (x_length' x (nI 0)) L S0 S1 m' := by
  obtain ⟨h1, h2, h3, h4, h5, cd, n, hn, bx, bm, bc, bt⟩ := h
  exact ⟨by rw [e]; exact h1, by rw [e, e2]; exact h2, h3, h4, by rw [e1]; exact h5, cd, 0, by omega, rfl, e4, fun i hi => absurd hi (by omega), fun i hi => absurd hi (by omega)⟩
abbrev pML (m : MS) (r : Int32 × (Nat → Int32) × (Int32) × (Int32) × (Int32) × (Int32)) : MS := m_told' (m_typed' (m_thrown' (m_states' (m_s' m r.2.1) r.2.2.1) r.2.2.2.1) r.2.2.2.2.1) r.2.2.2.2.2
theorem pr_load (h : RR x L S0 S1 m) : (∃ res r, f_X4_load x = some (.inl res) ∧ f_X5_load m = some r ∧ r.1 = res.1 ∧ r.2.2.2.1 = nI 0 ∧ RR (x_length' (xGarden x res) (nI 0)) (svL L (gsX x)) S0 S1 (pML m r)) ∨ (∃ r, f_X4_load x = some (.inr IAE) ∧ f_X5_load m = some r ∧ r.2.2.2.1 = nI 1 ∧ RR x L S0 S1 (pML m r)) := by
  have h0 := h
  obtain ⟨⟨W0, H0, P0, w0, T0, fl, rf, hO0, hG0, hS0⟩, -, -, -, -, cd, n, hn, bx, bm, bc, bt⟩ := h
  obtain ⟨a, st, q1, q2⟩ := readIntoE hn bc
  obtain ⟨a', st', r1, r2⟩ := errorE (μ := m) hn bt bm
  obtain ⟨rfl, rfl⟩ := EA_one q1 r1
  have han := q1.2.1
  rw [EC0, ← bx] at q2
  have hvs := PRs_VS q1.1
  by_cases c : a = n ∧ whl st = true
  · left
    obtain ⟨rfl, cw⟩ := c
    rw [if_pos ⟨rfl, cw⟩] at r2
    obtain ⟨r, col, mw, pd, pl, wm⟩ := st
    obtain ⟨hO, hr, rfl, rfl⟩ := told_OK q1.1 cw
    have hw := isWholeE hvs
    rw [cw] at hw
    have hwd : wd r col = col := by unfold wd; rw [if_neg (by omega)]
    have ha : a = r * (col + 1) + col := (PRs_JI q1.1).1
    have hdiv : a / (r + 1) = col := by
      rw [ha, show r * (col + 1) + col = (r + 1) * col + r by rw [Nat.mul_add, Nat.add_mul]; omega, Nat.mul_add_div (by omega), Nat.div_eq_of_lt (by omega), Nat.add_zero]
    obtain ⟨s', v1, v2, v3⟩ := svs h0 (m_told' (m_thrown' m (nI 0)) (nI (r + 1))) rfl rfl
    obtain ⟨k, hk⟩ : ∃ k, k = nI (svL L (gsX x)).length := ⟨_, rfl⟩
    obtain ⟨s2, l1, l2, l3⟩ := laysOutE (m_told' (m_thrown' (m_states' (m_s' m s') k) (nI 0)) (nI (r + 1))) (W := col) (H := r + 1) (fl := fl) (rf := rf) (by show s' 195 = fl; rw [v2 _ (by decide)]; exact hS0.2.2.2.2.2.2.2.1) (by show s' 196 = rf; rw [v2 _ (by decide)]; exact hS0.2.2.2.2.2.2.2.2)
    obtain ⟨s3, g1, g2, g3⟩ := loadLoop (μ := m) hn bt bm q1.1 hr hO l2
    have hcol := hO.2.1
    have hrow := hO.2.2.2.1
    have hG : GR col (r + 1) pl wm [] fl rf (nI col, nI (r + 1), nI pl, lN wm, 0, 0, x_flips x, x_refused x, x_names x) := ⟨rfl, rfl, rfl, rfl, rfl, rfl, hG0.2.2.2.2.2.2.1, hG0.2.2.2.2.2.2.2.1, fun i q hq => by simp at hq⟩
    have hfr := freeE (μ := m_told' (m_typed' (m_thrown' (m_states' (m_s' m s3) k) (nI 0)) (nI 0)) (nI (r + 1))) g2 hO
    refine ⟨(nI (pc (fm col (r + 1) pl wm (pv []))), nI col, nI (r + 1), nI pl, lN wm, 0, 0, x_lmod (svX x), x_lsize (svX x)), (nI (pc (fm col (r + 1) pl wm (pv []))), s3, k, nI 0, nI 0, nI (r + 1)), ?_, ?_, rfl, rfl, ?_⟩
    · unfold f_X4_load f_X4_saveState f_X1_layOut
      rw [q2, ob, bx, if_neg (nI_nlt (Nat.le_refl _) (by omega)), hw, ob, if_neg (show ¬ nI (bn true) = 0 from n10), ob, ob]
      dsimp only [EC]
      rw [hwd, show nI r + 1 = nI (r + 1) from nI_add r 1, if_neg (by decide), show f_X1_freeCells (nI col, nI (r + 1), nI pl, lN wm, 0, 0, x_flips x, x_refused x, x_names x) = _ from freeCellsG hG hO, ob, bitCountE (fm_lt hcol hrow), ob]
    · unfold f_X5_load
      simp only [LIT]
      rw [r2, ob]
      dsimp only
      rw [if_neg (by rw [le_not_lt]; exact fun z => z (m1_lt (by decide))), ob, show f_X5_goes (m_told' m (nI (r + 1))) (nI 1) (nI 1) = some (nI 1, nI 0) from goes1 _ true, ob, if_neg n10, v1, ob, ← hk, if_neg (by rw [nI_eq (by omega) (by decide)]; omega)]
      dsimp only
      rw [bm, pk_div (by omega) (by omega) (by omega), hdiv, l1, ob, jldE (by decide) (by decide), ob, show s2 0 = nI col from l2.1, show f_X5_load_L53 m (nI col) 4096 (nI 0) s2 = some s3 from g1, ob, hfr, ob]
    · refine RR_clear (x := xGarden x (nI (pc (fm col (r + 1) pl wm (pv []))), nI col, nI (r + 1), nI pl, lN wm, 0, 0, x_lmod (svX x), x_lsize (svX x))) (m := m_states' (m_s' m s3) k) (RR_mv h0 v3 (svL_le h0.2.2.1 _) (f := s3) rfl (fun i h1 h2 => by rw [g3 i h1]; exact l3 i h1) (gX_Garden _ _) ⟨col, r + 1, pl, wm, [], fl, rf, hO, hG, g2⟩ (svX_len h0.2.2.1 h0.2.2.2.1) hk rfl rfl rfl) _ rfl rfl rfl rfl
  · right
    rw [if_neg c] at r2
    refine ⟨(nI 0, m_s m, m_states m, nI 1, m_typed m, nI (st.1 + 1)), ?_, ?_, rfl, RR_t h0 _ rfl rfl rfl rfl rfl⟩
    · unfold f_X4_load
      rw [q2, ob, bx]
      dsimp only
      by_cases z : a < n
      · rw [if_pos (nI_lt z (by omega))]
      · rw [if_neg (nI_nlt (by omega) (by omega)), isWholeE hvs, ob]
        have : whl st = false := by
          cases w : whl st
          · rfl
          · exact absurd ⟨by omega, w⟩ c
        rw [this, if_pos (show nI (bn false) = 0 from rfl)]
    · unfold f_X5_load
      simp only [LIT]
      rw [r2, ob]
      dsimp only
      rw [if_pos (nI_le (Nat.zero_le _) (by omega)), ob, show f_X5_goes (m_told' m (nI (st.1 + 1))) (nI 0) (nI 1) = some (nI 0, nI 1) from goes1 _ false, ob, if_pos rfl]
end RST
