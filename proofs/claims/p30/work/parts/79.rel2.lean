/-! ===== reads, told alike by both ===== -/
theorem ne12 : ∀ a, a < 12 → ∀ b, b < 12 → a ≠ b → ¬ nI a = nI b := by decide +kernel
section READ2
variable {x : XS} {L : List GS} {S0 S1 : Option GS} {m : MS}
theorem pr_counted (h : RR x L S0 S1 m) {k : Nat} (hk : k < 12) (m' : MS) (e1 : m_s m' = m_s m) (e2 : m_states m' = m_states m) : ∃ v, f_X4_count x (nI k) = some (.inl v) ∧ f_X5_counted m' (nI k) = some v := by
  obtain ⟨⟨W, H, P, wm, T, fl, rf, hO, hG, hS⟩, -, -, hls, hst, -⟩ := h
  have hW := hO.2.1
  have hH := hO.2.2.2.1
  have hP := OK_P hO
  have hS' : SR W H P wm T fl rf (m_s m') 0 := by rw [e1]; exact hS
  have s0 : m_s m' 0 = nI W := hS'.1
  have s1 : m_s m' 1 = nI H := hS'.2.1
  have s2 : m_s m' 2 = nI P := hS'.2.2.1
  have s131 : m_s m' 131 = nI T.length := hS'.2.2.2.2.2.1
  have s195 : m_s m' 195 = fl := hS'.2.2.2.2.2.2.2.1
  have s196 : m_s m' 196 = rf := hS'.2.2.2.2.2.2.2.2
  have hx : x_wide x = nI W ∧ x_high x = nI H ∧ x_pond x = nI P ∧ x_walls x = lN wm ∧ x_paved x = lN (pv T) ∧ x_tc x = nI T.length ∧ x_flips x = fl ∧ x_refused x = rf := ⟨hG.1, hG.2.1, hG.2.2.1, hG.2.2.2.1, hG.2.2.2.2.1, hG.2.2.2.2.2.1, hG.2.2.2.2.2.2.1, hG.2.2.2.2.2.2.2.1⟩
  obtain ⟨x0, x1, x2, x3, x4, x5, x6, x7⟩ := hx
  have hfc : f_X1_freeCells (x_wide x, x_high x, x_pond x, x_walls x, x_paved x, x_tc x, x_flips x, x_refused x, x_names x) = some (lN (fm W H P wm (pv T))) := freeCellsG hG hO
  unfold f_X4_count f_X5_counted
  simp only [LIT]
  rcases (show k = 0 ∨ k = 1 ∨ k = 2 ∨ k = 3 ∨ k = 4 ∨ k = 5 ∨ k = 6 ∨ k = 7 ∨ k = 8 ∨ k = 9 ∨ k = 10 ∨ k = 11 by omega) with rfl | rfl | rfl | rfl | rfl | rfl | rfl | rfl | rfl | rfl | rfl | rfl
  · refine ⟨nI W, ?_, ?_⟩
    · rw [if_pos rfl, x0]
    · rw [if_pos rfl, jldE (by decide) (by decide), ob, s0]
  · refine ⟨nI H, ?_, ?_⟩
    · rw [if_neg (ne12 1 (by decide) 0 (by decide) (by decide)), if_pos rfl, x1]
    · rw [if_neg (ne12 1 (by decide) 0 (by decide) (by decide)), if_pos rfl, jldE (by decide) (by decide), ob, s1]
  · refine ⟨nI (P % 8), ?_, ?_⟩
    · rw [if_neg (ne12 2 (by decide) 0 (by decide) (by decide)), if_neg (ne12 2 (by decide) 1 (by decide) (by decide)), if_pos rfl, x2, pk_rem (by omega) (by decide) (by decide)]
    · rw [if_neg (ne12 2 (by decide) 0 (by decide) (by decide)), if_neg (ne12 2 (by decide) 1 (by decide) (by decide)), if_pos rfl, jldE (by decide) (by decide), ob, s2, pk_rem (by omega) (by decide) (by decide)]
  · refine ⟨nI (P / 8), ?_, ?_⟩
    · rw [if_neg (ne12 3 (by decide) 0 (by decide) (by decide)), if_neg (ne12 3 (by decide) 1 (by decide) (by decide)), if_neg (ne12 3 (by decide) 2 (by decide) (by decide)), if_pos rfl, x2, pk_div (by omega) (by decide) (by decide)]
    · rw [if_neg (ne12 3 (by decide) 0 (by decide) (by decide)), if_neg (ne12 3 (by decide) 1 (by decide) (by decide)), if_neg (ne12 3 (by decide) 2 (by decide) (by decide)), if_pos rfl, jldE (by decide) (by decide), ob, s2, pk_div (by omega) (by decide) (by decide)]
  · refine ⟨nI (pc wm), ?_, ?_⟩
    · rw [if_neg (ne12 4 (by decide) 0 (by decide) (by decide)), if_neg (ne12 4 (by decide) 1 (by decide) (by decide)), if_neg (ne12 4 (by decide) 2 (by decide) (by decide)), if_neg (ne12 4 (by decide) 3 (by decide) (by decide)), if_pos rfl, x3, bitCountE hO.2.2.2.2.2.2.1, ob]
    · rw [if_neg (ne12 4 (by decide) 0 (by decide) (by decide)), if_neg (ne12 4 (by decide) 1 (by decide) (by decide)), if_neg (ne12 4 (by decide) 2 (by decide) (by decide)), if_neg (ne12 4 (by decide) 3 (by decide) (by decide)), if_pos rfl, wallsE hS', ob]
  · refine ⟨nI T.length, ?_, ?_⟩
    · rw [if_neg (ne12 5 (by decide) 0 (by decide) (by decide)), if_neg (ne12 5 (by decide) 1 (by decide) (by decide)), if_neg (ne12 5 (by decide) 2 (by decide) (by decide)), if_neg (ne12 5 (by decide) 3 (by decide) (by decide)), if_neg (ne12 5 (by decide) 4 (by decide) (by decide)), if_pos rfl, x5]
    · rw [if_neg (ne12 5 (by decide) 0 (by decide) (by decide)), if_neg (ne12 5 (by decide) 1 (by decide) (by decide)), if_neg (ne12 5 (by decide) 2 (by decide) (by decide)), if_neg (ne12 5 (by decide) 3 (by decide) (by decide)), if_neg (ne12 5 (by decide) 4 (by decide) (by decide)), if_pos rfl, jldE (by decide) (by decide), ob, s131]
  · refine ⟨nI (pc (fm W H P wm (pv T))), ?_, ?_⟩
    · rw [if_neg (ne12 6 (by decide) 0 (by decide) (by decide)), if_neg (ne12 6 (by decide) 1 (by decide) (by decide)), if_neg (ne12 6 (by decide) 2 (by decide) (by decide)), if_neg (ne12 6 (by decide) 3 (by decide) (by decide)), if_neg (ne12 6 (by decide) 4 (by decide) (by decide)), if_neg (ne12 6 (by decide) 5 (by decide) (by decide)), if_pos rfl, hfc, ob, bitCountE (fm_lt hW hH), ob]
    · rw [if_neg (ne12 6 (by decide) 0 (by decide) (by decide)), if_neg (ne12 6 (by decide) 1 (by decide) (by decide)), if_neg (ne12 6 (by decide) 2 (by decide) (by decide)), if_neg (ne12 6 (by decide) 3 (by decide) (by decide)), if_neg (ne12 6 (by decide) 4 (by decide) (by decide)), if_neg (ne12 6 (by decide) 5 (by decide) (by decide)), if_pos rfl, freeE hS' hO, ob]
  · refine ⟨nI (fb_sm (fun y => fb_sm (fun x => fb_sm (fun t => bn (lay' W H P wm (pv T) x y t)) 4) W) H), ?_, ?_⟩
    · rw [if_neg (ne12 7 (by decide) 0 (by decide) (by decide)), if_neg (ne12 7 (by decide) 1 (by decide) (by decide)), if_neg (ne12 7 (by decide) 2 (by decide) (by decide)), if_neg (ne12 7 (by decide) 3 (by decide) (by decide)), if_neg (ne12 7 (by decide) 4 (by decide) (by decide)), if_neg (ne12 7 (by decide) 5 (by decide) (by decide)), if_neg (ne12 7 (by decide) 6 (by decide) (by decide)), if_pos rfl, show f_X1_layableTriples (x_wide x, x_high x, x_pond x, x_walls x, x_paved x, x_tc x, x_flips x, x_refused x, x_names x) = _ from layableE hG hO, ob]
    · rw [if_neg (ne12 7 (by decide) 0 (by decide) (by decide)), if_neg (ne12 7 (by decide) 1 (by decide) (by decide)), if_neg (ne12 7 (by decide) 2 (by decide) (by decide)), if_neg (ne12 7 (by decide) 3 (by decide) (by decide)), if_neg (ne12 7 (by decide) 4 (by decide) (by decide)), if_neg (ne12 7 (by decide) 5 (by decide) (by decide)), if_neg (ne12 7 (by decide) 6 (by decide) (by decide)), if_pos rfl, show f_X5_could m' (-nI 1) (nI 0) = _ from (couldE hS' hO (G := lay' W H P wm (pv T)) (Or.inl ⟨rfl, fun _ _ _ => rfl⟩)).choose_spec.1 (nI 0), ob, lay_cut hO.1 hO.2.2.1]
      rfl
  · refine ⟨nI (fb_sm (fun y => fb_sm (fun x => fv W H T x y) W) H), ?_, ?_⟩
    · rw [if_neg (ne12 8 (by decide) 0 (by decide) (by decide)), if_neg (ne12 8 (by decide) 1 (by decide) (by decide)), if_neg (ne12 8 (by decide) 2 (by decide) (by decide)), if_neg (ne12 8 (by decide) 3 (by decide) (by decide)), if_neg (ne12 8 (by decide) 4 (by decide) (by decide)), if_neg (ne12 8 (by decide) 5 (by decide) (by decide)), if_neg (ne12 8 (by decide) 6 (by decide) (by decide)), if_neg (ne12 8 (by decide) 7 (by decide) (by decide)), if_pos rfl, show f_X1_flippableBlocks (x_wide x, x_high x, x_pond x, x_walls x, x_paved x, x_tc x, x_flips x, x_refused x, x_names x) = _ from flippableC hG hO, ob]
    · rw [if_neg (ne12 8 (by decide) 0 (by decide) (by decide)), if_neg (ne12 8 (by decide) 1 (by decide) (by decide)), if_neg (ne12 8 (by decide) 2 (by decide) (by decide)), if_neg (ne12 8 (by decide) 3 (by decide) (by decide)), if_neg (ne12 8 (by decide) 4 (by decide) (by decide)), if_neg (ne12 8 (by decide) 5 (by decide) (by decide)), if_neg (ne12 8 (by decide) 6 (by decide) (by decide)), if_neg (ne12 8 (by decide) 7 (by decide) (by decide)), if_pos rfl, flippableM hS' hO, ob]
  · refine ⟨fl, ?_, ?_⟩
    · rw [if_neg (ne12 9 (by decide) 0 (by decide) (by decide)), if_neg (ne12 9 (by decide) 1 (by decide) (by decide)), if_neg (ne12 9 (by decide) 2 (by decide) (by decide)), if_neg (ne12 9 (by decide) 3 (by decide) (by decide)), if_neg (ne12 9 (by decide) 4 (by decide) (by decide)), if_neg (ne12 9 (by decide) 5 (by decide) (by decide)), if_neg (ne12 9 (by decide) 6 (by decide) (by decide)), if_neg (ne12 9 (by decide) 7 (by decide) (by decide)), if_neg (ne12 9 (by decide) 8 (by decide) (by decide)), if_pos rfl, x6]
    · rw [if_neg (ne12 9 (by decide) 0 (by decide) (by decide)), if_neg (ne12 9 (by decide) 1 (by decide) (by decide)), if_neg (ne12 9 (by decide) 2 (by decide) (by decide)), if_neg (ne12 9 (by decide) 3 (by decide) (by decide)), if_neg (ne12 9 (by decide) 4 (by decide) (by decide)), if_neg (ne12 9 (by decide) 5 (by decide) (by decide)), if_neg (ne12 9 (by decide) 6 (by decide) (by decide)), if_neg (ne12 9 (by decide) 7 (by decide) (by decide)), if_neg (ne12 9 (by decide) 8 (by decide) (by decide)), if_pos rfl, jldE (by decide) (by decide), ob, s195]
  · refine ⟨rf, ?_, ?_⟩
    · rw [if_neg (ne12 10 (by decide) 0 (by decide) (by decide)), if_neg (ne12 10 (by decide) 1 (by decide) (by decide)), if_neg (ne12 10 (by decide) 2 (by decide) (by decide)), if_neg (ne12 10 (by decide) 3 (by decide) (by decide)), if_neg (ne12 10 (by decide) 4 (by decide) (by decide)), if_neg (ne12 10 (by decide) 5 (by decide) (by decide)), if_neg (ne12 10 (by decide) 6 (by decide) (by decide)), if_neg (ne12 10 (by decide) 7 (by decide) (by decide)), if_neg (ne12 10 (by decide) 8 (by decide) (by decide)), if_neg (ne12 10 (by decide) 9 (by decide) (by decide)), if_pos rfl, x7]
    · rw [if_neg (ne12 10 (by decide) 0 (by decide) (by decide)), if_neg (ne12 10 (by decide) 1 (by decide) (by decide)), if_neg (ne12 10 (by decide) 2 (by decide) (by decide)), if_neg (ne12 10 (by decide) 3 (by decide) (by decide)), if_neg (ne12 10 (by decide) 4 (by decide) (by decide)), if_neg (ne12 10 (by decide) 5 (by decide) (by decide)), if_neg (ne12 10 (by decide) 6 (by decide) (by decide)), if_neg (ne12 10 (by decide) 7 (by decide) (by decide)), if_neg (ne12 10 (by decide) 8 (by decide) (by decide)), if_neg (ne12 10 (by decide) 9 (by decide) (by decide)), if_pos rfl, jldE (by decide) (by decide), ob, s196]
  · refine ⟨nI L.length, ?_, ?_⟩
    · rw [if_neg (ne12 11 (by decide) 0 (by decide) (by decide)), if_neg (ne12 11 (by decide) 1 (by decide) (by decide)), if_neg (ne12 11 (by decide) 2 (by decide) (by decide)), if_neg (ne12 11 (by decide) 3 (by decide) (by decide)), if_neg (ne12 11 (by decide) 4 (by decide) (by decide)), if_neg (ne12 11 (by decide) 5 (by decide) (by decide)), if_neg (ne12 11 (by decide) 6 (by decide) (by decide)), if_neg (ne12 11 (by decide) 7 (by decide) (by decide)), if_neg (ne12 11 (by decide) 8 (by decide) (by decide)), if_neg (ne12 11 (by decide) 9 (by decide) (by decide)), if_neg (ne12 11 (by decide) 10 (by decide) (by decide)), if_pos rfl, show f_Jx4a65c_size_8abf5 (x_lmod x, x_lsize x) = some (nI L.length) from congrArg some hls, ob]
    · rw [if_neg (ne12 11 (by decide) 0 (by decide) (by decide)), if_neg (ne12 11 (by decide) 1 (by decide) (by decide)), if_neg (ne12 11 (by decide) 2 (by decide) (by decide)), if_neg (ne12 11 (by decide) 3 (by decide) (by decide)), if_neg (ne12 11 (by decide) 4 (by decide) (by decide)), if_neg (ne12 11 (by decide) 5 (by decide) (by decide)), if_neg (ne12 11 (by decide) 6 (by decide) (by decide)), if_neg (ne12 11 (by decide) 7 (by decide) (by decide)), if_neg (ne12 11 (by decide) 8 (by decide) (by decide)), if_neg (ne12 11 (by decide) 9 (by decide) (by decide)), if_neg (ne12 11 (by decide) 10 (by decide) (by decide)), e2, hst]
theorem pr_count (h : RR x L S0 S1 m) (a : Int32) : (∃ v, f_X4_count x a = some (.inl v) ∧ f_X5_count m a = some (v, nI 0)) ∨ (f_X4_count x a = some (.inr IAE) ∧ f_X5_count m a = some (nI 0, nI 1)) := by
  rcases arg_in a (n := 11) (by decide) with ⟨k, hk, rfl, e1⟩ | ⟨h1, e1⟩
  · obtain ⟨v, v1, v2⟩ := pr_counted h (show k < 12 by omega) (m_thrown' m (nI 0)) rfl rfl
    refine Or.inl ⟨v, v1, ?_⟩
    unfold f_X5_count
    simp only [LIT]
    rw [e1, ob, show f_X5_goes m (nI 1) (nI 1) = some (nI 1, nI 0) from goes1 m true, ob, if_neg n10, v2, ob]
  · right
    refine ⟨?_, ?_⟩
    · have hne : ∀ j, j < 12 → ¬ a = nI j := fun j hj z => by
        subst z
        rw [nI_ltI (by omega) (by decide), nI_ltI (by decide) (by omega)] at h1
        omega
      unfold f_X4_count
      simp only [LIT]
      rw [if_neg (hne 0 (by decide)), if_neg (hne 1 (by decide)), if_neg (hne 2 (by decide)), if_neg (hne 3 (by decide)), if_neg (hne 4 (by decide)), if_neg (hne 5 (by decide)), if_neg (hne 6 (by decide)), if_neg (hne 7 (by decide)), if_neg (hne 8 (by decide)), if_neg (hne 9 (by decide)), if_neg (hne 10 (by decide)), if_neg (hne 11 (by decide))]
    · unfold f_X5_count
      simp only [LIT]
      rw [e1, ob, show f_X5_goes m (nI 0) (nI 1) = some (nI 0, nI 1) from goes1 m false, ob, if_pos rfl]
theorem whyBoth {W H P wm : Nat} {T : List TR} {fl rf : Int32} {g : GS} {μ : MS} (hG : GR W H P wm T fl rf g) (hS : SR W H P wm T fl rf (m_s μ) 0) (hO : OK W H P wm T) (a b : Int32) {t : Nat} (ht : t < 4) : ∃ r, r < 10 ∧ f_X1_whyRefused g a b (nI t) = some (nI r) ∧ f_X5_wrong μ (nI 0) a b (nI t) = some (nI r) ∧ (r = 0 → ∃ X Y, a = nI X ∧ b = nI Y ∧ X + 2 ≤ W ∧ Y + 2 ≤ H ∧ wn P wm (pv T) X Y t = 0) := by
  have hW := hO.2.1
  have hH := hO.2.2.2.1
  have hT := OK_len hO
  by_cases c : InB W H 2 2 a b
  · obtain ⟨X, Y, rfl, rfl, h1, h2⟩ := c
    have := wn_le P wm (pv T) X Y t
    exact ⟨_, by omega, whyIn hG hO h1 h2 ht, wrongIn hS (by omega) (by decide) (OK_P hO) hW hH h1 h2 ht, fun z => ⟨X, Y, rfl, rfl, h1, h2, z⟩⟩
  · refine ⟨1, by decide, whyOut hG hO c, wrongOut hS (by decide) hO.1 hO.2.2.1 hW hH ?_, fun z => absurd z (by decide)⟩
    apply Classical.byContradiction
    intro z
    apply c
    have z1 : ¬ a < nI 0 := fun y => z (Or.inl (Or.inl y))
    have z2 : ¬ b < nI 0 := fun y => z (Or.inr (Or.inl y))
    obtain ⟨X, hX, rfl⟩ := nI_of z1
    obtain ⟨Y, hY, rfl⟩ := nI_of z2
    have z3 : ¬ nI (W - 2) < nI X := fun y => z (Or.inl (Or.inr y))
    have z4 : ¬ nI (H - 2) < nI Y := fun y => z (Or.inr (Or.inr y))
    rw [nI_ltI (by omega) hX] at z3
    rw [nI_ltI (by omega) hY] at z4
    have := hO.1
    have := hO.2.2.1
    exact ⟨X, Y, rfl, rfl, by omega, by omega⟩
theorem pr_whyNot (h : RR x L S0 S1 m) (a b c : Int32) : (∃ v, f_X4_whyNot x a b c = some (.inl v) ∧ f_X5_whyNot m a b c = some (v, nI 0)) ∨ (f_X4_whyNot x a b c = some (.inr IAE) ∧ f_X5_whyNot m a b c = some (nI 0, nI 1)) := by
  obtain ⟨⟨W, H, P, wm, T, fl, rf, hO, hG, hS⟩, -⟩ := h
  rcases turnArg c with ⟨t, ht, rfl, e3, e4⟩ | ⟨e3, e4⟩
  · obtain ⟨r, -, r1, r2, -⟩ := whyBoth (μ := m_thrown' m (nI 0)) hG hS hO a b ht
    refine Or.inl ⟨nI r, ?_, ?_⟩
    · unfold f_X4_whyNot
      rw [e3, obl, show f_X1_whyRefused (x_wide x, x_high x, x_pond x, x_walls x, x_paved x, x_tc x, x_flips x, x_refused x, x_names x) a b (nI t) = _ from r1, ob]
    · unfold f_X5_whyNot
      simp only [LIT]
      rw [e4, ob, show f_X5_goes m (nI 1) (nI 1) = some (nI 1, nI 0) from goes1 m true, ob, if_neg n10, r2, ob]
  · refine Or.inr ⟨?_, ?_⟩
    · unfold f_X4_whyNot
      rw [e3, obr]
    · unfold f_X5_whyNot
      simp only [LIT]
      rw [e4, ob, show f_X5_goes m (nI 0) (nI 1) = some (nI 0, nI 1) from goes1 m false, ob, if_pos rfl]
theorem pr_ways (h : RR x L S0 S1 m) (hl9 : LST x) : ∃ v, ∃ p : PB, ∃ wy nx, f_X4_ways x = some (v, p) ∧ f_X5_ways m = some (v, nI 0, wy, nx) ∧ LB p := by
  obtain ⟨⟨W, H, P, wm, T, fl, rf, hO, hG, hS⟩, -⟩ := h
  have hT := OK_len hO
  obtain ⟨p, h1, h9⟩ := waysToPaveE (fm_lt (P := P) (wm := wm) (pm := pv T) hO.2.1 hO.2.2.2.1) (vX x) hl9.1 hl9.2
  obtain ⟨wy, nx, h2⟩ := pavesE (μ := m_thrown' m (nI 0)) (b := 0) hS (by omega) (by decide) (OK_P hO) hO.1 hO.2.2.1 hO.2.1 hO.2.2.2.1
  refine ⟨nI (CW (fm W H P wm (pv T)) 64 0), p, wy, nx, ?_, ?_, h9⟩
  · unfold f_X4_ways
    rw [show f_X1_freeCells (x_wide x, x_high x, x_pond x, x_walls x, x_paved x, x_tc x, x_flips x, x_refused x, x_names x) = _ from freeCellsG hG hO, ob]
    exact (congrArg (fun o => Option.bind o _) h1).trans rfl
  · unfold f_X5_ways
    simp only [LIT]
    rw [h2, ob]
/-- the rest, with a triple laid -/
theorem fm_lay {W H P wm : Nat} {T : List TR} (hO : OK W H P wm T) {X Y t : Nat} (hx : X + 2 ≤ W) (hy : Y + 2 ≤ H) (ht : t < 4) : fm W H P wm (pv T) &&& (tm X Y t ^^^ (2 ^ 64 - 1)) = fm W H P wm (pv (T ++ [(X, Y, t)])) := by
  have hW := hO.2.1
  have hH := hO.2.2.2.1
  refine ext64 (Nat.lt_of_le_of_lt Nat.and_le_left (fm_lt hW hH)) (fm_lt hW hH) (fun j hj => ?_)
  rw [Nat.testBit_and, not_bit _ hj, fm_bit hW hH hj, fm_bit hW hH hj, pv_app, Nat.testBit_or]
  show _ = (decide (j % 8 < W) && decide (j / 8 < H) && !wm.testBit j && !((pv T).testBit j || (tm X Y t).testBit j) && !decide (j = P))
  cases decide (j % 8 < W) <;> cases decide (j / 8 < H) <;> cases wm.testBit j <;> cases (pv T).testBit j <;> cases (tm X Y t).testBit j <;> cases decide (j = P) <;> rfl
theorem withE {W H P wm : Nat} {T : List TR} {fl rf : Int32} {μ : MS} {g : GS} (hG : GR W H P wm T fl rf g) (hS : SR W H P wm T fl rf (m_s μ) 0) (hO : OK W H P wm T) (μ2 : VS) (hh : LC (v_hsz μ2) (v_hwin μ2) (v_hway μ2)) (hn : LC (v_nsz μ2) (v_nwin μ2) (v_nway μ2)) (a b : Int32) {t : Nat} (ht : t < 4) : ∃ v, ∃ p : PB, ∃ s' wy nx, (Option.bind (f_X1_whyRefused g a b (nI t)) fun r2 => (if r2 = nI 0 then (Option.bind (f_X1_freeCells g) fun r3 => (Option.bind (f_X4_cellsOf a b (nI t)) fun r4 => (Option.bind (f_X2_waysToPave μ2 (r3 &&& (r4 ^^^ (-1 : Int64)))) fun r5 => some (Sum.inl r5)))) else some (Sum.inl (-nI 1, (v_takes μ2, v_u1 μ2, v_u2 μ2, v_hsz μ2, v_hwin μ2, v_hway μ2, v_nsz μ2, v_nwin μ2, v_nway μ2))))) = (some (Sum.inl (v, p)) : Option ((Int32 × PB) ⊕ String)) ∧ f_X5_with μ a b (nI t) = some (v, s', wy, nx) ∧ (∀ i, i < 1773 → s' i = m_s μ i) ∧ LB p := by
  have hW := hO.2.1
  have hH := hO.2.2.2.1
  obtain ⟨r, hr, r1, r2, r3⟩ := whyBoth hG hS hO a b ht
  unfold f_X5_with
  simp only [LIT]
  by_cases z : r = 0
  · obtain ⟨X, Y, rfl, rfl, h1, h2, h3⟩ := r3 z
    subst z
    obtain ⟨hO1, hd⟩ := OK_app hO h1 h2 ht h3
    have hlen := OK_len hO1
    rw [List.length_append] at hlen
    simp at hlen
    obtain ⟨p, w1, w9⟩ := waysToPaveE (fm_lt (P := P) (wm := wm) (pm := pv (T ++ [(X, Y, t)])) hW hH) μ2 hh hn
    obtain ⟨s1, c1, c2, c3⟩ := copiesE μ (a := 0) (c := 9) (by decide) (by decide) (by decide)
    have hS1 : SR W H P wm T fl rf s1 1773 := SR_cong (b := 0) (fun k hk => by
      have := c2 k hk
      rwa [show 197 * 0 + k = 0 + k by omega] at this) (by omega) hS
    obtain ⟨s2, d1, d2, d3⟩ := laysE (μ := m_s' μ s1) (b := 1773) hS1 (by decide) (by omega) (show X < 7 by omega) (show Y < 7 by omega) ht hd
    obtain ⟨wy, nx, p1⟩ := pavesE (μ := m_s' μ s2) (b := 1773) d2 (by rw [List.length_append]; simp; omega) (by decide) (OK_P hO) hO.1 hO.2.2.1 hW hH
    refine ⟨nI (CW (fm W H P wm (pv (T ++ [(X, Y, t)]))) 64 0), p, s2, wy, nx, ?_, ?_, fun i hi => ?_, w9⟩
    · rw [r1, ob, if_pos rfl, freeCellsG hG hO, ob, cellsOfE (by omega) (by omega) ht, ob, xorM, fb_andL, fm_lay hO h1 h2 ht, w1, ob]
    · rw [r2, ob, if_pos (nI_le (by decide) (by decide)), c1, ob, d1, ob, p1, ob]
    · rw [d3 i (by omega)]
      exact c3 i (by omega)
  · refine ⟨-nI 1, (v_takes μ2, v_u1 μ2, v_u2 μ2, v_hsz μ2, v_hwin μ2, v_hway μ2, v_nsz μ2, v_nwin μ2, v_nway μ2), m_s μ, m_ways μ, m_next μ, ?_, ?_, fun i _ => rfl, hh, hn⟩
    · rw [r1, ob, if_neg (by rw [nI_eq (by omega) (by decide)]; exact z)]
    · rw [r2, ob, if_neg (nI_ge (by omega) (by omega))]
theorem RR_s {s' : Nat → Int32} (h : RR x L S0 S1 m) (hs : ∀ i, i < 1773 → s' i = m_s m i) (m' : MS) (e : m_s m' = s') (e1 : m_states m' = m_states m) (e2 : m_kept m' = m_kept m) (e3 : m_text m' = m_text m) (e4 : m_typed m' = m_typed m) : RR x L S0 S1 m' := by
  obtain ⟨h1, h2, h3, h4, h5, h6⟩ := h
  subst e
  refine ⟨LNK_cong (fun k hk => hs (0 + k) (by omega)) h1, ?_, h3, h4, by rw [e1]; exact h5, ?_⟩
  · rw [e2]
    exact SVr_cong (fun i _ hi => hs i hi) h3 h2
  · obtain ⟨cd, n, a, b, c, d, f⟩ := h6
    exact ⟨cd, n, a, b, by rw [e4]; exact c, d, by rw [e3]; exact f⟩
theorem pr_waysWith (h : RR x L S0 S1 m) (hl9 : LST x) (a b c : Int32) : (∃ v, ∃ p : PB, ∃ s' wy nx, f_X4_waysWith x a b c = some (.inl (v, p)) ∧ f_X5_waysWith m a b c = some (v, s', nI 0, wy, nx) ∧ RR x L S0 S1 (m_next' (m_ways' (m_thrown' (m_s' m s') (nI 0)) wy) nx) ∧ LB p) ∨ (f_X4_waysWith x a b c = some (.inr IAE) ∧ f_X5_waysWith m a b c = some (nI 0, m_s m, nI 1, m_ways m, m_next m)) := by
  have h0 := h
  obtain ⟨⟨W, H, P, wm, T, fl, rf, hO, hG, hS⟩, -⟩ := h
  rcases turnArg c with ⟨t, ht, rfl, e3, e4⟩ | ⟨e3, e4⟩
  · obtain ⟨v, p, s', wy, nx, w1, w2, w3, w9⟩ := withE (μ := m_thrown' m (nI 0)) hG hS hO (vX x) hl9.1 hl9.2 a b ht
    refine Or.inl ⟨v, p, s', wy, nx, ?_, ?_, RR_s h0 w3 _ rfl rfl rfl rfl rfl, w9⟩
    · unfold f_X4_waysWith
      rw [e3, obl]
      exact w1
    · unfold f_X5_waysWith
      simp only [LIT]
      rw [e4, ob, show f_X5_goes m (nI 1) (nI 1) = some (nI 1, nI 0) from goes1 m true, ob, if_neg n10, w2, ob]
  · refine Or.inr ⟨?_, ?_⟩
    · unfold f_X4_waysWith
      rw [e3, obr]
    · unfold f_X5_waysWith
      simp only [LIT]
      rw [e4, ob, show f_X5_goes m (nI 0) (nI 1) = some (nI 0, nI 1) from goes1 m false, ob, if_pos rfl]
theorem pr_first (h : RR x L S0 S1 m) (m' : MS) (e : m_s m' = m_s m) {a : Nat} (ha : a < 100) : ∃ r, f_X1_firstFreeWith (gsX x) (nI a) = some r ∧ f_X5_firstWith m' (nI a) = some r ∧ (r = -nI 1 ∨ ∃ c, c < 64 ∧ r = nI c) := by
  obtain ⟨⟨W, H, P, wm, T, fl, rf, hO, hG, hS⟩, -⟩ := h
  obtain ⟨r, r1, r2⟩ := firstFreeWithE hG hO ha
  obtain ⟨q, q1, q2⟩ := firstWithE (μ := m') (by rw [e]; exact hS) hO ha
  have := FFW_one r2 q2
  subst this
  refine ⟨r, r1, q1, ?_⟩
  rcases r2 with ⟨h1, -⟩ | ⟨c, hc, h1, -⟩
  · exact Or.inl h1
  · exact Or.inr ⟨c, hc, h1⟩
theorem pr_isForced (h : RR x L S0 S1 m) (m' : MS) (e : m_s m' = m_s m) {k : Nat} (hk : k < 2) : ∃ v, f_X4_forced x (nI k) = some (.inl v) ∧ f_X5_isForced m' (nI k) = some v := by
  obtain ⟨⟨W, H, P, wm, T, fl, rf, hO, hG, hS⟩, -⟩ := h
  have hS' : SR W H P wm T fl rf (m_s m') 0 := by rw [e]; exact hS
  obtain ⟨r, r1, r2⟩ := firstFreeWithE hG hO (a := 1) (by decide)
  obtain ⟨q, q1, q2⟩ := firstWithE hS' hO (a := 1) (by decide)
  have := FFW_one r2 q2
  subst this
  have hC : ∀ v, (if r = -nI 1 then some (Sum.inl (-nI 1)) else (if nI k = nI 0 then (Option.bind (f_X4_cellName r) fun r3 => some (Sum.inl r3)) else (Option.bind (f_X1_firstCover (gsX x) r) fun r2 => some (Sum.inl r2)))) = (some (Sum.inl v) : Option (Int32 ⊕ String)) → f_X4_forced x (nI k) = some (.inl v) := fun v hv => by
    unfold f_X4_forced
    simp only [LIT]
    rcases (show k = 0 ∨ k = 1 by omega) with rfl | rfl
    · rw [if_pos rfl, show f_X1_firstFreeWith (x_wide x, x_high x, x_pond x, x_walls x, x_paved x, x_tc x, x_flips x, x_refused x, x_names x) (nI 1) = some r from r1, ob]
      exact hv
    · rw [if_neg n10, if_pos rfl, show f_X1_firstFreeWith (x_wide x, x_high x, x_pond x, x_walls x, x_paved x, x_tc x, x_flips x, x_refused x, x_names x) (nI 1) = some r from r1, ob]
      exact hv
  rcases r2 with ⟨rfl, -⟩ | ⟨c, hc, rfl, hp, -⟩
  · refine ⟨-nI 1, hC _ (by rw [if_pos rfl]), ?_⟩
    unfold f_X5_isForced
    simp only [LIT]
    rw [q1, ob, if_neg]
    rw [le_not_lt]
    exact fun z => z (m1_lt (by decide))
  · have hct : fb_ct (chz W H P wm (pv T) c) 16 = 1 := by
      unfold pw at hp
      rw [Bool.and_eq_true, beq_iff_eq] at hp
      exact hp.2
    obtain ⟨l, l1, l2⟩ := couldC hS' hO hc
    obtain ⟨f, f1, f2⟩ := firstCoverE hG hO hc
    obtain ⟨h1, a1, a2, a3⟩ := l2 hct
    have hfl : f = l := by
      rcases f2 with ⟨h2, b1, b2, b3⟩ | b
      · have := ct_one hct a1 b1 a2 b2
        subst this
        rw [a3, b3]
      · rw [b h1 a1] at a2; cases a2
    subst hfl
    have hM : ∀ v, (if nI k = nI 0 then (Option.bind (f_X5_told (nI c)) fun r3 => some r3) else (Option.bind (f_X5_could m' (nI c) (nI 1)) fun r2 => some r2)) = some v → f_X5_isForced m' (nI k) = some v := fun v hv => by
      unfold f_X5_isForced
      simp only [LIT]
      rw [q1, ob, if_pos (nI_le (Nat.zero_le _) (by omega))]
      exact hv
    rcases (show k = 0 ∨ k = 1 by omega) with rfl | rfl
    · exact ⟨_, hC _ (by rw [if_neg (m1_ne (by omega)), if_pos rfl, (toldE hc).2, ob]), hM _ (by rw [if_pos rfl, (toldE hc).1, ob])⟩
    · refine ⟨f, hC _ (by rw [if_neg (m1_ne (by omega)), if_neg n10, f1, ob]), hM _ ?_⟩
      rw [if_neg n10, l1, ob]
      exact congrArg some (if_neg n10)
theorem pr_forced (h : RR x L S0 S1 m) (a : Int32) : (∃ v, f_X4_forced x a = some (.inl v) ∧ f_X5_forced m a = some (v, nI 0)) ∨ (f_X4_forced x a = some (.inr IAE) ∧ f_X5_forced m a = some (nI 0, nI 1)) := by
  rcases arg_in a (n := 1) (by decide) with ⟨k, hk, rfl, e1⟩ | ⟨h1, e1⟩
  · obtain ⟨v, v1, v2⟩ := pr_isForced h (m_thrown' m (nI 0)) rfl (show k < 2 by omega)
    refine Or.inl ⟨v, v1, ?_⟩
    unfold f_X5_forced
    simp only [LIT]
    rw [e1, ob, show f_X5_goes m (nI 1) (nI 1) = some (nI 1, nI 0) from goes1 m true, ob, if_neg n10, v2, ob]
  · have hne : ∀ j, j < 2 → ¬ a = nI j := fun j hj z => by
      subst z
      rw [nI_ltI (by omega) (by decide), nI_ltI (by decide) (by omega)] at h1
      omega
    refine Or.inr ⟨?_, ?_⟩
    · unfold f_X4_forced
      simp only [LIT]
      rw [if_neg (hne 0 (by decide)), if_neg (hne 1 (by decide))]
    · unfold f_X5_forced
      simp only [LIT]
      rw [e1, ob, show f_X5_goes m (nI 0) (nI 1) = some (nI 0, nI 1) from goes1 m false, ob, if_pos rfl]
theorem pr_lonely0 (h : RR x L S0 S1 m) (m' : MS) (e : m_s m' = m_s m) : ∃ v, f_X4_lonely x = some v ∧ (Option.bind (f_X5_firstWith m' (nI 0)) fun r1 => f_X5_told r1) = some v := by
  obtain ⟨r, r1, r2, r3⟩ := pr_first h m' e (a := 0) (by decide)
  have hC : ∀ v, (if r = -nI 1 then some (-nI 1) else (Option.bind (f_X4_cellName r) fun r2 => some r2)) = some v → f_X4_lonely x = some v := fun v hv => by
    unfold f_X4_lonely
    simp only [LIT]
    rw [show f_X1_firstFreeWith (x_wide x, x_high x, x_pond x, x_walls x, x_paved x, x_tc x, x_flips x, x_refused x, x_names x) (nI 0) = some r from r1, ob]
    exact hv
  rw [r2, ob]
  rcases r3 with rfl | ⟨c, hc, rfl⟩
  · exact ⟨_, hC _ (by rw [if_pos rfl]), toldN⟩
  · exact ⟨_, hC _ (by rw [if_neg (m1_ne (by omega)), (toldE hc).2, ob]), (toldE hc).1⟩
theorem pr_lonely (h : RR x L S0 S1 m) : ∃ v, f_X4_lonely x = some v ∧ f_X5_lonely m = some (v, nI 0) := by
  obtain ⟨v, v1, v2⟩ := pr_lonely0 h (m_thrown' m (nI 0)) rfl
  refine ⟨v, v1, ?_⟩
  unfold f_X5_lonely
  simp only [LIT]
  cases z : f_X5_firstWith (m_thrown' m (nI 0)) (nI 0) with
  | none => rw [z] at v2; cases v2
  | some r => rw [z, ob] at v2; rw [ob, v2, ob]
theorem pr_bestPond (h : RR x L S0 S1 m) (hl9 : LST x) : ∃ v R, ∃ p : PB, ∃ s' wy nx, f_X4_bestPond x = some (v, R, p) ∧ f_X5_bestPond m = some (v, s', nI 0, wy, nx) ∧ RR x L S0 S1 (m_next' (m_ways' (m_thrown' (m_s' m s') (nI 0)) wy) nx) ∧ LB p := by
  have h0 := h
  obtain ⟨⟨W, H, P, wm, T, fl, rf, hO, hG, hS⟩, -⟩ := h
  have hg : mgap W H P wm (pv T) < 2 ^ 64 := Nat.or_lt_two_pow (fm_lt hO.2.1 hO.2.2.2.1) (pw_lt (OK_P hO))
  obtain ⟨R, p, b1, b9⟩ := bestGapE hg (vX x) hl9.1 hl9.2
  obtain ⟨s', wy, nx, b2, b3⟩ := bestPondE hS hO
  have hC : ∀ v, (if (BP (mgap W H P wm (pv T)) 64).1 = -nI 1 then some (-nI 1, R, p) else (Option.bind (f_X4_cellName (BP (mgap W H P wm (pv T)) 64).1) fun r4 => some (r4, R, p))) = some (v, R, p) → f_X4_bestPond x = some (v, R, p) := fun v hv => by
    unfold f_X4_bestPond
    simp only [LIT]
    rw [show f_X1_freeCells (x_wide x, x_high x, x_pond x, x_walls x, x_paved x, x_tc x, x_flips x, x_refused x, x_names x) = _ from freeCellsG hG hO, ob, show f_X1_pondCell (x_wide x, x_high x, x_pond x, x_walls x, x_paved x, x_tc x, x_flips x, x_refused x, x_names x) = _ from pondCellG hG hO, ob, fb_orL, show fm W H P wm (pv T) ||| 2 ^ P = mgap W H P wm (pv T) from rfl]
    exact (congrArg (fun o => Option.bind o _) b1).trans hv
  rw [b2]
  rcases (BP_f (mgap W H P wm (pv T)) 64).2 with e | ⟨c, hc, e⟩
  · exact ⟨_, R, p, s', wy, nx, hC _ (by rw [e, if_pos rfl]), by rw [e, toldN, ob]; rfl, RR_s h0 b3 _ rfl rfl rfl rfl rfl, b9⟩
  · exact ⟨_, R, p, s', wy, nx, hC _ (by rw [e, if_neg (m1_ne (by omega)), (toldE hc).2, ob]), by rw [e, (toldE hc).1, ob]; rfl, RR_s h0 b3 _ rfl rfl rfl rfl rfl, b9⟩
end READ2
