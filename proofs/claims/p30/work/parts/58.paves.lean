/-! ===== the reference's paves ===== -/
theorem clearsE (μ : MS) : ∃ g, f_X5_clears μ = some g ∧ ∀ i, i < 1024 → g i = nI 0 := by
  unfold f_X5_clears
  obtain ⟨v, h1, h2⟩ := loopQ (L := fun n j s => f_X5_clears_L2 n j s) (N := 1024) (I := fun j s => ∀ w, w < j → s w = nI 0) (Q := fun s => ∀ w, w < 1024 → s w = nI 0) (fun n j s hj hI => by
    simp only [f_X5_clears_L2, f_X5_clears_L2_b]
    by_cases c : j = 1024
    · subst c
      exact Or.inl ⟨s, by simp (disch := omega) only [LIT, nI_leI, if_pos], hI⟩
    · right
      refine ⟨by omega, va_up s j (nI 0), fun w hw => ?_, ?_⟩
      · by_cases e : w = j
        · rw [e, up_s]
        · rw [up_n e]
          exact hI w (by omega)
      · simp only [LIT]
        rw [if_neg (by rw [nI_leI (by omega) (by omega)]; omega), jstE (by omega) (by decide), ob, jletE, nI_add]) 1024 4096 0 (m_next μ) (by omega) (by omega) (fun w hw => absurd hw (by omega))
  rw [show f_X5_clears_L2 4096 0 (m_next μ) = some v from h1]
  exact ⟨v, rfl, h2⟩
theorem takesE (μ : MS) : ∃ g, f_X5_takes μ = some g ∧ ∀ i, i < 1024 → g i = m_next μ i := by
  unfold f_X5_takes
  obtain ⟨v, h1, h2⟩ := loopQ (L := fun n j s => f_X5_takes_L2 μ n j s) (N := 1024) (I := fun j s => ∀ w, w < j → s w = m_next μ w) (Q := fun s => ∀ w, w < 1024 → s w = m_next μ w) (fun n j s hj hI => by
    simp only [f_X5_takes_L2, f_X5_takes_L2_b]
    by_cases c : j = 1024
    · subst c
      exact Or.inl ⟨s, by simp (disch := omega) only [LIT, nI_leI, if_pos], hI⟩
    · right
      refine ⟨by omega, va_up s j (m_next μ j), fun w hw => ?_, ?_⟩
      · by_cases e : w = j
        · rw [e, up_s]
        · rw [up_n e]
          exact hI w (by omega)
      · simp only [LIT]
        rw [if_neg (by rw [nI_leI (by omega) (by omega)]; omega), jldE (by omega) (by decide), ob, jstE (by omega) (by decide), ob, jletE, nI_add]) 1024 4096 0 (m_ways μ) (by omega) (by omega) (fun w hw => absurd hw (by omega))
  rw [show f_X5_takes_L2 μ 4096 0 (m_ways μ) = some v from h1]
  exact ⟨v, rfl, h2⟩
section PAVES
variable {W H P wm b : Nat} {T : List TR} {fl rf : Int32} {μ : MS}
theorem pushE (hS : SR W H P wm T fl rf (m_s μ) b) (hT : T.length < 1000) (hb : b + 197 ≤ 1970) (hP : P < 64) (hW2 : 2 ≤ W) (hH2 : 2 ≤ H) (hW : W ≤ 8) (hH : H ≤ 8) {x y : Nat} (hx : x < W) (hy : y < H) {i c : Nat} (hi : i < 1024) (ways nx : Nat → Int32) (hw : ways i = nI c) (N : Nat → Nat) (hN : ∀ q, q < 1024 → nx q = nI (N q)) :
    ∃ nx' N', f_X5_paves_L136v (nI b) μ (nI i) ways (nI x) (nI y) 4096 0 nx = some nx' ∧ (∀ q, q < 1024 → nx' q = nI (N' q)) ∧ ∀ φ, PN N' φ = PN N φ + c * fb_sm (fun t => if fit (fm W H P wm (pv T)) (8 * y + x) t && ((cov W t &&& i) == 0) then φ ((i ||| cov W t) / 2) else 0) 4 := by
  obtain ⟨v, h1, N', h2, h3⟩ := loopQ (L := fun n j s => f_X5_paves_L136v (nI b) μ (nI i) ways (nI x) (nI y) n j s) (N := 4) (I := fun j s => ∃ N', (∀ q, q < 1024 → s q = nI (N' q)) ∧ ∀ φ, PN N' φ = PN N φ + c * fb_sm (fun t => if fit (fm W H P wm (pv T)) (8 * y + x) t && ((cov W t &&& i) == 0) then φ ((i ||| cov W t) / 2) else 0) j) (Q := fun s => ∃ N', (∀ q, q < 1024 → s q = nI (N' q)) ∧ ∀ φ, PN N' φ = PN N φ + c * fb_sm (fun t => if fit (fm W H P wm (pv T)) (8 * y + x) t && ((cov W t &&& i) == 0) then φ ((i ||| cov W t) / 2) else 0) 4) (fun n j s hj hI => by
    simp only [f_X5_paves_L136v, f_X5_paves_L136v_b]
    by_cases e : j = 4
    · subst e
      exact Or.inl ⟨s, by simp (disch := omega) only [LIT, nI_leI, if_pos], hI⟩
    · right
      obtain ⟨N1, g1, g2⟩ := hI
      have hc := cov_a W (by omega) hW2 j (by omega)
      have hc2 : (2 : Nat) ^ (W + 2) ≤ 2 ^ 10 := Nat.pow_le_pow_right (by decide) (by omega)
      have hor : i ||| cov W j < 2 ^ 10 := Nat.or_lt_two_pow hi (by omega)
      have hand : cov W j &&& i < 2 ^ 31 := Nat.lt_of_le_of_lt Nat.and_le_right (by omega)
      simp only [LIT]
      rw [if_neg (by rw [nI_leI (by omega) (by omega)]; omega), coversE (μ := m_next' (m_ways' μ ways) s) hS hT hb hP hW2 hH2 hW hH hx hy (by omega), ob]
      refine ⟨by omega, ?_⟩
      by_cases f : fit (fm W H P wm (pv T)) (8 * y + x) j = true
      · rw [if_pos f, if_neg (nI_ge hc.1 (by omega)), fa_and]
        by_cases g : cov W j &&& i = 0
        · refine ⟨va_up s ((i ||| cov W j) / 2) (s ((i ||| cov W j) / 2) + ways i), ⟨fun k => if k = (i ||| cov W j) / 2 then N1 ((i ||| cov W j) / 2) + c else N1 k, ?_, ?_⟩, ?_⟩
          · intro q hq
            by_cases z : q = (i ||| cov W j) / 2
            · subst z
              rw [up_s]
              show _ = nI (if _ = _ then _ else _)
              rw [if_pos rfl, g1 _ (by omega), hw, nI_add]
            · rw [up_n z]
              show s q = nI (if q = _ then _ else _)
              rw [if_neg z]
              exact g1 q hq
          · intro φ
            rw [pn_upd _ _ _ (by omega), g2 φ, fb_sm_succ, f, g, if_pos (by rfl), Nat.mul_add]
            omega
          · rw [if_pos (by rw [g]), fa_or, shrE (by omega) (by decide), show (i ||| cov W j) / 2 ^ 1 = (i ||| cov W j) / 2 from rfl, jldE (by omega) (by decide), ob, jldE (by omega) (by decide), ob, jstE (by omega) (by decide), ob, ob, jletE, nI_add]
        · refine ⟨s, ⟨N1, g1, fun φ => ?_⟩, ?_⟩
          · rw [g2 φ, fb_sm_succ, f, if_neg (by simp [g]), Nat.add_zero]
          · rw [if_neg (by rw [nI_eq hand (by decide)]; exact g), ob, jletE, nI_add]
      · rw [if_neg f, if_pos (nI_le (by decide) (by decide))]
        refine ⟨s, ⟨N1, g1, fun φ => ?_⟩, ?_⟩
        · rw [g2 φ, fb_sm_succ, if_neg (by simp [f]), Nat.add_zero]
        · rw [ob, jletE, nI_add]) 4 4096 0 nx (by omega) (by omega) ⟨N, hN, fun φ => by show _ = _ + c * 0; rw [Nat.mul_zero, Nat.add_zero]⟩
  exact ⟨v, N', h1, h2, h3⟩
theorem rowE (hS : SR W H P wm T fl rf (m_s μ) b) (hT : T.length < 1000) (hb : b + 197 ≤ 1970) (hP : P < 64) (hW2 : 2 ≤ W) (hH2 : 2 ≤ H) (hW : W ≤ 8) (hH : H ≤ 8) {x y : Nat} (hx : x < W) (hy : y < H) (ways nx : Nat → Int32) (M : Nat → Nat) (hM : ∀ q, q < 1024 → ways q = nI (M q)) (hM2 : ∀ q, q < 1024 → M q < 2 ^ 31) (hn : ∀ q, q < 1024 → nx q = nI 0) :
    ∃ nx' N', f_X5_paves_L70 (nI b) μ (nI W) ways (nI x) (nI y) (nI (if (fm W H P wm (pv T)).testBit (8 * y + x) then 1 else 0)) 4096 0 nx = some nx' ∧ (∀ q, q < 1024 → nx' q = nI (N' q)) ∧ ∀ φ, PN N' φ = fb_sm (fun i => M i * ss (fm W H P wm (pv T)) (8 * y + x) W φ i) (4 * 2 ^ W) := by
  have hp : 4 * 2 ^ W ≤ 1024 := by
    have : (2 : Nat) ^ W ≤ 2 ^ 8 := Nat.pow_le_pow_right (by decide) hW
    omega
  obtain ⟨v, h1, N', h2, h3⟩ := loopQ (L := fun n j s => f_X5_paves_L70 (nI b) μ (nI W) ways (nI x) (nI y) (nI (if (fm W H P wm (pv T)).testBit (8 * y + x) then 1 else 0)) n j s) (N := 4 * 2 ^ W) (I := fun j s => ∃ N', (∀ q, q < 1024 → s q = nI (N' q)) ∧ ∀ φ, PN N' φ = fb_sm (fun i => M i * ss (fm W H P wm (pv T)) (8 * y + x) W φ i) j) (Q := fun s => ∃ N', (∀ q, q < 1024 → s q = nI (N' q)) ∧ ∀ φ, PN N' φ = fb_sm (fun i => M i * ss (fm W H P wm (pv T)) (8 * y + x) W φ i) (4 * 2 ^ W)) (fun n j s hj hI => by
    simp only [f_X5_paves_L70, f_X5_paves_L70_b]
    have hsh : (4 : Int32) <<< (nI W &&& 31) = nI (4 * 2 ^ W) := shlE (by omega) (Nat.lt_of_le_of_lt hp (by decide))
    rw [hsh]
    by_cases e : j = 4 * 2 ^ W
    · subst e
      exact Or.inl ⟨s, by rw [if_pos (nI_le (Nat.le_refl _) (by omega))], hI⟩
    · right
      obtain ⟨N1, g1, g2⟩ := hI
      simp only [LIT]
      rw [if_neg (nI_ge (by omega) (by omega)), jldE (by omega) (by decide), ob, hM j (by omega)]
      refine ⟨by omega, ?_⟩
      have hs : nI j >>> (nI 1 &&& 31) = nI (j / 2) := shrE (by omega) (by decide)
      have ha : nI j &&& nI 1 = nI (j % 2) := fa_mask j 1
      rw [hs, ha]
      -- moved on
      have mv : ∃ s', (∃ N', (∀ q, q < 1024 → s' q = nI (N' q)) ∧ ∀ φ, PN N' φ = fb_sm (fun i => M i * ss (fm W H P wm (pv T)) (8 * y + x) W φ i) j + M j * φ (j / 2)) ∧ (Option.bind (jld 1024 s (nI (j / 2))) fun v1209 => (Option.bind (some (nI (M j))) fun v1210 => (Option.bind (jst 1024 s (nI (j / 2)) (v1209 + v1210)) fun f1211 => some f1211))) = some s' := by
        refine ⟨va_up s (j / 2) (s (j / 2) + nI (M j)), ⟨fun k => if k = j / 2 then N1 (j / 2) + M j else N1 k, ?_, ?_⟩, ?_⟩
        · intro q hq
          by_cases z : q = j / 2
          · subst z
            rw [up_s]
            show _ = nI (if _ = _ then _ else _)
            rw [if_pos rfl, g1 _ (by omega), nI_add]
          · rw [up_n z]
            show s q = nI (if q = _ then _ else _)
            rw [if_neg z]
            exact g1 q hq
        · intro φ
          rw [pn_upd _ _ _ (by omega), g2 φ]
        · rw [jldE (by omega) (by decide), ob, ob, jstE (by omega) (by decide), ob]
      obtain ⟨s1, ⟨N2, k1, k2⟩, k3⟩ := mv
      by_cases z : M j = 0
      · refine ⟨s, ⟨N1, g1, fun φ => ?_⟩, ?_⟩
        · rw [g2 φ, fb_sm_succ, z, Nat.zero_mul, Nat.add_zero]
        · rw [z, if_pos (nI_le (by decide) (by decide)), ob, if_pos (nI_le (by decide) (by decide)), ob, jletE, nI_add]
      · rw [if_neg (nI_ge (Nat.pos_of_ne_zero z) (hM2 j (by omega)))]
        cases hf : (fm W H P wm (pv T)).testBit (8 * y + x) with
        | false =>
          refine ⟨s1, ⟨N2, k1, fun φ => ?_⟩, ?_⟩
          · have hss : ss (fm W H P wm (pv T)) (8 * y + x) W φ j = φ (j / 2) := by
              unfold ss
              rw [hf]
              rfl
            rw [k2 φ, ← hss]
            rfl
          · simp only [Bool.false_eq_true, if_false]
            rw [if_pos trivial, k3, ob, jletE, nI_add]
        | true =>
          simp only [if_true]
          rw [if_neg (by rw [nI_eq (by decide) (by decide)]; decide)]
          by_cases o : j % 2 = 1
          · refine ⟨s1, ⟨N2, k1, fun φ => ?_⟩, ?_⟩
            · have hss : ss (fm W H P wm (pv T)) (8 * y + x) W φ j = φ (j / 2) := by
                unfold ss
                rw [hf, o]
                rfl
              rw [k2 φ, ← hss]
              rfl
            · rw [o, if_pos rfl, k3, ob, jletE, nI_add]
          · obtain ⟨s2, N3, q1, q2, q3⟩ := pushE hS hT hb hP hW2 hH2 hW hH hx hy (show j < 1024 by omega) ways s (hM j (by omega)) N1 g1
            refine ⟨s2, ⟨N3, q2, fun φ => ?_⟩, ?_⟩
            · have hss : ss (fm W H P wm (pv T)) (8 * y + x) W φ j = fb_sm (fun t => if fit (fm W H P wm (pv T)) (8 * y + x) t && ((cov W t &&& j) == 0) then φ ((j ||| cov W t) / 2) else 0) 4 := by
                unfold ss
                rw [hf, show j % 2 = 0 by omega]
                rfl
              rw [q3 φ, g2 φ, ← hss]
              rfl
            · rw [if_neg (by rw [nI_eq (by omega) (by decide)]; exact o), ob, if_neg (nI_ge (Nat.pos_of_ne_zero z) (hM2 j (by omega))), show f_X5_paves_L136v (nI b) μ (nI j) ways (nI x) (nI y) 4096 (nI 0) s = some s2 from q1, ob, ob, jletE, nI_add]) (4 * 2 ^ W) 4096 0 nx (by omega) (by omega) ⟨fun _ => 0, hn, fun φ => by
        unfold PN
        rw [fb_sm_cong (g := fun _ => 0) (fun k _ => Nat.zero_mul _), fb_sm_zeros]
        rfl⟩
  exact ⟨v, N', h1, h2, h3⟩
end PAVES
