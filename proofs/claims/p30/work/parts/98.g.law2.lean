/-! ===== p30: the law answers 1 ===== -/
section LE
theorem loop_E (L : Nat) (xs : Nat → Int32) : ∀ d i (σ : ZT) k, i + d = 20 → k + 2 * d ≤ 40 → ZOK k σ → ∃ σ2, ZOK 40 σ2 ∧ f_L_law_L70 L xs (d + 12) (nI 1) (nI i) σ = some (nI 1, σ2) := by
  intro d
  induction d with
  | zero =>
    intro i σ k h1 h2 h
    refine ⟨σ, ZOK_mono h (by omega), ?_⟩
    show f_L_law_L70_b L xs (f_L_law_L70 L xs 11) (nI 1) (nI i) σ = _
    unfold f_L_law_L70_b
    rw [show (20 : Int32) = nI 20 from rfl, if_pos (nI_le (show 20 ≤ i by omega) (by omega))]
  | succ d ih =>
    intro i σ k h1 h2 h
    obtain ⟨σ2, h3, h4⟩ := turn_E L xs (f_L_law_L70 L xs (d + 12)) h (by omega) (i := i) (by omega)
    obtain ⟨σ3, h5, h6⟩ := ih (i + 1) σ2 (k + 2) (by omega) (by omega) h3
    exact ⟨σ3, h5, by rw [← h6, ← h4]; rfl⟩
theorem BP_E (m : Nat) : ∀ k, ((BP m k).1 = -nI 1 ∧ (BP m k).2 = nI 0) ∨ ∃ c, c < k ∧ m.testBit c = true ∧ BP m k = (nI c, nI (CW (m ^^^ 2 ^ c) 64 0)) ∧ 0 < CW (m ^^^ 2 ^ c) 64 0 ∧ ∀ j, j < k → m.testBit j = true → CW (m ^^^ 2 ^ j) 64 0 ≤ CW (m ^^^ 2 ^ c) 64 0 := by
  intro k
  suffices h : ((BP m k).1 = -nI 1 ∧ (BP m k).2 = nI 0 ∧ ∀ j, j < k → m.testBit j = true → CW (m ^^^ 2 ^ j) 64 0 ≤ 0) ∨ ∃ c, c < k ∧ m.testBit c = true ∧ BP m k = (nI c, nI (CW (m ^^^ 2 ^ c) 64 0)) ∧ 0 < CW (m ^^^ 2 ^ c) 64 0 ∧ ∀ j, j < k → m.testBit j = true → CW (m ^^^ 2 ^ j) 64 0 ≤ CW (m ^^^ 2 ^ c) 64 0 by
    rcases h with ⟨h1, h2, -⟩ | h
    · exact Or.inl ⟨h1, h2⟩
    · exact Or.inr h
  induction k with
  | zero => exact Or.inl ⟨rfl, rfl, fun j hj => absurd hj (by omega)⟩
  | succ k ih =>
    have split : ∀ {B : Nat}, (∀ j, j < k → m.testBit j = true → CW (m ^^^ 2 ^ j) 64 0 ≤ B) → (m.testBit k = true → CW (m ^^^ 2 ^ k) 64 0 ≤ B) → ∀ j, j < k + 1 → m.testBit j = true → CW (m ^^^ 2 ^ j) 64 0 ≤ B := fun h1 h2 j hj hb => by
      by_cases e : j = k
      · rw [e] at hb ⊢; exact h2 hb
      · exact h1 j (by omega) hb
    rw [BP]
    have hs := CW_small (m ^^^ 2 ^ k)
    cases hb : m.testBit k with
    | false =>
      rw [if_neg (by decide)]
      rcases ih with ⟨h1, h2, h3⟩ | ⟨c, h1, h2, h3, h4, h5⟩
      · exact Or.inl ⟨h1, h2, split h3 (fun z => by rw [hb] at z; cases z)⟩
      · exact Or.inr ⟨c, by omega, h2, h3, h4, split h5 (fun z => by rw [hb] at z; cases z)⟩
    | true =>
      rw [if_pos rfl]
      rcases ih with ⟨h1, h2, h3⟩ | ⟨c, h1, h2, h3, h4, h5⟩
      · rw [h2]
        by_cases c1 : CW (m ^^^ 2 ^ k) 64 0 ≤ 0
        · rw [if_pos (nI_le c1 (by decide))]
          exact Or.inl ⟨h1, h2, split h3 (fun _ => c1)⟩
        · rw [if_neg (nI_ge (by omega) hs)]
          exact Or.inr ⟨k, by omega, hb, rfl, by omega, split (fun j hj hj2 => Nat.le_trans (h3 j hj hj2) (Nat.zero_le _)) (fun _ => Nat.le_refl _)⟩
      · rw [h3]
        dsimp only
        by_cases c1 : CW (m ^^^ 2 ^ k) 64 0 ≤ CW (m ^^^ 2 ^ c) 64 0
        · rw [if_pos (nI_le c1 (CW_small _))]
          exact Or.inr ⟨c, by omega, h2, rfl, h4, split h5 (fun _ => c1)⟩
        · rw [if_neg (nI_ge (by omega) hs)]
          exact Or.inr ⟨k, by omega, hb, rfl, by omega, split (fun j hj hj2 => Nat.le_trans (h5 j hj hj2) (by omega)) (fun _ => Nat.le_refl _)⟩
variable {σ : ZT} {k : Nat}
theorem jix_m (n : Nat) {j : Nat} (hn : n < 2 ^ 31) (hj : (-nI j) < nI 0) : jix n (-nI j) = none := by
  cases e : jix n (-nI j) with
  | none => rfl
  | some X =>
    obtain ⟨h1, h2⟩ := jxS e
    rw [h2] at hj
    exact absurd hj (nI_nlt (Nat.zero_le _) (by omega))
/-- what is thrown at the end -/
theorem thrown_E (hO : zOK (zs_g σ)) : mv_garden σ (nI 9) (nI 2) = some (-2000001, σ) ∧ mv_pond σ (-nI 1) (nI 0) = some (-2000001, σ) ∧ mv_wall σ (nI 0) (nI 8) = some (-2000001, σ) ∧ mv_lay σ (nI 0) (nI 0) (nI 4) = some (-2000001, σ) ∧ q_whyNot σ (-nI 5) (nI 0) (nI 0) = some (nI 1) ∧ mv_flip σ (nI 7) (nI 7) (nI 1) = some (-2000001, σ) ∧ mv_append σ (nI 127) = some (-2000001, σ) ∧ mv_keep σ (nI 2) = some (-2000001, σ) ∧ t_cellOf σ (nI 0) (nI 0) (nI 3) = some (-2000002) ∧ t_row σ (nI 0) (nI 3) = some (-2000002) ∧ t_count σ (nI 12) = some (-2000001) ∧ t_waysWith σ (nI 0) (nI 0) (-nI 1) = some (-2000001) ∧ t_forced σ (nI 2) = some (-2000001) := by
  have hW2 := hO.1
  have hW := hO.2.1
  have hH2 := hO.2.2.1
  have hH := hO.2.2.2.1
  refine ⟨?_, ?_, ?_, ?_, ?_, ?_, ?_, ?_, ?_, ?_, ?_, ?_, ?_⟩
  · unfold mv_garden
    rw [jxO (by decide) (by decide), oelN]
  · unfold mv_pond
    rw [jix_m _ (by omega) (by decide +kernel), oelN]
  · unfold mv_wall
    rw [jixE (by omega) (by omega), oelS, jxO hH (by decide), oelN]
  · unfold mv_lay
    rw [jxO (by decide) (by decide), oelN]
  · unfold q_whyNot zwhy
    rw [jixE (by decide) (by decide), ob, jix_m _ (by omega) (by decide +kernel), oelN]
  · unfold mv_flip
    rw [jixE (by decide) (by decide), ob, jxO (by show zW (zs_g σ) + 1 - 2 ≤ 7; omega) (by decide), oelN]
  · unfold mv_append
    rw [if_pos (Or.inr (nI_ge (by decide) (by decide)))]
  · unfold mv_keep
    rw [jxO (by decide) (by decide), oelN]
  · unfold t_cellOf
    rw [jixE (by omega) (by omega), oelS, jixE (by omega) (by omega), oelS, jxO (by decide) (by decide), oelN]
  · unfold t_row
    rw [jixE (by omega) (by omega), oelS, jxO (by decide) (by decide), oelN]
  · unfold t_count
    rw [jxO (by decide) (by decide), oelN]
  · unfold t_waysWith
    rw [jix_m _ (by omega) (by decide +kernel), oelN]
  · unfold t_forced
    rw [jxO (by decide) (by decide), oelN]
/-- the best pond: there are as many ways at the least, and there is one -/
theorem best_E (hO : zOK (zs_g σ)) : q_bestPond σ = some (-nI 1) ∨ ∃ c, c < 64 ∧ c % 8 < zW (zs_g σ) ∧ c / 8 < zH (zs_g σ) ∧ q_bestPond σ = some (nI (c % 8 + 10 * (c / 8))) ∧ ∃ m α, m < 2 ^ 31 ∧ mv_pond σ (nI (c % 8)) (nI (c / 8)) = some (nI m, zsav σ α) ∧ 0 < CW (zFr α) 64 0 ∧ CW (zFr (zs_g σ)) 64 0 ≤ CW (zFr α) 64 0 := by
  have hW2 := hO.1
  have hW := hO.2.1
  have hH2 := hO.2.2.1
  have hH := hO.2.2.2.1
  have hP := OK_P hO
  have e0 : q_bestPond σ = some (znm (BP (mgap (zW (zs_g σ)) (zH (zs_g σ)) (zP (zs_g σ)) (zM (zs_g σ)) (pv (zT (zs_g σ)))) 64).1) := rfl
  rcases BP_E (mgap (zW (zs_g σ)) (zH (zs_g σ)) (zP (zs_g σ)) (zM (zs_g σ)) (pv (zT (zs_g σ)))) 64 with ⟨h1, -⟩ | ⟨c, hc, h2, h3, h4, h5⟩
  · refine Or.inl ?_
    rw [e0, h1]
    unfold znm
    rw [if_pos (rfl : -nI 1 = -nI 1)]
  · have hb := mgap_bit hO hc
    rw [h2] at hb
    have hb := hb.symm
    simp only [Bool.and_eq_true, decide_eq_true_eq, Bool.not_eq_true'] at hb
    obtain ⟨⟨⟨b1, b2⟩, b3⟩, b4⟩ := hb
    have hP2 : (mgap (zW (zs_g σ)) (zH (zs_g σ)) (zP (zs_g σ)) (zM (zs_g σ)) (pv (zT (zs_g σ)))).testBit (zP (zs_g σ)) = true := by
      unfold mgap
      rw [Nat.testBit_or, pw_bit]
      simp
    have h6 := h5 (zP (zs_g σ)) hP hP2
    rw [← fm_gap hO hP hP2, ← fm_gap hO hc h2] at h6
    rw [← fm_gap hO hc h2] at h4
    refine Or.inr ⟨c, hc, b1, b2, ?_, zP (zs_g σ) % 8 + 10 * (zP (zs_g σ) / 8), (zW (zs_g σ), zH (zs_g σ), c, (zs_g σ).2.2.2), by omega, ?_, h4, h6⟩
    · rw [e0, h3]
      unfold znm
      rw [if_neg (m1_ne (by omega)), nI_clamp (by omega)]
    · unfold mv_pond
      rw [jixE b1 (by omega), oelS, jixE b2 (by omega), oelS, show 8 * (c / 8) + c % 8 = c by omega, if_pos ⟨b3, b4⟩]
/-! the start -/
def s0 : ZT := ((4, 4, 0, 0, [], 0, 0), [], none, none)
theorem s0_OK : ZOK 0 s0 := ⟨⟨⟨by decide, by decide, by decide, by decide, by decide, by decide, by decide, fun j hj => absurd hj (by show ¬ (0 : Nat).testBit j = true; rw [Nat.zero_testBit]; decide), trivial⟩, 0, Nat.le_refl _, rfl⟩, fun α h => (by cases h), fun α h => (by cases h), fun α h => (by cases h), by decide⟩
theorem s0_1 : mv_undo s0 = some (-2000001, s0) := rfl
theorem s0_2 : mv_goBack s0 (nI 0) = some (-2000002, s0) := by
  unfold mv_goBack
  rw [jixE (by decide) (by decide), oelS]
  rfl
theorem s0_3 : mv_load s0 = some (-2000001, s0) := rfl
theorem s0_5 : q_ways s0 = some (nI 1) := by
  unfold q_ways
  rw [show CW (zFr (zs_g s0)) 64 0 = 1 by decide +kernel]
theorem s0_6 : mv_lift s0 (nI 0) (nI 0) = some (-2000002, s0) := by
  unfold mv_lift
  rw [jixE (by decide) (by decide), oelS, jixE (by decide) (by decide), oelS, if_neg (by show ¬ (0 : Nat).testBit _ = true; rw [Nat.zero_testBit]; decide)]
set_option maxHeartbeats 4000000 in
theorem law_true (L : Nat) (xs : Nat → Int32) : f_L_law L xs s0 = some 1 := by
  obtain ⟨σ, h1, h2⟩ := loop_E L xs 20 0 s0 0 rfl (by omega) s0_OK
  have h2 : f_L_law_L70 L xs 32 (nI 1) (nI 0) s0 = some (nI 1, σ) := h2
  have hO := h1.1.1
  have a4 : ∀ σ, q_firstError σ = some (nI 0) := fun _ => rfl
  obtain ⟨S0, hS0⟩ : ∃ S0, S0 = s0 := ⟨_, rfl⟩
  have a1 := s0_1
  have a2 := s0_2
  have a3 := s0_3
  have a5 := s0_5
  have a6 := s0_6
  rw [← hS0] at a1 a2 a3 a5 a6 h2 ⊢
  unfold f_L_law
  simp only [LIT, LIT2]
  rw [a1, ob]
  dsimp only
  rw [if_pos (rfl : (-2000001 : Int32) = -2000001), a2, ob]
  dsimp only
  rw [if_pos (rfl : (-2000002 : Int32) = -2000002), a3, ob]
  dsimp only
  rw [if_pos (rfl : (-2000001 : Int32) = -2000001), a4, ob, if_pos (rfl : nI 0 = nI 0), a5, ob, if_pos (rfl : nI 1 = nI 1), a6, ob]
  dsimp only
  rw [if_pos (rfl : (-2000002 : Int32) = -2000002), ob]
  dsimp only
  rw [h2, ob]
  dsimp only
  rw [if_neg n10]
  rcases best_E hO with hb | ⟨c, hc, b1, b2, hb, m, α, hm, e1, e2, e3⟩
  · · rw [hb, ob, ob, if_neg n10, if_pos (m1_lt (by decide)), ob]
      dsimp only
      rw [if_neg n10, hangs_true hO, ob, if_neg n10]
      obtain ⟨t1, t2, t3, t4, t5, t6, t7, t8, t9, t10, t11, t12, t13⟩ := thrown_E (σ := σ) hO
      rw [t1, ob]
      dsimp only
      rw [if_pos (rfl : (-2000001 : Int32) = -2000001)]
      rw [t2, ob]
      dsimp only
      rw [if_pos (rfl : (-2000001 : Int32) = -2000001)]
      rw [t3, ob]
      dsimp only
      rw [if_pos (rfl : (-2000001 : Int32) = -2000001)]
      rw [t4, ob]
      dsimp only
      rw [if_pos (rfl : (-2000001 : Int32) = -2000001)]
      rw [t5, ob, if_pos (rfl : nI 1 = nI 1)]
      rw [t6, ob]
      dsimp only
      rw [if_pos (rfl : (-2000001 : Int32) = -2000001)]
      rw [t7, ob]
      dsimp only
      rw [if_pos (rfl : (-2000001 : Int32) = -2000001)]
      rw [t8, ob]
      dsimp only
      rw [if_pos (rfl : (-2000001 : Int32) = -2000001)]
      rw [t9, ob, if_pos (rfl : (-2000002 : Int32) = -2000002), t10, ob, if_pos (rfl : (-2000002 : Int32) = -2000002), t11, ob, if_pos (rfl : (-2000001 : Int32) = -2000001), t12, ob, if_pos (rfl : (-2000001 : Int32) = -2000001), t13, ob, if_pos (rfl : (-2000001 : Int32) = -2000001)]
  · · have w1 : q_ways σ = some (nI (CW (zFr (zs_g σ)) 64 0)) := rfl
      have w2 : q_ways (zsav σ α) = some (nI (CW (zFr α) 64 0)) := rfl
      have w3 : ∃ l σ3, l < 2 ^ 31 ∧ mv_undo (zsav σ α) = some (nI l, σ3) ∧ zs_g σ3 = zs_g σ := by
        refine ⟨(svA (zs_L σ) (zs_g σ)).length - 1, (zs_g σ, (svA (zs_L σ) (zs_g σ)).dropLast, σ.2.2), ?_, ?_, rfl⟩
        · have := h1.2.2.2.2
          rw [svA_len this]
          split <;> omega
        · unfold mv_undo
          rw [show (zs_L (zsav σ α)).getLast? = some (zs_g σ) from svA_last _ _, oelAS]
      obtain ⟨l, σ3, l1, l2, l3⟩ := w3
      have w4 : q_ways σ3 = some (nI (CW (zFr (zs_g σ)) 64 0)) := by
        unfold q_ways
        rw [l3]
      have hO3 : zOK (zs_g σ3) := l3 ▸ hO
      have hs1 := CW_small (zFr (zs_g σ))
      have hs2 := CW_small (zFr α)
      generalize CW (zFr (zs_g σ)) 64 0 = A at w1 w4 e3 hs1
      generalize CW (zFr α) 64 0 = B at w2 e2 e3 hs2
      generalize zsav σ α = σ2 at w2 l2 e1
      rw [hb, ob, ob, if_neg n10, if_neg (nI_nlt (Nat.zero_le _) (by omega)), w1, ob, pk_rem (by omega) (by decide) (by decide), pk_div (by omega) (by decide) (by decide), show (c % 8 + 10 * (c / 8)) % 10 = c % 8 by omega, show (c % 8 + 10 * (c / 8)) / 10 = c / 8 by omega, e1, ob]
      dsimp only
      rw [if_neg (nI_nlt (Nat.zero_le _) hm), w2, ob, if_neg (nI_nlt e3 hs2), ob, if_neg (nI_ge e2 hs2), l2, ob]
      dsimp only
      rw [if_neg (nI_nlt (Nat.zero_le _) l1), w4, ob, if_pos (rfl : nI A = nI A), ob]
      dsimp only
      rw [ob]
      dsimp only
      rw [if_neg n10, hangs_true hO3, ob, if_neg n10]
      obtain ⟨t1, t2, t3, t4, t5, t6, t7, t8, t9, t10, t11, t12, t13⟩ := thrown_E (σ := σ3) hO3
      rw [t1, ob]
      dsimp only
      rw [if_pos (rfl : (-2000001 : Int32) = -2000001)]
      rw [t2, ob]
      dsimp only
      rw [if_pos (rfl : (-2000001 : Int32) = -2000001)]
      rw [t3, ob]
      dsimp only
      rw [if_pos (rfl : (-2000001 : Int32) = -2000001)]
      rw [t4, ob]
      dsimp only
      rw [if_pos (rfl : (-2000001 : Int32) = -2000001)]
      rw [t5, ob, if_pos (rfl : nI 1 = nI 1)]
      rw [t6, ob]
      dsimp only
      rw [if_pos (rfl : (-2000001 : Int32) = -2000001)]
      rw [t7, ob]
      dsimp only
      rw [if_pos (rfl : (-2000001 : Int32) = -2000001)]
      rw [t8, ob]
      dsimp only
      rw [if_pos (rfl : (-2000001 : Int32) = -2000001)]
      rw [t9, ob, if_pos (rfl : (-2000002 : Int32) = -2000002), t10, ob, if_pos (rfl : (-2000002 : Int32) = -2000002), t11, ob, if_pos (rfl : (-2000001 : Int32) = -2000001), t12, ob, if_pos (rfl : (-2000001 : Int32) = -2000001), t13, ob, if_pos (rfl : (-2000001 : Int32) = -2000001)]
end LE
