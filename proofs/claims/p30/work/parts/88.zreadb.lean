/-! ===== p30: count ===== -/
section ZC
variable {σ : ZT} {x : XS} {L : List GS} {S0 S1 : Option GS}
set_option maxHeartbeats 1000000 in
theorem cq_count (hI : ZI σ x L S0 S1) {a v : Int32} (h : q_count σ a = some v) : f_X4_count x a = some (.inl v) := by
  have hlen := ZI_len hI
  obtain ⟨⟨hO, hG⟩, -, -, -, -, hls, -⟩ := hI
  obtain ⟨k, e1, h9_⟩ := obind h
  obtain ⟨hk, rfl⟩ := jxS e1
  have hW := hO.2.1
  have hH := hO.2.2.2.1
  have hP := OK_P hO
  have x0 : x_wide x = nI (zW (zs_g σ)) := hG.1
  have x1 : x_high x = nI (zH (zs_g σ)) := hG.2.1
  have x2 : x_pond x = nI (zP (zs_g σ)) := hG.2.2.1
  have x3 : x_walls x = lN (zM (zs_g σ)) := hG.2.2.2.1
  have x5 : x_tc x = nI (zT (zs_g σ)).length := hG.2.2.2.2.2.1
  have x6 : x_flips x = zF (zs_g σ) := hG.2.2.2.2.2.2.1
  have x7 : x_refused x = zR (zs_g σ) := hG.2.2.2.2.2.2.2.1
  have hfc : f_X1_freeCells (x_wide x, x_high x, x_pond x, x_walls x, x_paved x, x_tc x, x_flips x, x_refused x, x_names x) = some (lN (zFr (zs_g σ))) := freeCellsG hG hO
  unfold f_X4_count
  simp only [LIT]
  rcases (show k = 0 ∨ k = 1 ∨ k = 2 ∨ k = 3 ∨ k = 4 ∨ k = 5 ∨ k = 6 ∨ k = 7 ∨ k = 8 ∨ k = 9 ∨ k = 10 ∨ k = 11 by omega) with rfl | rfl | rfl | rfl | rfl | rfl | rfl | rfl | rfl | rfl | rfl | rfl
  · rw [← Option.some.inj (show some (nI (zW (zs_g σ))) = some v from h9_)]
    rw [if_pos rfl, x0]
  · rw [← Option.some.inj (show some (nI (zH (zs_g σ))) = some v from h9_)]
    rw [if_neg (ne12 1 (by decide) 0 (by decide) (by decide)), if_pos rfl, x1]
  · rw [← Option.some.inj (show some (nI (zP (zs_g σ) % 8)) = some v from h9_)]
    rw [if_neg (ne12 2 (by decide) 0 (by decide) (by decide)), if_neg (ne12 2 (by decide) 1 (by decide) (by decide)), if_pos rfl, x2, pk_rem (by omega) (by decide) (by decide)]
  · rw [← Option.some.inj (show some (nI (zP (zs_g σ) / 8)) = some v from h9_)]
    rw [if_neg (ne12 3 (by decide) 0 (by decide) (by decide)), if_neg (ne12 3 (by decide) 1 (by decide) (by decide)), if_neg (ne12 3 (by decide) 2 (by decide) (by decide)), if_pos rfl, x2, pk_div (by omega) (by decide) (by decide)]
  · rw [← Option.some.inj (show some (nI (pc (zM (zs_g σ)))) = some v from h9_)]
    rw [if_neg (ne12 4 (by decide) 0 (by decide) (by decide)), if_neg (ne12 4 (by decide) 1 (by decide) (by decide)), if_neg (ne12 4 (by decide) 2 (by decide) (by decide)), if_neg (ne12 4 (by decide) 3 (by decide) (by decide)), if_pos rfl, x3, bitCountE hO.2.2.2.2.2.2.1, ob]
  · rw [← Option.some.inj (show some (nI (zT (zs_g σ)).length) = some v from h9_)]
    rw [if_neg (ne12 5 (by decide) 0 (by decide) (by decide)), if_neg (ne12 5 (by decide) 1 (by decide) (by decide)), if_neg (ne12 5 (by decide) 2 (by decide) (by decide)), if_neg (ne12 5 (by decide) 3 (by decide) (by decide)), if_neg (ne12 5 (by decide) 4 (by decide) (by decide)), if_pos rfl, x5]
  · rw [← Option.some.inj (show some (nI (pc (zFr (zs_g σ)))) = some v from h9_)]
    rw [if_neg (ne12 6 (by decide) 0 (by decide) (by decide)), if_neg (ne12 6 (by decide) 1 (by decide) (by decide)), if_neg (ne12 6 (by decide) 2 (by decide) (by decide)), if_neg (ne12 6 (by decide) 3 (by decide) (by decide)), if_neg (ne12 6 (by decide) 4 (by decide) (by decide)), if_neg (ne12 6 (by decide) 5 (by decide) (by decide)), if_pos rfl, hfc, ob, bitCountE (fm_lt hW hH), ob]
  · rw [← Option.some.inj (show some (nI (zlays (zs_g σ))) = some v from h9_)]
    rw [if_neg (ne12 7 (by decide) 0 (by decide) (by decide)), if_neg (ne12 7 (by decide) 1 (by decide) (by decide)), if_neg (ne12 7 (by decide) 2 (by decide) (by decide)), if_neg (ne12 7 (by decide) 3 (by decide) (by decide)), if_neg (ne12 7 (by decide) 4 (by decide) (by decide)), if_neg (ne12 7 (by decide) 5 (by decide) (by decide)), if_neg (ne12 7 (by decide) 6 (by decide) (by decide)), if_pos rfl, show f_X1_layableTriples (x_wide x, x_high x, x_pond x, x_walls x, x_paved x, x_tc x, x_flips x, x_refused x, x_names x) = _ from layableE hG hO, ob]
    rfl
  · cases (show (none : Option Int32) = some v from h9_)
  · rw [← Option.some.inj (show some (zF (zs_g σ)) = some v from h9_)]
    rw [if_neg (ne12 9 (by decide) 0 (by decide) (by decide)), if_neg (ne12 9 (by decide) 1 (by decide) (by decide)), if_neg (ne12 9 (by decide) 2 (by decide) (by decide)), if_neg (ne12 9 (by decide) 3 (by decide) (by decide)), if_neg (ne12 9 (by decide) 4 (by decide) (by decide)), if_neg (ne12 9 (by decide) 5 (by decide) (by decide)), if_neg (ne12 9 (by decide) 6 (by decide) (by decide)), if_neg (ne12 9 (by decide) 7 (by decide) (by decide)), if_neg (ne12 9 (by decide) 8 (by decide) (by decide)), if_pos rfl, x6]
  · rw [← Option.some.inj (show some (zR (zs_g σ)) = some v from h9_)]
    rw [if_neg (ne12 10 (by decide) 0 (by decide) (by decide)), if_neg (ne12 10 (by decide) 1 (by decide) (by decide)), if_neg (ne12 10 (by decide) 2 (by decide) (by decide)), if_neg (ne12 10 (by decide) 3 (by decide) (by decide)), if_neg (ne12 10 (by decide) 4 (by decide) (by decide)), if_neg (ne12 10 (by decide) 5 (by decide) (by decide)), if_neg (ne12 10 (by decide) 6 (by decide) (by decide)), if_neg (ne12 10 (by decide) 7 (by decide) (by decide)), if_neg (ne12 10 (by decide) 8 (by decide) (by decide)), if_neg (ne12 10 (by decide) 9 (by decide) (by decide)), if_pos rfl, x7]
  · rw [← Option.some.inj (show some (nI (zs_L σ).length) = some v from h9_)]
    rw [if_neg (ne12 11 (by decide) 0 (by decide) (by decide)), if_neg (ne12 11 (by decide) 1 (by decide) (by decide)), if_neg (ne12 11 (by decide) 2 (by decide) (by decide)), if_neg (ne12 11 (by decide) 3 (by decide) (by decide)), if_neg (ne12 11 (by decide) 4 (by decide) (by decide)), if_neg (ne12 11 (by decide) 5 (by decide) (by decide)), if_neg (ne12 11 (by decide) 6 (by decide) (by decide)), if_neg (ne12 11 (by decide) 7 (by decide) (by decide)), if_neg (ne12 11 (by decide) 8 (by decide) (by decide)), if_neg (ne12 11 (by decide) 9 (by decide) (by decide)), if_neg (ne12 11 (by decide) 10 (by decide) (by decide)), if_pos rfl, show f_Jx4a65c_size_8abf5 (x_lmod x, x_lsize x) = some (nI L.length) from congrArg some hls, ob]
    rw [hlen]
theorem ct_count {a v : Int32} (h : t_count σ a = some v) : v = -2000001 ∧ f_X4_count x a = some (.inr IAE) := by
  unfold t_count at h
  cases e : jix 12 a with
  | none =>
    rw [e, oelN] at h
    refine ⟨(Option.some.inj h).symm, ?_⟩
    unfold f_X4_count
    simp only [LIT]
    rw [if_neg (jxN (by decide) e 0 (by decide)), if_neg (jxN (by decide) e 1 (by decide)), if_neg (jxN (by decide) e 2 (by decide)), if_neg (jxN (by decide) e 3 (by decide)), if_neg (jxN (by decide) e 4 (by decide)), if_neg (jxN (by decide) e 5 (by decide)), if_neg (jxN (by decide) e 6 (by decide)), if_neg (jxN (by decide) e 7 (by decide)), if_neg (jxN (by decide) e 8 (by decide)), if_neg (jxN (by decide) e 9 (by decide)), if_neg (jxN (by decide) e 10 (by decide)), if_neg (jxN (by decide) e 11 (by decide))]
  | some t => rw [e, oelS] at h; cases h
end ZC
