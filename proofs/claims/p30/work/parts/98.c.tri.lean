/-! ===== p30: triples; what is lonely leaves no way; all of it hangs together ===== -/
theorem jxO {n k : Nat} (hk : n ≤ k) (h2 : k < 2 ^ 31) : jix n (nI k) = none := by
  unfold jix
  rw [if_pos (Or.inr (by rw [nI_clamp h2]; exact hk))]
theorem tmb : ∀ x, x < 7 → ∀ y, y < 7 → ∀ t, t < 4 → ∀ k, k < 4 → k ≠ t → (tm x y t).testBit (cb x y k) = true := by decide +kernel
section TRI
variable {W H P wm : Nat} {T : List TR}
theorem owI_at (hT : TO W H P wm T) {j c : Nat} {q : TR} (hq : T[j]? = some q) (hb : (qm q).testBit c = true) : owI T c = nI j := by
  unfold owI
  rw [pv_at hq hb, ow_uniq hT hq hb]
  rfl
theorem TO_key : ∀ {T : List TR} {j : Nat} {q : TR}, TO W H P wm T → T[j]? = some q → qm q &&& wm = 0 ∧ qm q &&& 2 ^ P = 0 := by
  intro T
  induction T with
  | nil => intro j q _ h; simp at h
  | cons p T ih =>
    rintro j q ⟨h1, h2⟩ h
    cases j with
    | zero => simp at h; subst h; exact ⟨h1.2.2.2.1, h1.2.2.2.2.1⟩
    | succ j => exact ih h2 (by simpa using h)
theorem FI_run (hO : OK W H P wm T) (hz : CW (fm W H P wm (pv T)) 64 0 ≠ 0) : ∀ k, k ≤ 64 → ∃ w U, FI W H P wm (fm W H P wm (pv T)) T k w (T ++ U) := by
  intro k
  induction k with
  | zero => intro _; exact ⟨0, [], by rw [List.append_nil]; exact FI_start hO hz⟩
  | succ k ih =>
    intro hk
    obtain ⟨w, U, h⟩ := ih (by omega)
    by_cases c : ((fm W H P wm (pv T)).testBit k && w % 2 == 0) = true
    · obtain ⟨-, -, h2⟩ := FI_take h (by omega) c
      rw [List.append_assoc] at h2
      exact ⟨_, _, h2⟩
    · exact ⟨_, U, FI_skip (by omega) (by simpa using c) h⟩
theorem GRD_all (hO : OK W H P wm T) (hz : CW (fm W H P wm (pv T)) 64 0 ≠ 0) : ∃ U, GRD (fm W H P wm (pv T)) 64 0 T = T ++ U ∧ OK W H P wm (T ++ U) ∧ fm W H P wm (pv (T ++ U)) = 0 := by
  obtain ⟨w, U, h⟩ := FI_run hO hz 64 (Nat.le_refl _)
  have hm := fm_lt (P := P) (wm := wm) (pm := pv T) hO.2.1 hO.2.2.2.1
  refine ⟨U, (FI_end h (Nat.le_refl _) hm).symm, h.2.1, ext64 (fm_lt hO.2.1 hO.2.2.2.1) (by decide) (fun j hj => ?_)⟩
  rw [h.2.2.1 j hj, decide_eq_false (by omega), Nat.zero_testBit]
  rfl
theorem lonely_ways (hO : OK W H P wm T) {c : Nat} (hp : pw W H P wm (pv T) 0 c = true) : CW (fm W H P wm (pv T)) 64 0 = 0 := by
  have hW := hO.2.1
  have hH := hO.2.2.2.1
  apply Classical.byContradiction
  intro hz
  obtain ⟨U, -, hO2, h0⟩ := GRD_all hO hz
  unfold pw at hp
  rw [Bool.and_eq_true, beq_iff_eq] at hp
  obtain ⟨hf, hcv⟩ := hp
  have hg := fm_grid hW hH c hf
  have hc : c < 64 := by omega
  have hf2 := hf
  rw [fm_bit hW hH hc] at hf2
  simp only [Bool.and_eq_true, Bool.not_eq_true', decide_eq_true_eq, decide_eq_false_iff_not] at hf2
  obtain ⟨⟨⟨-, hw⟩, hpv⟩, hP⟩ := hf2
  have hb : (pv (T ++ U)).testBit c = true := by
    have h1 := fm_bit (P := P) (wm := wm) (pm := pv (T ++ U)) hW hH hc
    rw [h0, Nat.zero_testBit, decide_eq_true hg.1, decide_eq_true hg.2, hw, decide_eq_false hP] at h1
    simpa using h1.symm
  obtain ⟨q, e1, e2⟩ := ow_spec hb
  have hTO := hO2.2.2.2.2.2.2.2.2
  have k1 := TO_get hTO e1
  obtain ⟨k2, k3⟩ := TO_key hTO e1
  have hge : ¬ ow (T ++ U) c < T.length := fun z => by
    rw [List.getElem?_append_left z] at e1
    rw [pv_at e1 e2] at hpv
    cases hpv
  have k4 : qm q &&& pv T = 0 := by
    rw [andz]
    intro j
    cases g1 : (qm q).testBit j with
    | false => rfl
    | true =>
      cases g2 : (pv T).testBit j with
      | false => rfl
      | true =>
        exfalso
        obtain ⟨r, f1, f2⟩ := ow_spec g2
        have hlt := ow_lt g2
        have f3 : (T ++ U)[ow T j]? = some r := by rw [List.getElem?_append_left hlt]; exact f1
        have u1 := ow_uniq hTO e1 g1
        have u2 := ow_uniq hTO f3 f2
        omega
  have hlay : lay' W H P wm (pv T) q.1 q.2.1 q.2.2 = true := by
    rw [lay_wn k1.1 k1.2.1, beq_iff_eq, wn_0]
    exact ⟨(tm_hit (by omega) (by omega) k1.2.2 _).mp k3, (tm_hit (by omega) (by omega) k1.2.2 _).mp k2, (tm_hit (by omega) (by omega) k1.2.2 _).mp k4⟩
  have hGG : GG W H P wm (pv T) c q.1 q.2.1 q.2.2 = true := by
    unfold GG
    rw [hlay, Bool.true_and]
    exact e2
  have hs := cnt_eq (P := P) (wm := wm) (pm := pv T) hW hH hc
  rw [hcv] at hs
  have s1 := fb_sm_zero hs q.2.1 (by omega)
  have s2 := fb_sm_zero s1 q.1 (by omega)
  have s3 := fb_sm_zero s2 q.2.2 k1.2.2
  rw [hGG] at s3
  cases s3
end TRI
theorem zforce1 (α : AS) : zforce α 1 = if fa_first (zpw α 1) 64 < 64 then nI (nam (cvq (fa_first (zpw α 1) 64) (fa_first (chz (zW α) (zH α) (zP α) (zM α) (pv (zT α)) (fa_first (zpw α 1) 64)) 16))) else -nI 1 := by
  unfold zforce
  rw [if_neg (show ¬ (1 : Nat) = 0 by decide)]
theorem zforce0 (α : AS) : zforce α 0 = zfst (zpw α 1) := by
  unfold zforce
  rw [if_pos rfl]
theorem qfor (σ : ZT) {k : Nat} (hk : k < 2) : q_forced σ (nI k) = some (zforce (zs_g σ) k) := by
  unfold q_forced
  rw [jixE hk (by decide), ob]
section HG2
variable {σ : ZT}
theorem zwhyE (hO : zOK (zs_g σ)) {X Y t : Nat} (hx : X + 2 ≤ zW (zs_g σ)) (hy : Y + 2 ≤ zH (zs_g σ)) : zwhy (zs_g σ) (nI X) (nI Y) t = wn (zP (zs_g σ)) (zM (zs_g σ)) (pv (zT (zs_g σ))) X Y t := by
  have hW := hO.2.1
  have hH := hO.2.2.2.1
  unfold zwhy
  rw [jixE (by omega) (by omega), oelS, jixE (by omega) (by omega), oelS]
theorem qwhyE (a b : Int32) {t : Nat} (ht : t < 4) : q_whyNot σ a b (nI t) = some (nI (zwhy (zs_g σ) a b t)) := by
  unfold q_whyNot
  rw [jixE ht (by decide), ob]
theorem hang_tri (hO : zOK (zs_g σ)) : f_L_hangs_L565 σ (nI (zT (zs_g σ)).length) 4096 (nI 1) (nI 0) = some (nI 1) := by
  have hW := hO.2.1
  have hH := hO.2.2.2.1
  have hl := OK_len hO
  have hT := hO.2.2.2.2.2.2.2.2
  exact loopE (L := fun n j s => f_L_hangs_L565 σ (nI (zT (zs_g σ)).length) n s j) (N := (zT (zs_g σ)).length) (fun _ => nI 1) (fun n => by
    simp only [f_L_hangs_L565, f_L_hangs_L565_b]
    rw [if_pos (nI_le (Nat.le_refl _) (by omega))]) (fun n j hj => by
    obtain ⟨q, hq⟩ : ∃ q, (zT (zs_g σ))[j]? = some q := ⟨_, List.getElem?_eq_getElem hj⟩
    have k1 := TO_get hT hq
    obtain ⟨x, y, t⟩ := q
    dsimp only at k1
    have p0 : q_triple σ (nI j) (nI 0) = some (nI x) := qtriE hO hq (by decide)
    have p1 : q_triple σ (nI j) (nI 1) = some (nI y) := qtriE hO hq (by decide)
    have p2 : q_triple σ (nI j) (nI 2) = some (nI t) := qtriE hO hq (by decide)
    have e0 : q_cellOf σ (nI x) (nI y) (nI 1) = some (owI (zT (zs_g σ)) (cb x y 0)) := by
      rw [qcell1 hO (by omega) (by omega), (cb_v x y).1]
    have e1 : q_cellOf σ (nI (x + 1)) (nI y) (nI 1) = some (owI (zT (zs_g σ)) (cb x y 1)) := by
      rw [qcell1 hO (by omega) (by omega), (cb_v x y).2.1, show 8 * y + (x + 1) = 8 * y + x + 1 by omega]
    have e2 : q_cellOf σ (nI (x + 1)) (nI (y + 1)) (nI 1) = some (owI (zT (zs_g σ)) (cb x y 2)) := by
      rw [qcell1 hO (by omega) (by omega), (cb_v x y).2.2.1, show 8 * (y + 1) + (x + 1) = 8 * y + x + 9 by omega]
    have e3 : q_cellOf σ (nI x) (nI (y + 1)) (nI 1) = some (owI (zT (zs_g σ)) (cb x y 3)) := by
      rw [qcell1 hO (by omega) (by omega), (cb_v x y).2.2.2, show 8 * (y + 1) + x = 8 * y + x + 8 by omega]
    have cov : ∀ k, k < 4 → k ≠ t → owI (zT (zs_g σ)) (cb x y k) = nI j := fun k hk hkt => owI_at hT hq (tmb x (by omega) y (by omega) t k1.2.2 k hk hkt)
    have hwn : 2 ≤ wn (zP (zs_g σ)) (zM (zs_g σ)) (pv (zT (zs_g σ))) x y ((t + 1) % 4) := by
      have hh : hit (pv (zT (zs_g σ))) x y ((t + 1) % 4) = true := by
        cases g : hit (pv (zT (zs_g σ))) x y ((t + 1) % 4) with
        | true => rfl
        | false =>
          have h1 := hit_f.mp g ((t + 2) % 4) (by omega) (by omega)
          rw [pv_at hq (tmb x (by omega) y (by omega) t k1.2.2 ((t + 2) % 4) (by omega) (by omega))] at h1
          cases h1
      unfold wn
      rw [hh]
      split
      · decide
      · split
        · decide
        · decide
    have hle := wn_le (zP (zs_g σ)) (zM (zs_g σ)) (pv (zT (zs_g σ))) x y ((t + 1) % 4)
    have w : q_whyNot σ (nI x) (nI y) (nI ((t + 1) % 4)) = some (nI (wn (zP (zs_g σ)) (zM (zs_g σ)) (pv (zT (zs_g σ))) x y ((t + 1) % 4))) := by
      rw [qwhyE _ _ (by omega), zwhyE hO k1.1 k1.2.1]
    have hv : ¬ nI (wn (zP (zs_g σ)) (zM (zs_g σ)) (pv (zT (zs_g σ))) x y ((t + 1) % 4)) ≤ nI 1 := nI_ge (by omega) (by omega)
    have hr : (nI t + nI 1) - (nI t + nI 1) / nI 4 * nI 4 = nI ((t + 1) % 4) := by
      rw [nI_add, pk_rem (by omega) (by decide) (by decide)]
    have c0 := cov 0 (by decide)
    have c1 := cov 1 (by decide)
    have c2 := cov 2 (by decide)
    have c3 := cov 3 (by decide)
    simp only [f_L_hangs_L565, f_L_hangs_L565_b]
    simp only [LIT]
    rw [if_neg (nI_ge hj (by omega)), if_neg n10, p0, ob, p1, ob, p2, ob]
    simp only [hr]
    simp only [nI_add, e0, e1, e2, e3, w, ob]
    rcases (show t = 0 ∨ t = 1 ∨ t = 2 ∨ t = 3 by omega) with rfl | rfl | rfl | rfl
    · replace c1 := c1 (by decide)
      replace c2 := c2 (by decide)
      replace c3 := c3 (by decide)
      by_cases z : owI (zT (zs_g σ)) (cb x y 0) = nI j
      · simp only [z, c1, c2, c3, hv, if_true, if_false, ob, jletE, nI_add]
      · simp only [z, c1, c2, c3, hv, if_true, if_false, ob, jletE, nI_add]
    · replace c0 := c0 (by decide)
      replace c2 := c2 (by decide)
      replace c3 := c3 (by decide)
      by_cases z : owI (zT (zs_g σ)) (cb x y 1) = nI j
      · simp only [z, c0, c2, c3, hv, if_true, if_false, ob, jletE, nI_add]
      · simp only [z, c0, c2, c3, hv, if_true, if_false, ob, jletE, nI_add]
    · replace c0 := c0 (by decide)
      replace c1 := c1 (by decide)
      replace c3 := c3 (by decide)
      by_cases z : owI (zT (zs_g σ)) (cb x y 2) = nI j
      · simp only [z, c0, c1, c3, hv, if_true, if_false, ob, jletE, nI_add]
      · simp only [z, c0, c1, c3, hv, if_true, if_false, ob, jletE, nI_add]
    · replace c0 := c0 (by decide)
      replace c1 := c1 (by decide)
      replace c2 := c2 (by decide)
      by_cases z : owI (zT (zs_g σ)) (cb x y 3) = nI j
      · simp only [z, c0, c1, c2, hv, if_true, if_false, ob, jletE, nI_add]
      · simp only [z, c0, c1, c2, hv, if_true, if_false, ob, jletE, nI_add]) (k := 0) (n := 4096) (by omega) (by omega)
theorem hangs_true (hO : zOK (zs_g σ)) : f_L_hangs σ = some (nI 1) := by
  have hW2 := hO.1
  have hW := hO.2.1
  have hH2 := hO.2.2.1
  have hH := hO.2.2.2.1
  have hP := OK_P hO
  have hl := OK_len hO
  have t0 : t_cellOf σ (nI (zW (zs_g σ))) (nI 0) (nI 0) = some (-2000001) := by
    unfold t_cellOf
    rw [jxO (Nat.le_refl _) (by omega), oelN]
  have t1 : t_row σ (nI (zH (zs_g σ))) (nI 0) = some (-2000001) := by
    unfold t_row
    rw [jxO (Nat.le_refl _) (by omega), oelN]
  have t2 : t_triple σ (nI (zT (zs_g σ)).length) (nI 0) = some (-2000001) := by
    unfold t_triple
    rw [jxO (Nat.le_refl _) (by omega), oelN]
  have c0 : q_cellOf σ (nI (zP (zs_g σ) % 8)) (nI (zP (zs_g σ) / 8)) (nI 0) = some (nI 1) := by
    rw [qcell0 hO hO.2.2.2.2.1 hO.2.2.2.2.2.1, show 8 * (zP (zs_g σ) / 8) + zP (zs_g σ) % 8 = zP (zs_g σ) by omega]
    unfold kd
    rw [if_pos rfl]
  have pvE := (OK_pv hO).2.2.2
  have fE : (Option.bind (if nI 0 ≤ zfst (zpw (zs_g σ) 1) then some (nI 0) else some (nI 1)) fun o265 => (Option.bind (q_forced σ (nI 1)) fun r266 => (Option.bind (if r266 = -nI 1 then some (nI 1) else some (nI 0)) fun o267 => (if o265 = o267 then some (nI 1) else some (nI 0))))) = some (nI 1) := by
    rw [qfor σ (by decide), zforce1]
    rcases zfst_cases (zpw (zs_g σ) 1) with ⟨e1, e2⟩ | ⟨c, hc, hp, e2, e1⟩
    · rw [e1, if_neg (m1_nge (by decide)), ob, if_neg e2, ob, if_pos rfl, ob, if_pos rfl]
    · rw [e1, if_pos (nI_le (Nat.zero_le _) (by omega)), ob, e2, if_pos hc, ob, if_neg, ob, if_pos rfl]
      apply m1_ne
      unfold nam cvq
      dsimp only
      have := fa_first_le (chz (zW (zs_g σ)) (zH (zs_g σ)) (zP (zs_g σ)) (zM (zs_g σ)) (pv (zT (zs_g σ))) c) 16
      omega
  have f0 : q_forced σ (nI 0) = some (zfst (zpw (zs_g σ) 1)) := by rw [qfor σ (by decide), zforce0]
  have l0 : q_lonely σ = some (zfst (zpw (zs_g σ) 0)) := rfl
  have hr := hang_rows hO
  have q6 := qc6 σ
  have q4 := qc4 σ
  have q7 := qc7 σ
  have q5 := qc5 σ
  have ht := hang_tri hO
  rw [pvE] at hr
  obtain ⟨F0, hF0⟩ : ∃ F0, F0 = zfst (zpw (zs_g σ) 0) := ⟨_, rfl⟩
  rw [← hF0] at hr l0
  generalize pc (zFr (zs_g σ)) = A at hr q6
  generalize pc (zM (zs_g σ)) = B at hr q4
  generalize zlays (zs_g σ) = Z at hr q7
  generalize zfst (zpw (zs_g σ) 1) = F1 at hr fE f0
  generalize (zT (zs_g σ)).length = N at hr q5 ht t2
  unfold f_L_hangs
  simp only [LIT]
  rw [qc0, ob, qc1, ob, q5, ob, t0, ob, if_pos rfl, t1, ob, if_pos rfl, t2, ob, if_pos rfl, qc2, ob, qc3, ob, c0, ob, if_pos rfl, ob, hr, ob]
  dsimp only
  rw [if_neg n10, q6, ob, if_pos rfl, q4, ob, if_pos rfl, pk_mul, if_pos rfl, q7, ob, pk_mul, if_pos rfl, l0, ob, if_pos rfl, f0, ob, if_pos rfl]
  rw [fE, ob, ht, ob, if_neg n10]
  rcases zfst_cases (zpw (zs_g σ) 0) with ⟨e1, -⟩ | ⟨c, hc, hp, -, e1⟩
  · rw [hF0, e1, if_pos (m1_lt (by decide))]
  · rw [hF0, e1, if_neg (nI_nlt (Nat.zero_le _) (by omega)), show q_ways σ = some (nI (CW (zFr (zs_g σ)) 64 0)) from rfl, ob, lonely_ways hO hp, if_pos rfl]
end HG2
