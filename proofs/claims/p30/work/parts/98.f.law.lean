/-! ===== p30: the law's turns, its start and its end ===== -/
theorem th_le {v : Int32} (h : v = -2000001 ∨ v = -2000002) : v ≤ -2000000 := by rcases h with rfl | rfl <;> decide +kernel
theorem th_nle {m : Nat} (h : m < 2 ^ 31) : ¬ nI m ≤ -2000000 := fun z => by
  have z2 := Int32.le_iff_toInt_le.mp z
  rw [nI_toInt h, show ((-2000000 : Int32)).toInt = -2000000 by decide +kernel] at z2
  omega
theorem pc0 : pc 0 = 0 := fb_ct_zero.mpr (fun k _ => Nat.zero_testBit k)
theorem mask31 (z : Int32) : ∃ n, n < 2 ^ 31 ∧ some (z &&& (2147483647 : Int32)) = some (nI n) := by
  obtain ⟨n, -, rfl⟩ := wb_of32 z
  exact ⟨n % 2 ^ 31, Nat.mod_lt _ (by decide), by rw [show (2147483647 : Int32) = nI (2 ^ 31 - 1) by decide +kernel, fa_mask]⟩
theorem scr_E (L : Nat) (xs : Nat → Int32) {i : Nat} (hi : i < 2 ^ 31) : ∃ n, n < 2 ^ 31 ∧ q_scr L xs (nI i) = some (nI n) := by
  unfold q_scr
  rw [if_neg (show ¬ nI i < 0 from nI_nlt (Nat.zero_le _) hi)]
  exact mask31 _
theorem sav_num {A d z : Nat} (hA : A ≤ 6) (hd : d < 16) (hz : d = 15 → z % 2 = 0) : (if nI 1 = nI 0 then some (nI A) else (if nI d = nI 15 then (if nI (z % 2) = nI 1 then some (nI A) else (if nI A = nI 6 then some (nI A) else some (nI A + nI 1))) else (if nI A = nI 6 then some (nI A) else some (nI A + nI 1)))) = some (nI (if A = 6 then 6 else A + 1)) := by
  have hs : (if nI A = nI 6 then some (nI A) else some (nI A + nI 1)) = some (nI (if A = 6 then 6 else A + 1)) := by
    by_cases e : A = 6
    · rw [if_pos (show nI A = nI 6 by rw [e]), if_pos e, e]
    · rw [if_neg (ne16 A (by omega) 6 (by decide) e), if_neg e, nI_add]
  rw [if_neg n10, hs]
  by_cases e : d = 15
  · rw [if_pos (show nI d = nI 15 by rw [e]), hz e, if_neg (ne16 0 (by decide) 1 (by decide) (by decide))]
  · rw [if_neg (ne16 d hd 15 (by decide) e)]
theorem kep_num {A d z : Nat} (hd : d = 15) (hz : z % 2 = 1) : (if nI 1 = nI 0 then some (nI A) else (if nI d = nI 15 then (if nI (z % 2) = nI 1 then some (nI A) else (if nI A = nI 6 then some (nI A) else some (nI A + nI 1))) else (if nI A = nI 6 then some (nI A) else some (nI A + nI 1)))) = some (nI A) := by
  rw [if_neg n10, if_pos (show nI d = nI 15 by rw [hd]), hz, if_pos (rfl : nI 1 = nI 1)]
theorem due_num {A B R : Int32} {w l : Nat} {σ : ZT} (hw : w ≤ 4) (h10 : q_count σ (nI 10) = some B) (h6 : q_count σ (nI 6) = some (nI l)) (hB : B = A + nI (if w = 0 then 0 else 1)) (hl : R = nI (l + if w = 0 then 3 else 0)) : (if nI w < nI 0 then some (nI 1) else (if nI w = nI w then (Option.bind (q_count σ (nI 10)) fun r381 => (Option.bind (if nI w ≤ nI 0 then some (nI 0) else some (nI 1)) fun o382 => (if r381 = A + o382 then (Option.bind (q_count σ (nI 6)) fun r383 => (Option.bind (if nI w ≤ nI 0 then some (nI 3) else some (nI 0)) fun o384 => (if r383 = R - o384 then some (nI 1) else some (nI 0)))) else some (nI 0)))) else some (nI 0))) = some (nI 1) := by
  rw [if_neg (nI_nlt (Nat.zero_le _) (by omega)), if_pos (rfl : nI w = nI w), h10, ob]
  by_cases e : w = 0
  · rw [if_pos e] at hB hl
    rw [e, if_pos (nI_le (Nat.le_refl 0) (by decide)), ob, if_pos hB, h6, ob, if_pos (nI_le (Nat.le_refl 0) (by decide)), ob, hl, pk_sub (by omega), Nat.add_sub_cancel, if_pos (rfl : nI l = nI l)]
  · rw [if_neg e] at hB hl
    rw [if_neg (nI_ge (by omega) (by omega)), ob, if_pos hB, h6, ob, if_neg (nI_ge (by omega) (by omega)), ob, hl, pk_sub (by omega), Nat.sub_zero, Nat.add_zero, if_pos (rfl : nI l = nI l)]
section LW
variable {σ : ZT} {k : Nat}
set_option maxHeartbeats 4000000 in
theorem turn_E (L : Nat) (xs : Nat → Int32) (rec : Int32 → Int32 → ZT → Option (Int32 × ZT)) (h : ZOK k σ) (hk : k < 1000) {i : Nat} (hi : i < 20) : ∃ σ2, ZOK (k + 2) σ2 ∧ f_L_law_L70_b L xs rec (nI 1) (nI i) σ = rec (nI 1) (nI (i + 1)) σ2 := by
  obtain ⟨n, hn, hscr⟩ := scr_E L xs (i := i) (by omega)
  have hO := h.1.1
  have hW2 := hO.1
  have hW := hO.2.1
  have hH2 := hO.2.2.1
  have hH := hO.2.2.2.1
  have hnz1 : ¬ nI (zW (zs_g σ)) = nI 0 := by rw [nI_eq (by omega) (by decide)]; omega
  have hnz2 : ¬ nI (zH (zs_g σ)) = nI 0 := by rw [nI_eq (by omega) (by decide)]; omega
  obtain ⟨v, σ1, eA, hA⟩ := acts_E h hk hn
  obtain ⟨z, hz⟩ : ∃ z, z = n / 16 := ⟨_, rfl⟩
  obtain ⟨d, hd⟩ : ∃ d, d = n % 16 := ⟨_, rfl⟩
  rw [← hz, ← hd] at hA
  have hd16 : d < 16 := by omega
  have hz31 : z < 2 ^ 31 := by omega
  have hrem : nI n - nI z * nI 16 = nI d := by
    have := pk_rem hn (show 0 < 16 by decide) (by decide)
    rw [pk_div hn (by decide) (by decide), ← hz, ← hd] at this
    exact this
  have e64 : nI z / nI 64 = nI (z / 64) := pk_div hz31 (by decide) (by decide)
  have e4 : nI (z / 64) - nI (z / 64) / nI 4 * nI 4 = nI (z / 64 % 4) := pk_rem (by omega) (by decide) (by decide)
  have e2 : nI (z / 64) - nI (z / 64) / nI 2 * nI 2 = nI (z / 64 % 2) := pk_rem (by omega) (by decide) (by decide)
  have ez2 : nI z - nI z / nI 2 * nI 2 = nI (z % 2) := pk_rem hz31 (by decide) (by decide)
  have hfl : (if nI (z / 64 % 2) = nI 0 then some (nI 1) else some (nI 0)) = some (nI (if z / 64 % 2 = 0 then 1 else 0)) := by
    rcases (show z / 64 % 2 = 0 ∨ z / 64 % 2 = 1 by omega) with e | e <;> rw [e] <;> rfl
  -- the reads before the act
  have q0 := qc0 σ
  have q1 := qc1 σ
  have q6 := qc6 σ
  have q9 := qc9 σ
  have q10 := qc10 σ
  have q11 := qc11 σ
  have qw : q_ways σ = some (nI (CW (zFr (zs_g σ)) 64 0)) := rfl
  have hA11 := h.2.2.2.2
  have hAW := CW_small (zFr (zs_g σ))
  have hA6 := pc_le (zFr (zs_g σ))
  obtain ⟨due, hdue, hD⟩ : ∃ due : Int32, ((4 ≤ d ∧ d ≤ 8 ∧ due = nI (zwhy (zs_g σ) (nI (z % zW (zs_g σ))) (nI (z / 8 % zH (zs_g σ))) (z / 64 % 4))) ∨ ((d ≤ 3 ∨ 9 ≤ d) ∧ due = -nI 1)) ∧ (if nI d ≤ nI 3 then some (-nI 1) else (if nI 9 ≤ nI d then some (-nI 1) else (Option.bind (q_whyNot σ (nI (z % zW (zs_g σ))) (nI (z / 8 % zH (zs_g σ))) (nI (z / 64 % 4))) fun r370 => some r370))) = some due := by
    by_cases c1 : d ≤ 3
    · exact ⟨_, Or.inr ⟨Or.inl c1, rfl⟩, by rw [if_pos (nI_le c1 (by decide))]⟩
    · by_cases c2 : 9 ≤ d
      · exact ⟨_, Or.inr ⟨Or.inr c2, rfl⟩, by rw [if_neg (nI_ge (by omega) (by omega)), if_pos (nI_le c2 (by omega))]⟩
      · refine ⟨_, Or.inl ⟨by omega, by omega, rfl⟩, ?_⟩
        rw [if_neg (nI_ge (by omega) (by omega)), if_neg (nI_ge (by omega) (by omega))]
        unfold q_whyNot
        rw [jixE (by omega) (by decide), ob, ob]
  have hwl : zwhy (zs_g σ) (nI (z % zW (zs_g σ))) (nI (z / 8 % zH (zs_g σ))) (z / 64 % 4) ≤ 4 := by
    obtain ⟨-, -, -, h9, -⟩ := zo_lay h (nI (z % zW (zs_g σ))) (nI (z / 8 % zH (zs_g σ))) (t := z / 64 % 4) (by omega)
    exact h9
  unfold ACTF at hA
  generalize zwhy (zs_g σ) (nI (z % zW (zs_g σ))) (nI (z / 8 % zH (zs_g σ))) (z / 64 % 4) = w at hA hdue hwl
  obtain ⟨AW, eAW⟩ : ∃ AW, AW = CW (zFr (zs_g σ)) 64 0 := ⟨_, rfl⟩
  rw [← eAW] at hA qw hAW
  obtain ⟨A6, eA6⟩ : ∃ A6, A6 = pc (zFr (zs_g σ)) := ⟨_, rfl⟩
  rw [← eA6] at hA q6 hA6
  generalize hL11 : (zs_L σ).length = A11 at q11 hA11
  -- what is asked behind the act
  have fin : ∀ (o : Option (Int32 × ZT)) (σ2 : ZT), o = some (nI 1, σ2) → ZOK (k + 2) σ2 → (Option.bind o fun o451 => (Option.bind (if o451.1 = nI 0 then some (nI 0) else (Option.bind (f_L_hangs o451.2) fun r521 => (if r521 = nI 0 then some (nI 0) else (Option.bind (f_L_addsUp o451.2) fun r522 => (if r522 = nI 0 then some (nI 0) else some (nI 1)))))) fun o520 => (jlet (nI i + nI 1) fun x523 => rec o520 x523 o451.2))) = rec (nI 1) (nI (i + 1)) σ2 := fun o σ2 ho h2 => by
    rw [ho, ob]
    dsimp only
    rw [if_neg n10, hangs_true h2.1.1, ob, if_neg n10, addsUp_true h2.1.1, ob, if_neg n10, ob, jletE, nI_add]
  unfold f_L_law_L70_b
  simp only [LIT, LIT2]
  rw [if_neg (nI_ge hi (by decide)), if_neg n10, hscr, ob, pk_div hn (by decide) (by decide), ← hz, jletE, hrem, jletE, q11, ob, q10, ob, q9, ob, q6, ob, qw, ob, q0, ob, if_neg hnz1, pk_rem hz31 (by omega) (by omega), jletE, q1, ob, if_neg hnz2, pk_div hz31 (by decide) (by decide), pk_rem (show z / 8 < 2 ^ 31 by omega) (by omega) (by omega), jletE]
  simp only [e64, e4, e2, ez2]
  rw [hD, ob, eA, ob]
  dsimp only
  rcases hA with ⟨hv, hσ, hd1, hd2⟩ | ⟨m, α, hm, hv, hσ, hα, c15, c48, c10, c12, c14⟩ | ⟨m, hm, hv, hd15, hz1, hg, hLs, hok⟩
  · -- it threw
    have hdu : due = -nI 1 := by
      rcases hdue with ⟨a1, a2, -⟩ | ⟨-, e⟩
      · omega
      · exact e
    have hok := ZOK_mono h (show k ≤ k + 2 by omega)
    refine ⟨σ, hok, ?_⟩
    rw [if_pos (th_le hv), ob, hσ, q11, ob, if_pos (rfl : nI 0 = nI 0), ob, if_pos (rfl : nI A11 = nI A11), ob, if_neg n10, hdu, if_pos (m1_lt (by decide)), ob]
    refine fin _ σ ?_ hok
    rw [if_neg n10]
    rcases (show d = 10 ∨ d = 11 ∨ d = 12 ∨ d = 13 ∨ d = 14 ∨ (d ≠ 10 ∧ d ≠ 11 ∧ d ≠ 12 ∧ d ≠ 13 ∧ d ≠ 14) by omega) with e | e | e | e | e | ⟨n1, n2, n3, n4, n5⟩
    · rw [e, if_pos (rfl : nI 10 = nI 10), if_pos (rfl : nI 0 = nI 0)]; rfl
    · rw [e, if_neg (ne16 11 (by decide) 10 (by decide) (by decide)), if_pos (rfl : nI 11 = nI 11), if_pos (rfl : nI 0 = nI 0)]; rfl
    · have hz0 := hd2 (by omega)
      rw [e, if_neg (ne16 12 (by decide) 10 (by decide) (by decide)), if_neg (ne16 12 (by decide) 11 (by decide) (by decide)), if_neg n10, if_pos (rfl : nI 12 = nI 12), if_pos (rfl : nI 0 = nI 0), if_pos (show nI AW = nI 0 by rw [hz0]), q6, ob, if_pos (rfl : nI A6 = nI A6)]; rfl
    · have hz0 := hd2 (by omega)
      rw [e, if_neg (ne16 13 (by decide) 10 (by decide) (by decide)), if_neg (ne16 13 (by decide) 11 (by decide) (by decide)), if_neg n10, if_neg (ne16 13 (by decide) 12 (by decide) (by decide)), if_pos (rfl : nI 13 = nI 13), if_pos (rfl : nI 0 = nI 0), if_pos (show nI AW = nI 0 by rw [hz0]), q6, ob, if_pos (rfl : nI A6 = nI A6)]; rfl
    · rw [e, if_neg (ne16 14 (by decide) 10 (by decide) (by decide)), if_neg (ne16 14 (by decide) 11 (by decide) (by decide)), if_neg n10, if_neg (ne16 14 (by decide) 12 (by decide) (by decide)), if_neg (ne16 14 (by decide) 13 (by decide) (by decide)), if_neg n10, if_pos (rfl : nI 14 = nI 14), if_pos (rfl : nI 0 = nI 0)]
    · rw [if_neg (ne16 d hd16 10 (by decide) n1), if_neg (ne16 d hd16 11 (by decide) n2), if_neg n10, if_neg (ne16 d hd16 12 (by decide) n3), if_neg (ne16 d hd16 13 (by decide) n4), if_neg n10, if_neg (ne16 d hd16 14 (by decide) n5)]
  · -- it saved
    have hok1 : ZOK (k + 1) σ1 := hσ ▸ ZOK_sav h hα (Nat.le_succ k)
    have hok := ZOK_mono hok1 (show k + 1 ≤ k + 2 by omega)
    have p11 : q_count σ1 (nI 11) = some (nI (if A11 = 6 then 6 else A11 + 1)) := by
      rw [hσ, qc11]
      show some (nI (svA (zs_L σ) (zs_g σ)).length) = _
      rw [svA_len h.2.2.2.2, hL11]
    have p6 : q_count σ1 (nI 6) = some (nI (pc (zFr α))) := by rw [hσ]; exact qc6 _
    have p10 : q_count σ1 (nI 10) = some (zR α) := by rw [hσ]; exact qc10 _
    have p0 : q_count σ1 (nI 0) = some (nI (zW α)) := by rw [hσ]; exact qc0 _
    have pw_ : q_ways σ1 = some (nI (CW (zFr α) 64 0)) := by rw [hσ]; rfl
    have hT := sav_num (A := A11) (d := d) (z := z) hA11 hd16 c15
    generalize (if A11 = 6 then 6 else A11 + 1) = l1 at p11 hT
    rw [hv, if_neg (th_nle hm), ob, p11, ob, hT, ob, if_pos (rfl : nI l1 = nI l1), ob, if_neg n10]
    have hC : (if due < nI 0 then some (nI 1) else (if nI m = due then (Option.bind (q_count σ1 (nI 10)) fun r381 => (Option.bind (if due ≤ nI 0 then some (nI 0) else some (nI 1)) fun o382 => (if r381 = zR (zs_g σ) + o382 then (Option.bind (q_count σ1 (nI 6)) fun r383 => (Option.bind (if due ≤ nI 0 then some (nI 3) else some (nI 0)) fun o384 => (if r383 = nI A6 - o384 then some (nI 1) else some (nI 0)))) else some (nI 0)))) else some (nI 0))) = some (nI 1) := by
      rcases hdue with ⟨a1, a2, e⟩ | ⟨-, e⟩
      · obtain ⟨u1, u2, u3⟩ := c48 ⟨a1, a2⟩
        rw [u1] at u2 u3
        rw [e, u1]
        exact due_num hwl p10 p6 u2 (by rw [u3])
      · rw [e, if_pos (m1_lt (by decide))]
    rw [hC, ob]
    rcases (show d = 10 ∨ d = 11 ∨ d = 12 ∨ d = 13 ∨ d = 14 ∨ (d ≠ 10 ∧ d ≠ 11 ∧ d ≠ 12 ∧ d ≠ 13 ∧ d ≠ 14) by omega) with e | e | e | e | e | ⟨n1, n2, n3, n4, n5⟩
    · obtain ⟨u1, u2, β, u3, u4⟩ := c10 (by omega)
      have hokB : ZOK (k + 2) (zsav σ1 β) := ZOK_sav hok1 u3 (by omega)
      have pw2 : q_ways σ1 = some (nI AW) := by rw [pw_, u2, eAW]
      rw [hv] at u1 u4
      refine ⟨_, hokB, ?_⟩
      refine fin _ _ ?_ hokB
      rw [if_neg n10, e, if_pos (rfl : nI 10 = nI 10), if_neg n10, if_pos u1, pw2, ob, if_pos (rfl : nI AW = nI AW), hfl, ob, u4, ob]
      dsimp only
      rw [if_pos (rfl : nI m + nI 1 = nI m + nI 1)]; rfl
    · obtain ⟨u1, u2, β, u3, u4⟩ := c10 (by omega)
      have hokB : ZOK (k + 2) (zsav σ1 β) := ZOK_sav hok1 u3 (by omega)
      have pw2 : q_ways σ1 = some (nI AW) := by rw [pw_, u2, eAW]
      rw [hv] at u1 u4
      refine ⟨_, hokB, ?_⟩
      refine fin _ _ ?_ hokB
      rw [if_neg n10, e, if_neg (ne16 11 (by decide) 10 (by decide) (by decide)), if_pos (rfl : nI 11 = nI 11), if_neg n10, if_pos u1, pw2, ob, if_pos (rfl : nI AW = nI AW), hfl, ob, u4, ob]
      dsimp only
      rw [if_pos (rfl : nI m + nI 1 = nI m + nI 1)]; rfl
    · obtain ⟨u1, u2, u3⟩ := c12 (by omega)
      have p6' : q_count σ1 (nI 6) = some (nI 0) := by rw [p6, u3, pc0]
      have pw2 : q_ways σ1 = some (nI 1) := by rw [pw_, u3, show CW 0 64 0 = 1 from CW_end 0 (by decide) (by decide)]
      refine ⟨_, hok, ?_⟩
      refine fin _ _ ?_ hok
      rw [if_neg n10, e, if_neg (ne16 12 (by decide) 10 (by decide) (by decide)), if_neg (ne16 12 (by decide) 11 (by decide) (by decide)), if_neg n10, if_pos (rfl : nI 12 = nI 12), if_neg n10, if_neg (nI_ge (by omega) hAW), pk_mul, u2, if_pos (rfl : nI A6 = nI A6), p6', ob, if_pos (rfl : nI 0 = nI 0), pw2, ob, if_pos (rfl : nI 1 = nI 1)]; rfl
    · obtain ⟨u1, u2, u3⟩ := c12 (by omega)
      have p6' : q_count σ1 (nI 6) = some (nI 0) := by rw [p6, u3, pc0]
      have pw2 : q_ways σ1 = some (nI 1) := by rw [pw_, u3, show CW 0 64 0 = 1 from CW_end 0 (by decide) (by decide)]
      refine ⟨_, hok, ?_⟩
      refine fin _ _ ?_ hok
      rw [if_neg n10, e, if_neg (ne16 13 (by decide) 10 (by decide) (by decide)), if_neg (ne16 13 (by decide) 11 (by decide) (by decide)), if_neg n10, if_neg (ne16 13 (by decide) 12 (by decide) (by decide)), if_pos (rfl : nI 13 = nI 13), if_neg n10, if_neg (nI_ge (by omega) hAW), pk_mul, u2, if_pos (rfl : nI A6 = nI A6), p6', ob, if_pos (rfl : nI 0 = nI 0), pw2, ob, if_pos (rfl : nI 1 = nI 1)]; rfl
    · obtain ⟨u1, u2⟩ := c14 e
      have p6' : q_count σ1 (nI 6) = some (nI 0) := by rw [p6, u1, pc0]
      refine ⟨_, hok, ?_⟩
      refine fin _ _ ?_ hok
      rw [if_neg n10, e, if_neg (ne16 14 (by decide) 10 (by decide) (by decide)), if_neg (ne16 14 (by decide) 11 (by decide) (by decide)), if_neg n10, if_neg (ne16 14 (by decide) 12 (by decide) (by decide)), if_neg (ne16 14 (by decide) 13 (by decide) (by decide)), if_neg n10, if_pos (rfl : nI 14 = nI 14), if_neg n10, p6', ob, if_pos (rfl : nI 0 = nI 0), p0, ob, ob, pk_mul, nI_add, pk_mul, u2, if_pos (rfl : nI (zW α * zW α) = nI (zW α * zW α))]; rfl
    · refine ⟨_, hok, ?_⟩
      refine fin _ _ ?_ hok
      rw [if_neg n10, if_neg (ne16 d hd16 10 (by decide) n1), if_neg (ne16 d hd16 11 (by decide) n2), if_neg n10, if_neg (ne16 d hd16 12 (by decide) n3), if_neg (ne16 d hd16 13 (by decide) n4), if_neg n10, if_neg (ne16 d hd16 14 (by decide) n5)]
  · -- it kept
    have hok2 := ZOK_mono hok (show k ≤ k + 2 by omega)
    have hdu : due = -nI 1 := by
      rcases hdue with ⟨a1, a2, -⟩ | ⟨-, e⟩
      · omega
      · exact e
    have p11 : q_count σ1 (nI 11) = some (nI A11) := by rw [qc11, hLs, hL11]
    have hT := kep_num (A := A11) hd15 hz1
    refine ⟨_, hok2, ?_⟩
    rw [hv, if_neg (th_nle hm), ob, p11, ob, hT, ob, if_pos (rfl : nI A11 = nI A11), ob, if_neg n10, hdu, if_pos (m1_lt (by decide)), ob]
    refine fin _ _ ?_ hok2
    rw [if_neg n10, hd15, if_neg (ne16 15 (by decide) 10 (by decide) (by decide)), if_neg (ne16 15 (by decide) 11 (by decide) (by decide)), if_neg n10, if_neg (ne16 15 (by decide) 12 (by decide) (by decide)), if_neg (ne16 15 (by decide) 13 (by decide) (by decide)), if_neg n10, if_neg (ne16 15 (by decide) 14 (by decide) (by decide))]
end LW
