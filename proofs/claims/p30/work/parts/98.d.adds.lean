/-! ===== p30: the triples over the first free cell make up all ways ===== -/
section ADD
variable {σ : ZT}
/-- the k-th cell is free -/
abbrev zfk (α : AS) (k : Nat) : Bool := (zFr α).testBit (8 * (k / zW α) + k % zW α)
/-- the first free cell, as the law finds it: from the last one back -/
theorem add_back (hO : zOK (zs_g σ)) : ∀ m, m ≤ zW (zs_g σ) * zH (zs_g σ) → ∀ n, m < n → ∀ y : Int32, f_L_addsUp_L27 σ (nI (zW (zs_g σ))) n y (nI m - nI 1) = some (if fa_first (zfk (zs_g σ)) m < m then nI (fa_first (zfk (zs_g σ)) m) else y) := by
  have hW2 := hO.1
  have hW := hO.2.1
  have hH := hO.2.2.2.1
  have hWH : zW (zs_g σ) * zH (zs_g σ) ≤ 64 := Nat.mul_le_mul hW hH
  intro m
  induction m with
  | zero =>
    intro _ n hn y
    obtain ⟨n, rfl⟩ : ∃ n', n = n' + 1 := ⟨n - 1, by omega⟩
    simp only [f_L_addsUp_L27, f_L_addsUp_L27_b]
    rw [if_pos (by decide), if_neg (Nat.not_lt_zero _)]
  | succ m ih =>
    intro hm n hn y
    obtain ⟨n, rfl⟩ : ∃ n', n = n' + 1 := ⟨n - 1, by omega⟩
    have hq : m / zW (zs_g σ) < zH (zs_g σ) := Nat.div_lt_of_lt_mul (by omega)
    have hr : m % zW (zs_g σ) < zW (zs_g σ) := Nat.mod_lt _ (by omega)
    have h0 := kd0 hO (c := 8 * (m / zW (zs_g σ)) + m % zW (zs_g σ)) (by omega) (by omega)
    have hk := kd_le (zP (zs_g σ)) (zM (zs_g σ)) (pv (zT (zs_g σ))) (8 * (m / zW (zs_g σ)) + m % zW (zs_g σ))
    rw [pk_sub (by omega), Nat.add_sub_cancel]
    simp only [f_L_addsUp_L27, f_L_addsUp_L27_b]
    simp only [LIT]
    have hnz : ¬ nI (zW (zs_g σ)) = nI 0 := by rw [nI_eq (by omega) (by decide)]; omega
    rw [if_neg (nI_nlt (Nat.zero_le _) (by omega)), if_neg hnz, if_neg hnz, pk_rem (by omega) (by omega) (by omega), pk_div (by omega) (by omega) (by omega), qcell0 hO hr hq, ob]
    have hz : nI m + -nI 1 = nI m - nI 1 := (Int32.sub_eq_add_neg _ _).symm
    by_cases c : kd (zP (zs_g σ)) (zM (zs_g σ)) (pv (zT (zs_g σ))) (8 * (m / zW (zs_g σ)) + m % zW (zs_g σ)) = 0
    · have hb : zfk (zs_g σ) m = true := h0.mp c
      rw [c, if_pos rfl, ob, jletE, hz, ih (by omega) n (by omega)]
      have hl := fa_first_le (zfk (zs_g σ)) m
      by_cases d : fa_first (zfk (zs_g σ)) m < m
      · have e : fa_first (zfk (zs_g σ)) (m + 1) = fa_first (zfk (zs_g σ)) m := by rw [fa_first, if_pos d]
        rw [e, if_pos d, if_pos (by omega)]
      · have e : fa_first (zfk (zs_g σ)) (m + 1) = m := by rw [fa_first, if_neg d, if_pos hb]
        rw [e, if_neg d, if_pos (by omega)]
    · have hb : zfk (zs_g σ) m = false := by
        cases g : zfk (zs_g σ) m with
        | false => rfl
        | true => exact absurd (h0.mpr g) c
      rw [if_neg (by rw [nI_eq (by omega) (by decide)]; exact c), ob, jletE, hz, ih (by omega) n (by omega)]
      by_cases d : fa_first (zfk (zs_g σ)) m < m
      · have e : fa_first (zfk (zs_g σ)) (m + 1) = fa_first (zfk (zs_g σ)) m := by rw [fa_first, if_pos d]
        rw [e, if_pos d, if_pos (by omega)]
      · have e : fa_first (zfk (zs_g σ)) (m + 1) = m + 1 := by rw [fa_first, if_neg d, hb]; rfl
        rw [e, if_neg d, if_neg (by omega)]
/-- the ways with a triple over the first free place -/
theorem withE2 (hO : zOK (zs_g σ)) {x y : Nat} (hx : x < zW (zs_g σ)) (hy : y < zH (zs_g σ)) (hb : ∀ i, i < 8 * y + x → (zFr (zs_g σ)).testBit i = false) {t : Nat} (ht : t < 4) : zwith (zs_g σ) (if t = 0 then nI x - nI 1 else nI x) (nI y) t = if opn (zFr (zs_g σ)) (8 * y + x) t 0 = true then nI (CW (zFr (zs_g σ)) (63 - (8 * y + x)) (sc t 0)) else -nI 1 := by
  have hW2 := hO.1
  have hW := hO.2.1
  have hH2 := hO.2.2.1
  have hH := hO.2.2.2.1
  have hk : 8 * y + x < 64 := by omega
  have hfo : fit (zFr (zs_g σ)) (8 * y + x) t = opn (zFr (zs_g σ)) (8 * y + x) t 0 := by
    unfold opn
    rw [Nat.and_zero]
    simp
  have hR : RLT (zFr (zs_g σ)) (zFr (zs_g σ)) (8 * y + x) 0 := fun j hj => by
    rw [Nat.zero_testBit]
    by_cases c : 8 * y + x ≤ j
    · rw [decide_eq_true c]; simp
    · rw [decide_eq_false c, hb j (by omega)]; rfl
  have hf := fit_iff (P := zP (zs_g σ)) (wm := zM (zs_g σ)) (pm := pv (zT (zs_g σ))) hW hH hx hy ht
  unfold zwith
  by_cases o : opn (zFr (zs_g σ)) (8 * y + x) t 0 = true
  · rw [if_pos o]
    have h2 := hf.mp (by rw [show fm (zW (zs_g σ)) (zH (zs_g σ)) (zP (zs_g σ)) (zM (zs_g σ)) (pv (zT (zs_g σ))) = zFr (zs_g σ) from rfl, hfo]; exact o)
    have ha : (if t = 0 then nI x - nI 1 else nI x) = nI (bxk (8 * y + x) t) := by
      unfold bxk
      rw [show (8 * y + x) % 8 = x by omega]
      by_cases c : t = 0
      · rw [if_pos c, if_pos c]
        have := h2.1
        rw [if_pos c] at this
        exact pk_sub this
      · rw [if_neg c, if_neg c]
    have hbx : bxk (8 * y + x) t + 2 ≤ zW (zs_g σ) := by
      have := h2.1
      unfold bxk
      by_cases c : t = 0
      · rw [if_pos c] at this ⊢; omega
      · rw [if_neg c] at this ⊢; omega
    have hw : wn (zP (zs_g σ)) (zM (zs_g σ)) (pv (zT (zs_g σ))) (bxk (8 * y + x) t) y t = 0 := by
      have := h2.2.2
      unfold bxk
      rw [show (8 * y + x) % 8 = x by omega]
      by_cases c : t = 0
      · rw [if_pos c] at this ⊢; exact this
      · rw [if_neg c] at this ⊢; exact this
    rw [ha, jixE (by omega) (by omega), oelS, jixE (by omega) (by omega), oelS, if_pos hw]
    have hREL := REL_take hW hH hR (by decide) hk ht o
    have h3 := CW_rel (k := 8 * y + x + 1) (by omega) (sc_lt t 0) hREL
    have e1 : (8 * y + x) / 8 = y := by omega
    rw [show 64 - (8 * y + x + 1) = 63 - (8 * y + x) by omega] at h3
    rw [← h3]
    unfold qk
    rw [e1]
  · rw [if_neg o]
    have h2 : ¬ ((if t = 0 then 1 ≤ x else x + 2 ≤ zW (zs_g σ)) ∧ y + 2 ≤ zH (zs_g σ) ∧ wn (zP (zs_g σ)) (zM (zs_g σ)) (pv (zT (zs_g σ))) (if t = 0 then x - 1 else x) y t = 0) := fun z => o (by
      rw [← hfo]
      exact hf.mpr z)
    by_cases c : t = 0
    · rw [if_pos c] at h2 ⊢
      rw [if_pos c] at h2
      by_cases x0 : 1 ≤ x
      · rw [pk_sub x0, jixE (by omega) (by omega), oelS]
        by_cases y0 : y + 2 ≤ zH (zs_g σ)
        · rw [jixE (by omega) (by omega), oelS, if_neg (fun z => h2 ⟨x0, y0, z⟩)]
        · rw [jxO (by omega) (by omega), oelN]
      · have : nI x - nI 1 < 0 := by
          have : x = 0 := by omega
          subst this
          decide
        have hj : jix (zW (zs_g σ) + 1 - 2) (nI x - nI 1) = none := by unfold jix; rw [if_pos (Or.inl this)]
        rw [hj, oelN]
    · rw [if_neg c] at h2 ⊢
      rw [if_neg c] at h2
      by_cases x0 : x + 2 ≤ zW (zs_g σ)
      · rw [jixE (by omega) (by omega), oelS]
        by_cases y0 : y + 2 ≤ zH (zs_g σ)
        · rw [jixE (by omega) (by omega), oelS, if_neg (fun z => h2 ⟨x0, y0, z⟩)]
        · rw [jxO (by omega) (by omega), oelN]
      · rw [jxO (by omega) (by omega), oelN]
theorem qwwE (a b : Int32) {t : Nat} (ht : t < 4) : q_waysWith σ a b (nI t) = some (zwith (zs_g σ) a b t) := by
  unfold q_waysWith
  rw [jixE ht (by decide), ob]
theorem addsUp_true (hO : zOK (zs_g σ)) : f_L_addsUp σ = some (nI 1) := by
  have hW2 := hO.1
  have hW := hO.2.1
  have hH2 := hO.2.2.1
  have hH := hO.2.2.2.1
  have hWH : zW (zs_g σ) * zH (zs_g σ) ≤ 64 := Nat.mul_le_mul hW hH
  have hWH1 : 1 ≤ zW (zs_g σ) * zH (zs_g σ) := Nat.mul_pos (by omega) (by omega)
  have hm := fm_lt (P := zP (zs_g σ)) (wm := zM (zs_g σ)) (pm := pv (zT (zs_g σ))) hW hH
  have hsm := CW_small (zFr (zs_g σ))
  have hnz : ¬ nI (zW (zs_g σ)) = nI 0 := by rw [nI_eq (by omega) (by decide)]; omega
  have hback := add_back hO (zW (zs_g σ) * zH (zs_g σ)) (Nat.le_refl _) 4096 (by omega) (-nI 1)
  have hw : q_ways σ = some (nI (CW (zFr (zs_g σ)) 64 0)) := rfl
  -- a place of the garden is that of its number
  have pl : ∀ i, (zFr (zs_g σ)).testBit i = true → i % 8 < zW (zs_g σ) ∧ i / 8 < zH (zs_g σ) := fm_grid hW hH
  have num : ∀ i, i % 8 < zW (zs_g σ) → (i / 8 * zW (zs_g σ) + i % 8) / zW (zs_g σ) = i / 8 ∧ (i / 8 * zW (zs_g σ) + i % 8) % zW (zs_g σ) = i % 8 := fun i hi => by
    rw [Nat.mul_comm, Nat.mul_add_div (by omega), Nat.mul_add_mod, Nat.div_eq_of_lt hi, Nat.mod_eq_of_lt hi]
    exact ⟨by omega, rfl⟩
  unfold f_L_addsUp
  simp only [LIT]
  rw [qc0, ob, qc1, ob, hw, ob, pk_mul, jletE]
  by_cases c : fa_first (zfk (zs_g σ)) (zW (zs_g σ) * zH (zs_g σ)) < zW (zs_g σ) * zH (zs_g σ)
  · obtain ⟨k, hk⟩ : ∃ k, k = fa_first (zfk (zs_g σ)) (zW (zs_g σ) * zH (zs_g σ)) := ⟨_, rfl⟩
    have hyes := fa_first_yes (zfk (zs_g σ)) _ c
    have hno := fa_first_no (zfk (zs_g σ)) (zW (zs_g σ) * zH (zs_g σ))
    rw [← hk] at c hyes hno
    rw [← hk, if_pos c] at hback
    rw [hback, ob]
    have hq : k / zW (zs_g σ) < zH (zs_g σ) := Nat.div_lt_of_lt_mul c
    have hr : k % zW (zs_g σ) < zW (zs_g σ) := Nat.mod_lt _ (by omega)
    obtain ⟨x, hx⟩ : ∃ x, x = k % zW (zs_g σ) := ⟨_, rfl⟩
    obtain ⟨y, hy⟩ : ∃ y, y = k / zW (zs_g σ) := ⟨_, rfl⟩
    have hyes2 : (zFr (zs_g σ)).testBit (8 * y + x) = true := by rw [hx, hy]; exact hyes
    have hb : ∀ i, i < 8 * y + x → (zFr (zs_g σ)).testBit i = false := fun i hi => by
      cases g : (zFr (zs_g σ)).testBit i with
      | false => rfl
      | true =>
        exfalso
        obtain ⟨p1, p2⟩ := pl i g
        obtain ⟨n1, n2⟩ := num i p1
        have hlt : i / 8 * zW (zs_g σ) + i % 8 < k := by
          have hke : k = y * zW (zs_g σ) + x := by rw [hx, hy, Nat.mul_comm]; exact (Nat.div_add_mod _ _).symm
          rw [hke]
          by_cases e : i / 8 = y
          · rw [e]; omega
          · have e2 : i / 8 + 1 ≤ y := by omega
            have := Nat.mul_le_mul_right (zW (zs_g σ)) e2
            rw [Nat.add_mul] at this
            omega
        have := hno _ hlt
        unfold zfk at this
        rw [n1, n2, show 8 * (i / 8) + i % 8 = i by omega, g] at this
        cases this
    rw [if_pos (nI_le (Nat.zero_le _) (by omega)), if_neg hnz, pk_rem (by omega) (by omega) (by omega), ← hx, jletE, if_neg hnz, pk_div (by omega) (by omega) (by omega), ← hy, jletE]
    have hkk : 8 * y + x < 64 := by omega
    obtain ⟨S, hS⟩ : ∃ S : Nat → Nat, S = fb_sm (fun t => if opn (zFr (zs_g σ)) (8 * y + x) t 0 then CW (zFr (zs_g σ)) (63 - (8 * y + x)) (sc t 0) else 0) := ⟨_, rfl⟩
    have hSt : ∀ t, S (t + 1) = S t + (if opn (zFr (zs_g σ)) (8 * y + x) t 0 then CW (zFr (zs_g σ)) (63 - (8 * y + x)) (sc t 0) else 0) := fun t => by rw [hS]; rfl
    have htot : S 4 = CW (zFr (zs_g σ)) 64 0 := by
      have h1 := CW_succ (m := zFr (zs_g σ)) (w := 0) hkk
      rw [hyes2] at h1
      have h2 := (skipTo (m := zFr (zs_g σ)) (8 * y + x) (by omega) hb).1
      rw [hS, ← h2, h1]
      rfl
    have hmono : ∀ t, t < 4 → S (t + 1) ≤ S 4 := fun t ht => by
      rw [hS]
      have := fb_sm_mono (fun t => if opn (zFr (zs_g σ)) (8 * y + x) t 0 then CW (zFr (zs_g σ)) (63 - (8 * y + x)) (sc t 0) else 0) (t + 1) (3 - t)
      rwa [show t + 1 + (3 - t) = 4 by omega] at this
    rw [show f_L_addsUp_L97 σ (nI x) (nI y) 4096 (nI 0) (nI 0) = some (nI (S 4)) from by
      have := loopE (L := fun n j s => f_L_addsUp_L97 σ (nI x) (nI y) n s j) (N := 4) (r := nI (S 4)) (fun j => nI (S j)) (fun n => by
        simp only [f_L_addsUp_L97, f_L_addsUp_L97_b]
        simp only [LIT]
        rw [if_pos (nI_le (Nat.le_refl _) (by decide))]) (fun n t ht => by
        have hw2 := withE2 hO (show x < zW (zs_g σ) by omega) (show y < zH (zs_g σ) by omega) hb ht
        have hmt := hmono t ht
        rw [hSt] at hmt
        simp only [f_L_addsUp_L97, f_L_addsUp_L97_b]
        simp only [LIT]
        have ho : (if nI t = nI 0 then some (nI x - nI 1) else some (nI x)) = some (if t = 0 then nI x - nI 1 else nI x) := by
          by_cases e : t = 0
          · rw [if_pos (by rw [e]), if_pos e]
          · rw [if_neg (by rw [nI_eq (by omega) (by decide)]; exact e), if_neg e]
        rw [if_neg (nI_ge ht (by decide)), ho, ob, qwwE _ _ ht, ob, hw2, hSt]
        cases o : opn (zFr (zs_g σ)) (8 * y + x) t 0 with
        | true =>
          rw [o] at hmt
          simp only [if_true] at hmt ⊢
          rw [if_pos (nI_le (Nat.zero_le _) (by omega)), ob, jletE, jletE, nI_add, nI_add]
        | false =>
          simp only [Bool.false_eq_true, if_false]
          rw [if_neg (m1_nge (by decide)), ob, jletE, jletE, nI_add, nI_add]) (k := 0) (n := 4096) (by omega) (by omega)
      have e0 : S 0 = 0 := by rw [hS]; rfl
      rw [e0] at this
      exact this, ob, htot, if_pos rfl]
  · rw [if_neg c] at hback
    rw [hback, ob, if_neg (m1_nge (by decide))]
    have h0 : zFr (zs_g σ) = 0 := ext64 hm (by decide) (fun i hi => by
      rw [Nat.zero_testBit]
      cases g : (zFr (zs_g σ)).testBit i with
      | false => rfl
      | true =>
        exfalso
        obtain ⟨p1, p2⟩ := pl i g
        obtain ⟨n1, n2⟩ := num i p1
        have hle := fa_first_le (zfk (zs_g σ)) (zW (zs_g σ) * zH (zs_g σ))
        have hlt : i / 8 * zW (zs_g σ) + i % 8 < zW (zs_g σ) * zH (zs_g σ) := by
          have := Nat.mul_le_mul_right (zW (zs_g σ)) (show i / 8 + 1 ≤ zH (zs_g σ) by omega)
          rw [Nat.add_mul, Nat.mul_comm (zH (zs_g σ))] at this
          omega
        have := fa_first_no (zfk (zs_g σ)) (zW (zs_g σ) * zH (zs_g σ)) (i / 8 * zW (zs_g σ) + i % 8) (by omega)
        unfold zfk at this
        rw [n1, n2, show 8 * (i / 8) + i % 8 = i by omega, g] at this
        cases this)
    rw [h0, show CW 0 64 0 = 1 from CW_end 0 (by decide) (by decide), if_pos rfl]
end ADD
