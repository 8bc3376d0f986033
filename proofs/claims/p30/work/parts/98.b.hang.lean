/-! ===== p30: cells, triples, rows and counts tell the same ===== -/
theorem fb_sm_z {f : Nat → Nat} {n : Nat} (h : ∀ k, k < n → f k = 0) : fb_sm f n = 0 := by
  rw [fb_sm_cong (g := fun _ => 0) h, fb_sm_zeros]
theorem iteB {a b : Nat} (ha : a < 2 ^ 31) (hb : b < 2 ^ 31) : (if nI a = nI b then some (nI 1) else some (nI 0)) = some (nI (bn (a == b))) := by
  by_cases e : a = b
  · rw [if_pos (by rw [e]), e]; simp [bn]
  · rw [if_neg (by rw [nI_eq ha hb]; exact e)]; simp [bn, e]
theorem iteN {a b : Nat} (ha : a < 2 ^ 31) (hb : b < 2 ^ 31) : (if nI a = nI b then some (nI 0) else some (nI 1)) = some (nI (bn (!(a == b)))) := by
  by_cases e : a = b
  · rw [if_pos (by rw [e]), e]; simp [bn]
  · rw [if_neg (by rw [nI_eq ha hb]; exact e)]; simp [bn, e]
theorem qcE (σ : ZT) {k : Nat} (h : k < 12) : q_count σ (nI k) = zcnt σ k := by
  unfold q_count
  rw [jixE h (by decide), ob]
theorem qc0 (σ : ZT) : q_count σ (nI 0) = some (nI (zW (zs_g σ))) := qcE σ (by decide)
theorem qc1 (σ : ZT) : q_count σ (nI 1) = some (nI (zH (zs_g σ))) := qcE σ (by decide)
theorem qc2 (σ : ZT) : q_count σ (nI 2) = some (nI (zP (zs_g σ) % 8)) := qcE σ (by decide)
theorem qc3 (σ : ZT) : q_count σ (nI 3) = some (nI (zP (zs_g σ) / 8)) := qcE σ (by decide)
theorem qc4 (σ : ZT) : q_count σ (nI 4) = some (nI (pc (zM (zs_g σ)))) := qcE σ (by decide)
theorem qc5 (σ : ZT) : q_count σ (nI 5) = some (nI (zT (zs_g σ)).length) := qcE σ (by decide)
theorem qc6 (σ : ZT) : q_count σ (nI 6) = some (nI (pc (zFr (zs_g σ)))) := qcE σ (by decide)
theorem qc7 (σ : ZT) : q_count σ (nI 7) = some (nI (zlays (zs_g σ))) := qcE σ (by decide)
theorem qc9 (σ : ZT) : q_count σ (nI 9) = some (zF (zs_g σ)) := qcE σ (by decide)
theorem qc10 (σ : ZT) : q_count σ (nI 10) = some (zR (zs_g σ)) := qcE σ (by decide)
theorem qc11 (σ : ZT) : q_count σ (nI 11) = some (nI (zs_L σ).length) := qcE σ (by decide)
theorem kd_le (P wm pm c : Nat) : kd P wm pm c < 4 := by
  unfold kd
  split
  · decide
  · split
    · decide
    · split <;> decide
section HG
variable {σ : ZT}
theorem qcellE (hO : zOK (zs_g σ)) {X Y t : Nat} (hX : X < zW (zs_g σ)) (hY : Y < zH (zs_g σ)) (ht : t < 3) : q_cellOf σ (nI X) (nI Y) (nI t) = some (zcell (zs_g σ) (8 * Y + X) t) := by
  have hW := hO.2.1
  have hH := hO.2.2.2.1
  unfold q_cellOf
  rw [jixE hX (by omega), ob, jixE hY (by omega), ob, jixE ht (by decide), ob]
theorem qcell0 (hO : zOK (zs_g σ)) {X Y : Nat} (hX : X < zW (zs_g σ)) (hY : Y < zH (zs_g σ)) : q_cellOf σ (nI X) (nI Y) (nI 0) = some (nI (kd (zP (zs_g σ)) (zM (zs_g σ)) (pv (zT (zs_g σ))) (8 * Y + X))) := qcellE hO hX hY (by decide)
theorem qcell1 (hO : zOK (zs_g σ)) {X Y : Nat} (hX : X < zW (zs_g σ)) (hY : Y < zH (zs_g σ)) : q_cellOf σ (nI X) (nI Y) (nI 1) = some (owI (zT (zs_g σ)) (8 * Y + X)) := qcellE hO hX hY (by decide)
abbrev zcv (α : AS) (c : Nat) : Nat := cvn (zW α) (zH α) (zP α) (zM α) (pv (zT α)) c
theorem qcell2 (hO : zOK (zs_g σ)) {X Y : Nat} (hX : X < zW (zs_g σ)) (hY : Y < zH (zs_g σ)) : q_cellOf σ (nI X) (nI Y) (nI 2) = some (nI (zcv (zs_g σ) (8 * Y + X))) := qcellE hO hX hY (by decide)
theorem qrowE (hO : zOK (zs_g σ)) {Y t : Nat} (hY : Y < zH (zs_g σ)) (ht : t < 3) : q_row σ (nI Y) (nI t) = some (nI (zrow (zs_g σ) Y t)) := by
  have hH := hO.2.2.2.1
  unfold q_row
  rw [jixE hY (by omega), ob, jixE ht (by decide), ob]
theorem qtriE (hO : zOK (zs_g σ)) {i t : Nat} {q : TR} (hq : (zT (zs_g σ))[i]? = some q) (ht : t < 3) : q_triple σ (nI i) (nI t) = some (nI (ztri q t)) := by
  have hl := OK_len hO
  have hi := (List.getElem?_eq_some_iff.mp hq).1
  unfold q_triple
  rw [jixE hi (by omega), ob, hq, ob, jixE ht (by decide), ob]
/-- a bit of a row's mask -/
theorem bitRow (hO : zOK (zs_g σ)) {y j t : Nat} (hj : j < zW (zs_g σ)) : (if ((nI (zrow (zs_g σ) y t) >>> (nI j &&& 31)) &&& nI 1) = nI 1 then some (nI 1) else some (nI 0)) = some (nI (bn (kd (zP (zs_g σ)) (zM (zs_g σ)) (pv (zT (zs_g σ))) (8 * y + j) == if t = 0 then 0 else t + 1))) := by
  have hW := hO.2.1
  have hlt := zrow_lt hO y t
  have ha : nI (zrow (zs_g σ) y t / 2 ^ j) &&& nI 1 = nI (zrow (zs_g σ) y t / 2 ^ j % 2) := fa_mask _ 1
  rw [shrE (by omega) (by omega), ha, iteB (by omega) (by decide)]
  have e := Nat.testBit_eq_decide_div_mod_eq (x := zrow (zs_g σ) y t) (i := j)
  have e2 : (zrow (zs_g σ) y t / 2 ^ j % 2 == 1) = (zrow (zs_g σ) y t).testBit j := by rw [e]; rfl
  rw [e2]
  unfold zrow
  rw [mkk_bit, decide_eq_true hj, Bool.true_and]
theorem zcv_step (α : AS) (y j : Nat) : fb_sm (zcv α) (8 * y + (j + 1)) = fb_sm (zcv α) (8 * y + j) + zcv α (8 * y + j) := rfl
theorem zfsE (hO : zOK (zs_g σ)) {y j n : Nat} (hj : j < zW (zs_g σ)) (hy : y < zH (zs_g σ)) (hn : n < 100) (z : Int32) (hz : z = zfs (zpw (zs_g σ) n) (8 * y + j)) : (if nI 0 ≤ z then some z else (if nI (kd (zP (zs_g σ)) (zM (zs_g σ)) (pv (zT (zs_g σ))) (8 * y + j)) = nI 0 then (if nI (zcv (zs_g σ) (8 * y + j)) = nI n then some (nI j + (nI 10 * nI y)) else some z) else some z)) = some (zfs (zpw (zs_g σ) n) (8 * y + (j + 1))) := by
  have hW := hO.2.1
  have hH := hO.2.2.2.1
  have hk := kd_le (zP (zs_g σ)) (zM (zs_g σ)) (pv (zT (zs_g σ))) (8 * y + j)
  have hc := cvn_le (zW (zs_g σ)) (zH (zs_g σ)) (zP (zs_g σ)) (zM (zs_g σ)) (pv (zT (zs_g σ))) (8 * y + j)
  have h0 := kd0 hO (c := 8 * y + j) (by omega) (by omega)
  have hp : zpw (zs_g σ) n (8 * y + j) = ((zFr (zs_g σ)).testBit (8 * y + j) && (zcv (zs_g σ) (8 * y + j) == n)) := rfl
  show _ = some (zfs (zpw (zs_g σ) n) (8 * y + j + 1))
  rw [zfs_step (show 8 * y + j < 64 by omega), ← hz, hp, show (8 * y + j) % 8 = j by omega, show (8 * y + j) / 8 = y by omega, pk_mul, nI_add]
  by_cases c : nI 0 ≤ z
  · rw [if_pos c, if_pos c]
  · rw [if_neg c, if_neg c]
    by_cases d : kd (zP (zs_g σ)) (zM (zs_g σ)) (pv (zT (zs_g σ))) (8 * y + j) = 0
    · rw [if_pos (by rw [d]), h0.mp d, Bool.true_and]
      by_cases e : zcv (zs_g σ) (8 * y + j) = n
      · rw [if_pos (by rw [e]), if_pos (by simpa using e)]
      · rw [if_neg (by rw [nI_eq (by unfold zcv; omega) (by omega)]; exact e), if_neg (by simpa using e)]
    · rw [if_neg (by rw [nI_eq (by omega) (by decide)]; exact d)]
      have : (zFr (zs_g σ)).testBit (8 * y + j) = false := by
        cases g : (zFr (zs_g σ)).testBit (8 * y + j) with
        | false => rfl
        | true => exact absurd (h0.mpr g) d
      rw [this]
      rfl
theorem hang_in (hO : zOK (zs_g σ)) {y : Nat} (hy : y < zH (zs_g σ)) : f_L_hangs_L201 σ (nI (zW (zs_g σ))) (nI (zT (zs_g σ)).length) (nI y) (nI (zrow (zs_g σ) y 0)) (nI (zrow (zs_g σ) y 1)) (nI (zrow (zs_g σ) y 2)) 4096 (nI (fb_sm (zcv (zs_g σ)) (8 * y))) (zfs (zpw (zs_g σ) 0) (8 * y)) (zfs (zpw (zs_g σ) 1) (8 * y)) (nI 1) (nI 0) = some (nI (fb_sm (zcv (zs_g σ)) (8 * (y + 1))), zfs (zpw (zs_g σ) 0) (8 * (y + 1)), zfs (zpw (zs_g σ) 1) (8 * (y + 1)), nI 1) := by
  have hW := hO.2.1
  have hH := hO.2.2.2.1
  have hl := OK_len hO
  have out : ∀ k, 8 * y + zW (zs_g σ) ≤ k → k < 8 * y + zW (zs_g σ) + (8 - zW (zs_g σ)) → (zFr (zs_g σ)).testBit k = false := fun k h1 h2 => by
    cases g : (zFr (zs_g σ)).testBit k with
    | false => rfl
    | true => have := fm_grid hW hH k g; omega
  have e8 : 8 * (y + 1) = 8 * y + zW (zs_g σ) + (8 - zW (zs_g σ)) := by omega
  have z1 : ∀ n, zfs (zpw (zs_g σ) n) (8 * (y + 1)) = zfs (zpw (zs_g σ) n) (8 * y + zW (zs_g σ)) := fun n => by
    rw [e8]
    exact zfs_nos _ (fun k h1 h2 => by
      show ((zFr (zs_g σ)).testBit k && _) = false
      rw [out k h1 h2]; rfl)
  have z2 : fb_sm (zcv (zs_g σ)) (8 * (y + 1)) = fb_sm (zcv (zs_g σ)) (8 * y + zW (zs_g σ)) := by
    rw [e8, fb_sm_split, fb_sm_z (n := 8 - zW (zs_g σ)) (fun k hk => cvn0 hO (by omega) (out _ (by omega) (by omega))), Nat.add_zero]
  rw [z1, z1, z2]
  exact loopE (L := fun n j (s : Int32 × Int32 × Int32 × Int32) => f_L_hangs_L201 σ (nI (zW (zs_g σ))) (nI (zT (zs_g σ)).length) (nI y) (nI (zrow (zs_g σ) y 0)) (nI (zrow (zs_g σ) y 1)) (nI (zrow (zs_g σ) y 2)) n s.1 s.2.1 s.2.2.1 s.2.2.2 j) (N := zW (zs_g σ)) (fun j => (nI (fb_sm (zcv (zs_g σ)) (8 * y + j)), zfs (zpw (zs_g σ) 0) (8 * y + j), zfs (zpw (zs_g σ) 1) (8 * y + j), nI 1)) (fun n => by
    simp only [f_L_hangs_L201, f_L_hangs_L201_b]
    rw [if_pos (nI_le (Nat.le_refl _) (by omega))]) (fun n j hj => by
    have hc64 : 8 * y + j < 64 := by omega
    have hk := kd_le (zP (zs_g σ)) (zM (zs_g σ)) (pv (zT (zs_g σ))) (8 * y + j)
    have hcv := cvn_le (zW (zs_g σ)) (zH (zs_g σ)) (zP (zs_g σ)) (zM (zs_g σ)) (pv (zT (zs_g σ))) (8 * y + j)
    have h0 := kd0 hO (c := 8 * y + j) (by omega) (by omega)
    have h3 := kd3 hO hc64
    have r0 : (if ((nI (zrow (zs_g σ) y 0) >>> (nI j &&& 31)) &&& nI 1) = nI 1 then some (nI 1) else some (nI 0)) = some (nI (bn (kd (zP (zs_g σ)) (zM (zs_g σ)) (pv (zT (zs_g σ))) (8 * y + j) == 0))) := bitRow (t := 0) (y := y) hO hj
    have r1 : (if ((nI (zrow (zs_g σ) y 1) >>> (nI j &&& 31)) &&& nI 1) = nI 1 then some (nI 1) else some (nI 0)) = some (nI (bn (kd (zP (zs_g σ)) (zM (zs_g σ)) (pv (zT (zs_g σ))) (8 * y + j) == 2))) := bitRow (t := 1) (y := y) hO hj
    have r2 : (if ((nI (zrow (zs_g σ) y 2) >>> (nI j &&& 31)) &&& nI 1) = nI 1 then some (nI 1) else some (nI 0)) = some (nI (bn (kd (zP (zs_g σ)) (zM (zs_g σ)) (pv (zT (zs_g σ))) (8 * y + j) == 3))) := bitRow (t := 2) (y := y) hO hj
    have k0 := iteB (a := kd (zP (zs_g σ)) (zM (zs_g σ)) (pv (zT (zs_g σ))) (8 * y + j)) (b := 0) (by omega) (by decide)
    have k2 := iteB (a := kd (zP (zs_g σ)) (zM (zs_g σ)) (pv (zT (zs_g σ))) (8 * y + j)) (b := 2) (by omega) (by decide)
    have k3 := iteB (a := kd (zP (zs_g σ)) (zM (zs_g σ)) (pv (zT (zs_g σ))) (8 * y + j)) (b := 3) (by omega) (by decide)
    have k3n := iteN (a := kd (zP (zs_g σ)) (zM (zs_g σ)) (pv (zT (zs_g σ))) (8 * y + j)) (b := 3) (by omega) (by decide)
    have b3 : (!(kd (zP (zs_g σ)) (zM (zs_g σ)) (pv (zT (zs_g σ))) (8 * y + j) == 3)) = !(pv (zT (zs_g σ))).testBit (8 * y + j) := by
      cases g : (pv (zT (zs_g σ))).testBit (8 * y + j) with
      | true => rw [h3.mpr g]; rfl
      | false =>
        have : ¬ kd (zP (zs_g σ)) (zM (zs_g σ)) (pv (zT (zs_g σ))) (8 * y + j) = 3 := fun z => by rw [h3.mp z] at g; cases g
        rw [beq_eq_false_iff_ne.mpr this]
    have o44 : (if owI (zT (zs_g σ)) (8 * y + j) = -nI 1 then some (nI 1) else some (nI 0)) = some (nI (bn (!(pv (zT (zs_g σ))).testBit (8 * y + j)))) := by
      unfold owI
      cases g : (pv (zT (zs_g σ))).testBit (8 * y + j) with
      | true =>
        have := ow_lt g
        simp only [if_true]
        rw [if_neg (m1_ne (by omega))]
        rfl
      | false =>
        simp only [Bool.false_eq_true, if_false, if_true]
        rfl
    have olt : ¬ nI (zT (zs_g σ)).length ≤ owI (zT (zs_g σ)) (8 * y + j) := by
      unfold owI
      cases g : (pv (zT (zs_g σ))).testBit (8 * y + j) with
      | true =>
        have := ow_lt g
        simp only [if_true]
        exact nI_ge this (by omega)
      | false =>
        simp only [Bool.false_eq_true, if_false]
        exact m1_nge (by omega)
    have last : (if nI (kd (zP (zs_g σ)) (zM (zs_g σ)) (pv (zT (zs_g σ))) (8 * y + j)) = nI 0 then some (nI 1) else (if nI (zcv (zs_g σ) (8 * y + j)) = nI 0 then some (nI 1) else some (nI 0))) = some (nI 1) := by
      by_cases d : kd (zP (zs_g σ)) (zM (zs_g σ)) (pv (zT (zs_g σ))) (8 * y + j) = 0
      · rw [if_pos (by rw [d])]
      · rw [if_neg (by rw [nI_eq (by omega) (by decide)]; exact d)]
        have g : (zFr (zs_g σ)).testBit (8 * y + j) = false := by
          cases g : (zFr (zs_g σ)).testBit (8 * y + j) with
          | false => rfl
          | true => exact absurd (h0.mpr g) d
        rw [show zcv (zs_g σ) (8 * y + j) = 0 from cvn0 hO hc64 g, if_pos rfl]
    have l0 := zfsE (n := 0) hO hj hy (by decide) _ rfl
    have l1 := zfsE (n := 1) hO hj hy (by decide) _ rfl
    simp only [f_L_hangs_L201, f_L_hangs_L201_b]
    simp only [LIT]
    rw [if_neg (nI_ge hj (by omega)), if_neg n10, qcell0 hO hj hy, ob, qcell1 hO hj hy, ob, qcell2 hO hj hy, ob, k0, ob, r0, ob]
    rw [if_pos (show nI (bn (kd (zP (zs_g σ)) (zM (zs_g σ)) (pv (zT (zs_g σ))) (8 * y + j) == 0)) = nI (bn (kd (zP (zs_g σ)) (zM (zs_g σ)) (pv (zT (zs_g σ))) (8 * y + j) == 0)) from rfl), k2, ob, r1, ob]
    rw [if_pos (show nI (bn (kd (zP (zs_g σ)) (zM (zs_g σ)) (pv (zT (zs_g σ))) (8 * y + j) == 2)) = nI (bn (kd (zP (zs_g σ)) (zM (zs_g σ)) (pv (zT (zs_g σ))) (8 * y + j) == 2)) from rfl), k3, ob, r2, ob]
    rw [if_pos (show nI (bn (kd (zP (zs_g σ)) (zM (zs_g σ)) (pv (zT (zs_g σ))) (8 * y + j) == 3)) = nI (bn (kd (zP (zs_g σ)) (zM (zs_g σ)) (pv (zT (zs_g σ))) (8 * y + j) == 3)) from rfl), o44, ob, k3n, ob, b3]
    rw [if_pos (show nI (bn (!(pv (zT (zs_g σ))).testBit (8 * y + j))) = nI (bn (!(pv (zT (zs_g σ))).testBit (8 * y + j))) from rfl), if_neg olt, last, ob, jletE, l0, ob, l1, ob, jletE, nI_add, nI_add]
    rfl) (k := 0) (n := 4096) (by omega) (by omega)
/-- all rows -/
theorem hang_rows (hO : zOK (zs_g σ)) : f_L_hangs_L99 σ (nI (zW (zs_g σ))) (nI (zH (zs_g σ))) (nI (zT (zs_g σ)).length) 4096 (nI 0) (nI 0) (nI 0) (nI 0) (-nI 1) (-nI 1) (nI 1) (nI 0) = some (nI (pc (zFr (zs_g σ))), nI (pc (zM (zs_g σ))), nI (pc (pv (zT (zs_g σ)))), nI (3 * zlays (zs_g σ)), zfst (zpw (zs_g σ) 0), zfst (zpw (zs_g σ) 1), nI 1) := by
  have hW := hO.2.1
  have hH := hO.2.2.2.1
  obtain ⟨S, hS⟩ : ∃ S : Nat → Nat → Nat, S = fun t y => fb_sm (fun y => fb_ct (fun i => (rset (zW (zs_g σ)) (zH (zs_g σ)) (zP (zs_g σ)) (zM (zs_g σ)) (pv (zT (zs_g σ))) t).testBit (8 * y + i)) 8) y := ⟨_, rfl⟩
  have hSt : ∀ t y, t < 3 → y < zH (zs_g σ) → S t y + fb_ct (zrow (zs_g σ) y t).testBit 8 = S t (y + 1) := fun t y ht hy => by
    rw [hS]
    show _ = fb_sm _ y + _
    rw [zrow_pc hO hy ht]
  have hSe : ∀ t, S t (zH (zs_g σ)) = pc (rset (zW (zs_g σ)) (zH (zs_g σ)) (zP (zs_g σ)) (zM (zs_g σ)) (pv (zT (zs_g σ))) t) := fun t => by
    rw [hS]
    exact rows_pc hH (rset_lt hO t) (fun j h => (rset_grid hO t h).2)
  have out : ∀ k, 8 * zH (zs_g σ) ≤ k → (zFr (zs_g σ)).testBit k = false := fun k h1 => by
    cases g : (zFr (zs_g σ)).testBit k with
    | false => rfl
    | true => have := fm_grid hW hH k g; omega
  have z1 : ∀ n, zfst (zpw (zs_g σ) n) = zfs (zpw (zs_g σ) n) (8 * zH (zs_g σ)) := fun n => by
    rw [← zfs_64, show 64 = 8 * zH (zs_g σ) + (64 - 8 * zH (zs_g σ)) by omega]
    exact zfs_nos _ (fun k h1 h2 => by
      show ((zFr (zs_g σ)).testBit k && _) = false
      rw [out k h1]; rfl)
  have z2 : 3 * zlays (zs_g σ) = fb_sm (zcv (zs_g σ)) (8 * zH (zs_g σ)) := by
    have h1 : fb_sm (zcv (zs_g σ)) 64 = 3 * zlays (zs_g σ) := sum_cov hO
    have h2 := fb_sm_split (zcv (zs_g σ)) (8 * zH (zs_g σ)) (64 - 8 * zH (zs_g σ))
    rw [fb_sm_z (n := 64 - 8 * zH (zs_g σ)) (fun k hk => cvn0 hO (by omega) (out _ (by omega))), Nat.add_zero, show 8 * zH (zs_g σ) + (64 - 8 * zH (zs_g σ)) = 64 by omega] at h2
    rw [← h1, h2]
  have s0 := hSe 0
  have s1 := hSe 1
  have s2 := hSe 2
  rw [z1, z1, z2, show pc (zFr (zs_g σ)) = S 0 (zH (zs_g σ)) from s0.symm, show pc (zM (zs_g σ)) = S 1 (zH (zs_g σ)) from s1.symm, show pc (pv (zT (zs_g σ))) = S 2 (zH (zs_g σ)) from s2.symm]
  have hS0 : ∀ t, S t 0 = 0 := fun t => by rw [hS]; rfl
  have start := loopE (L := fun n j (s : Int32 × Int32 × Int32 × Int32 × Int32 × Int32 × Int32) => f_L_hangs_L99 σ (nI (zW (zs_g σ))) (nI (zH (zs_g σ))) (nI (zT (zs_g σ)).length) n s.1 s.2.1 s.2.2.1 s.2.2.2.1 s.2.2.2.2.1 s.2.2.2.2.2.1 s.2.2.2.2.2.2 j) (N := zH (zs_g σ)) (r := (nI (S 0 (zH (zs_g σ))), nI (S 1 (zH (zs_g σ))), nI (S 2 (zH (zs_g σ))), nI (fb_sm (zcv (zs_g σ)) (8 * zH (zs_g σ))), zfs (zpw (zs_g σ) 0) (8 * zH (zs_g σ)), zfs (zpw (zs_g σ) 1) (8 * zH (zs_g σ)), nI 1)) (fun j => (nI (S 0 j), nI (S 1 j), nI (S 2 j), nI (fb_sm (zcv (zs_g σ)) (8 * j)), zfs (zpw (zs_g σ) 0) (8 * j), zfs (zpw (zs_g σ) 1) (8 * j), nI 1)) (fun n => by
    simp only [f_L_hangs_L99, f_L_hangs_L99_b]
    rw [if_pos (nI_le (Nat.le_refl _) (by omega))]) (fun n y hy => by
    have w0 := zrow_lt hO y 0
    have w1 := zrow_lt hO y 1
    have w2 := zrow_lt hO y 2
    have a01 : nI (zrow (zs_g σ) y 0) &&& nI (zrow (zs_g σ) y 1) = nI 0 := by
      rw [fa_and]
      refine congrArg nI ((andz _ _).mpr (fun j => ?_))
      unfold zrow
      rw [mkk_bit, mkk_bit, if_pos rfl, if_neg (by decide)]
      have := kd_le (zP (zs_g σ)) (zM (zs_g σ)) (pv (zT (zs_g σ))) (8 * y + j)
      rcases (show kd (zP (zs_g σ)) (zM (zs_g σ)) (pv (zT (zs_g σ))) (8 * y + j) = 0 ∨ kd (zP (zs_g σ)) (zM (zs_g σ)) (pv (zT (zs_g σ))) (8 * y + j) = 1 ∨ kd (zP (zs_g σ)) (zM (zs_g σ)) (pv (zT (zs_g σ))) (8 * y + j) = 2 ∨ kd (zP (zs_g σ)) (zM (zs_g σ)) (pv (zT (zs_g σ))) (8 * y + j) = 3 by omega) with e | e | e | e <;> rw [e] <;> simp
    have a02 : nI (zrow (zs_g σ) y 0) &&& nI (zrow (zs_g σ) y 2) = nI 0 := by
      rw [fa_and]
      refine congrArg nI ((andz _ _).mpr (fun j => ?_))
      unfold zrow
      rw [mkk_bit, mkk_bit, if_pos rfl, if_neg (by decide)]
      have := kd_le (zP (zs_g σ)) (zM (zs_g σ)) (pv (zT (zs_g σ))) (8 * y + j)
      rcases (show kd (zP (zs_g σ)) (zM (zs_g σ)) (pv (zT (zs_g σ))) (8 * y + j) = 0 ∨ kd (zP (zs_g σ)) (zM (zs_g σ)) (pv (zT (zs_g σ))) (8 * y + j) = 1 ∨ kd (zP (zs_g σ)) (zM (zs_g σ)) (pv (zT (zs_g σ))) (8 * y + j) = 2 ∨ kd (zP (zs_g σ)) (zM (zs_g σ)) (pv (zT (zs_g σ))) (8 * y + j) = 3 by omega) with e | e | e | e <;> rw [e] <;> simp
    have a12 : nI (zrow (zs_g σ) y 1) &&& nI (zrow (zs_g σ) y 2) = nI 0 := by
      rw [fa_and]
      refine congrArg nI ((andz _ _).mpr (fun j => ?_))
      unfold zrow
      rw [mkk_bit, mkk_bit, if_neg (by decide), if_neg (by decide)]
      have := kd_le (zP (zs_g σ)) (zM (zs_g σ)) (pv (zT (zs_g σ))) (8 * y + j)
      rcases (show kd (zP (zs_g σ)) (zM (zs_g σ)) (pv (zT (zs_g σ))) (8 * y + j) = 0 ∨ kd (zP (zs_g σ)) (zM (zs_g σ)) (pv (zT (zs_g σ))) (8 * y + j) = 1 ∨ kd (zP (zs_g σ)) (zM (zs_g σ)) (pv (zT (zs_g σ))) (8 * y + j) = 2 ∨ kd (zP (zs_g σ)) (zM (zs_g σ)) (pv (zT (zs_g σ))) (8 * y + j) = 3 by omega) with e | e | e | e <;> rw [e] <;> simp
    simp only [f_L_hangs_L99, f_L_hangs_L99_b]
    simp only [LIT]
    rw [if_neg (nI_ge hy (by omega)), if_neg n10, qrowE hO hy (by decide), ob, qrowE hO hy (by decide), ob, qrowE hO hy (by decide), ob, bitsE w0, ob, jletE, bitsE w1, ob, jletE, bitsE w2, ob, jletE, a01, if_pos rfl, a02, if_pos rfl, a12, if_pos rfl, ob, hang_in hO hy, ob, jletE, nI_add, nI_add, nI_add, nI_add, hSt 0 y (by decide) hy, hSt 1 y (by decide) hy, hSt 2 y (by decide) hy]) (k := 0) (n := 4096) (by omega) (by omega)
  rw [hS0, hS0, hS0] at start
  exact start
end HG
