/-! ===== p30: facts of gardens ===== -/
theorem fb_sm_swap (f : Nat → Nat → Nat) (m : Nat) : ∀ n, fb_sm (fun a => fb_sm (fun b => f a b) m) n = fb_sm (fun b => fb_sm (fun a => f a b) n) m := by
  intro n
  induction n with
  | zero =>
    show 0 = fb_sm (fun _ => 0) m
    rw [fb_sm_zeros]
  | succ n ih =>
    rw [fb_sm_succ (fun a => fb_sm (fun b => f a b) m), ih, ← fb_sm_add]
    rfl
theorem fb_sm_bn (p : Nat → Bool) : ∀ n, fb_sm (fun c => bn (p c)) n = fb_ct p n := by
  intro n
  induction n with
  | zero => rfl
  | succ n ih => rw [fb_sm_succ, fb_ct_succ, ih]; rfl
theorem fb_sm_mul (c : Nat) (f : Nat → Nat) : ∀ n, fb_sm (fun k => c * f k) n = c * fb_sm f n := by
  intro n
  induction n with
  | zero => rfl
  | succ n ih => rw [fb_sm_succ, fb_sm_succ, ih, Nat.mul_add]
theorem blk_pc : ∀ w, w < 9 → ∀ h, h < 9 → pc (blk 0 0 w h) = w * h := by decide +kernel
theorem pw_pc : ∀ p, p < 64 → pc (2 ^ p) = 1 := by decide +kernel
section FCT
variable {W H P wm : Nat} {T : List TR}
theorem ok_bits (hO : OK W H P wm T) {j : Nat} (hj : j < 64) : ((pv T).testBit j = true → j % 8 < W ∧ j / 8 < H ∧ wm.testBit j = false ∧ j ≠ P) ∧ (wm.testBit j = true → j % 8 < W ∧ j / 8 < H ∧ j ≠ P ∧ (pv T).testBit j = false) := by
  have h2 := (andz _ _).mp (OK_pv hO).2.1 j
  have h3 := (andz _ _).mp (OK_pv hO).2.2.1 j
  rw [pw_bit] at h3
  refine ⟨fun h => ?_, fun h => ?_⟩
  · rw [h, Bool.true_and] at h2 h3
    have := pv_grid hO h
    exact ⟨this.1, this.2.1, h2, by simpa using h3⟩
  · have := hO.2.2.2.2.2.2.2.1 j h
    rw [h, Bool.and_true] at h2
    exact ⟨this.1, this.2.1, this.2.2, h2⟩
theorem kd0 (hO : OK W H P wm T) {c : Nat} (h1 : c % 8 < W) (h2 : c / 8 < H) : kd P wm (pv T) c = 0 ↔ (fm W H P wm (pv T)).testBit c = true := by
  have hW := hO.2.1
  have hH := hO.2.2.2.1
  rw [fm_bit hW hH (by omega), decide_eq_true h1, decide_eq_true h2]
  unfold kd
  by_cases e : c = P
  · simp [e]
  · cases wm.testBit c <;> cases (pv T).testBit c <;> simp [e]
theorem kd2 (hO : OK W H P wm T) {c : Nat} (hc : c < 64) : kd P wm (pv T) c = 2 ↔ wm.testBit c = true := by
  have h := (ok_bits hO hc).2
  unfold kd
  by_cases e : c = P
  · rw [if_pos e]
    constructor
    · intro z; cases z
    · intro z; exact absurd e (h z).2.2.1
  · rw [if_neg e]
    cases wm.testBit c <;> cases (pv T).testBit c <;> simp
theorem kd3 (hO : OK W H P wm T) {c : Nat} (hc : c < 64) : kd P wm (pv T) c = 3 ↔ (pv T).testBit c = true := by
  have h := (ok_bits hO hc).1
  unfold kd
  by_cases e : c = P
  · rw [if_pos e]
    constructor
    · intro z; cases z
    · intro z; exact absurd e (h z).2.2.2
  · rw [if_neg e]
    cases g1 : wm.testBit c with
    | true =>
      simp only [if_true]
      constructor
      · intro z; cases z
      · intro z; rw [(h z).2.2.1] at g1; cases g1
    | false => cases (pv T).testBit c <;> simp
theorem pc_all (hO : OK W H P wm T) : pc (fm W H P wm (pv T)) + pc wm + 3 * T.length + 1 = W * H := by
  have hW := hO.2.1
  have hH := hO.2.2.2.1
  have hP := OK_P hO
  obtain ⟨p1, p2, p3, p4⟩ := OK_pv hO
  have hwm := hO.2.2.2.2.2.2.1
  have d1 : fm W H P wm (pv T) &&& wm = 0 := by
    rw [andz]
    intro j
    by_cases hj : j < 64
    · rw [fm_bit hW hH hj]; cases wm.testBit j <;> simp
    · rw [big_bit hwm (by omega), Bool.and_false]
  have d2 : (fm W H P wm (pv T) ||| wm) &&& pv T = 0 := by
    apply or_zero
    · rw [andz]
      intro j
      by_cases hj : j < 64
      · rw [fm_bit hW hH hj]; cases (pv T).testBit j <;> simp
      · rw [big_bit p1 (by omega), Bool.and_false]
    · exact and_comm0 p2
  have d3 : (fm W H P wm (pv T) ||| wm ||| pv T) &&& 2 ^ P = 0 := by
    apply or_zero (or_zero _ _) p3
    · rw [fb_bit_nat, fm_bit hW hH hP]; simp
    · rw [fb_bit_nat]
      cases g : wm.testBit P with
      | false => rfl
      | true => exact absurd rfl (hO.2.2.2.2.2.2.2.1 P g).2.2
  have e : fm W H P wm (pv T) ||| wm ||| pv T ||| 2 ^ P = blk 0 0 W H := by
    refine ext64 (Nat.or_lt_two_pow (Nat.or_lt_two_pow (Nat.or_lt_two_pow (fm_lt hW hH) hwm) p1) (pw_lt hP)) (grid_lt W (by omega) H (by omega)) (fun j hj => ?_)
    obtain ⟨k1, k2⟩ := ok_bits hO hj
    rw [Nat.testBit_or, Nat.testBit_or, Nat.testBit_or, fm_bit hW hH hj, pw_bit, grid_bit W (by omega) H (by omega) j hj]
    by_cases e : j = P
    · subst e
      rw [decide_eq_true hO.2.2.2.2.1, decide_eq_true hO.2.2.2.2.2.1]
      simp
    · cases g1 : wm.testBit j with
      | true => simp [e, (k2 g1).1, (k2 g1).2.1]
      | false =>
        cases g2 : (pv T).testBit j with
        | true => simp [e, (k1 g2).1, (k1 g2).2.1]
        | false => simp [e]
  have c1 := pc_or d1
  have c2 := pc_or d2
  have c3 := pc_or d3
  rw [e, blk_pc W (by omega) H (by omega), pw_pc P hP] at c3
  omega
theorem GG_free (hO : OK W H P wm T) {c x y t : Nat} (hc : c < 64) (ht : t < 4) (h : GG W H P wm (pv T) c x y t = true) : (fm W H P wm (pv T)).testBit c = true := by
  have hW := hO.2.1
  have hH := hO.2.2.2.1
  unfold GG at h
  rw [Bool.and_eq_true] at h
  have h1 := lay_in h.1
  have h2 := (wn_free hW hH h1.1 h1.2.1).mp h1.2.2
  have h3 := h.2
  rw [tm_bit x (by omega) y (by omega) t ht c hc] at h3
  simp only [Bool.or_eq_true, Bool.and_eq_true, beq_iff_eq, bne_iff_ne, ne_eq] at h3
  rcases h3 with ((⟨h3, rfl⟩ | ⟨h3, rfl⟩) | ⟨h3, rfl⟩) | ⟨h3, rfl⟩
  · exact h2 0 (by decide) (fun z => h3 z.symm)
  · exact h2 1 (by decide) (fun z => h3 z.symm)
  · exact h2 2 (by decide) (fun z => h3 z.symm)
  · exact h2 3 (by decide) (fun z => h3 z.symm)
theorem chz_free (hO : OK W H P wm T) {c h : Nat} (hc : c < 64) (hh : h < 16) (hz : chz W H P wm (pv T) c h = true) : (fm W H P wm (pv T)).testBit c = true := by
  unfold chz at hz
  rw [Bool.and_eq_true] at hz
  exact GG_free hO hc (by omega) hz.2
/-- how many triples could be laid over a cell -/
def cvn (W H P wm pm c : Nat) : Nat := fb_ct (chz W H P wm pm c) 16
theorem cvn_le (W H P wm pm c : Nat) : cvn W H P wm pm c ≤ 16 := fb_ct_le _ _
theorem cvn0 (hO : OK W H P wm T) {c : Nat} (hc : c < 64) (hf : (fm W H P wm (pv T)).testBit c = false) : cvn W H P wm (pv T) c = 0 := by
  refine fb_ct_zero.mpr (fun h hh => ?_)
  cases g : chz W H P wm (pv T) c h with
  | false => rfl
  | true => rw [chz_free hO hc hh g] at hf; cases hf
theorem sum_cov (hO : OK W H P wm T) : fb_sm (cvn W H P wm (pv T)) 64 = 3 * fb_sm (fun y => fb_sm (fun x => fb_sm (fun t => bn (lay' W H P wm (pv T) x y t)) 4) W) H := by
  have hW := hO.2.1
  have hH := hO.2.2.2.1
  rw [lay_cut hO.1 hO.2.2.1]
  have h1 : fb_sm (cvn W H P wm (pv T)) 64 = fb_sm (fun c => fb_sm (fun y => fb_sm (fun x => fb_sm (fun t => bn (GG W H P wm (pv T) c x y t)) 4) (W - 1)) (H - 1)) 64 := fb_sm_cong (fun c hc => (cnt_eq hW hH hc).symm)
  rw [h1, fb_sm_swap (fun c y => fb_sm (fun x => fb_sm (fun t => bn (GG W H P wm (pv T) c x y t)) 4) (W - 1)) (H - 1) 64, ← fb_sm_mul]
  apply fb_sm_cong
  intro y hy
  rw [fb_sm_swap (fun c x => fb_sm (fun t => bn (GG W H P wm (pv T) c x y t)) 4) (W - 1) 64, ← fb_sm_mul]
  apply fb_sm_cong
  intro x hx
  rw [fb_sm_swap (fun c t => bn (GG W H P wm (pv T) c x y t)) 4 64, ← fb_sm_mul]
  apply fb_sm_cong
  intro t ht
  cases g : lay' W H P wm (pv T) x y t with
  | false =>
    rw [fb_sm_cong (g := fun _ => 0) (fun c _ => by unfold GG; rw [g]; rfl), fb_sm_zeros]
    rfl
  | true =>
    rw [fb_sm_cong (g := fun c => bn ((tm x y t).testBit c)) (fun c _ => by unfold GG; rw [g]; rfl), fb_sm_bn]
    exact tm_pc x (by omega) y (by omega) t ht
/-- the set of all cells, told by its rows -/
theorem rows_pc {R H : Nat} (hH : H ≤ 8) (hR : R < 2 ^ 64) (hg : ∀ j, R.testBit j = true → j / 8 < H) : fb_sm (fun y => fb_ct (fun i => R.testBit (8 * y + i)) 8) H = pc R := by
  have h1 : ∀ y, fb_sm (fun y => fb_ct (fun i => R.testBit (8 * y + i)) 8) y = fb_ct R.testBit (8 * y) := by
    intro y
    induction y with
    | zero => rfl
    | succ y ih => rw [fb_sm_succ, ih, show 8 * (y + 1) = 8 * y + 8 by omega, fb_ct_split]
  have h3 : fb_ct (fun k => R.testBit (8 * H + k)) (64 - 8 * H) = 0 := fb_ct_zero.mpr (fun k hk => by
    cases g : R.testBit (8 * H + k) with
    | false => rfl
    | true => have := hg _ g; omega)
  have h2 := fb_ct_split R.testBit (8 * H) (64 - 8 * H)
  rw [h3, Nat.add_zero, show 8 * H + (64 - 8 * H) = 64 by omega] at h2
  rw [h1, ← h2]
  rfl
theorem rset_lt (hO : OK W H P wm T) (t : Nat) : rset W H P wm (pv T) t < 2 ^ 64 := by
  unfold rset
  split
  · exact fm_lt hO.2.1 hO.2.2.2.1
  · split
    · exact hO.2.2.2.2.2.2.1
    · exact (OK_pv hO).1
theorem rset_grid (hO : OK W H P wm T) (t : Nat) {j : Nat} (h : (rset W H P wm (pv T) t).testBit j = true) : j % 8 < W ∧ j / 8 < H := by
  unfold rset at h
  split at h
  · exact fm_grid hO.2.1 hO.2.2.2.1 j h
  · split at h
    · exact ⟨(hO.2.2.2.2.2.2.2.1 j h).1, (hO.2.2.2.2.2.2.2.1 j h).2.1⟩
    · exact ⟨(pv_grid hO h).1, (pv_grid hO h).2.1⟩
theorem zrow_E {α : AS} (hO : zOK α) {y t : Nat} (hy : y < zH α) (ht : t < 3) : zrow α y t = rset (zW α) (zH α) (zP α) (zM α) (pv (zT α)) t / 2 ^ (8 * y) % 256 := (rowSame hO hy ht).symm
theorem zrow_lt {α : AS} (hO : zOK α) (y t : Nat) : zrow α y t < 256 := mkk_lt _ hO.2.1
theorem zrow_pc {α : AS} (hO : zOK α) {y t : Nat} (hy : y < zH α) (ht : t < 3) : fb_ct (zrow α y t).testBit 8 = fb_ct (fun i => (rset (zW α) (zH α) (zP α) (zM α) (pv (zT α)) t).testBit (8 * y + i)) 8 := by
  apply fb_ct_cong
  intro i hi
  rw [zrow_E hO hy ht, show (256 : Nat) = 2 ^ 8 from rfl, Nat.testBit_mod_two_pow, Nat.testBit_div_two_pow, decide_eq_true hi, Nat.add_comm]
  rfl
end FCT
theorem bitsE {m : Nat} (hm : m < 256) : f_L_bits (nI m) = some (nI (fb_ct m.testBit 8)) := by
  unfold f_L_bits
  rw [show f_L_bits_L4 (nI m) 4096 0 0 = some (nI (fb_ct m.testBit 8)) from loopE (L := fun n j s => f_L_bits_L4 (nI m) n s j) (N := 8) (fun j => nI (fb_ct m.testBit j)) (fun n => by
    simp only [f_L_bits_L4, f_L_bits_L4_b]
    simp only [LIT]
    rw [if_pos (nI_le (Nat.le_refl _) (by decide))]) (fun n j hj => by
    simp only [f_L_bits_L4, f_L_bits_L4_b]
    simp only [LIT]
    have ha : nI (m / 2 ^ j) &&& nI 1 = nI (m / 2 ^ j % 2) := fa_mask (m / 2 ^ j) 1
    rw [if_neg (nI_ge hj (by decide)), shrE (by omega) (by omega), ha, nI_add, jletE, nI_add, jletE, fb_ct_succ, Nat.testBit_eq_decide_div_mod_eq]
    congr 2
    rcases (show m / 2 ^ j % 2 = 0 ∨ m / 2 ^ j % 2 = 1 by omega) with z | z <;> rw [z] <;> rfl) (k := 0) (n := 4096) (by omega) (by omega), ob]
/-! the first cell below a place -/
def zfs (p : Nat → Bool) (N : Nat) : Int32 := if fa_first p N < N then nI (fa_first p N % 8 + 10 * (fa_first p N / 8)) else -nI 1
theorem zfs_64 (p : Nat → Bool) : zfs p 64 = zfst p := rfl
theorem zfs_0 (p : Nat → Bool) : zfs p 0 = -nI 1 := rfl
theorem zfs_no {p : Nat → Bool} {N : Nat} (h : p N = false) : zfs p (N + 1) = zfs p N := by
  have hl := fa_first_le p N
  unfold zfs
  by_cases c : fa_first p N < N
  · have e : fa_first p (N + 1) = fa_first p N := by rw [fa_first, if_pos c]
    rw [e, if_pos c, if_pos (by omega)]
  · have e : fa_first p (N + 1) = N + 1 := by rw [fa_first, if_neg c, h]; rfl
    rw [e, if_neg c, if_neg (by omega)]
theorem zfs_nos {p : Nat → Bool} {N : Nat} : ∀ d, (∀ k, N ≤ k → k < N + d → p k = false) → zfs p (N + d) = zfs p N := by
  intro d
  induction d with
  | zero => intro _; rfl
  | succ d ih =>
    intro h
    rw [show N + (d + 1) = (N + d) + 1 by omega, zfs_no (h (N + d) (by omega) (by omega)), ih (fun k h1 h2 => h k h1 (by omega))]
theorem zfs_step {p : Nat → Bool} {N : Nat} (hN : N < 64) : zfs p (N + 1) = if nI 0 ≤ zfs p N then zfs p N else if p N then nI (N % 8 + 10 * (N / 8)) else zfs p N := by
  have hl := fa_first_le p N
  by_cases c : fa_first p N < N
  · have e : fa_first p (N + 1) = fa_first p N := by rw [fa_first, if_pos c]
    have e2 : zfs p N = nI (fa_first p N % 8 + 10 * (fa_first p N / 8)) := by unfold zfs; rw [if_pos c]
    rw [e2, if_pos (nI_le (Nat.zero_le _) (by omega))]
    unfold zfs
    rw [e, if_pos (by omega)]
  · have e2 : zfs p N = -nI 1 := by unfold zfs; rw [if_neg c]
    rw [e2, if_neg (m1_nge (by decide))]
    cases g : p N with
    | false => rw [zfs_no g, e2]; rfl
    | true =>
      have e : fa_first p (N + 1) = N := by rw [fa_first, if_neg c, g]; rfl
      unfold zfs
      rw [e, if_pos (by omega)]
      rfl
theorem zfst_cases (p : Nat → Bool) : (zfst p = -nI 1 ∧ ¬ fa_first p 64 < 64) ∨ ∃ c, c < 64 ∧ p c = true ∧ fa_first p 64 = c ∧ zfst p = nI (c % 8 + 10 * (c / 8)) := by
  unfold zfst
  by_cases c : fa_first p 64 < 64
  · rw [if_pos c]
    exact Or.inr ⟨_, c, fa_first_yes p 64 c, rfl, rfl⟩
  · rw [if_neg c]
    exact Or.inl ⟨rfl, c⟩
