/-! ===== kinds, rows, counts ===== -/
def kd (P wm pm c : Nat) : Nat := if c = P then 1 else if wm.testBit c then 2 else if pm.testBit c then 3 else 0
/-- cells of a row, as a mask -/
def mkk (p : Nat → Bool) : Nat → Nat
  | 0 => 0
  | x + 1 => mkk p x ||| (if p x then 2 ^ x else 0)
theorem mkk_bit (p : Nat → Bool) : ∀ n j, (mkk p n).testBit j = (decide (j < n) && p j) := by
  intro n
  induction n with
  | zero => intro j; rw [mkk, Nat.zero_testBit]; simp
  | succ n ih =>
    intro j
    rw [mkk, Nat.testBit_or, ih]
    by_cases c : j = n
    · subst c
      cases h : p j
      · simp [h, Nat.zero_testBit]
      · simp [h, pw_bit]
    · have h1 : (if p n = true then 2 ^ n else 0).testBit j = false := by
        split
        · rw [pw_bit]; simp [c]
        · exact Nat.zero_testBit j
      rw [h1, Bool.or_false]
      by_cases d : j < n
      · simp [d, show j < n + 1 by omega]
      · simp [d, show ¬ j < n + 1 by omega]
theorem mkk_lt (p : Nat → Bool) {n : Nat} (h : n ≤ 8) : mkk p n < 256 := by
  have : mkk p n < 2 ^ 8 := Nat.lt_pow_two_of_testBit _ (fun i hi => by rw [mkk_bit]; simp; omega)
  exact this
theorem mkk_row {p : Nat → Bool} {n m y : Nat} (h : ∀ x, x < 8 → m.testBit (8 * y + x) = (decide (x < n) && p x)) (hn : n ≤ 8) : m / 2 ^ (8 * y) % 256 = mkk p n := by
  apply Nat.eq_of_testBit_eq
  intro j
  rw [show (256 : Nat) = 2 ^ 8 from rfl, Nat.testBit_mod_two_pow, Nat.testBit_div_two_pow, mkk_bit]
  by_cases c : j < 8
  · rw [Nat.add_comm, h j c]; simp [c]
  · simp [c, show ¬ j < n by omega]
section CNTS
variable {W H P wm : Nat} {T : List TR} {fl rf : Int32} {g : GS} {μ : MS}
theorem kindE (hG : GR W H P wm T fl rf g) (hO : OK W H P wm T) {c : Nat} (hc : c < 64) : f_X1_kindOf g (lN (2 ^ c)) = some (nI (kd P wm (pv T) c)) := by
  have hP := OK_P hO
  have e1 : 2 ^ c &&& 2 ^ P = 0 ↔ ¬ c = P := by
    rw [fb_bit_nat, pw_bit]
    simp
    exact ⟨fun h z => h z.symm, fun h z => h z.symm⟩
  have e2 : ∀ m, 2 ^ c &&& m = 0 ↔ m.testBit c = false := fun m => by rw [Nat.and_comm, fb_bit_nat]
  unfold f_X1_kindOf
  simp only [LIT]
  rw [pondCellG hG hO, ob, hG.2.2.2.1, hG.2.2.2.2.1]
  simp only [cmpZ (pw_lt hc), e1, e2]
  unfold kd
  by_cases h : c = P
  · rw [if_neg (fun z => z h), if_pos h]
  · rw [if_pos h, if_neg h]
    cases wm.testBit c <;> cases (pv T).testBit c <;> rfl
theorem rowMaskE {m y : Nat} (hm : m < 2 ^ 64) (hy : y < 8) : f_X4_rowMask (lN m) (nI y) = some (nI (m / 2 ^ (8 * y) % 256)) := by
  unfold f_X4_rowMask
  simp only [LIT]
  rw [pk_mul, wb_shr hm (by omega), show (255 : Int64) = lN (2 ^ 8 - 1) from rfl, fb_maskL, lN_i]
theorem why0 (hG : GR W H P wm T fl rf g) (hO : OK W H P wm T) {x y t : Nat} (hx : x < 1000) (hy : y < 1000) (ht : t < 4) : ∃ r, r < 10 ∧ f_X1_whyRefused g (nI x) (nI y) (nI t) = some (nI r) ∧ (r = 0 ↔ lay' W H P wm (pv T) x y t = true) := by
  have hW := hO.2.1
  have hH := hO.2.2.2.1
  by_cases c : x + 2 ≤ W ∧ y + 2 ≤ H
  · have := wn_le P wm (pv T) x y t
    refine ⟨_, by omega, whyIn hG hO c.1 c.2 ht, ?_⟩
    rw [lay_wn c.1 c.2, beq_iff_eq]
  · refine ⟨1, by decide, whyOut hG hO (by rw [inB_nat hW hH hx hy]; exact c), ?_⟩
    constructor
    · intro z; exact absurd z (by decide)
    · intro z
      have := lay_in z
      omega
theorem layableE (hG : GR W H P wm T fl rf g) (hO : OK W H P wm T) : f_X1_layableTriples g = some (nI (fb_sm (fun y => fb_sm (fun x => fb_sm (fun t => bn (lay' W H P wm (pv T) x y t)) 4) W) H)) := by
  have hW := hO.2.1
  have hH := hO.2.2.2.1
  have l1 : ∀ N x y, x < 8 → y < 8 → f_X1_layableTriples_L25 g (nI x) (nI y) 4096 (nI N) (nI 0) = some (nI (N + fb_sm (fun t => bn (lay' W H P wm (pv T) x y t)) 4)) := fun N x y hx hy =>
    loopE (L := fun n j s => f_X1_layableTriples_L25 g (nI x) (nI y) n s j) (N := 4) (fun j => nI (N + fb_sm (fun t => bn (lay' W H P wm (pv T) x y t)) j)) (fun n => by
      simp (disch := omega) only [f_X1_layableTriples_L25, f_X1_layableTriples_L25_b, LIT, nI_leI, if_pos]) (fun n j hj => by
      simp only [f_X1_layableTriples_L25, f_X1_layableTriples_L25_b]
      simp only [LIT]
      obtain ⟨r, r1, r2, r3⟩ := why0 hG hO (show x < 1000 by omega) (show y < 1000 by omega) hj
      rw [if_neg (nI_ge hj (by decide)), r2, ob, fb_sm_succ]
      by_cases z : r = 0
      · rw [z, if_pos rfl, ob, jletE, jletE, nI_add, nI_add, r3.mp z]
        rfl
      · rw [if_neg (by rw [nI_eq (by omega) (by decide)]; exact z), ob, jletE, jletE, nI_add, nI_add, show lay' W H P wm (pv T) x y j = false by
          cases q : lay' W H P wm (pv T) x y j with
          | false => rfl
          | true => exact absurd (r3.mpr q) z]
        rfl) (k := 0) (n := 4096) (by omega) (by omega)
  have l2 : ∀ N y, y < 8 → f_X1_layableTriples_L14 g (nI y) 4096 (nI N) (nI 0) = some (nI (N + fb_sm (fun x => fb_sm (fun t => bn (lay' W H P wm (pv T) x y t)) 4) W)) := fun N y hy =>
    loopE (L := fun n j s => f_X1_layableTriples_L14 g (nI y) n s j) (N := W) (fun j => nI (N + fb_sm (fun x => fb_sm (fun t => bn (lay' W H P wm (pv T) x y t)) 4) j)) (fun n => by
      simp only [f_X1_layableTriples_L14, f_X1_layableTriples_L14_b]
      rw [hG.1, if_pos (nI_le (Nat.le_refl _) (by omega))]) (fun n j hj => by
      simp only [f_X1_layableTriples_L14, f_X1_layableTriples_L14_b]
      simp only [LIT]
      rw [hG.1, if_neg (nI_ge hj (by omega)), l1 _ j y (by omega) hy, ob, jletE, nI_add, Nat.add_assoc]
      rfl) (k := 0) (n := 4096) (by omega) (by omega)
  unfold f_X1_layableTriples
  rw [show f_X1_layableTriples_L4 g 4096 0 0 = some (nI (fb_sm (fun y => fb_sm (fun x => fb_sm (fun t => bn (lay' W H P wm (pv T) x y t)) 4) W) H)) from loopE (L := fun n j s => f_X1_layableTriples_L4 g n s j) (N := H) (fun j => nI (fb_sm (fun y => fb_sm (fun x => fb_sm (fun t => bn (lay' W H P wm (pv T) x y t)) 4) W) j)) (fun n => by
      simp only [f_X1_layableTriples_L4, f_X1_layableTriples_L4_b]
      rw [hG.2.1, if_pos (nI_le (Nat.le_refl _) (by omega))]) (fun n j hj => by
      simp only [f_X1_layableTriples_L4, f_X1_layableTriples_L4_b]
      simp only [LIT]
      rw [hG.2.1, if_neg (nI_ge hj (by omega)), l2 _ j (by omega), ob, jletE, nI_add]
      rfl) (k := 0) (n := 4096) (by omega) (by omega)]
  rfl
/-- the last column and the last row begin no block -/
theorem lay_cut {W H P wm pm : Nat} (hW2 : 2 ≤ W) (hH2 : 2 ≤ H) : fb_sm (fun y => fb_sm (fun x => fb_sm (fun t => bn (lay' W H P wm pm x y t)) 4) W) H = fb_sm (fun y => fb_sm (fun x => fb_sm (fun t => bn (lay' W H P wm pm x y t)) 4) (W - 1)) (H - 1) := by
  have h0 : ∀ x y, ¬ (x + 2 ≤ W ∧ y + 2 ≤ H) → fb_sm (fun t => bn (lay' W H P wm pm x y t)) 4 = 0 := fun x y h => by
    rw [← fb_sm_zeros 4]
    apply fb_sm_cong
    intro t _
    cases g : lay' W H P wm pm x y t with
    | false => rfl
    | true => have := lay_in g; omega
  have h1 : ∀ y, fb_sm (fun x => fb_sm (fun t => bn (lay' W H P wm pm x y t)) 4) W = fb_sm (fun x => fb_sm (fun t => bn (lay' W H P wm pm x y t)) 4) (W - 1) := fun y => by
    obtain ⟨w, rfl⟩ : ∃ w, W = w + 1 := ⟨W - 1, by omega⟩
    rw [fb_sm_succ (fun x => fb_sm (fun t => bn (lay' (w + 1) H P wm pm x y t)) 4), h0 w y (by omega)]
    rfl
  obtain ⟨h, rfl⟩ : ∃ h, H = h + 1 := ⟨H - 1, by omega⟩
  rw [fb_sm_succ (fun y => fb_sm (fun x => fb_sm (fun t => bn (lay' W (h + 1) P wm pm x y t)) 4) W)]
  have h2 : fb_sm (fun x => fb_sm (fun t => bn (lay' W (h + 1) P wm pm x h t)) 4) W = 0 := by
    rw [← fb_sm_zeros W]
    exact fb_sm_cong (fun x _ => h0 x h (by omega))
  rw [h2, Nat.add_zero]
  exact fb_sm_cong (fun y _ => h1 y)
theorem cells0 (hS : SR W H P wm T fl rf (m_s μ) 0) (hO : OK W H P wm T) {c : Nat} (hc : c < 64) : f_X5_cells μ (nI c) (nI 0) = some (nI (kd P wm (pv T) c)) := by
  have hP := OK_P hO
  have hT := OK_len hO
  obtain ⟨h0, h1, h2, h3, h4, -⟩ := hS
  have e2 : m_s μ 2 = nI P := h2
  have e3 := h3 c hc
  have e4 := h4 c hc
  rw [Nat.zero_add] at e3 e4
  unfold f_X5_cells
  simp only [LIT]
  rw [if_pos trivial, jldE (by decide) (by decide), ob, e2, nI_add, jldE (by omega) (by decide), e3, ob, nI_add, jldE (by omega) (by decide), e4, ob]
  simp only [owI_neg (show T.length < 1000 by omega) c, nI_eq (show c < 2 ^ 31 by omega) (show P < 2 ^ 31 by omega)]
  unfold kd
  by_cases h : c = P
  · rw [if_pos h, if_pos h]
  · rw [if_neg h, if_neg h]
    cases wm.testBit c <;> cases (pv T).testBit c <;> rfl
theorem cells1 (hS : SR W H P wm T fl rf (m_s μ) 0) {c : Nat} (hc : c < 64) : f_X5_cells μ (nI c) (nI 1) = some (owI T c) := by
  have e4 := hS.2.2.2.2.1 c hc
  rw [Nat.zero_add] at e4
  unfold f_X5_cells
  simp only [LIT]
  rw [if_neg (by rw [nI_eq (by decide) (by decide)]; decide), if_pos trivial, nI_add, jldE (by omega) (by decide), e4, ob]
theorem cells2 (hS : SR W H P wm T fl rf (m_s μ) 0) (hO : OK W H P wm T) {c : Nat} (hc : c < 64) : f_X5_cells μ (nI c) (nI 2) = some (nI (fb_ct (chz W H P wm (pv T) c) 16)) := by
  obtain ⟨l, h1, -⟩ := couldC hS hO hc
  unfold f_X5_cells
  simp only [LIT]
  rw [if_neg (by rw [nI_eq (by decide) (by decide)]; decide), if_neg (by rw [nI_eq (by decide) (by decide)]; decide), h1, ob]
  rfl
theorem maskE (hS : SR W H P wm T fl rf (m_s μ) 0) (hO : OK W H P wm T) {y w : Nat} (hy : y < H) (hw : w < 3) : f_X5_mask μ (nI y) (nI w) = some (nI (mkk (fun x => kd P wm (pv T) (8 * y + x) == if w = 0 then 0 else w + 1) W)) := by
  have hW := hO.2.1
  have hH := hO.2.2.2.1
  have hS0 : m_s μ 0 = nI W := hS.1
  unfold f_X5_mask
  have ho : (if nI w = (0 : Int32) then some (0 : Int32) else some (nI w + (1 : Int32))) = some (nI (if w = 0 then 0 else w + 1)) := by
    simp only [LIT]
    by_cases z : w = 0
    · subst z; rfl
    · rw [if_neg (by rw [nI_eq (by omega) (by decide)]; exact z), if_neg z, nI_add]
  rw [ho, ob]
  have hk : (if w = 0 then 0 else w + 1) < 100 := by split <;> omega
  generalize (if w = 0 then 0 else w + 1) = k at *
  rw [show f_X5_mask_L18 (nI y) μ (nI k) 4096 0 0 = some (nI (mkk (fun x => kd P wm (pv T) (8 * y + x) == k) W)) from loopE (L := fun n j s => f_X5_mask_L18 (nI y) μ (nI k) n s j) (N := W) (fun j => nI (mkk (fun x => kd P wm (pv T) (8 * y + x) == k) j)) (fun n => by
      simp only [f_X5_mask_L18, f_X5_mask_L18_b]
      simp only [LIT]
      rw [jldE (by decide) (by decide), ob, hS0, if_pos (nI_le (Nat.le_refl _) (by omega))]) (fun n j hj => by
      simp only [f_X5_mask_L18, f_X5_mask_L18_b]
      simp only [LIT]
      have hkd : kd P wm (pv T) (8 * y + j) < 100 := by unfold kd; split <;> (try split) <;> (try split) <;> omega
      rw [jldE (by decide) (by decide), ob, hS0, if_neg (nI_ge hj (by omega)), pk_mul, nI_add, cells0 hS hO (by omega), ob]
      have hsh : nI 1 <<< (nI j &&& 31) = nI (2 ^ j) := by
        have h2 : (2 : Nat) ^ j < 2 ^ 9 := Nat.pow_lt_pow_right (by decide) (by omega)
        have := shlE (n := 1) (k := j) (by omega) (by omega)
        rwa [Nat.one_mul] at this
      have hif : (if nI (kd P wm (pv T) (8 * y + j)) = nI k then some (nI 1 <<< (nI j &&& 31)) else some (nI 0)) = some (nI (if (kd P wm (pv T) (8 * y + j) == k) then 2 ^ j else 0)) := by
        rw [hsh]
        by_cases z : kd P wm (pv T) (8 * y + j) = k
        · rw [if_pos (by rw [z]), if_pos (by simpa using z)]
        · rw [if_neg (by rw [nI_eq (by omega) (by omega)]; exact z), if_neg (by simpa using z)]
      rw [hif, ob, jletE, fa_or, jletE, nI_add]
      rfl) (k := 0) (n := 4096) (by omega) (by omega)]
  rfl
def rset (W H P wm pm w : Nat) : Nat := if w = 0 then fm W H P wm pm else if w = 1 then wm else pm
theorem pv_grid (hO : OK W H P wm T) {j : Nat} (h : (pv T).testBit j = true) : j % 8 < W ∧ j / 8 < H ∧ j < 64 := by
  have hW := hO.2.1
  have hH := hO.2.2.2.1
  have key : ∀ T : List TR, TO W H P wm T → (pv T).testBit j = true → j % 8 < W ∧ j / 8 < H ∧ j < 64 := by
    intro T
    induction T with
    | nil => intro _ h; rw [pv, Nat.zero_testBit] at h; cases h
    | cons q T ih =>
      rintro ⟨h1, h2⟩ h
      rw [pv, Nat.testBit_or, Bool.or_eq_true] at h
      rcases h with h | h
      · have hj : j < 64 := by
          by_cases c : j < 64
          · exact c
          · unfold qm at h
            rw [big_bit (tm_lt _ (by omega) _ (by omega) _ h1.2.2.1) (by omega)] at h
            cases h
        have := tm_near (show q.1 < 7 by omega) (show q.2.1 < 7 by omega) h1.2.2.1 hj h
        omega
      · exact ih h2 h
  exact key T hO.2.2.2.2.2.2.2.2 h
theorem rowSame (hO : OK W H P wm T) {y w : Nat} (hy : y < H) (hw : w < 3) : rset W H P wm (pv T) w / 2 ^ (8 * y) % 256 = mkk (fun x => kd P wm (pv T) (8 * y + x) == if w = 0 then 0 else w + 1) W := by
  have hW := hO.2.1
  have hH := hO.2.2.2.1
  obtain ⟨p1, p2, p3, -⟩ := OK_pv hO
  apply mkk_row _ hW
  intro x hx
  have q2 := (andz _ _).mp p2 (8 * y + x)
  have q3 := (andz _ _).mp p3 (8 * y + x)
  rw [pw_bit] at q3
  have q4 := hO.2.2.2.2.2.2.2.1 (8 * y + x)
  have q5 := pv_grid hO (j := 8 * y + x)
  have e1 : (8 * y + x) % 8 = x := by omega
  have e2 : (8 * y + x) / 8 = y := by omega
  rw [e1, e2] at q4 q5
  unfold rset kd
  rcases (show w = 0 ∨ w = 1 ∨ w = 2 by omega) with rfl | rfl | rfl
  · rw [if_pos rfl, fm_bit hW hH (by omega), e1, e2]
    by_cases c : 8 * y + x = P
    · simp [c]
    · by_cases d : x < W
      · cases g1 : wm.testBit (8 * y + x) <;> cases g2 : (pv T).testBit (8 * y + x) <;> simp [c, d, hy]
      · simp [d]
  · rw [if_neg (by decide), if_pos rfl]
    by_cases c : 8 * y + x = P
    · cases g1 : wm.testBit (8 * y + x) with
      | false => simp [c]
      | true => exact absurd c (q4 g1).2.2
    · cases g1 : wm.testBit (8 * y + x) with
      | false => cases g2 : (pv T).testBit (8 * y + x) <;> simp [c]
      | true => have := q4 g1; simp [c, this.1]
  · rw [if_neg (by decide), if_neg (by decide)]
    cases g2 : (pv T).testBit (8 * y + x) with
    | false =>
      by_cases c : 8 * y + x = P
      · simp [c]
      · cases g1 : wm.testBit (8 * y + x) <;> simp [c]
    | true =>
      rw [g2] at q2 q3
      have := q5 g2
      have c : ¬ 8 * y + x = P := by simpa using q3
      have g1 : wm.testBit (8 * y + x) = false := by simpa using q2
      simp [c, g1, this.1]
theorem wallsE (hS : SR W H P wm T fl rf (m_s μ) 0) : f_X5_walls μ = some (nI (pc wm)) := by
  unfold f_X5_walls
  rw [show f_X5_walls_L4 μ 4096 0 0 = some (nI (pc wm)) from loopE (L := fun n j s => f_X5_walls_L4 μ n s j) (N := 64) (fun j => nI (fb_ct wm.testBit j)) (fun n => by
    simp (disch := omega) only [f_X5_walls_L4, f_X5_walls_L4_b, LIT, nI_leI, if_pos]
    rfl) (fun n j hj => by
    simp only [f_X5_walls_L4, f_X5_walls_L4_b]
    simp only [LIT]
    have e3 := hS.2.2.2.1 j hj
    rw [Nat.zero_add] at e3
    rw [if_neg (nI_ge hj (by decide)), nI_add, jldE (by omega) (by decide), ob, e3, jletE, jletE, nI_add, nI_add]
    rfl) (k := 0) (n := 4096) (by omega) (by omega)]
  rfl
theorem freeE (hS : SR W H P wm T fl rf (m_s μ) 0) (hO : OK W H P wm T) : f_X5_free μ = some (nI (pc (fm W H P wm (pv T)))) := by
  have hW2 := hO.1
  have hW := hO.2.1
  have hH2 := hO.2.2.1
  have hH := hO.2.2.2.1
  have hT := OK_len hO
  have hS0 : m_s μ 0 = nI W := hS.1
  have hS1 : m_s μ 1 = nI H := hS.2.1
  unfold f_X5_free
  rw [show f_X5_free_L4 μ 4096 0 0 = some (nI (pc (fm W H P wm (pv T)))) from loopE (L := fun n j s => f_X5_free_L4 μ n s j) (N := 64) (fun j => nI (fb_ct (fm W H P wm (pv T)).testBit j)) (fun n => by
    simp (disch := omega) only [f_X5_free_L4, f_X5_free_L4_b, LIT, nI_leI, if_pos]
    rfl) (fun n j hj => by
    simp only [f_X5_free_L4, f_X5_free_L4_b]
    simp only [LIT]
    rw [if_neg (nI_ge hj (by decide)), pk_rem (by omega) (by decide) (by decide), pk_div (by omega) (by decide) (by decide)]
    have hin : f_X5_isIn μ (nI (j % 8)) (nI (j / 8)) = some (nI (bn (decide (j % 8 < W) && decide (j / 8 < H)))) := by
      unfold f_X5_isIn
      simp only [LIT]
      rw [jldE (by decide) (by decide), ob, hS0, pk_sub (by omega), inE (by omega) (by decide) (by omega), ob]
      by_cases c : j % 8 < W
      · rw [if_pos (⟨Nat.zero_le _, by omega⟩ : 0 ≤ j % 8 ∧ j % 8 ≤ W - 1), if_neg (by rw [nI_eq (by decide) (by decide)]; decide), jldE (by decide) (by decide), ob, hS1, pk_sub (by omega), inE (by omega) (by decide) (by omega), ob]
        by_cases d : j / 8 < H
        · rw [if_pos (⟨Nat.zero_le _, by omega⟩ : 0 ≤ j / 8 ∧ j / 8 ≤ H - 1), if_neg (by rw [nI_eq (by decide) (by decide)]; decide)]
          simp [c, d, bn]
        · rw [if_neg (show ¬ (0 ≤ j / 8 ∧ j / 8 ≤ H - 1) by omega), if_pos rfl]
          simp [c, d, bn]
      · rw [if_neg (show ¬ (0 ≤ j % 8 ∧ j % 8 ≤ W - 1) by omega), if_pos rfl]
        simp [c, bn]
    rw [hin, ob, bn_if, fb_ct_succ, fm_bit hW hH hj]
    by_cases c : (decide (j % 8 < W) && decide (j / 8 < H)) = true
    · rw [if_pos c]
      have c2 : j % 8 < W ∧ j / 8 < H := by simpa using c
      have hf := isFreeG hS (by omega) (by decide) (OK_P hO) hW hH c2.1 c2.2
      rw [show 8 * (j / 8) + j % 8 = j by omega] at hf
      rw [show f_X5_isFree μ (nI 0) (nI j) = _ from hf, ob, show (if (fm W H P wm (pv T)).testBit j = true then 1 else 0) = bn ((fm W H P wm (pv T)).testBit j) from rfl, bn_if, ← fm_bit hW hH hj]
      cases (fm W H P wm (pv T)).testBit j
      · simp [ob, jletE, nI_add]
      · simp [ob, jletE, nI_add]
    · rw [if_neg c, show (decide (j % 8 < W) && decide (j / 8 < H)) = false by simpa using c]
      simp [ob, jletE, nI_add]) (k := 0) (n := 4096) (by omega) (by omega)]
  rfl
end CNTS
