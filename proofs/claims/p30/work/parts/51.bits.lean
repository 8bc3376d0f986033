/-! ===== evaluating: literals, arrays, loops ===== -/
theorem ob {α β : Type} (a : α) (f : α → Option β) : Option.bind (some a) f = f a := rfl
theorem jletE {α β : Type} (e : α) (f : α → β) : jlet e f = f e := rfl
theorem LIT : (0 : Int32) = nI 0 ∧ (1 : Int32) = nI 1 ∧ (2 : Int32) = nI 2 ∧ (3 : Int32) = nI 3 ∧ (4 : Int32) = nI 4 ∧ (5 : Int32) = nI 5 ∧ (6 : Int32) = nI 6 ∧ (7 : Int32) = nI 7 ∧ (8 : Int32) = nI 8 ∧ (9 : Int32) = nI 9 ∧ (10 : Int32) = nI 10 ∧ (11 : Int32) = nI 11 ∧ (12 : Int32) = nI 12 ∧ (16 : Int32) = nI 16 ∧ (21 : Int32) = nI 21 ∧ (32 : Int32) = nI 32 ∧ (33 : Int32) = nI 33 ∧ (35 : Int32) = nI 35 ∧ (46 : Int32) = nI 46 ∧ (47 : Int32) = nI 47 ∧ (64 : Int32) = nI 64 ∧ (67 : Int32) = nI 67 ∧ (71 : Int32) = nI 71 ∧ (100 : Int32) = nI 100 ∧ (111 : Int32) = nI 111 ∧ (126 : Int32) = nI 126 ∧ (131 : Int32) = nI 131 ∧ (132 : Int32) = nI 132 ∧ (195 : Int32) = nI 195 ∧ (196 : Int32) = nI 196 ∧ (197 : Int32) = nI 197 ∧ (511 : Int32) = nI 511 ∧ (512 : Int32) = nI 512 ∧ (1024 : Int32) = nI 1024 ∧ (1773 : Int32) = nI 1773 ∧ (1775 : Int32) = nI 1775 ∧ (256 : Int32) = nI 256 ∧ (65536 : Int32) = nI 65536 ∧ (127 : Int32) = nI 127 := by
  refine ⟨rfl, rfl, rfl, rfl, rfl, rfl, rfl, rfl, rfl, rfl, rfl, rfl, rfl, rfl, rfl, rfl, rfl, rfl, rfl, rfl, rfl, rfl, rfl, rfl, rfl, rfl, rfl, rfl, rfl, rfl, rfl, rfl, rfl, rfl, rfl, rfl, rfl, rfl, rfl⟩
theorem jldE {α : Type} {N : Nat} {f : Nat → α} {i : Nat} (h : i < N) (hN : N < 2 ^ 31) : jld N f (nI i) = some (f i) := by
  unfold jld
  rw [if_neg (nI_in h hN), nI_clamp (by omega)]
theorem jstE {α : Type} {N : Nat} {f : Nat → α} {i : Nat} {x : α} (h : i < N) (hN : N < 2 ^ 31) : jst N f (nI i) x = some (va_up f i x) := by
  unfold jst
  rw [if_neg (nI_in h hN), nI_clamp (by omega)]
theorem jixE {N : Nat} {i : Nat} (h : i < N) (hN : N < 2 ^ 31) : jix N (nI i) = some i := by
  unfold jix
  rw [if_neg (nI_in h hN), nI_clamp (by omega)]
theorem up_eq {α : Type} (f : Nat → α) (k : Nat) (v : α) (j : Nat) : va_up f k v j = if j = k then v else f j := rfl
theorem up_s {α : Type} {f : Nat → α} {k : Nat} {v : α} : va_up f k v k = v := if_pos rfl
theorem up_n {α : Type} {f : Nat → α} {k j : Nat} {v : α} (h : j ≠ k) : va_up f k v j = f j := if_neg h
theorem loopQ {S R : Type} {L : Nat → Int32 → S → Option R} {N : Nat} {I : Nat → S → Prop} {Q : R → Prop}
    (h : ∀ n k s, k ≤ N → I k s → (∃ r, L (n + 1) (nI k) s = some r ∧ Q r) ∨ (k < N ∧ ∃ s', I (k + 1) s' ∧ L (n + 1) (nI k) s = L n (nI (k + 1)) s')) :
    ∀ d n k s, k + d = N → d < n → I k s → ∃ r, L n (nI k) s = some r ∧ Q r := by
  intro d
  induction d with
  | zero =>
    intro n k s hk hn hI
    obtain ⟨n, rfl⟩ : ∃ n', n = n' + 1 := ⟨n - 1, by omega⟩
    rcases h n k s (by omega) hI with h1 | ⟨h1, _⟩
    · exact h1
    · omega
  | succ d ih =>
    intro n k s hk hn hI
    obtain ⟨n, rfl⟩ : ∃ n', n = n' + 1 := ⟨n - 1, by omega⟩
    rcases h n k s (by omega) hI with h1 | ⟨_, s', h2, h3⟩
    · exact h1
    · rw [h3]
      exact ih n (k + 1) s' (by omega) (by omega) h2
theorem loopE {S R : Type} {L : Nat → Int32 → S → Option R} {N : Nat} (g : Nat → S) {r : R}
    (h1 : ∀ n, L (n + 1) (nI N) (g N) = some r) (h2 : ∀ n k, k < N → L (n + 1) (nI k) (g k) = L n (nI (k + 1)) (g (k + 1))) {k n : Nat} (hk : k ≤ N) (hn : N - k < n) : L n (nI k) (g k) = some r := by
  obtain ⟨x, h3, rfl⟩ := loopQ (L := L) (N := N) (I := fun k s => s = g k) (Q := fun x => x = r) (fun n k s hk hs => by
    subst hs
    by_cases c : k = N
    · subst c; exact Or.inl ⟨r, h1 n, rfl⟩
    · exact Or.inr ⟨by omega, _, rfl, h2 n k (by omega)⟩) (N - k) n k (g k) (by omega) hn rfl
  exact h3
/-! shifts of ints; what is below 0 -/
theorem sl_ : ∀ n, n < 32 → ((nI n &&& 31).toBitVec.smod 32).toNat = n := by decide +kernel
theorem su_ : ∀ n, n < 32 → (((nI n).toUInt32 &&& Int32.toUInt32 31).toBitVec % 32).toNat = n := by decide +kernel
theorem shlE {n k : Nat} (hk : k < 32) (h : n * 2 ^ k < 2 ^ 32) : nI n <<< (nI k &&& 31) = nI (n * 2 ^ k) := pk_shlN _ k (sl_ k hk) h
theorem shrE {n k : Nat} (hn : n < 2 ^ 31) (hk : k < 32) : nI n >>> (nI k &&& 31) = nI (n / 2 ^ k) := pk_shrN hn _ k (sl_ k hk)
theorem ushrE {n k : Nat} (hn : n < 2 ^ 32) (hk : k < 32) : ((nI n).toUInt32 >>> ((nI k).toUInt32 &&& Int32.toUInt32 31)).toInt32 = nI (n / 2 ^ k) := pk_ushrN hn (nI k) k (su_ k hk)
theorem m1_toInt : (-nI 1).toInt = -1 := by decide +kernel
theorem m1_lt {a : Nat} (h : a < 2 ^ 31) : -nI 1 < nI a := Int32.lt_iff_toInt_lt.mpr (by rw [m1_toInt, nI_toInt h]; omega)
theorem m1_nge {a : Nat} (h : a < 2 ^ 31) : ¬ nI a ≤ -nI 1 := fun z => by
  have := Int32.le_iff_toInt_le.mp z
  rw [m1_toInt, nI_toInt h] at this
  omega
theorem m1_ngt {a : Nat} (h : a < 2 ^ 31) : ¬ nI a < -nI 1 := fun z => by
  have := Int32.lt_iff_toInt_lt.mp z
  rw [m1_toInt, nI_toInt h] at this
  omega
theorem m1_ne {a : Nat} (h : a < 2 ^ 31) : ¬ nI a = -nI 1 := fun z => by
  have := congrArg Int32.toInt z
  rw [m1_toInt, nI_toInt h] at this
  omega
theorem m1_ne' {a : Nat} (h : a < 2 ^ 31) : ¬ -nI 1 = nI a := fun z => m1_ne h z.symm
/-! ===== sets of places as numbers ===== -/
theorem andz (a b : Nat) : a &&& b = 0 ↔ ∀ j, (a.testBit j && b.testBit j) = false := by
  constructor
  · intro h j
    rw [← Nat.testBit_and, h, Nat.zero_testBit]
  · intro h
    apply Nat.eq_of_testBit_eq
    intro j
    rw [Nat.testBit_and, h j, Nat.zero_testBit]
theorem lN_inj64 {a b : Nat} (ha : a < 2 ^ 64) (hb : b < 2 ^ 64) : lN a = lN b ↔ a = b := by
  constructor
  · intro h
    have h1 : (lN a).toBitVec.toNat = (lN b).toBitVec.toNat := by rw [h]
    rwa [wb_tn ha, wb_tn hb] at h1
  · rintro rfl; rfl
theorem cmpE {a b : Nat} (ha : a < 2 ^ 64) (hb : b < 2 ^ 64) : lg_cmp (lN a) (lN b) = nI 0 ↔ a = b := by
  rw [nI_0, lg_cmp_eq, lN_inj64 ha hb]
theorem cmpZ {a b : Nat} (ha : a < 2 ^ 64) : lg_cmp (lN a &&& lN b) (0 : Int64) = nI 0 ↔ a &&& b = 0 := by
  rw [fb_andL]
  exact cmpE (b := 0) (Nat.lt_of_le_of_lt Nat.and_le_left ha) (by decide)
theorem cmpZ' {a b : Nat} (hb : b < 2 ^ 64) : lg_cmp (lN a &&& lN b) (0 : Int64) = nI 0 ↔ a &&& b = 0 := by
  rw [fb_andL]
  exact cmpE (b := 0) (Nat.lt_of_le_of_lt Nat.and_le_right hb) (by decide)
theorem cmp0 {a : Nat} (ha : a < 2 ^ 64) : lg_cmp (lN a) (0 : Int64) = nI 0 ↔ a = 0 := cmpE (b := 0) ha (by decide)
theorem oneL {k : Nat} (hk : k < 64) : (1 : Int64) <<< ((nI k).toInt64 &&& 63) = lN (2 ^ k) := by
  have h := wb_shl 1 hk
  rw [Nat.one_mul] at h
  exact h
theorem subL {a : Nat} (h : 1 ≤ a) : lN a - (1 : Int64) = lN (a - 1) := lN_sub h
theorem xorM (a : Nat) : lN a ^^^ (-1 : Int64) = lN (a ^^^ (2 ^ 64 - 1)) := by
  rw [show (-1 : Int64) = lN (2 ^ 64 - 1) by decide +kernel, fb_xorL]
theorem not_bit (a : Nat) {j : Nat} (hj : j < 64) : (a ^^^ (2 ^ 64 - 1)).testBit j = !a.testBit j := by
  rw [Nat.testBit_xor, Nat.testBit_two_pow_sub_one]
  simp [hj]
theorem not_lt {a : Nat} (ha : a < 2 ^ 64) : a ^^^ (2 ^ 64 - 1) < 2 ^ 64 := Nat.xor_lt_two_pow ha (by decide)
theorem big_bit {a : Nat} (ha : a < 2 ^ 64) {j : Nat} (hj : 64 ≤ j) : a.testBit j = false := Nat.testBit_lt_two_pow (Nat.lt_of_lt_of_le ha (Nat.pow_le_pow_right (by decide) hj))
theorem ext64 {a b : Nat} (ha : a < 2 ^ 64) (hb : b < 2 ^ 64) (h : ∀ j, j < 64 → a.testBit j = b.testBit j) : a = b := by
  apply Nat.eq_of_testBit_eq
  intro j
  by_cases c : j < 64
  · exact h j c
  · rw [big_bit ha (by omega), big_bit hb (by omega)]
theorem pw_bit (k j : Nat) : (2 ^ k).testBit j = decide (j = k) := by
  rw [Nat.testBit_two_pow]
  by_cases c : k = j
  · subst c; simp
  · simp [c, show ¬ j = k from fun e => c e.symm]
theorem pw_lt {k : Nat} (h : k < 64) : 2 ^ k < 2 ^ 64 := Nat.pow_lt_pow_right (by decide) h
def sh (t : Nat) : Nat := if t = 0 then 0x302 else if t = 1 then 0x301 else if t = 2 then 0x103 else 0x203
/-- the cells of a triple, as a set -/
def tm (x y t : Nat) : Nat := sh t * 2 ^ (8 * y + x)
/-- a cell of a block -/
def cb (x y k : Nat) : Nat := 8 * (y + k / 2) + x + (if k = 1 ∨ k = 2 then 1 else 0)
theorem cb_lt {x y k : Nat} (hx : x < 7) (hy : y < 7) (hk : k < 4) : cb x y k < 64 := by
  unfold cb
  have : k / 2 ≤ 1 := by omega
  split <;> omega
theorem cb_v (x y : Nat) : cb x y 0 = 8 * y + x ∧ cb x y 1 = 8 * y + x + 1 ∧ cb x y 2 = 8 * y + x + 9 ∧ cb x y 3 = 8 * y + x + 8 := by
  simp only [cb]
  refine ⟨?_, ?_, ?_, ?_⟩ <;> simp <;> omega
theorem tm_lt : ∀ x, x < 7 → ∀ y, y < 7 → ∀ t, t < 4 → tm x y t < 2 ^ 64 := by decide +kernel
theorem tm_bit : ∀ x, x < 7 → ∀ y, y < 7 → ∀ t, t < 4 → ∀ j, j < 64 → (tm x y t).testBit j = ((t != 0 && j == cb x y 0) || (t != 1 && j == cb x y 1) || (t != 2 && j == cb x y 2) || (t != 3 && j == cb x y 3)) := by decide +kernel
def hit (m x y t : Nat) : Bool := (t != 0 && m.testBit (cb x y 0)) || (t != 1 && m.testBit (cb x y 1)) || (t != 2 && m.testBit (cb x y 2)) || (t != 3 && m.testBit (cb x y 3))
theorem tm_hit {x y t : Nat} (hx : x < 7) (hy : y < 7) (ht : t < 4) (m : Nat) : tm x y t &&& m = 0 ↔ hit m x y t = false := by
  rw [andz]
  obtain ⟨c0, c1, c2, c3⟩ := cb_v x y
  constructor
  · intro h
    have h0 := h (cb x y 0)
    have h1 := h (cb x y 1)
    have h2 := h (cb x y 2)
    have h3 := h (cb x y 3)
    rw [tm_bit x hx y hy t ht _ (cb_lt hx hy (by decide))] at h0 h1 h2 h3
    unfold hit
    simp only [c0, c1, c2, c3] at h0 h1 h2 h3 ⊢
    rcases (show t = 0 ∨ t = 1 ∨ t = 2 ∨ t = 3 by omega) with rfl | rfl | rfl | rfl <;> simp at h0 h1 h2 h3 ⊢ <;> simp [h0, h1, h2, h3]
  · intro h j
    by_cases hj : j < 64
    · rw [tm_bit x hx y hy t ht j hj]
      unfold hit at h
      by_cases e0 : j = cb x y 0
      · subst e0; cases g : m.testBit (cb x y 0) <;> simp_all [cb_v]
      by_cases e1 : j = cb x y 1
      · subst e1; cases g : m.testBit (cb x y 1) <;> simp_all [cb_v]
      by_cases e2 : j = cb x y 2
      · subst e2; cases g : m.testBit (cb x y 2) <;> simp_all [cb_v]
      by_cases e3 : j = cb x y 3
      · subst e3; cases g : m.testBit (cb x y 3) <;> simp_all [cb_v]
      simp [e0, e1, e2, e3]
    · rw [big_bit (tm_lt x hx y hy t ht) (by omega), Bool.false_and]
theorem shpE : ∀ t, t < 4 → shp t = lN (sh t) := by decide +kernel
theorem cellsOfE {x y t : Nat} (hx : x < 7) (hy : y < 7) (ht : t < 4) : f_X4_cellsOf (nI x) (nI y) (nI t) = some (lN (tm x y t)) := by
  unfold f_X4_cellsOf
  simp (disch := omega) only [LIT, nI_ltI, if_neg, if_pos, jldE, ob, pk_mul, nI_add]
  rw [shpE t ht, wb_shl _ (by omega)]
  rfl
/-- the cells of a block -/
def blk (x y w : Nat) : Nat → Nat
  | 0 => 0
  | h + 1 => blk x y w h ||| ((2 ^ w - 1) * 2 ^ (8 * (y + h) + x))
theorem blockCellsE {x y w h : Nat} (hx8 : x < 8) (hx : x + w ≤ 8) (hy : y + h ≤ 8) : f_X1_blockCells (nI x) (nI y) (nI w) (nI h) = some (lN (blk x y w h)) := by
  unfold f_X1_blockCells
  rw [show f_X1_blockCells_L6 (nI x) (nI y) (nI w) (nI h) 4096 0 0 = some (lN (blk x y w h)) from loopE (L := fun n k s => f_X1_blockCells_L6 (nI x) (nI y) (nI w) (nI h) n s k) (N := h) (fun k => lN (blk x y w k)) (fun n => by
    simp only [f_X1_blockCells_L6, f_X1_blockCells_L6_b]
    rw [if_pos (nI_le (by omega) (by omega))]) (fun n k hk => by
    have h1 := Nat.one_le_two_pow (n := w)
    simp only [f_X1_blockCells_L6, f_X1_blockCells_L6_b]
    rw [if_neg (nI_ge (by omega) (by omega))]
    simp only [f_X4_placeOf, ob, jletE, LIT, nI_add, pk_mul]
    rw [show (1 : Int64) <<< ((nI w).toInt64 &&& 63) = lN (2 ^ w) from oneL (by omega), subL h1, wb_shl _ (by omega), fb_orL]
    rfl) (k := 0) (n := 4096) (by omega) (by omega)]
  rfl
theorem grid_bit : ∀ w, w < 9 → ∀ h, h < 9 → ∀ j, j < 64 → (blk 0 0 w h).testBit j = (decide (j % 8 < w) && decide (j / 8 < h)) := by decide +kernel
theorem grid_lt : ∀ w, w < 9 → ∀ h, h < 9 → blk 0 0 w h < 2 ^ 64 := by decide +kernel
/-- the free cells -/
def fm (W H P wm pm : Nat) : Nat := blk 0 0 W H &&& ((wm ||| pm ||| 2 ^ P) ^^^ (2 ^ 64 - 1))
theorem fm_lt {W H P wm pm : Nat} (hW : W ≤ 8) (hH : H ≤ 8) : fm W H P wm pm < 2 ^ 64 := Nat.lt_of_le_of_lt Nat.and_le_left (grid_lt W (by omega) H (by omega))
theorem fm_bit {W H P wm pm j : Nat} (hW : W ≤ 8) (hH : H ≤ 8) (hj : j < 64) : (fm W H P wm pm).testBit j = (decide (j % 8 < W) && decide (j / 8 < H) && !wm.testBit j && !pm.testBit j && !decide (j = P)) := by
  unfold fm
  rw [Nat.testBit_and, grid_bit W (by omega) H (by omega) j hj, not_bit _ hj, Nat.testBit_or, Nat.testBit_or, pw_bit]
  cases decide (j % 8 < W) <;> cases decide (j / 8 < H) <;> cases wm.testBit j <;> cases pm.testBit j <;> cases decide (j = P) <;> rfl
theorem pondCellE {W H P fl rf tc : Int32} {p : Nat} {wm pm : Int64} {nm : Nat → Int32} (hP : P = nI p) (h : p < 64) : f_X1_pondCell (W, H, P, wm, pm, tc, fl, rf, nm) = some (lN (2 ^ p)) := by
  subst hP
  show some ((1 : Int64) <<< ((nI p).toInt64 &&& 63)) = _
  rw [oneL h]
theorem freeCellsE {W H P wm pm : Nat} {tc fl rf : Int32} {nm : Nat → Int32} (hW : W ≤ 8) (hH : H ≤ 8) (hP : P < 64) : f_X1_freeCells (nI W, nI H, nI P, lN wm, lN pm, tc, fl, rf, nm) = some (lN (fm W H P wm pm)) := by
  unfold f_X1_freeCells
  rw [show (0 : Int32) = nI 0 from rfl, blockCellsE (by omega) (by omega) (by omega), ob, pondCellE rfl hP, ob, fb_orL, fb_orL, xorM, fb_andL]
  rfl
theorem holdsE {m k : Nat} (hm : m < 2 ^ 64) (hk : k < 64) : f_X4_holds (lN m) (nI k) = some (nI (if m.testBit k then 1 else 0)) := by
  unfold f_X4_holds
  rw [wb_bit hm hk]
  have h2 : m / 2 ^ k % 2 < 2 := Nat.mod_lt _ (by decide)
  have h3 := Nat.testBit_eq_decide_div_mod_eq (x := m) (i := k)
  have h4 := cmp0 (a := m / 2 ^ k % 2) (by omega)
  rw [nI_0] at h4
  by_cases c : m / 2 ^ k % 2 = 0
  · rw [if_pos (h4.mpr c), h3, if_neg (by simp [c])]
    rfl
  · rw [if_neg (fun z => c (h4.mp z)), h3, if_pos (by simp; omega)]
    rfl
theorem cellAtE {x y : Nat} (h : 8 * y + x < 64) : f_X4_cellAt (nI x) (nI y) = some (lN (2 ^ (8 * y + x))) := by
  simp only [f_X4_cellAt, f_X4_placeOf, ob, LIT, pk_mul, nI_add]
  rw [oneL h]
theorem placeOfE (x y : Nat) : f_X4_placeOf (nI x) (nI y) = some (nI (8 * y + x)) := by
  simp only [f_X4_placeOf, LIT, pk_mul, nI_add]
