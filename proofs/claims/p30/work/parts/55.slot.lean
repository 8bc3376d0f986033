/-! ===== a garden, as the reference holds it: a slot ===== -/
abbrev TR : Type := Nat × Nat × Nat
def qm (q : TR) : Nat := tm q.1 q.2.1 q.2.2
/-- the paved cells -/
def pv : List TR → Nat
  | [] => 0
  | q :: T => qm q ||| pv T
/-- which triple covers a cell -/
def ow : List TR → Nat → Nat
  | [], _ => 0
  | q :: T, k => if (qm q).testBit k then 0 else ow T k + 1
def owI (T : List TR) (k : Nat) : Int32 := if (pv T).testBit k then nI (ow T k) else -nI 1
theorem ow_lt : ∀ {T : List TR} {k : Nat}, (pv T).testBit k = true → ow T k < T.length := by
  intro T
  induction T with
  | nil => intro k h; rw [pv, Nat.zero_testBit] at h; cases h
  | cons q T ih =>
    intro k h
    rw [pv, Nat.testBit_or, Bool.or_eq_true] at h
    rw [ow]
    split
    · exact Nat.succ_pos _
    · rcases h with h | h
      · contradiction
      · exact Nat.succ_lt_succ (ih h)
def SR (W H P wm : Nat) (T : List TR) (fl rf : Int32) (s : Nat → Int32) (b : Nat) : Prop :=
  s b = nI W ∧ s (b + 1) = nI H ∧ s (b + 2) = nI P ∧ (∀ k, k < 64 → s (b + 3 + k) = nI (if wm.testBit k then 1 else 0)) ∧ (∀ k, k < 64 → s (b + 67 + k) = owI T k) ∧ s (b + 131) = nI T.length ∧ (∀ i q, T[i]? = some q → s (b + 132 + 3 * i) = nI q.1 ∧ s (b + 132 + 3 * i + 1) = nI q.2.1 ∧ s (b + 132 + 3 * i + 2) = nI q.2.2) ∧ s (b + 195) = fl ∧ s (b + 196) = rf
theorem owI_neg {T : List TR} (hT : T.length < 1000) (k : Nat) : owI T k < nI 0 ↔ (pv T).testBit k = false := by
  unfold owI
  cases h : (pv T).testBit k with
  | true =>
    have := ow_lt h
    simp only [if_true]
    rw [nI_ltI (by omega) (by decide)]
    simp
  | false =>
    simp only [Bool.false_eq_true, if_false]
    exact ⟨fun _ => trivial, fun _ => m1_lt (by decide)⟩
theorem le_not_lt (a b : Int32) : a ≤ b ↔ ¬ b < a := by
  rw [Int32.le_iff_toInt_le, Int32.lt_iff_toInt_lt]
  omega
section SLOT
variable {W H P wm b : Nat} {T : List TR} {fl rf : Int32} {μ : MS}
theorem isFreeE (hS : SR W H P wm T fl rf (m_s μ) b) (hT : T.length < 1000) (hb : b + 197 ≤ 1970) (hP : P < 64) {c : Nat} (hc : c < 64) : f_X5_isFree μ (nI b) (nI c) = some (nI (if !decide (c = P) && !wm.testBit c && !(pv T).testBit c then 1 else 0)) := by
  obtain ⟨h0, h1, h2, h3, h4, -⟩ := hS
  unfold f_X5_isFree
  simp only [LIT]
  simp (disch := omega) only [nI_add, jldE, ob, h2, nI_eq]
  rw [h3 c hc, h4 c hc]
  by_cases e : c = P
  · rw [if_pos e]
    simp [e]
  · rw [if_neg e]
    cases hw : wm.testBit c with
    | true =>
      rw [if_neg (by rw [nI_eq (by decide) (by decide)]; decide)]
      simp
    | false =>
      simp only [Bool.false_eq_true, if_false]
      rw [if_pos trivial]
      simp only [le_not_lt, owI_neg hT]
      cases hp : (pv T).testBit c <;> simp [e]
theorem inE {a lo hi : Nat} (ha : a < 2 ^ 31) (hl : lo < 2 ^ 31) (hh : hi < 2 ^ 31) : f_X5_in (nI a) (nI lo) (nI hi) = some (nI (if lo ≤ a ∧ a ≤ hi then 1 else 0)) := by
  unfold f_X5_in
  simp only [nI_ltI ha hl, nI_ltI hh ha]
  by_cases c : a < lo
  · rw [if_pos c, if_neg (by omega)]; rfl
  · rw [if_neg c]
    by_cases d : hi < a
    · rw [if_pos d, if_neg (by omega)]; rfl
    · rw [if_neg d, if_pos (by omega)]; rfl
/-- a column or a row within 0 .. hi, or not -/
theorem inX (x : Int32) {hi : Nat} (hh : hi < 2 ^ 30) : (∃ a, a ≤ hi ∧ x = nI a ∧ f_X5_in x (nI 0) (nI hi) = some (nI 1)) ∨ ((x < nI 0 ∨ nI hi < x) ∧ f_X5_in x (nI 0) (nI hi) = some (nI 0)) := by
  unfold f_X5_in
  by_cases c : x < nI 0
  · exact Or.inr ⟨Or.inl c, by rw [if_pos c]; rfl⟩
  · obtain ⟨a, ha, rfl⟩ := nI_of c
    by_cases d : hi < a
    · have e : nI hi < nI a := nI_lt d ha
      exact Or.inr ⟨Or.inr e, by rw [if_neg c, if_pos e]; rfl⟩
    · exact Or.inl ⟨a, by omega, rfl, by rw [if_neg c, if_neg (nI_nlt (by omega) (by omega))]; rfl⟩
theorem ofBlockE {x y k : Nat} (hk : k < 4) : f_X5_ofBlock (nI x) (nI y) (nI k) = some (nI (cb x y k)) := by
  obtain ⟨c0, c1, c2, c3⟩ := cb_v x y
  rcases (show k = 0 ∨ k = 1 ∨ k = 2 ∨ k = 3 by omega) with rfl | rfl | rfl | rfl
  · rw [c0]; simp (disch := omega) only [f_X5_ofBlock, LIT, nI_eq, pk_div, nI_add, pk_mul, if_neg, if_true]
    exact congrArg (fun n => some (nI n)) (by omega)
  · rw [c1]; simp (disch := omega) only [f_X5_ofBlock, LIT, nI_eq, pk_div, nI_add, pk_mul, if_neg, if_true]
    exact congrArg (fun n => some (nI n)) (by omega)
  · rw [c2]; simp (disch := omega) only [f_X5_ofBlock, LIT, nI_eq, pk_div, nI_add, pk_mul, if_neg, if_true]
    exact congrArg (fun n => some (nI n)) (by omega)
  · rw [c3]; simp (disch := omega) only [f_X5_ofBlock, LIT, nI_eq, pk_div, nI_add, pk_mul, if_neg, if_true]
    exact congrArg (fun n => some (nI n)) (by omega)
def ovb (p w o : Bool) : Nat := if p then 2 else if w then 3 else if o then 4 else 0
def cmb (v o : Nat) : Nat := if o = 0 then v else if v = 0 then o else if v ≤ o then v else o
theorem cmb3 : ∀ p1 w1 o1 p2 w2 o2 p3 w3 o3 : Bool, cmb (cmb (cmb 0 (ovb p1 w1 o1)) (ovb p2 w2 o2)) (ovb p3 w3 o3) = if p1 || p2 || p3 then 2 else if w1 || w2 || w3 then 3 else if o1 || o2 || o3 then 4 else 0 := by decide +kernel
/-- the reason why a triple in the garden is refused -/
def wn (P wm pm X Y t : Nat) : Nat := if hit (2 ^ P) X Y t then 2 else if hit wm X Y t then 3 else if hit pm X Y t then 4 else 0
def ov (P wm pm c : Nat) : Nat := ovb (decide (c = P)) (wm.testBit c) (pm.testBit c)
def wl (P wm pm X Y t : Nat) : Nat → Nat
  | 0 => 0
  | k + 1 => if k = t then wl P wm pm X Y t k else cmb (wl P wm pm X Y t k) (ov P wm pm (cb X Y k))
theorem ov_le (P wm pm c : Nat) : ov P wm pm c ≤ 4 := by
  unfold ov ovb
  split
  · omega
  · split
    · omega
    · split <;> omega
theorem wl_le (P wm pm X Y t : Nat) : ∀ k, wl P wm pm X Y t k ≤ 4 := by
  intro k
  induction k with
  | zero => exact Nat.zero_le _
  | succ k ih =>
    have := ov_le P wm pm (cb X Y k)
    rw [wl]
    split
    · exact ih
    · unfold cmb
      split
      · exact ih
      · split
        · exact this
        · split
          · exact ih
          · exact this
theorem wl_wn (P wm pm X Y : Nat) {t : Nat} (ht : t < 4) : wl P wm pm X Y t 4 = wn P wm pm X Y t := by
  unfold wn hit
  simp only [pw_bit]
  rcases (show t = 0 ∨ t = 1 ∨ t = 2 ∨ t = 3 by omega) with rfl | rfl | rfl | rfl
  · have h := cmb3 (decide (cb X Y 1 = P)) (wm.testBit (cb X Y 1)) (pm.testBit (cb X Y 1)) (decide (cb X Y 2 = P)) (wm.testBit (cb X Y 2)) (pm.testBit (cb X Y 2)) (decide (cb X Y 3 = P)) (wm.testBit (cb X Y 3)) (pm.testBit (cb X Y 3))
    simp [wl, ov] at h ⊢
    exact h
  · have h := cmb3 (decide (cb X Y 0 = P)) (wm.testBit (cb X Y 0)) (pm.testBit (cb X Y 0)) (decide (cb X Y 2 = P)) (wm.testBit (cb X Y 2)) (pm.testBit (cb X Y 2)) (decide (cb X Y 3 = P)) (wm.testBit (cb X Y 3)) (pm.testBit (cb X Y 3))
    simp [wl, ov] at h ⊢
    exact h
  · have h := cmb3 (decide (cb X Y 0 = P)) (wm.testBit (cb X Y 0)) (pm.testBit (cb X Y 0)) (decide (cb X Y 1 = P)) (wm.testBit (cb X Y 1)) (pm.testBit (cb X Y 1)) (decide (cb X Y 3 = P)) (wm.testBit (cb X Y 3)) (pm.testBit (cb X Y 3))
    simp [wl, ov] at h ⊢
    exact h
  · have h := cmb3 (decide (cb X Y 0 = P)) (wm.testBit (cb X Y 0)) (pm.testBit (cb X Y 0)) (decide (cb X Y 1 = P)) (wm.testBit (cb X Y 1)) (pm.testBit (cb X Y 1)) (decide (cb X Y 2 = P)) (wm.testBit (cb X Y 2)) (pm.testBit (cb X Y 2))
    simp [wl, ov] at h ⊢
    exact h
theorem wrongLoop (hS : SR W H P wm T fl rf (m_s μ) b) (hT : T.length < 1000) (hb : b + 197 ≤ 1970) (hP : P < 64) {x y t : Nat} (hx : x < 7) (hy : y < 7) (ht : t < 4) : f_X5_wrong_L42 (nI b) (nI x) (nI y) (nI t) μ 4096 0 0 = some (nI (wn P wm (pv T) x y t)) := by
  obtain ⟨h0, h1, h2, h3, h4, -⟩ := hS
  rw [← wl_wn P wm (pv T) x y ht]
  refine loopE (L := fun n j s => f_X5_wrong_L42 (nI b) (nI x) (nI y) (nI t) μ n s j) (N := 4) (fun j => nI (wl P wm (pv T) x y t j)) ?_ ?_ (k := 0) (n := 4096) (by omega) (by omega)
  · intro n
    simp (disch := omega) only [f_X5_wrong_L42, f_X5_wrong_L42_b, LIT, nI_leI, if_pos]
  · intro n j hj
    have hc := cb_lt hx hy hj
    have hl := wl_le P wm (pv T) x y t j
    have ho := ov_le P wm (pv T) (cb x y j)
    simp only [f_X5_wrong_L42, f_X5_wrong_L42_b, LIT]
    rw [if_neg (by rw [nI_leI (by omega) (by omega)]; omega)]
    simp only [nI_eq (show j < 2 ^ 31 by omega) (show t < 2 ^ 31 by omega)]
    by_cases e : j = t
    · rw [if_pos e, ob, jletE, nI_add, wl, if_pos e]
    · rw [if_neg e, ofBlockE hj, ob]
      simp (disch := omega) only [nI_add, jldE, ob, h2, nI_eq]
      rw [h3 _ hc, h4 _ hc]
      have hov : (if cb x y j = P then some (nI 2) else if nI (if wm.testBit (cb x y j) = true then 1 else 0) = nI 1 then some (nI 3) else if owI T (cb x y j) < nI 0 then some (nI 0) else some (nI 4)) = some (nI (ov P wm (pv T) (cb x y j))) := by
        unfold ov ovb
        by_cases e1 : cb x y j = P
        · rw [if_pos e1]; simp [e1]
        · rw [if_neg e1]
          cases hw : wm.testBit (cb x y j) with
          | true => simp [e1]
          | false =>
            rw [if_neg (by simp only [Bool.false_eq_true, if_false]; rw [nI_eq (by decide) (by decide)]; decide)]
            simp only [owI_neg hT]
            cases hp : (pv T).testBit (cb x y j) <;> simp [e1]
      rw [hov, ob, wl, if_neg e]
      have hcm : (if nI (ov P wm (pv T) (cb x y j)) ≤ nI 0 then some (nI (wl P wm (pv T) x y t j)) else if wl P wm (pv T) x y t j = 0 then some (nI (ov P wm (pv T) (cb x y j))) else if nI (wl P wm (pv T) x y t j) ≤ nI (ov P wm (pv T) (cb x y j)) then some (nI (wl P wm (pv T) x y t j)) else some (nI (ov P wm (pv T) (cb x y j)))) = some (nI (cmb (wl P wm (pv T) x y t j) (ov P wm (pv T) (cb x y j)))) := by
        unfold cmb
        simp (disch := omega) only [nI_leI, nI_eq, Nat.le_zero_eq]
        split
        · rfl
        · split
          · rfl
          · split <;> rfl
      rw [hcm, ob, ob, jletE]
theorem wrongIn (hS : SR W H P wm T fl rf (m_s μ) b) (hT : T.length < 1000) (hb : b + 197 ≤ 1970) (hP : P < 64) (hW : W ≤ 8) (hH : H ≤ 8) {x y t : Nat} (hx : x + 2 ≤ W) (hy : y + 2 ≤ H) (ht : t < 4) : f_X5_wrong μ (nI b) (nI x) (nI y) (nI t) = some (nI (wn P wm (pv T) x y t)) := by
  have h5 := wrongLoop hS hT hb hP (x := x) (y := y) (t := t) (by omega) (by omega) ht
  obtain ⟨h0, h1, -⟩ := hS
  unfold f_X5_wrong
  simp only [LIT] at h5 ⊢
  rw [jldE (by omega) (by decide), ob, h0, pk_sub (by omega), inE (by omega) (by omega) (by omega), ob, if_pos (⟨Nat.zero_le _, by omega⟩ : 0 ≤ x ∧ x ≤ W - 2), if_neg (by rw [nI_eq (by decide) (by decide)]; decide), nI_add, jldE (by omega) (by decide), ob, h1, pk_sub (by omega), inE (by omega) (by omega) (by omega), ob, if_pos (⟨Nat.zero_le _, by omega⟩ : 0 ≤ y ∧ y ≤ H - 2), if_neg (by rw [nI_eq (by decide) (by decide)]; decide), h5, ob]
/-- outside -/
theorem wrongOut (hS : SR W H P wm T fl rf (m_s μ) b) (hb : b + 197 ≤ 1970) (hW2 : 2 ≤ W) (hH2 : 2 ≤ H) (hW : W ≤ 8) (hH : H ≤ 8) {x y t : Int32} (h : (x < nI 0 ∨ nI (W - 2) < x) ∨ (y < nI 0 ∨ nI (H - 2) < y)) : f_X5_wrong μ (nI b) x y t = some (nI 1) := by
  obtain ⟨h0, h1, -⟩ := hS
  unfold f_X5_wrong
  simp only [LIT]
  rw [jldE (by omega) (by decide), ob, h0, pk_sub (by omega)]
  rcases inX x (hi := W - 2) (by omega) with ⟨a, ha, rfl, e⟩ | ⟨-, e⟩
  · rw [e, ob, if_neg (by rw [nI_eq (by decide) (by decide)]; decide), nI_add, jldE (by omega) (by decide), ob, h1, pk_sub (by omega)]
    rcases inX y (hi := H - 2) (by omega) with ⟨c, hc, rfl, e2⟩ | ⟨-, e2⟩
    · exfalso
      rw [nI_ltI (by omega) (by omega), nI_ltI (by omega) (by omega), nI_ltI (by omega) (by omega), nI_ltI (by omega) (by omega)] at h
      omega
    · rw [e2, ob, if_pos rfl]
  · rw [e, ob, if_pos rfl]
end SLOT
