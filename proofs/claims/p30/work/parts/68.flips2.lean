/-! ===== flips counted, a block flipped ===== -/
def inb (hb : Bool) (W H x y : Nat) : Bool := decide (x + bw_ hb ≤ W) && decide (y + bh_ hb ≤ H)
theorem bw_le (hb : Bool) : bw_ hb ≤ 8 ∧ bh_ hb ≤ 8 ∧ 2 ≤ bw_ hb ∧ 2 ≤ bh_ hb := by cases hb <;> decide
theorem jz01 : jz (nI 1) = some (nI 1) ∧ jz (nI 0) = some (nI 0) := by decide +kernel
section FL2
variable {W H P wm : Nat} {T : List TR} {fl rf : Int32} {g : GS} {μ : MS} {hb : Bool}
theorem hasFlipAt (a1 a2 : Int32) : f_X1_hasFlipBlock g a1 a2 (nI (bn hb)) = Option.bind (f_X1_hasBlock g a1 a2 (nI (bw_ hb)) (nI (bh_ hb))) fun r3 => Option.bind (jz r3) fun z4 => some z4 := by
  unfold f_X1_hasFlipBlock
  cases hb
  · rfl
  · rfl
theorem hasFlipIn (hG : GR W H P wm T fl rf g) (hW : W ≤ 8) (hH : H ≤ 8) {x y : Nat} (hx : x + bw_ hb ≤ W) (hy : y + bh_ hb ≤ H) : f_X1_hasFlipBlock g (nI x) (nI y) (nI (bn hb)) = some (nI 1) := by
  rw [hasFlipAt, hasBlockIn hG hW hH hx hy, ob, jz01.1, ob]
theorem hasFlipOut (hG : GR W H P wm T fl rf g) (hW : W ≤ 8) (hH : H ≤ 8) {a1 a2 : Int32} (h : ¬ InB W H (bw_ hb) (bh_ hb) a1 a2) : f_X1_hasFlipBlock g a1 a2 (nI (bn hb)) = some (nI 0) := by
  rw [hasFlipAt, hasBlockOut hG hW hH (bw_le hb).1 (bw_le hb).2.1 h, ob, jz01.2, ob]
theorem inSub (x : Int32) {W bw : Nat} (hW : W ≤ 8) (hb : bw ≤ 8) : (∃ X, x = nI X ∧ X + bw ≤ W ∧ f_X5_in x (nI 0) (nI W - nI bw) = some (nI 1)) ∨ ((¬ ∃ X, x = nI X ∧ X + bw ≤ W) ∧ f_X5_in x (nI 0) (nI W - nI bw) = some (nI 0)) := by
  unfold f_X5_in
  by_cases c : x < nI 0
  · refine Or.inr ⟨?_, by rw [if_pos c]; rfl⟩
    rintro ⟨X, rfl, h⟩
    rw [nI_ltI (by omega) (by decide)] at c
    omega
  · obtain ⟨a, ha, rfl⟩ := nI_of c
    by_cases d : W < a + bw
    · refine Or.inr ⟨?_, by rw [if_neg c, if_pos ((sub_lt hW hb ha).mpr d)]; rfl⟩
      rintro ⟨X, e, h⟩
      rw [nI_eq ha (by omega)] at e
      omega
    · exact Or.inl ⟨a, rfl, by omega, by rw [if_neg c, if_neg (fun z => d ((sub_lt hW hb ha).mp z))]; rfl⟩
theorem isBlockAt (hS : SR W H P wm T fl rf (m_s μ) 0) (a1 a2 : Int32) : f_X5_isBlock μ a1 a2 (nI (bn hb)) = Option.bind (f_X5_in a1 (nI 0) (nI W - nI (bw_ hb))) fun r3 => if r3 = nI 0 then some (nI 0) else Option.bind (f_X5_in a2 (nI 0) (nI H - nI (bh_ hb))) fun r6 => if r6 = nI 0 then some (nI 0) else some (nI 1) := by
  have hS0 : m_s μ 0 = nI W := hS.1
  have hS1 : m_s μ 1 = nI H := hS.2.1
  unfold f_X5_isBlock
  simp only [LIT]
  rw [jldE (by decide) (by decide), ob, hS0, jldE (by decide) (by decide), hS1]
  cases hb
  · rfl
  · rfl
theorem isBlockIn (hS : SR W H P wm T fl rf (m_s μ) 0) (hW : W ≤ 8) (hH : H ≤ 8) {x y : Nat} (hx : x + bw_ hb ≤ W) (hy : y + bh_ hb ≤ H) : f_X5_isBlock μ (nI x) (nI y) (nI (bn hb)) = some (nI 1) := by
  rw [isBlockAt hS]
  rcases inSub (nI x) hW (bw_le hb).1 with ⟨X, -, -, e⟩ | ⟨h, -⟩
  · rcases inSub (nI y) hH (bw_le hb).2.1 with ⟨Y, -, -, e2⟩ | ⟨h, -⟩
    · rw [e, ob, if_neg (by rw [nI_eq (by decide) (by decide)]; decide), e2, ob, if_neg (by rw [nI_eq (by decide) (by decide)]; decide)]
    · exact absurd ⟨y, rfl, hy⟩ h
  · exact absurd ⟨x, rfl, hx⟩ h
theorem isBlockOut (hS : SR W H P wm T fl rf (m_s μ) 0) (hW : W ≤ 8) (hH : H ≤ 8) {a1 a2 : Int32} (h : ¬ InB W H (bw_ hb) (bh_ hb) a1 a2) : f_X5_isBlock μ a1 a2 (nI (bn hb)) = some (nI 0) := by
  rw [isBlockAt hS]
  rcases inSub a1 hW (bw_le hb).1 with ⟨X, e0, h1, e⟩ | ⟨-, e⟩
  · rcases inSub a2 hH (bw_le hb).2.1 with ⟨Y, e1, h2, e2⟩ | ⟨-, e2⟩
    · exact absurd ⟨X, Y, e0, e1, h1, h2⟩ h
    · rw [e, ob, if_neg (by rw [nI_eq (by decide) (by decide)]; decide), e2, ob, if_pos rfl]
  · rw [e, ob, if_pos rfl]
def fv (W H : Nat) (T : List TR) (x y : Nat) : Nat := bn (inb true W H x y && FLb true T x y) + bn (inb false W H x y && FLb false T x y)
theorem oneC (hG : GR W H P wm T fl rf g) (hO : OK W H P wm T) {x y : Nat} (hx : x < 1000) (hy : y < 1000) : (Option.bind (f_X1_hasFlipBlock g (nI x) (nI y) (nI (bn hb))) fun r95 => (if r95 = nI 0 then some (nI 0) else (Option.bind (f_X1_isFlippable g (nI x) (nI y) (nI (bn hb))) fun r98 => (if r98 = nI 0 then some (nI 0) else some (nI 1))))) = some (nI (bn (inb hb W H x y && FLb hb T x y))) := by
  have hW := hO.2.1
  have hH := hO.2.2.2.1
  unfold inb
  by_cases c : x + bw_ hb ≤ W ∧ y + bh_ hb ≤ H
  · rw [hasFlipIn hG hW hH c.1 c.2, ob, if_neg (by rw [nI_eq (by decide) (by decide)]; decide), isFlippableE hG hO c.1 c.2, ob, bn_if, decide_eq_true c.1, decide_eq_true c.2]
    cases FLb hb T x y <;> rfl
  · rw [hasFlipOut hG hW hH (by rw [inB_nat hW hH hx hy]; exact c), ob, if_pos rfl]
    by_cases d : x + bw_ hb ≤ W
    · rw [decide_eq_false (show ¬ y + bh_ hb ≤ H from fun z => c ⟨d, z⟩), Bool.and_false]
      rfl
    · rw [decide_eq_false d]
      rfl
theorem oneM (hS : SR W H P wm T fl rf (m_s μ) 0) (hO : OK W H P wm T) {x y : Nat} (hx : x < 1000) (hy : y < 1000) : (Option.bind (f_X5_isBlock μ (nI x) (nI y) (nI (bn hb))) fun r107 => (if r107 = nI 0 then some (nI 0) else (Option.bind (f_X5_turnOf μ (nI x) (nI y) (nI (bn hb))) fun r110 => (if r110 < nI 0 then some (nI 0) else some (nI 1))))) = some (nI (bn (inb hb W H x y && FLb hb T x y))) := by
  have hW := hO.2.1
  have hH := hO.2.2.2.1
  unfold inb
  by_cases c : x + bw_ hb ≤ W ∧ y + bh_ hb ≤ H
  · rw [isBlockIn hS hW hH c.1 c.2, ob, if_neg (by rw [nI_eq (by decide) (by decide)]; decide), turnOfE hS hO c.1 c.2, ob, decide_eq_true c.1, decide_eq_true c.2]
    cases z : FLb hb T x y
    · simp only [Bool.false_eq_true, if_false]
      rw [if_pos (m1_lt (by decide))]
      rfl
    · simp only [if_true]
      unfold FLb at z
      rw [Bool.and_eq_true, Bool.and_eq_true] at z
      obtain ⟨q1, e1, e2⟩ := ow_spec z.1.1
      have k1 := TO_get hO.2.2.2.2.2.2.2.2 e1
      rw [getD_of e1, if_neg (nI_nlt (Nat.zero_le _) (by omega))]
      rfl
  · rw [isBlockOut hS hW hH (by rw [inB_nat hW hH hx hy]; exact c), ob, if_pos rfl]
    by_cases d : x + bw_ hb ≤ W
    · rw [decide_eq_false (show ¬ y + bh_ hb ≤ H from fun z => c ⟨d, z⟩), Bool.and_false]
      rfl
    · rw [decide_eq_false d]
      rfl
theorem ob3 {α β γ : Type} (a : Option α) (f : α → Option β) (k : β → Option γ) : (Option.bind a fun r => Option.bind (f r) k) = Option.bind (Option.bind a f) k := by cases a <;> rfl
theorem flippableC (hG : GR W H P wm T fl rf g) (hO : OK W H P wm T) : f_X1_flippableBlocks g = some (nI (fb_sm (fun y => fb_sm (fun x => fv W H T x y) W) H)) := by
  have hW := hO.2.1
  have hH := hO.2.2.2.1
  have l2 : ∀ N y, y < 8 → f_X1_flippableBlocks_L14 g (nI y) 4096 (nI N) (nI 0) = some (nI (N + fb_sm (fun x => fv W H T x y) W)) := fun N y hy =>
    loopE (L := fun n j s => f_X1_flippableBlocks_L14 g (nI y) n s j) (N := W) (fun j => nI (N + fb_sm (fun x => fv W H T x y) j)) (fun n => by
      simp only [f_X1_flippableBlocks_L14, f_X1_flippableBlocks_L14_b]
      rw [hG.1, if_pos (nI_le (Nat.le_refl _) (by omega))]) (fun n j hj => by
      have k1 := oneC (hb := true) hG hO (show j < 1000 by omega) (show y < 1000 by omega)
      rw [show nI (bn true) = nI 1 from rfl] at k1
      have k2 := oneC (hb := false) hG hO (show j < 1000 by omega) (show y < 1000 by omega)
      rw [show nI (bn false) = nI 0 from rfl] at k2
      simp only [f_X1_flippableBlocks_L14, f_X1_flippableBlocks_L14_b]
      simp only [LIT]
      rw [hG.1, if_neg (nI_ge hj (by omega)), ob3, k1, ob, jletE, ob3, k2, ob, jletE, jletE, nI_add, nI_add, nI_add, fb_sm_succ]
      unfold fv
      rw [Nat.add_assoc, Nat.add_assoc]) (k := 0) (n := 4096) (by omega) (by omega)
  unfold f_X1_flippableBlocks
  rw [show f_X1_flippableBlocks_L4 g 4096 0 0 = some (nI (fb_sm (fun y => fb_sm (fun x => fv W H T x y) W) H)) from loopE (L := fun n j s => f_X1_flippableBlocks_L4 g n s j) (N := H) (fun j => nI (fb_sm (fun y => fb_sm (fun x => fv W H T x y) W) j)) (fun n => by
      simp only [f_X1_flippableBlocks_L4, f_X1_flippableBlocks_L4_b]
      rw [hG.2.1, if_pos (nI_le (Nat.le_refl _) (by omega))]) (fun n j hj => by
      simp only [f_X1_flippableBlocks_L4, f_X1_flippableBlocks_L4_b]
      simp only [LIT]
      rw [hG.2.1, if_neg (nI_ge hj (by omega)), l2 _ j (by omega), ob, jletE, nI_add]
      rfl) (k := 0) (n := 4096) (by omega) (by omega)]
  rfl
theorem flippableM (hS : SR W H P wm T fl rf (m_s μ) 0) (hO : OK W H P wm T) : f_X5_flippable μ = some (nI (fb_sm (fun y => fb_sm (fun x => fv W H T x y) W) H)) := by
  have hW := hO.2.1
  have hH := hO.2.2.2.1
  have hS0 : m_s μ 0 = nI W := hS.1
  have hS1 : m_s μ 1 = nI H := hS.2.1
  have l2 : ∀ N y, y < 8 → f_X5_flippable_L16 μ (nI y) 4096 (nI N) (nI 0) = some (nI (N + fb_sm (fun x => fv W H T x y) W)) := fun N y hy =>
    loopE (L := fun n j s => f_X5_flippable_L16 μ (nI y) n s j) (N := W) (fun j => nI (N + fb_sm (fun x => fv W H T x y) j)) (fun n => by
      simp only [f_X5_flippable_L16, f_X5_flippable_L16_b]
      simp only [LIT]
      rw [jldE (by decide) (by decide), ob, hS0, if_pos (nI_le (Nat.le_refl _) (by omega))]) (fun n j hj => by
      have k1 := oneM (hb := true) hS hO (show j < 1000 by omega) (show y < 1000 by omega)
      rw [show nI (bn true) = nI 1 from rfl] at k1
      have k2 := oneM (hb := false) hS hO (show j < 1000 by omega) (show y < 1000 by omega)
      rw [show nI (bn false) = nI 0 from rfl] at k2
      simp only [f_X5_flippable_L16, f_X5_flippable_L16_b]
      simp only [LIT]
      rw [jldE (by decide) (by decide), ob, hS0, if_neg (nI_ge hj (by omega)), ob3, k1, ob, jletE, ob3, k2, ob, jletE, jletE, nI_add, nI_add, nI_add, fb_sm_succ]
      unfold fv
      rw [Nat.add_assoc, Nat.add_assoc]) (k := 0) (n := 4096) (by omega) (by omega)
  unfold f_X5_flippable
  rw [show f_X5_flippable_L4 μ 4096 0 0 = some (nI (fb_sm (fun y => fb_sm (fun x => fv W H T x y) W) H)) from loopE (L := fun n j s => f_X5_flippable_L4 μ n s j) (N := H) (fun j => nI (fb_sm (fun y => fb_sm (fun x => fv W H T x y) W) j)) (fun n => by
      simp only [f_X5_flippable_L4, f_X5_flippable_L4_b]
      simp only [LIT]
      rw [jldE (by decide) (by decide), ob, hS1, if_pos (nI_le (Nat.le_refl _) (by omega))]) (fun n j hj => by
      simp only [f_X5_flippable_L4, f_X5_flippable_L4_b]
      simp only [LIT]
      rw [jldE (by decide) (by decide), ob, hS1, if_neg (nI_ge hj (by omega)), l2 _ j (by omega), ob, jletE, nI_add]
      rfl) (k := 0) (n := 4096) (by omega) (by omega)]
  rfl
/-! a block flipped -/
def tnf (hb : Bool) (t : Nat) : Nat := (if hb then 5 else 3) - t
def jf (i j : Nat) : Nat := if j < i then j else j - 1
def T2f (hb : Bool) (T : List TR) (x y : Nat) : List TR := (T.eraseIdx (ow T (8 * y + x))).eraseIdx (jf (ow T (8 * y + x)) (ow T (c2f hb x y)))
def trf (hb : Bool) (T : List TR) (x y : Nat) : Nat := (T.getD (ow T (8 * y + x)) (0, 0, 0)).2.2
def fl4 (hb : Bool) (x y t : Nat) : Bool := (qm (x, y, tnf hb t) ||| qm (x2f hb x, y2f hb y, (tnf hb t + 2) % 4)) == (qm (x, y, t) ||| qm (x2f hb x, y2f hb y, if t == 2 then 0 else if hb then 1 else 3)) && (qm (x, y, tnf hb t) &&& qm (x2f hb x, y2f hb y, (tnf hb t + 2) % 4)) == 0
theorem fl4_t : ∀ x, x < 7 → ∀ y, y < 6 → fl4 true x y 2 = true ∧ fl4 true x y 3 = true := by decide +kernel
theorem fl4_f : ∀ x, x < 6 → ∀ y, y < 7 → fl4 false x y 2 = true ∧ fl4 false x y 1 = true := by decide +kernel
theorem erase2 (T : List TR) {i j : Nat} (h : i < j) : (T.eraseIdx j).eraseIdx i = (T.eraseIdx i).eraseIdx (j - 1) := by
  apply List.ext_getElem?
  intro k
  simp only [List.getElem?_eraseIdx]
  by_cases a : k < i
  · rw [if_pos a, if_pos (show k < j - 1 by omega), if_pos a, if_pos (by omega)]
  · rw [if_neg a]
    by_cases b : k + 1 < j
    · rw [if_pos b, if_pos (show k < j - 1 by omega), if_neg a]
    · rw [if_neg b, if_neg (show ¬ k < j - 1 by omega), if_neg (by omega)]
theorem flipData (hO : OK W H P wm T) {x y : Nat} (hx : x + bw_ hb ≤ W) (hy : y + bh_ hb ≤ H) (hf : FLb hb T x y = true) :
    ow T (8 * y + x) < T.length ∧ ow T (c2f hb x y) < T.length ∧ ow T (8 * y + x) ≠ ow T (c2f hb x y) ∧ (trf hb T x y = 2 ∨ trf hb T x y = if hb then 3 else 1) ∧ owI T (8 * y + x) = nI (ow T (8 * y + x)) ∧ owI T (c2f hb x y) = nI (ow T (c2f hb x y)) ∧ owI (T.eraseIdx (ow T (8 * y + x))) (c2f hb x y) = nI (jf (ow T (8 * y + x)) (ow T (c2f hb x y))) ∧ jf (ow T (8 * y + x)) (ow T (c2f hb x y)) < (T.eraseIdx (ow T (8 * y + x))).length ∧ T[ow T (8 * y + x)]? = some (x, y, trf hb T x y) ∧ tnf hb (trf hb T x y) < 4 ∧ x2f hb x + 2 ≤ W ∧ y2f hb y + 2 ≤ H ∧ x + 2 ≤ W ∧ y + 2 ≤ H ∧
    wn P wm (pv (T2f hb T x y)) x y (tnf hb (trf hb T x y)) = 0 ∧ wn P wm (pv (T2f hb T x y ++ [(x, y, tnf hb (trf hb T x y))])) (x2f hb x) (y2f hb y) ((tnf hb (trf hb T x y) + 2) % 4) = 0 := by
  have hW := hO.2.1
  have hH := hO.2.2.2.1
  have hT := hO.2.2.2.2.2.2.2.2
  have hl := OK_len hO
  have hf0 := hf
  unfold FLb at hf
  rw [Bool.and_eq_true, Bool.and_eq_true] at hf
  obtain ⟨⟨g1, g2⟩, g3⟩ := hf
  obtain ⟨⟨qx, qy, qt⟩, e1, e2⟩ := ow_spec g1
  obtain ⟨q2, e3, e4⟩ := ow_spec g2
  have k1 := TO_get hT e1
  have k2 := TO_get hT e3
  have l1 := ow_lt g1
  have l2 := ow_lt g2
  rw [getD_of e1, getD_of e3] at g3
  unfold patt at g3
  simp only [Bool.and_eq_true, beq_iff_eq, Bool.or_eq_true] at g3
  obtain ⟨⟨⟨⟨⟨p1, p2⟩, p3⟩, p4⟩, p5⟩, p6⟩ := g3
  subst p1 p2
  have et : trf hb T qx qy = qt := by unfold trf; rw [getD_of e1]
  have hne : ow T (8 * qy + qx) ≠ ow T (c2f hb qx qy) := fun z => by
    rw [z, e3] at e1
    cases e1
    unfold x2f y2f at *
    cases hb <;> simp at p4 p5
  have hsz : qx + 2 ≤ W ∧ qy + 2 ≤ H := ⟨k1.1, k1.2.1⟩
  have o1 : owI T (8 * qy + qx) = nI (ow T (8 * qy + qx)) := by unfold owI; rw [if_pos g1]
  have o2 : owI T (c2f hb qx qy) = nI (ow T (c2f hb qx qy)) := by unfold owI; rw [if_pos g2]
  have hlen : (T.eraseIdx (ow T (8 * qy + qx))).length = T.length - 1 := by rw [List.length_eraseIdx, if_pos l1]
  have o3 : owI (T.eraseIdx (ow T (8 * qy + qx))) (c2f hb qx qy) = nI (jf (ow T (8 * qy + qx)) (ow T (c2f hb qx qy))) := by
    rw [owI_erase hT (by omega) e1, o2, if_neg (by rw [nI_eq (by omega) (by omega)]; exact fun z => hne z.symm)]
    unfold jf
    by_cases c : ow T (c2f hb qx qy) < ow T (8 * qy + qx)
    · rw [if_pos (nI_le (by omega) (by omega)), if_pos c]
    · rw [if_neg (nI_ge (by omega) (by omega)), if_neg c, pk_sub (by omega)]
  have hj : jf (ow T (8 * qy + qx)) (ow T (c2f hb qx qy)) < (T.eraseIdx (ow T (8 * qy + qx))).length := by
    rw [hlen]
    unfold jf
    split <;> omega
  have p3' : qt = 2 ∨ qt = if hb then 3 else 1 := p3
  have htn : tnf hb qt < 4 := by
    unfold tnf
    cases hb <;> simp at p3' ⊢ <;> omega
  have hx2 : x2f hb qx + 2 ≤ W ∧ y2f hb qy + 2 ≤ H := by
    unfold x2f y2f
    cases hb <;> simp only [bw_, bh_, if_true, Bool.false_eq_true, if_false] at hx hy ⊢ <;> omega
  have hq2 : q2 = (x2f hb qx, y2f hb qy, if qt == 2 then 0 else if hb then 1 else 3) := by
    obtain ⟨a, b, c⟩ := q2
    dsimp only at p4 p5 p6
    rw [p4, p5, p6]
    simp only [beq_iff_eq]
  have h4 : fl4 hb qx qy qt = true := by
    cases hb
    · simp only [bw_, bh_, Bool.false_eq_true, if_false] at hx hy p3'
      have := fl4_f qx (by omega) qy (by omega)
      rcases p3' with rfl | rfl
      · exact this.1
      · exact this.2
    · simp only [bw_, bh_, if_true] at hx hy p3'
      have := fl4_t qx (by omega) qy (by omega)
      rcases p3' with rfl | rfl
      · exact this.1
      · exact this.2
  unfold fl4 at h4
  rw [← hq2] at h4
  have h5 := eq_of_beq ((Bool.and_eq_true _ _).mp h4).1
  have h6 := eq_of_beq ((Bool.and_eq_true _ _).mp h4).2
  -- what the two triples leave
  have hq : ∀ c, (pv (T2f hb T qx qy)).testBit c = (((pv T).testBit c && !(qm (qx, qy, qt)).testBit c) && !(qm q2).testBit c) := fun c => by
    unfold T2f
    have e5 : (T.eraseIdx (ow T (8 * qy + qx)))[jf (ow T (8 * qy + qx)) (ow T (c2f hb qx qy))]? = some q2 := by
      rw [List.getElem?_eraseIdx]
      unfold jf
      by_cases z : ow T (c2f hb qx qy) < ow T (8 * qy + qx)
      · rw [if_pos z, if_pos z]; exact e3
      · rw [if_neg z, if_neg (by omega), show ow T (c2f hb qx qy) - 1 + 1 = ow T (c2f hb qx qy) by omega]
        exact e3
    rw [pv_erase (TO_erase hT) e5, pv_erase hT e1]
  have key : ∀ {T : List TR} {j : Nat} {q : TR}, TO W H P wm T → T[j]? = some q → qm q &&& wm = 0 ∧ qm q &&& 2 ^ P = 0 := by
    intro T
    induction T with
    | nil => intro j q _ h; simp at h
    | cons p T ih =>
      rintro j q ⟨h1, h2⟩ h
      cases j with
      | zero => simp at h; subst h; exact ⟨h1.2.2.2.1, h1.2.2.2.2.1⟩
      | succ j => exact ih h2 (by simpa using h)
  obtain ⟨m1, m2⟩ := key hT e1
  obtain ⟨m3, m4⟩ := key hT e3
  have b1 := or_zero m1 m3
  have b2 := or_zero m2 m4
  have b3 : (qm (qx, qy, qt) ||| qm q2) &&& pv (T2f hb T qx qy) = 0 := by
    rw [andz]
    intro c
    rw [hq c, Nat.testBit_or]
    cases (qm (qx, qy, qt)).testBit c <;> cases (qm q2).testBit c <;> cases (pv T).testBit c <;> rfl
  rw [← h5] at b1 b2 b3
  have w1 := or_zero_l b1
  have w2 := or_zero_l b2
  have w3 := or_zero_l b3
  have htn2 : (tnf hb qt + 2) % 4 < 4 := Nat.mod_lt _ (by decide)
  refine ⟨l1, l2, hne, by rw [et]; exact p3', o1, o2, o3, hj, by rw [et]; exact e1, by rw [et]; exact htn, hx2.1, hx2.2, hsz.1, hsz.2, ?_, ?_⟩
  · rw [et, wn_0, ← tm_hit (by omega) (by omega) htn, ← tm_hit (by omega) (by omega) htn, ← tm_hit (by omega) (by omega) htn]
    exact ⟨w2.1, w1.1, w3.1⟩
  · rw [et, wn_0, ← tm_hit (by omega) (by omega) htn2, ← tm_hit (by omega) (by omega) htn2, ← tm_hit (by omega) (by omega) htn2, pv_app]
    exact ⟨w2.2, w1.2, and_comm0 (or_zero (and_comm0 w3.2) h6)⟩
def TF (hb : Bool) (T : List TR) (x y : Nat) : List TR := (T2f hb T x y ++ [(x, y, tnf hb (trf hb T x y))]) ++ [(x2f hb x, y2f hb y, (tnf hb (trf hb T x y) + 2) % 4)]
theorem GR_upd {T' : List TR} {nm : Nat → Int32} (hG : GR W H P wm T fl rf g) (h : ∀ i q, T'[i]? = some q → nm i = nI (nam q)) : GR W H P wm T' fl rf (g_names' (g_tc' (g_paved' g (lN (pv T'))) (nI T'.length)) nm) := by
  obtain ⟨a, b, c, d, e, f, i, j, k⟩ := hG
  exact ⟨a, b, c, d, rfl, rfl, i, j, h⟩
theorem flipBlockE (hG : GR W H P wm T fl rf g) (hO : OK W H P wm T) {x y : Nat} (hx : x + bw_ hb ≤ W) (hy : y + bh_ hb ≤ H) (hf : FLb hb T x y = true) : OK W H P wm (TF hb T x y) ∧ ∃ nm, f_X1_flipBlock g (nI x) (nI y) (nI (bn hb)) = some (lN (pv (TF hb T x y)), nI (TF hb T x y).length, fl + 1, nm) ∧ ∀ i q, (TF hb T x y)[i]? = some q → nm i = nI (nam q) := by
  have hW := hO.2.1
  have hH := hO.2.2.2.1
  have hl := OK_len hO
  obtain ⟨s1, s2, s3, s4⟩ := flip_small hW hH hx hy
  obtain ⟨d1, d2, d3, d4, d5, d6, d7, d8, d9, d10, d11, d12, d13, d14, d15, d16⟩ := flipData hO hx hy hf
  have hmm : ∃ nm, Option.bind (f_X1_takeTriple g (if nI (ow T (8 * y + x)) < nI (ow T (c2f hb x y)) then nI (ow T (c2f hb x y)) else nI (ow T (8 * y + x)))) (fun r9 => f_X1_takeTriple (g_names' (g_tc' (g_paved' g r9.1) r9.2.1) r9.2.2) (if nI (ow T (c2f hb x y)) < nI (ow T (8 * y + x)) then nI (ow T (c2f hb x y)) else nI (ow T (8 * y + x)))) = some (lN (pv (T2f hb T x y)), nI (T2f hb T x y).length, nm) ∧ ∀ i q, (T2f hb T x y)[i]? = some q → nm i = nI (nam q) := by
    by_cases c : ow T (8 * y + x) < ow T (c2f hb x y)
    · rw [if_pos (nI_lt c (by omega)), if_neg (nI_nlt (by omega) (by omega))]
      obtain ⟨n1, a1, a2⟩ := takeE hG hO d2
      rw [a1, ob]
      have hl2 : (T.eraseIdx (ow T (c2f hb x y))).length = T.length - 1 := by rw [List.length_eraseIdx, if_pos d2]
      obtain ⟨n2, a3, a4⟩ := takeE (GR_upd hG a2) (OK_erase hO) (i := ow T (8 * y + x)) (by omega)
      have e : T2f hb T x y = (T.eraseIdx (ow T (c2f hb x y))).eraseIdx (ow T (8 * y + x)) := by
        unfold T2f jf
        rw [if_neg (by omega), erase2 T c]
      rw [e]
      exact ⟨n2, a3, a4⟩
    · rw [if_neg (nI_nlt (by omega) (by omega)), if_pos (nI_lt (by omega) (by omega))]
      obtain ⟨n1, a1, a2⟩ := takeE hG hO d1
      rw [a1, ob]
      have hl2 : (T.eraseIdx (ow T (8 * y + x))).length = T.length - 1 := by rw [List.length_eraseIdx, if_pos d1]
      obtain ⟨n2, a3, a4⟩ := takeE (GR_upd hG a2) (OK_erase hO) (i := ow T (c2f hb x y)) (by omega)
      have e : T2f hb T x y = (T.eraseIdx (ow T (8 * y + x))).eraseIdx (ow T (c2f hb x y)) := by
        unfold T2f jf
        rw [if_pos (by omega)]
      rw [e]
      exact ⟨n2, a3, a4⟩
  obtain ⟨nm, t1, t2⟩ := hmm
  have hO2 : OK W H P wm (T2f hb T x y) := OK_erase (OK_erase hO)
  obtain ⟨p1, a1, a2⟩ := putE (GR_upd hG t2) hO2 d13 d14 d10 d15
  have hO3 := (OK_app hO2 d13 d14 d10 d15).1
  obtain ⟨p2, a3, a4⟩ := putE (GR_upd hG a2) hO3 d11 d12 (Nat.mod_lt _ (by decide)) d16
  have hO4 := (OK_app hO3 d11 d12 (Nat.mod_lt _ (by decide)) d16).1
  refine ⟨hO4, p2, ?_, a4⟩
  have ho5 : (if nI (bn hb) = nI 0 then some (nI 3) else some (5 : Int32)) = some (nI (if hb then 5 else 3)) := by rw [bn_if]; cases hb <;> rfl
  have h12 : (if nI (bn hb) = nI 0 then some (nI (x + 1)) else some (nI x)) = some (nI (x2f hb x)) := by rw [bn_if]; cases hb <;> rfl
  have h13 : (if nI (bn hb) = nI 0 then some (nI y) else some (nI (y + 1))) = some (nI (y2f hb y)) := by rw [bn_if]; cases hb <;> rfl
  have hsub : nI (if hb then 5 else 3) - nI (trf hb T x y) = nI (tnf hb (trf hb T x y)) := by
    unfold tnf
    exact pk_sub (by cases hb <;> simp at d4 ⊢ <;> omega)
  have hk := TO_get hO.2.2.2.2.2.2.2.2 d9
  obtain ⟨-, -, np⟩ := nam_parts (q := (x, y, trf hb T x y)) (by show x < 7; omega) (by show y < 7; omega) hk.2.2
  unfold f_X1_flipBlock
  simp only [LIT, show (5 : Int32) = nI 5 from rfl] at ho5 ⊢
  rw [cellAtE s1, ob, tripleOverE hG hO s1, ob, lastFlipE s2, ob, tripleOverE hG hO s2, ob, ho5, ob, d5, d6, nameE hG hO d9, ob, np, ob, jletE, hsub, ob3, t1, ob, a1, ob, nI_add, h12, ob, nI_add, h13, ob, nI_add, pk_rem (by omega) (by decide) (by decide), a3, ob, jletE, hG.2.2.2.2.2.2.1]
  rfl
end FL2
