/-! ===== a garden that holds: its triples lie apart; the class's view of it ===== -/
def TO (W H P wm : Nat) : List TR → Prop
  | [] => True
  | q :: T => (q.1 + 2 ≤ W ∧ q.2.1 + 2 ≤ H ∧ q.2.2 < 4 ∧ qm q &&& wm = 0 ∧ qm q &&& 2 ^ P = 0 ∧ qm q &&& pv T = 0) ∧ TO W H P wm T
def OK (W H P wm : Nat) (T : List TR) : Prop := 2 ≤ W ∧ W ≤ 8 ∧ 2 ≤ H ∧ H ≤ 8 ∧ P % 8 < W ∧ P / 8 < H ∧ wm < 2 ^ 64 ∧ (∀ j, wm.testBit j = true → j % 8 < W ∧ j / 8 < H ∧ j ≠ P) ∧ TO W H P wm T
def nam (q : TR) : Nat := q.1 + 10 * q.2.1 + 100 * q.2.2
def GR (W H P wm : Nat) (T : List TR) (fl rf : Int32) (g : GS) : Prop :=
  g_wide g = nI W ∧ g_high g = nI H ∧ g_pond g = nI P ∧ g_walls g = lN wm ∧ g_paved g = lN (pv T) ∧ g_tc g = nI T.length ∧ g_flips g = fl ∧ g_refused g = rf ∧ ∀ i q, T[i]? = some q → g_names g i = nI (nam q)
theorem qm_lt {q : TR} (h : q.1 < 7 ∧ q.2.1 < 7 ∧ q.2.2 < 4) : qm q < 2 ^ 64 := tm_lt _ h.1 _ h.2.1 _ h.2.2
theorem tm_pc : ∀ x, x < 7 → ∀ y, y < 7 → ∀ t, t < 4 → pc (tm x y t) = 3 := by decide +kernel
theorem pc_or {a b : Nat} (h : a &&& b = 0) : pc (a ||| b) = pc a + pc b := by
  unfold pc
  rw [← fb_ct_or (fun k _ hk => by
    have := (andz a b).mp h k
    rw [hk.1, hk.2] at this
    cases this)]
  exact fb_ct_cong (fun k _ => Nat.testBit_or a b k)
theorem pc_le (a : Nat) : pc a ≤ 64 := fb_ct_le _ _
theorem or_zero_l {a b c : Nat} (h : (a ||| b) &&& c = 0) : a &&& c = 0 ∧ b &&& c = 0 := by
  rw [andz] at h
  constructor <;>
  · rw [andz]
    intro j
    have := h j
    rw [Nat.testBit_or] at this
    cases g1 : a.testBit j <;> cases g2 : b.testBit j <;> cases g3 : c.testBit j <;> simp_all
theorem or_zero {a b c : Nat} (h1 : a &&& c = 0) (h2 : b &&& c = 0) : (a ||| b) &&& c = 0 := by
  rw [andz] at h1 h2 ⊢
  intro j
  have h3 := h1 j
  have h4 := h2 j
  rw [Nat.testBit_or]
  cases g1 : a.testBit j <;> cases g2 : b.testBit j <;> cases g3 : c.testBit j <;> simp_all
theorem and_comm0 {a b : Nat} (h : a &&& b = 0) : b &&& a = 0 := by rw [Nat.and_comm]; exact h
section TO
variable {W H P wm : Nat}
theorem TO_pv : ∀ {T : List TR}, W ≤ 8 → H ≤ 8 → TO W H P wm T → pv T < 2 ^ 64 ∧ pv T &&& wm = 0 ∧ pv T &&& 2 ^ P = 0 ∧ pc (pv T) = 3 * T.length := by
  intro T hW hH
  induction T with
  | nil => intro _; exact ⟨by decide, Nat.zero_and _, Nat.zero_and _, by decide +kernel⟩
  | cons q T ih =>
    rintro ⟨⟨h1, h2, h3, h4, h5, h6⟩, h7⟩
    obtain ⟨a1, a2, a3, a4⟩ := ih h7
    refine ⟨Nat.or_lt_two_pow (qm_lt ⟨by omega, by omega, h3⟩) a1, or_zero h4 a2, or_zero h5 a3, ?_⟩
    rw [pv, pc_or h6, a4]
    have := tm_pc q.1 (by omega) q.2.1 (by omega) q.2.2 h3
    unfold qm
    rw [this, List.length_cons]
    omega
theorem TO_len {T : List TR} (hW : W ≤ 8) (hH : H ≤ 8) (hP : P < 64) (h : TO W H P wm T) : T.length ≤ 21 := by
  obtain ⟨a1, a2, a3, a4⟩ := TO_pv hW hH h
  have h1 := pc_or a3
  have h2 := pc_le (pv T ||| 2 ^ P)
  have h3 : pc (2 ^ P) = 1 := by
    have : ∀ P, P < 64 → pc (2 ^ P) = 1 := by decide +kernel
    exact this P hP
  omega
theorem TO_get : ∀ {T : List TR} {i : Nat} {q : TR}, TO W H P wm T → T[i]? = some q → q.1 + 2 ≤ W ∧ q.2.1 + 2 ≤ H ∧ q.2.2 < 4 := by
  intro T
  induction T with
  | nil => intro i q _ h; simp at h
  | cons p T ih =>
    rintro i q ⟨h1, h2⟩ h
    cases i with
    | zero => simp at h; subst h; exact ⟨h1.1, h1.2.1, h1.2.2.1⟩
    | succ i => simp at h; exact ih h2 h
end TO
theorem OK_P {W H P wm : Nat} {T : List TR} (h : OK W H P wm T) : P < 64 := by
  obtain ⟨h1, h2, h3, h4, h5, h6, -⟩ := h
  omega
theorem OK_len {W H P wm : Nat} {T : List TR} (h : OK W H P wm T) : T.length ≤ 21 := TO_len h.2.1 h.2.2.2.1 (OK_P h) h.2.2.2.2.2.2.2.2
theorem OK_pv {W H P wm : Nat} {T : List TR} (h : OK W H P wm T) : pv T < 2 ^ 64 ∧ pv T &&& wm = 0 ∧ pv T &&& 2 ^ P = 0 ∧ pc (pv T) = 3 * T.length := TO_pv h.2.1 h.2.2.2.1 h.2.2.2.2.2.2.2.2
/-- a block of so many cells, wholly in the garden -/
def InB (W H bw bh : Nat) (x y : Int32) : Prop := ∃ X Y, x = nI X ∧ y = nI Y ∧ X + bw ≤ W ∧ Y + bh ≤ H
theorem sub_lt {W bw a : Nat} (hW : W ≤ 8) (hb : bw ≤ 8) (ha : a < 2 ^ 31) : nI W - nI bw < nI a ↔ W < a + bw := by
  rw [Int32.lt_iff_toInt_lt, pk_sub_toInt (by omega) (by omega), nI_toInt ha]
  omega
section CLS
variable {W H P wm : Nat} {T : List TR} {fl rf : Int32} {g : GS}
theorem hasBlockIn (hG : GR W H P wm T fl rf g) (hW : W ≤ 8) (hH : H ≤ 8) {bw bh : Nat} {X Y : Nat} (hx : X + bw ≤ W) (hy : Y + bh ≤ H) : f_X1_hasBlock g (nI X) (nI Y) (nI bw) (nI bh) = some (nI 1) := by
  unfold f_X1_hasBlock
  rw [hG.1, hG.2.1]
  simp only [LIT]
  rw [if_neg (nI_nlt (Nat.zero_le _) (by omega)), if_neg (nI_nlt (Nat.zero_le _) (by omega)), if_neg (by rw [sub_lt hW (by omega) (by omega)]; omega), if_neg (by rw [sub_lt hH (by omega) (by omega)]; omega)]
theorem hasBlockOut (hG : GR W H P wm T fl rf g) (hW : W ≤ 8) (hH : H ≤ 8) {bw bh : Nat} (hbw : bw ≤ 8) (hbh : bh ≤ 8) {x y : Int32} (h : ¬ InB W H bw bh x y) : f_X1_hasBlock g x y (nI bw) (nI bh) = some (nI 0) := by
  unfold f_X1_hasBlock
  rw [hG.1, hG.2.1]
  simp only [LIT]
  by_cases c1 : x < nI 0
  · rw [if_pos c1]
  rw [if_neg c1]
  by_cases c2 : y < nI 0
  · rw [if_pos c2]
  rw [if_neg c2]
  obtain ⟨X, hX, rfl⟩ := nI_of c1
  obtain ⟨Y, hY, rfl⟩ := nI_of c2
  by_cases c3 : W < X + bw
  · rw [if_pos ((sub_lt hW hbw hX).mpr c3)]
  rw [if_neg (fun z => c3 ((sub_lt hW hbw hX).mp z))]
  by_cases c4 : H < Y + bh
  · rw [if_pos ((sub_lt hH hbh hY).mpr c4)]
  exact absurd ⟨X, Y, rfl, rfl, by omega, by omega⟩ h
theorem freeCellsG (hG : GR W H P wm T fl rf g) (hO : OK W H P wm T) : f_X1_freeCells g = some (lN (fm W H P wm (pv T))) := by
  obtain ⟨g1, g2, g3, g4, g5, g6, g7, g8, g9⟩ := g
  obtain ⟨h1, h2, h3, h4, h5, -⟩ := hG
  dsimp only [g_wide, g_high, g_pond, g_walls, g_paved] at h1 h2 h3 h4 h5
  subst h1 h2 h3 h4 h5
  exact freeCellsE hO.2.1 hO.2.2.2.1 (OK_P hO)
theorem pondCellG (hG : GR W H P wm T fl rf g) (hO : OK W H P wm T) : f_X1_pondCell g = some (lN (2 ^ P)) := by
  unfold f_X1_pondCell
  rw [hG.2.2.1, oneL (OK_P hO)]
theorem whyIn (hG : GR W H P wm T fl rf g) (hO : OK W H P wm T) {x y t : Nat} (hx : x + 2 ≤ W) (hy : y + 2 ≤ H) (ht : t < 4) : f_X1_whyRefused g (nI x) (nI y) (nI t) = some (nI (wn P wm (pv T) x y t)) := by
  have hW := hO.2.1
  have hH := hO.2.2.2.1
  have hP := OK_P hO
  have hwm := hO.2.2.2.2.2.2.1
  have hpv := (OK_pv hO).1
  have hl := tm_lt x (by omega) y (by omega) t ht
  unfold f_X1_whyRefused
  rw [show f_X1_hasBlock g (nI x) (nI y) (2 : Int32) (2 : Int32) = some (nI 1) from hasBlockIn hG hW hH hx hy, ob]
  simp only [LIT]
  rw [if_neg (by rw [nI_eq (by decide) (by decide)]; decide), cellsOfE (by omega) (by omega) ht, ob, pondCellG hG hO, ob, hG.2.2.2.1, hG.2.2.2.2.1]
  simp only [cmpZ hl, tm_hit (show x < 7 by omega) (show y < 7 by omega) ht]
  unfold wn
  cases hit (2 ^ P) x y t <;> cases hit wm x y t <;> cases hit (pv T) x y t <;> simp
theorem whyOut (hG : GR W H P wm T fl rf g) (hO : OK W H P wm T) {x y t : Int32} (h : ¬ InB W H 2 2 x y) : f_X1_whyRefused g x y t = some (nI 1) := by
  unfold f_X1_whyRefused
  rw [show f_X1_hasBlock g x y (2 : Int32) (2 : Int32) = some (nI 0) from hasBlockOut hG hO.2.1 hO.2.2.2.1 (by decide) (by decide) h, ob, if_pos (by rfl)]
  rfl
theorem nameE (hG : GR W H P wm T fl rf g) (hO : OK W H P wm T) {i : Nat} {q : TR} (h : T[i]? = some q) : f_X1_tripleName g (nI i) = some (nI (nam q)) := by
  have hi : i < T.length := (List.getElem?_eq_some_iff.mp h).1
  have hl := OK_len hO
  unfold f_X1_tripleName
  rw [hG.2.2.2.2.2.1]
  simp only [LIT]
  rw [if_neg (nI_nlt (Nat.zero_le _) (by omega)), if_neg (nI_ge hi (by omega)), if_neg (nI_ge (by omega) (by omega)), jldE (by omega) (by decide), ob, hG.2.2.2.2.2.2.2.2 i q h]
theorem nam_parts {q : TR} (h1 : q.1 < 7) (h2 : q.2.1 < 7) (h3 : q.2.2 < 4) : f_X4_columnOf (nI (nam q)) = some (nI q.1) ∧ f_X4_rowOf (nI (nam q)) = some (nI q.2.1) ∧ f_X4_turnOf (nI (nam q)) = some (nI q.2.2) := by
  have hn : nam q < 1000 := by unfold nam; omega
  unfold f_X4_columnOf f_X4_rowOf f_X4_turnOf
  simp only [LIT]
  rw [pk_rem (by omega) (by decide) (by decide), pk_div (by omega) (by decide) (by decide), pk_rem (by omega) (by decide) (by decide), pk_div (by omega) (by decide) (by decide)]
  unfold nam at hn ⊢
  refine ⟨?_, ?_, ?_⟩ <;> congr 2 <;> omega
theorem tripleCellsE (hG : GR W H P wm T fl rf g) (hO : OK W H P wm T) {i : Nat} {q : TR} (h : T[i]? = some q) : f_X1_tripleCells g (nI i) = some (lN (qm q)) := by
  have h1 := TO_get hO.2.2.2.2.2.2.2.2 h
  have hW := hO.2.1
  have hH := hO.2.2.2.1
  obtain ⟨p1, p2, p3⟩ := nam_parts (q := q) (by omega) (by omega) h1.2.2
  unfold f_X1_tripleCells
  rw [nameE hG hO h, ob, p1, ob, p2, ob, p3, ob, cellsOfE (by omega) (by omega) h1.2.2, ob]
  rfl
theorem qm_lt64 (hO : OK W H P wm T) {i : Nat} {q : TR} (h : T[i]? = some q) : qm q < 2 ^ 64 := by
  have h1 := TO_get hO.2.2.2.2.2.2.2.2 h
  have hW := hO.2.1
  have hH := hO.2.2.2.1
  exact qm_lt ⟨by omega, by omega, h1.2.2⟩
theorem ow_at : ∀ {T : List TR} {i c : Nat}, (∀ j q, j < i → T[j]? = some q → (qm q).testBit c = false) → i ≤ T.length → ow T c = i + ow (T.drop i) c ∧ (pv T).testBit c = (pv (T.drop i)).testBit c := by
  intro T
  induction T with
  | nil =>
    intro i c _ hi
    have : i = 0 := by simpa using hi
    subst this
    exact ⟨rfl, rfl⟩
  | cons p T ih =>
    intro i c h hi
    cases i with
    | zero => exact ⟨by simp, rfl⟩
    | succ i =>
      have h0 := h 0 p (by omega) rfl
      obtain ⟨a, b⟩ := ih (i := i) (c := c) (fun j q hj hq => h (j + 1) q (by omega) (by simpa using hq)) (by simpa using hi)
      rw [ow, if_neg (by rw [h0]; decide), pv, Nat.testBit_or, h0, Bool.false_or]
      exact ⟨by rw [a, List.drop_succ_cons]; omega, b⟩
theorem tripleOverE (hG : GR W H P wm T fl rf g) (hO : OK W H P wm T) {c : Nat} (hc : c < 64) : f_X1_tripleOver g (lN (2 ^ c)) = some (owI T c) := by
  have hl := OK_len hO
  obtain ⟨v, h1, h2⟩ := loopQ (L := fun n j (_ : Unit) => f_X1_tripleOver_L2 (lN (2 ^ c)) g n j) (N := T.length) (I := fun j _ => ∀ k q, k < j → T[k]? = some q → (qm q).testBit c = false) (Q := fun r => (r = .inl () ∧ (pv T).testBit c = false) ∨ (∃ j, r = .inr (nI j) ∧ (pv T).testBit c = true ∧ ow T c = j)) (fun n j s hj hI => by
    obtain ⟨o1, o2⟩ := ow_at hI hj
    simp only [f_X1_tripleOver_L2, f_X1_tripleOver_L2_b]
    rw [hG.2.2.2.2.2.1]
    by_cases e : j = T.length
    · subst e
      refine Or.inl ⟨_, by rw [if_pos (nI_le (Nat.le_refl _) (by omega))], Or.inl ⟨rfl, ?_⟩⟩
      rw [o2, List.drop_length]
      exact Nat.zero_testBit c
    · have hj2 : j < T.length := by omega
      have hq : T[j]? = some T[j] := List.getElem?_eq_getElem hj2
      rw [if_neg (nI_ge hj2 (by omega)), tripleCellsE hG hO hq, ob]
      simp only [LIT]
      simp only [cmpZ (qm_lt64 hO hq), fb_bit_nat]
      cases z : (qm T[j]).testBit c with
      | true =>
        refine Or.inl ⟨_, by simp only [Bool.true_eq_false, if_false], Or.inr ⟨j, rfl, ?_, ?_⟩⟩
        · rw [o2, List.drop_eq_getElem_cons hj2, pv, Nat.testBit_or, z]
          rfl
        · rw [o1, List.drop_eq_getElem_cons hj2, ow, if_pos z]
          rfl
      | false =>
        refine Or.inr ⟨hj2, (), fun k q hk hq2 => ?_, by simp only [if_true]; rw [jletE, nI_add]⟩
        by_cases e2 : k = j
        · subst e2
          rw [hq] at hq2
          cases hq2
          exact z
        · exact hI k q (by omega) hq2) T.length 4096 0 () (by omega) (by omega) (fun k q hk => absurd hk (by omega))
  unfold f_X1_tripleOver
  rw [show f_X1_tripleOver_L2 (lN (2 ^ c)) g 4096 0 = some v from h1, ob]
  rcases h2 with ⟨rfl, h3⟩ | ⟨j, rfl, h3, h4⟩
  · unfold owI
    rw [h3]
    rfl
  · unfold owI
    rw [h3, h4]
    rfl
end CLS
