/-! ===== blocks of two triples ===== -/
def bw_ (hb : Bool) : Nat := if hb then 2 else 3
def bh_ (hb : Bool) : Nat := if hb then 3 else 2
def c2f (hb : Bool) (x y : Nat) : Nat := if hb then 8 * (y + 2) + (x + 1) else 8 * (y + 1) + (x + 2)
def x2f (hb : Bool) (x : Nat) : Nat := if hb then x else x + 1
def y2f (hb : Bool) (y : Nat) : Nat := if hb then y + 1 else y
def patt (hb : Bool) (x y : Nat) (q1 q2 : TR) : Bool := q1.1 == x && q1.2.1 == y && (q1.2.2 == 2 || q1.2.2 == (if hb then 3 else 1)) && q2.1 == x2f hb x && q2.2.1 == y2f hb y && q2.2.2 == (if q1.2.2 == 2 then 0 else if hb then 1 else 3)
def cvq (c h : Nat) : TR := (c % 8 - h % 2, c / 8 - h / 2 % 2, h / 4)
def cvok (c h : Nat) : Bool := decide (h % 2 ≤ c % 8) && decide (h / 2 % 2 ≤ c / 8) && decide ((cvq c h).1 ≤ 6) && decide ((cvq c h).2.1 ≤ 6) && (qm (cvq c h)).testBit c
def fchk (hb : Bool) (x y h1 h2 : Nat) : Bool := !(cvok (8 * y + x) h1) || !(cvok (c2f hb x y) h2) || (((qm (cvq (8 * y + x) h1) ||| qm (cvq (c2f hb x y) h2)) == blk x y (bw_ hb) (bh_ hb)) == patt hb x y (cvq (8 * y + x) h1) (cvq (c2f hb x y) h2))
theorem fchk_t : ∀ x, x < 7 → ∀ y, y < 6 → ∀ h1, h1 < 16 → ∀ h2, h2 < 16 → fchk true x y h1 h2 = true := by decide +kernel
theorem fchk_f : ∀ x, x < 6 → ∀ y, y < 7 → ∀ h1, h1 < 16 → ∀ h2, h2 < 16 → fchk false x y h1 h2 = true := by decide +kernel
theorem cv_of {q : TR} {c : Nat} (hx : q.1 < 7) (hy : q.2.1 < 7) (ht : q.2.2 < 4) (hc : c < 64) (h : (qm q).testBit c = true) : ∃ h, h < 16 ∧ q = cvq c h ∧ cvok c h = true := by
  obtain ⟨x, y, t⟩ := q
  dsimp only at hx hy ht
  have hn := tm_near hx hy ht hc h
  have e1 : (4 * t + 2 * (c / 8 - y) + (c % 8 - x)) % 2 = c % 8 - x := by omega
  have e2 : (4 * t + 2 * (c / 8 - y) + (c % 8 - x)) / 2 % 2 = c / 8 - y := by omega
  have e3 : (4 * t + 2 * (c / 8 - y) + (c % 8 - x)) / 4 = t := by omega
  have eq : (x, y, t) = cvq c (4 * t + 2 * (c / 8 - y) + (c % 8 - x)) := by
    unfold cvq
    rw [e1, e2, e3, show c % 8 - (c % 8 - x) = x by omega, show c / 8 - (c / 8 - y) = y by omega]
  refine ⟨4 * t + 2 * (c / 8 - y) + (c % 8 - x), by omega, eq, ?_⟩
  unfold cvok
  rw [← eq, h, e1, e2]
  dsimp only
  rw [decide_eq_true (by omega : c % 8 - x ≤ c % 8), decide_eq_true (by omega : c / 8 - y ≤ c / 8), decide_eq_true (by omega : x ≤ 6), decide_eq_true (by omega : y ≤ 6)]
  rfl
theorem flip_pat {hb : Bool} {x y : Nat} {q1 q2 : TR} (hx : x + bw_ hb ≤ 8) (hy : y + bh_ hb ≤ 8) (h1 : q1.1 < 7 ∧ q1.2.1 < 7 ∧ q1.2.2 < 4) (h2 : q2.1 < 7 ∧ q2.2.1 < 7 ∧ q2.2.2 < 4) (b1 : (qm q1).testBit (8 * y + x) = true) (b2 : (qm q2).testBit (c2f hb x y) = true) : ((qm q1 ||| qm q2) == blk x y (bw_ hb) (bh_ hb)) = patt hb x y q1 q2 := by
  have hc1 : 8 * y + x < 64 := by cases hb <;> simp only [bw_, bh_, if_true, Bool.false_eq_true, if_false] at hx hy <;> omega
  have hc2 : c2f hb x y < 64 := by unfold c2f; cases hb <;> simp only [bw_, bh_, if_true, Bool.false_eq_true, if_false] at hx hy ⊢ <;> omega
  obtain ⟨a1, a2, rfl, a4⟩ := cv_of h1.1 h1.2.1 h1.2.2 hc1 b1
  obtain ⟨d1, d2, rfl, d4⟩ := cv_of h2.1 h2.2.1 h2.2.2 hc2 b2
  have key : fchk hb x y a1 d1 = true := by
    cases hb
    · simp only [bw_, bh_, Bool.false_eq_true, if_false] at hx hy
      exact fchk_f x (by omega) y (by omega) a1 a2 d1 d2
    · simp only [bw_, bh_, if_true] at hx hy
      exact fchk_t x (by omega) y (by omega) a1 a2 d1 d2
  unfold fchk at key
  rw [a4, d4] at key
  exact eq_of_beq key
def FLb (hb : Bool) (T : List TR) (x y : Nat) : Bool := (pv T).testBit (8 * y + x) && (pv T).testBit (c2f hb x y) && patt hb x y (T.getD (ow T (8 * y + x)) (0, 0, 0)) (T.getD (ow T (c2f hb x y)) (0, 0, 0))
theorem getD_of {T : List TR} {i : Nat} {q : TR} (h : T[i]? = some q) : T.getD i (0, 0, 0) = q := by rw [List.getD_eq_getElem?_getD, h]; rfl
section FL
variable {W H P wm : Nat} {T : List TR} {fl rf : Int32} {g : GS} {μ : MS} {hb : Bool} {x y : Nat}
theorem flip_small (hW : W ≤ 8) (hH : H ≤ 8) (hx : x + bw_ hb ≤ W) (hy : y + bh_ hb ≤ H) : 8 * y + x < 64 ∧ c2f hb x y < 64 ∧ x < 8 ∧ y < 8 := by
  unfold c2f
  cases hb <;> simp only [bw_, bh_, if_true, Bool.false_eq_true, if_false] at hx hy ⊢ <;> omega
theorem lastFlipE (hc : c2f hb x y < 64) : f_X1_lastFlipCell (nI x) (nI y) (nI (bn hb)) = some (lN (2 ^ c2f hb x y)) := by
  unfold f_X1_lastFlipCell
  unfold c2f at hc ⊢
  simp only [LIT]
  cases hb
  · rw [if_pos (by rfl), nI_add, nI_add, cellAtE hc, ob]
    rfl
  · rw [if_neg (by rw [nI_eq (by decide) (by decide)]; decide), nI_add, nI_add, cellAtE hc, ob]
    rfl
theorem isFlippableE (hG : GR W H P wm T fl rf g) (hO : OK W H P wm T) (hx : x + bw_ hb ≤ W) (hy : y + bh_ hb ≤ H) : f_X1_isFlippable g (nI x) (nI y) (nI (bn hb)) = some (nI (bn (FLb hb T x y))) := by
  have hW := hO.2.1
  have hH := hO.2.2.2.1
  have hT := hO.2.2.2.2.2.2.2.2
  have hl := OK_len hO
  obtain ⟨s1, s2, s3, s4⟩ := flip_small hW hH hx hy
  unfold f_X1_isFlippable
  simp only [LIT]
  rw [cellAtE s1, ob, tripleOverE hG hO s1, ob, lastFlipE s2, ob, tripleOverE hG hO s2, ob]
  unfold FLb owI
  cases g1 : (pv T).testBit (8 * y + x) with
  | false => simp [bn, nI_0]
  | true =>
    have l1 := ow_lt g1
    simp only [if_true]
    rw [if_neg (m1_ne (by omega))]
    cases g2 : (pv T).testBit (c2f hb x y) with
    | false => simp [bn, nI_0]
    | true =>
      have l2 := ow_lt g2
      simp only [if_true]
      rw [if_neg (m1_ne (by omega))]
      obtain ⟨q1, e1, e2⟩ := ow_spec g1
      obtain ⟨q2, e3, e4⟩ := ow_spec g2
      have k1 := TO_get hT e1
      have k2 := TO_get hT e3
      have hbw : (if nI (bn hb) = nI 0 then some (nI 3) else some (nI 2)) = some (nI (bw_ hb)) := by rw [bn_if]; cases hb <;> rfl
      have hbh : (if nI (bn hb) = nI 0 then some (nI 2) else some (nI 3)) = some (nI (bh_ hb)) := by rw [bn_if]; cases hb <;> rfl
      have hp := flip_pat (hb := hb) (x := x) (y := y) (q1 := q1) (q2 := q2) (by omega) (by omega) ⟨by omega, by omega, k1.2.2⟩ ⟨by omega, by omega, k2.2.2⟩ e2 e4
      have hq1 := qm_lt64 hO e1
      have hq2 := qm_lt64 hO e3
      have hbl : blk x y (bw_ hb) (bh_ hb) < 2 ^ 64 := by
        have t1 : ∀ x, x < 7 → ∀ y, y < 6 → blk x y 2 3 < 2 ^ 64 := by decide +kernel
        have t2 : ∀ x, x < 6 → ∀ y, y < 7 → blk x y 3 2 < 2 ^ 64 := by decide +kernel
        cases hb
        · simp only [bw_, bh_, Bool.false_eq_true, if_false] at hx hy ⊢
          exact t2 x (by omega) y (by omega)
        · simp only [bw_, bh_, if_true] at hx hy ⊢
          exact t1 x (by omega) y (by omega)
      rw [hbw, ob, hbh, ob, blockCellsE s3 (by omega) (by omega), ob, tripleCellsE hG hO e1, ob, tripleCellsE hG hO e3, ob, fb_orL, getD_of e1, getD_of e3, Bool.true_and, Bool.true_and, ← hp]
      have hce := cmpE (Nat.or_lt_two_pow hq1 hq2) hbl
      by_cases z : qm q1 ||| qm q2 = blk x y (bw_ hb) (bh_ hb)
      · rw [if_pos (hce.mpr z)]
        simp [z, bn]
      · rw [if_neg (fun w => z (hce.mp w))]
        simp [z, bn]
theorem nI_ite {c : Prop} [Decidable c] {a b : Nat} : (if c then some (nI a) else some (nI b)) = some (nI (if c then a else b)) := by split <;> rfl
theorem turnOfE (hS : SR W H P wm T fl rf (m_s μ) 0) (hO : OK W H P wm T) (hx : x + bw_ hb ≤ W) (hy : y + bh_ hb ≤ H) : f_X5_turnOf μ (nI x) (nI y) (nI (bn hb)) = some (if FLb hb T x y then nI (T.getD (ow T (8 * y + x)) (0, 0, 0)).2.2 else -nI 1) := by
  have hW := hO.2.1
  have hH := hO.2.2.2.1
  have hT := hO.2.2.2.2.2.2.2.2
  have hl := OK_len hO
  obtain ⟨s1, s2, s3, s4⟩ := flip_small hW hH hx hy
  obtain ⟨h0, h1, h2, h3, h4, h5, h6, h7, h8⟩ := hS
  have v1 := h4 _ s1
  have v2 := h4 _ s2
  rw [Nat.zero_add] at v1 v2
  have hi1 : nI 67 + nI 8 * nI y + nI x = nI (67 + (8 * y + x)) := by rw [pk_mul, nI_add, nI_add]; exact congrArg nI (by omega)
  have ho2 : (if nI (bn hb) = nI 0 then some (nI 1) else some (nI 2)) = some (nI (bh_ hb - 1)) := by rw [bn_if]; cases hb <;> rfl
  have ho3 : (if nI (bn hb) = nI 0 then some (nI 2) else some (nI 1)) = some (nI (bw_ hb - 1)) := by rw [bn_if]; cases hb <;> rfl
  have hi2 : nI 67 + nI 8 * (nI y + nI (bh_ hb - 1)) + nI x + nI (bw_ hb - 1) = nI (67 + c2f hb x y) := by
    rw [nI_add, pk_mul, nI_add, nI_add, nI_add]
    unfold c2f bw_ bh_
    cases hb
    · exact congrArg nI (by simp; omega)
    · exact congrArg nI (by simp; omega)
  unfold f_X5_turnOf
  simp only [LIT]
  rw [hi1, jldE (by omega) (by decide), v1, ob, ho2, ob, ho3, ob, hi2, jldE (by omega) (by decide), v2, ob]
  simp only [owI_neg (show T.length < 1000 by omega)]
  unfold FLb
  cases g1 : (pv T).testBit (8 * y + x) with
  | false => simp
  | true =>
    cases g2 : (pv T).testBit (c2f hb x y) with
    | false => simp
    | true =>
      have l1 := ow_lt g1
      have l2 := ow_lt g2
      obtain ⟨q1, e1, e2⟩ := ow_spec g1
      obtain ⟨q2, e3, e4⟩ := ow_spec g2
      have k1 := TO_get hT e1
      have k2 := TO_get hT e3
      have f1 := h6 _ _ e1
      have f2 := h6 _ _ e3
      rw [Nat.zero_add] at f1 f2
      unfold owI
      rw [g1, g2, getD_of e1, getD_of e3]
      simp only [Bool.true_eq_false, if_false, if_true, Bool.true_and]
      by_cases z : ow T (8 * y + x) = ow T (c2f hb x y)
      · have : q1 = q2 := by rw [z, e3] at e1; exact (Option.some.inj e1).symm
        subst this
        rw [if_pos (by rw [z])]
        have hn : patt hb x y q1 q1 = false := by
          cases hpq : patt hb x y q1 q1 with
          | false => rfl
          | true =>
            unfold patt x2f y2f at hpq
            simp only [Bool.and_eq_true, beq_iff_eq] at hpq
            cases hb <;> simp at hpq <;> omega
        rw [hn]
        rfl
      · rw [if_neg (by rw [nI_eq (by omega) (by omega)]; exact z)]
        simp only [pk_mul, nI_add]
        rw [jldE (by omega) (by decide), ob, f1.2.2, jldE (by omega) (by decide), ob, f1.1, jldE (by omega) (by decide), f1.2.1, jldE (by omega) (by decide), f2.1, jldE (by omega) (by decide), f2.2.1, jldE (by omega) (by decide), f2.2.2]
        simp only [ob, nI_eq (show q1.1 < 2 ^ 31 by omega) (show x < 2 ^ 31 by omega), nI_eq (show q1.2.1 < 2 ^ 31 by omega) (show y < 2 ^ 31 by omega), nI_eq (show q1.2.2 < 2 ^ 31 by omega) (show 2 < 2 ^ 31 by decide)]
        have ha : (if q1.1 = x then (if q1.2.1 = y then (if q1.2.2 = 2 then some (nI 1) else Option.bind (if nI (bn hb) = nI 0 then some (nI 1) else some (nI 3)) fun o11 => if nI q1.2.2 = o11 then some (nI 1) else some (nI 0)) else some (nI 0)) else some (nI 0)) = some (nI (bn (q1.1 == x && q1.2.1 == y && (q1.2.2 == 2 || q1.2.2 == (if hb then 3 else 1))))) := by
          by_cases a1 : q1.1 = x
          · by_cases a2 : q1.2.1 = y
            · by_cases a3 : q1.2.2 = 2
              · simp [a1, a2, a3, bn]
              · rw [if_pos a1, if_pos a2, if_neg a3, bn_if]
                cases hb
                · simp only [Bool.false_eq_true, if_false, ob, nI_eq (show q1.2.2 < 2 ^ 31 by omega) (show 1 < 2 ^ 31 by decide)]
                  by_cases a4 : q1.2.2 = 1
                  · simp [a1, a2, a4, bn]
                  · simp [a1, a2, a3, a4, bn]
                · simp only [if_true, ob, nI_eq (show q1.2.2 < 2 ^ 31 by omega) (show 3 < 2 ^ 31 by decide)]
                  by_cases a4 : q1.2.2 = 3
                  · simp [a1, a2, a4, bn]
                  · simp [a1, a2, a3, a4, bn]
            · simp [a1, a2, bn]
          · simp [a1, bn]
        have h12 : (if nI (bn hb) = nI 0 then some (nI (x + 1)) else some (nI x)) = some (nI (x2f hb x)) := by rw [bn_if]; cases hb <;> rfl
        have h13 : (if nI (bn hb) = nI 0 then some (nI y) else some (nI (y + 1))) = some (nI (y2f hb y)) := by rw [bn_if]; cases hb <;> rfl
        have h14 : (if q1.2.2 = 2 then some (nI 0) else (if nI (bn hb) = nI 0 then some (nI 3) else some (nI 1))) = some (nI (if q1.2.2 == 2 then 0 else if hb then 1 else 3)) := by
          rw [bn_if]
          by_cases a3 : q1.2.2 = 2
          · simp [a3]
          · cases hb <;> simp [a3]
        rw [ha, ob, h12, ob, h13, ob, h14, ob, bn_if]
        have hk : (if q1.2.2 == 2 then 0 else if hb then 1 else 3) < 10 := by split <;> (try split) <;> omega
        have hx2 : x2f hb x < 100 := by unfold x2f; split <;> omega
        have hy2 : y2f hb y < 100 := by unfold y2f; split <;> omega
        simp only [nI_eq (show q2.1 < 2 ^ 31 by omega) (show x2f hb x < 2 ^ 31 by omega), nI_eq (show q2.2.1 < 2 ^ 31 by omega) (show y2f hb y < 2 ^ 31 by omega), nI_eq (show q2.2.2 < 2 ^ 31 by omega) (show (if q1.2.2 == 2 then 0 else if hb then 1 else 3) < 2 ^ 31 by omega)]
        have hpat : patt hb x y q1 q2 = ((q1.1 == x && q1.2.1 == y && (q1.2.2 == 2 || q1.2.2 == (if hb then 3 else 1))) && (q2.1 == x2f hb x && q2.2.1 == y2f hb y && q2.2.2 == (if q1.2.2 == 2 then 0 else if hb then 1 else 3))) := by
          unfold patt
          simp only [Bool.and_assoc]
        rw [hpat]
        cases (q1.1 == x && q1.2.1 == y && (q1.2.2 == 2 || q1.2.2 == (if hb then 3 else 1)))
        · simp [ob]
        · simp only [if_true, Bool.true_and]
          by_cases b1 : q2.1 = x2f hb x
          · by_cases b2 : q2.2.1 = y2f hb y
            · by_cases b3 : q2.2.2 = (if q1.2.2 == 2 then 0 else if hb then 1 else 3)
              · rw [if_pos b1, if_pos b2, if_pos b3, b1, b2, b3, ob, if_neg (by rw [nI_eq (by decide) (by decide)]; decide)]
                simp
              · rw [if_pos b1, if_pos b2, if_neg b3, ob, if_pos rfl, beq_eq_false_iff_ne.mpr b3, Bool.and_false]
                rfl
            · rw [if_pos b1, if_neg b2, ob, if_pos rfl, beq_eq_false_iff_ne.mpr b2, Bool.and_false]
              rfl
          · rw [if_neg b1, ob, if_pos rfl, beq_eq_false_iff_ne.mpr b1]
            rfl
end FL
