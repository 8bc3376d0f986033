/-! ===== triples that could be laid: over a cell, in all ===== -/
def bn (b : Bool) : Nat := if b then 1 else 0
/-- a triple that could be laid -/
def lay' (W H P wm pm x y t : Nat) : Bool := decide (x + 2 ≤ W) && decide (y + 2 ≤ H) && (wn P wm pm x y t == 0)
def GG (W H P wm pm c x y t : Nat) : Bool := lay' W H P wm pm x y t && (tm x y t).testBit c
def chz (W H P wm pm c h : Nat) : Bool := decide (h % 2 ≤ c % 8) && decide (h / 2 % 2 ≤ c / 8) && GG W H P wm pm c (c % 8 - h % 2) (c / 8 - h / 2 % 2) (h / 4)
theorem lay_in {W H P wm pm x y t : Nat} (h : lay' W H P wm pm x y t = true) : x + 2 ≤ W ∧ y + 2 ≤ H ∧ wn P wm pm x y t = 0 := by
  unfold lay' at h
  simp only [Bool.and_eq_true, decide_eq_true_iff, beq_iff_eq] at h
  exact ⟨h.1.1, h.1.2, h.2⟩
theorem lay_wn {W H P wm pm x y t : Nat} (hx : x + 2 ≤ W) (hy : y + 2 ≤ H) : lay' W H P wm pm x y t = (wn P wm pm x y t == 0) := by
  unfold lay'
  rw [decide_eq_true hx, decide_eq_true hy]
  rfl
theorem wn_le (P wm pm x y t : Nat) : wn P wm pm x y t ≤ 4 := by
  unfold wn
  split
  · omega
  · split
    · omega
    · split <;> omega
theorem tm_near {x y t c : Nat} (hx : x < 7) (hy : y < 7) (ht : t < 4) (hc : c < 64) (h : (tm x y t).testBit c = true) : (c % 8 = x ∨ c % 8 = x + 1) ∧ (c / 8 = y ∨ c / 8 = y + 1) := by
  rw [tm_bit x hx y hy t ht c hc] at h
  obtain ⟨c0, c1, c2, c3⟩ := cb_v x y
  simp only [Bool.or_eq_true, Bool.and_eq_true, beq_iff_eq, c0, c1, c2, c3] at h
  omega
section CL
variable {W H P wm : Nat} {T : List TR} {fl rf : Int32} {g : GS}
theorem subI_neg {a b : Nat} (ha : a < 1000) (hb : b < 1000) (h : a < b) : nI a - nI b < nI 0 := by
  rw [Int32.lt_iff_toInt_lt, pk_sub_toInt (by omega) (by omega), nI_toInt (by decide)]
  omega
theorem inB_neg {x y : Int32} {W H bw bh : Nat} (hW : W ≤ 8) (hH : H ≤ 8) (h : x < nI 0 ∨ y < nI 0) : ¬ InB W H bw bh x y := by
  rintro ⟨X, Y, rfl, rfl, h1, h2⟩
  rcases h with h | h
  · rw [nI_ltI (by omega) (by decide)] at h; omega
  · rw [nI_ltI (by omega) (by decide)] at h; omega
theorem inB_nat {X Y W H bw bh : Nat} (hW : W ≤ 8) (hH : H ≤ 8) (hX : X < 1000) (hY : Y < 1000) : InB W H bw bh (nI X) (nI Y) ↔ X + bw ≤ W ∧ Y + bh ≤ H := by
  constructor
  · rintro ⟨A, B, h1, h2, h3, h4⟩
    rw [nI_eq (by omega) (by omega)] at h1 h2
    omega
  · rintro ⟨h1, h2⟩
    exact ⟨X, Y, rfl, rfl, h1, h2⟩
theorem couldCoverE (hG : GR W H P wm T fl rf g) (hO : OK W H P wm T) {c h : Nat} (hc : c < 64) (hh : h < 16) : f_X1_couldCover g (nI c) (nI h) = some (nI (bn (chz W H P wm (pv T) c h))) := by
  have hW := hO.2.1
  have hH := hO.2.2.2.1
  unfold f_X1_couldCover f_X1_coverX f_X1_coverY
  simp only [LIT]
  rw [pk_rem (by omega) (by decide) (by decide), pk_rem (by omega) (by decide) (by decide), ob, pk_div (by omega) (by decide) (by decide), pk_div (by omega) (by decide) (by decide), pk_rem (by omega) (by decide) (by decide), ob, pk_div (by omega) (by decide) (by decide), jletE]
  unfold chz
  by_cases d1 : h % 2 ≤ c % 8
  · by_cases d2 : h / 2 % 2 ≤ c / 8
    · rw [pk_sub d1, pk_sub d2, decide_eq_true d1, decide_eq_true d2]
      simp only [Bool.true_and]
      by_cases d3 : c % 8 - h % 2 + 2 ≤ W ∧ c / 8 - h / 2 % 2 + 2 ≤ H
      · rw [whyIn hG hO d3.1 d3.2 (by omega), ob]
        unfold GG
        rw [lay_wn d3.1 d3.2]
        have := wn_le P wm (pv T) (c % 8 - h % 2) (c / 8 - h / 2 % 2) (h / 4)
        by_cases z : wn P wm (pv T) (c % 8 - h % 2) (c / 8 - h / 2 % 2) (h / 4) = 0
        · rw [z, if_pos rfl, cellsOfE (by omega) (by omega) (by omega), ob, holdsE (tm_lt _ (by omega) _ (by omega) _ (by omega)) hc, ob]
          cases (tm (c % 8 - h % 2) (c / 8 - h / 2 % 2) (h / 4)).testBit c <;> rfl
        · rw [if_neg (by rw [nI_eq (by omega) (by decide)]; exact z), show (wn P wm (pv T) (c % 8 - h % 2) (c / 8 - h / 2 % 2) (h / 4) == 0) = false by simpa using z]
          rfl
      · rw [whyOut hG hO (by rw [inB_nat hW hH (by omega) (by omega)]; exact d3), ob, if_neg (by rw [nI_eq (by decide) (by decide)]; decide)]
        unfold GG lay'
        by_cases d4 : c % 8 - h % 2 + 2 ≤ W
        · rw [decide_eq_false (show ¬ c / 8 - h / 2 % 2 + 2 ≤ H from fun z => d3 ⟨d4, z⟩), Bool.and_false]
          rfl
        · rw [decide_eq_false d4]
          rfl
    · rw [whyOut hG hO (inB_neg hW hH (Or.inr (subI_neg (by omega) (by omega) (by omega)))), ob, if_neg (by rw [nI_eq (by decide) (by decide)]; decide), decide_eq_false d2, Bool.and_false]
      rfl
  · rw [whyOut hG hO (inB_neg hW hH (Or.inl (subI_neg (by omega) (by omega) (by omega)))), ob, if_neg (by rw [nI_eq (by decide) (by decide)]; decide), decide_eq_false d1]
    rfl
theorem bn_if (b : Bool) {α : Type} (x y : α) : (if nI (bn b) = nI 0 then x else y) = if b then y else x := by
  cases b
  · exact if_pos rfl
  · exact if_neg (by rw [nI_eq (by decide) (by decide)]; decide)
theorem coverCountE (hG : GR W H P wm T fl rf g) (hO : OK W H P wm T) {c : Nat} (hc : c < 64) : f_X1_coverCount g (nI c) = some (nI (fb_ct (chz W H P wm (pv T) c) 16)) := by
  unfold f_X1_coverCount
  rw [show f_X1_coverCount_L4 (nI c) g 4096 0 0 = some (nI (fb_ct (chz W H P wm (pv T) c) 16)) from loopE (L := fun n j s => f_X1_coverCount_L4 (nI c) g n s j) (N := 16) (fun j => nI (fb_ct (chz W H P wm (pv T) c) j)) (fun n => by
    simp (disch := omega) only [f_X1_coverCount_L4, f_X1_coverCount_L4_b, LIT, nI_leI, if_pos]) (fun n j hj => by
    simp only [f_X1_coverCount_L4, f_X1_coverCount_L4_b]
    simp only [LIT]
    rw [if_neg (nI_ge hj (by decide)), couldCoverE hG hO hc hj, ob, bn_if, fb_ct_succ]
    cases chz W H P wm (pv T) c j
    · simp only [Bool.false_eq_true, if_false]
      rw [ob, jletE, jletE, nI_add, nI_add]
    · simp only [if_true]
      rw [ob, jletE, jletE, nI_add, nI_add]) (k := 0) (n := 4096) (by omega) (by omega)]
  rfl
theorem firstCoverE (hG : GR W H P wm T fl rf g) (hO : OK W H P wm T) {c : Nat} (hc : c < 64) : ∃ r, f_X1_firstCover g (nI c) = some r ∧ ((∃ h, h < 16 ∧ chz W H P wm (pv T) c h = true ∧ r = nI (nam (c % 8 - h % 2, c / 8 - h / 2 % 2, h / 4))) ∨ ∀ h, h < 16 → chz W H P wm (pv T) c h = false) := by
  obtain ⟨v, h1, h2⟩ := loopQ (L := fun n j (_ : Unit) => f_X1_firstCover_L2 (nI c) g n j) (N := 16) (I := fun j _ => ∀ h, h < j → chz W H P wm (pv T) c h = false) (Q := fun r => (∃ h, h < 16 ∧ chz W H P wm (pv T) c h = true ∧ r = .inr (nI (nam (c % 8 - h % 2, c / 8 - h / 2 % 2, h / 4)))) ∨ (r = .inl () ∧ ∀ h, h < 16 → chz W H P wm (pv T) c h = false)) (fun n j s hj hI => by
    simp only [f_X1_firstCover_L2, f_X1_firstCover_L2_b]
    by_cases e : j = 16
    · subst e
      exact Or.inl ⟨_, by simp (disch := omega) only [LIT, nI_leI, if_pos], Or.inr ⟨rfl, hI⟩⟩
    · simp only [LIT]
      rw [if_neg (nI_ge (show j < 16 by omega) (by decide)), couldCoverE hG hO hc (by omega), ob, bn_if]
      cases z : chz W H P wm (pv T) c j with
      | true =>
        refine Or.inl ⟨_, ?_, Or.inl ⟨j, by omega, z, rfl⟩⟩
        unfold chz at z
        simp only [Bool.and_eq_true, decide_eq_true_iff] at z
        simp only [if_true]
        unfold f_X1_coverX f_X1_coverY f_X4_nameOf
        simp only [LIT]
        rw [pk_rem (by omega) (by decide) (by decide), pk_rem (by omega) (by decide) (by decide), ob, pk_div (by omega) (by decide) (by decide), pk_div (by omega) (by decide) (by decide), pk_rem (by omega) (by decide) (by decide), ob, pk_sub z.1.1, pk_sub z.1.2, pk_div (by omega) (by decide) (by decide), pk_mul, pk_mul, nI_add, nI_add, ob]
        rfl
      | false =>
        refine Or.inr ⟨by omega, (), fun h hh => ?_, by simp only [Bool.false_eq_true, if_false]; rw [jletE, nI_add]⟩
        by_cases e2 : h = j
        · rw [e2]; exact z
        · exact hI h (by omega)) 16 4096 0 () (by omega) (by omega) (fun h hh => absurd hh (by omega))
  unfold f_X1_firstCover
  rw [show f_X1_firstCover_L2 (nI c) g 4096 0 = some v from h1, ob]
  rcases h2 with ⟨h, a, b, rfl⟩ | ⟨rfl, h3⟩
  · exact ⟨_, rfl, Or.inl ⟨h, a, b, rfl⟩⟩
  · exact ⟨_, rfl, Or.inr h3⟩
/-- what a search for the first cell finds -/
def FFW (p : Nat → Bool) (r : Int32) : Prop := (r = -nI 1 ∧ ∀ c, c < 64 → p c = false) ∨ ∃ c, c < 64 ∧ r = nI c ∧ p c = true ∧ ∀ k, k < c → p k = false
theorem FFW_one {p : Nat → Bool} {r s : Int32} (h : FFW p r) (h2 : FFW p s) : r = s := by
  rcases h with ⟨rfl, h⟩ | ⟨c, hc, rfl, h, h3⟩
  · rcases h2 with ⟨rfl, -⟩ | ⟨c, hc, rfl, h2, -⟩
    · rfl
    · rw [h c hc] at h2; cases h2
  · rcases h2 with ⟨rfl, h2⟩ | ⟨d, hd, rfl, h2, h4⟩
    · rw [h2 c hc] at h; cases h
    · rcases Nat.lt_trichotomy c d with z | z | z
      · rw [h4 c z] at h; cases h
      · rw [z]
      · rw [h3 d z] at h2; cases h2
def pw (W H P wm pm a : Nat) (c : Nat) : Bool := (fm W H P wm pm).testBit c && (fb_ct (chz W H P wm pm c) 16 == a)
theorem firstFreeWithE (hG : GR W H P wm T fl rf g) (hO : OK W H P wm T) {a : Nat} (ha : a < 100) : ∃ r, f_X1_firstFreeWith g (nI a) = some r ∧ FFW (pw W H P wm (pv T) a) r := by
  have hm := fm_lt (P := P) (wm := wm) (pm := pv T) hO.2.1 hO.2.2.2.1
  obtain ⟨v, h1, h2⟩ := loopQ (L := fun n j (_ : Unit) => f_X1_firstFreeWith_L8 (nI a) g (lN (fm W H P wm (pv T))) n j) (N := 64) (I := fun j _ => ∀ c, c < j → pw W H P wm (pv T) a c = false) (Q := fun r => (r = .inl () ∧ ∀ c, c < 64 → pw W H P wm (pv T) a c = false) ∨ ∃ c, c < 64 ∧ r = .inr (nI c) ∧ pw W H P wm (pv T) a c = true ∧ ∀ k, k < c → pw W H P wm (pv T) a k = false) (fun n j s hj hI => by
    simp only [f_X1_firstFreeWith_L8, f_X1_firstFreeWith_L8_b]
    by_cases e : j = 64
    · subst e
      exact Or.inl ⟨_, by simp (disch := omega) only [LIT, nI_leI, if_pos], Or.inl ⟨rfl, hI⟩⟩
    · simp only [LIT]
      rw [if_neg (nI_ge (show j < 64 by omega) (by decide)), holdsE hm (by omega), ob, show (if (fm W H P wm (pv T)).testBit j = true then 1 else 0) = bn ((fm W H P wm (pv T)).testBit j) from rfl, bn_if]
      have hct : fb_ct (chz W H P wm (pv T) j) 16 ≤ 16 := fb_ct_le _ _
      have nxt : pw W H P wm (pv T) a j = false → ∀ c, c < j + 1 → pw W H P wm (pv T) a c = false := fun z c hc => by
        by_cases e2 : c = j
        · rw [e2]; exact z
        · exact hI c (by omega)
      cases z : (fm W H P wm (pv T)).testBit j with
      | false =>
        exact Or.inr ⟨by omega, (), nxt (by unfold pw; rw [z]; rfl), by simp only [Bool.false_eq_true, if_false]; rw [jletE, nI_add]⟩
      | true =>
        simp only [if_true]
        rw [coverCountE hG hO (by omega), ob]
        by_cases q : fb_ct (chz W H P wm (pv T) j) 16 = a
        · exact Or.inl ⟨_, by rw [if_pos (by rw [q])], Or.inr ⟨j, by omega, rfl, by unfold pw; rw [z, q]; simp, hI⟩⟩
        · exact Or.inr ⟨by omega, (), nxt (by unfold pw; rw [z]; simpa using q), by rw [if_neg (by rw [nI_eq (by omega) (by omega)]; exact q), jletE, nI_add]⟩) 64 4096 0 () (by omega) (by omega) (fun c hc => absurd hc (by omega))
  unfold f_X1_firstFreeWith
  rw [freeCellsG hG hO, ob, show f_X1_firstFreeWith_L8 (nI a) g (lN (fm W H P wm (pv T))) 4096 0 = some v from h1, ob]
  rcases h2 with ⟨rfl, h3⟩ | ⟨c, hc, rfl, h3, h4⟩
  · exact ⟨_, rfl, Or.inl ⟨rfl, h3⟩⟩
  · exact ⟨_, rfl, Or.inr ⟨c, hc, rfl, h3, h4⟩⟩
end CL
