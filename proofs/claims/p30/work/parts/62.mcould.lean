/-! ===== the same, as the reference counts ===== -/
theorem fb_two {f : Nat → Nat} {p : Nat} : ∀ {n : Nat}, (∀ x, x < n → x ≠ p → x + 1 ≠ p → f x = 0) → fb_sm f n = (if p < n then f p else 0) + (if 1 ≤ p ∧ p - 1 < n then f (p - 1) else 0) := by
  intro n
  induction n with
  | zero => intro _; rw [if_neg (by omega), if_neg (by omega)]; rfl
  | succ n ih =>
    intro h
    rw [fb_sm_succ, ih (fun x hx => h x (by omega))]
    by_cases c : n = p
    · subst c
      rw [if_neg (by omega), if_pos (show n < n + 1 by omega)]
      by_cases d : 1 ≤ n
      · rw [if_pos ⟨d, by omega⟩, if_pos ⟨d, by omega⟩]; omega
      · rw [if_neg (by omega), if_neg (by omega)]; omega
    · by_cases e : n + 1 = p
      · subst e
        rw [if_neg (by omega), if_neg (show ¬ n + 1 < n + 1 by omega), if_neg (by omega), if_pos ⟨by omega, by omega⟩]
        rw [Nat.add_sub_cancel]
      · rw [h n (by omega) c e]
        by_cases d : p < n
        · rw [if_pos d, if_pos (show p < n + 1 by omega)]
          by_cases q : 1 ≤ p
          · rw [if_pos ⟨q, by omega⟩, if_pos ⟨q, by omega⟩]; rfl
          · rw [if_neg (by omega), if_neg (by omega)]
        · rw [if_neg d, if_neg (show ¬ p < n + 1 by omega), if_neg (by omega), if_neg (by omega)]
theorem fb_near {f : Nat → Nat} {p n : Nat} (h : ∀ x, x < n → x ≠ p → x + 1 ≠ p → f x = 0) (h2 : n ≤ p → f p = 0) (h3 : 1 ≤ p → n ≤ p - 1 → f (p - 1) = 0) : fb_sm f n = f p + (if 1 ≤ p then f (p - 1) else 0) := by
  rw [fb_two h]
  congr 1
  · by_cases c : p < n
    · rw [if_pos c]
    · rw [if_neg c, h2 (by omega)]
  · by_cases c : 1 ≤ p
    · rw [if_pos c]
      by_cases d : p - 1 < n
      · rw [if_pos ⟨c, d⟩]
      · rw [if_neg (fun z => d z.2), h3 c (by omega)]
    · rw [if_neg (fun z => c z.1), if_neg c]
section CNT
variable {W H P wm pm : Nat}
theorem GG_near {c x y t : Nat} (hW : W ≤ 8) (hH : H ≤ 8) (hc : c < 64) (ht : t < 4) (h : GG W H P wm pm c x y t = true) : (x = c % 8 ∨ x + 1 = c % 8) ∧ (y = c / 8 ∨ y + 1 = c / 8) ∧ x + 2 ≤ W ∧ y + 2 ≤ H := by
  unfold GG at h
  rw [Bool.and_eq_true] at h
  have h1 := lay_in h.1
  have h2 := tm_near (show x < 7 by omega) (show y < 7 by omega) ht hc h.2
  omega
/-- the sum over all blocks is that over the four blocks of the cell -/
theorem cnt_eq {c : Nat} (hW : W ≤ 8) (hH : H ≤ 8) (hc : c < 64) : fb_sm (fun y => fb_sm (fun x => fb_sm (fun t => bn (GG W H P wm pm c x y t)) 4) (W - 1)) (H - 1) = fb_ct (chz W H P wm pm c) 16 := by
  have z0 : ∀ x y, ¬ ((x = c % 8 ∨ x + 1 = c % 8) ∧ (y = c / 8 ∨ y + 1 = c / 8) ∧ x + 2 ≤ W ∧ y + 2 ≤ H) → fb_sm (fun t => bn (GG W H P wm pm c x y t)) 4 = 0 := fun x y h => by
    rw [← fb_sm_zeros 4]
    apply fb_sm_cong
    intro t ht
    cases g : GG W H P wm pm c x y t with
    | false => rfl
    | true => exact absurd (GG_near hW hH hc ht g) h
  have z1 : ∀ y, fb_sm (fun x => fb_sm (fun t => bn (GG W H P wm pm c x y t)) 4) (W - 1) = fb_sm (fun t => bn (GG W H P wm pm c (c % 8) y t)) 4 + (if 1 ≤ c % 8 then fb_sm (fun t => bn (GG W H P wm pm c (c % 8 - 1) y t)) 4 else 0) := fun y =>
    fb_near (f := fun x => fb_sm (fun t => bn (GG W H P wm pm c x y t)) 4) (fun x _ h1 h2 => z0 x y (fun z => by omega)) (fun h => z0 _ y (fun z => by omega)) (fun h h2 => z0 _ y (fun z => by omega))
  have z2 : fb_sm (fun y => fb_sm (fun x => fb_sm (fun t => bn (GG W H P wm pm c x y t)) 4) (W - 1)) (H - 1) = fb_sm (fun x => fb_sm (fun t => bn (GG W H P wm pm c x (c / 8) t)) 4) (W - 1) + (if 1 ≤ c / 8 then fb_sm (fun x => fb_sm (fun t => bn (GG W H P wm pm c x (c / 8 - 1) t)) 4) (W - 1) else 0) := by
    refine fb_near (f := fun y => fb_sm (fun x => fb_sm (fun t => bn (GG W H P wm pm c x y t)) 4) (W - 1)) (fun y _ h1 h2 => ?_) (fun h => ?_) (fun h h2 => ?_) <;>
    · rw [← fb_sm_zeros (W - 1)]
      exact fb_sm_cong (fun x _ => z0 x _ (fun z => by omega))
  rw [z2, z1, z1]
  have e : ∀ h, h < 16 → (if chz W H P wm pm c h then 1 else 0) = if h % 2 ≤ c % 8 then (if h / 2 % 2 ≤ c / 8 then bn (GG W H P wm pm c (c % 8 - h % 2) (c / 8 - h / 2 % 2) (h / 4)) else 0) else 0 := fun h _ => by
    unfold chz
    by_cases d1 : h % 2 ≤ c % 8
    · by_cases d2 : h / 2 % 2 ≤ c / 8
      · rw [if_pos d1, if_pos d2, decide_eq_true d1, decide_eq_true d2]; rfl
      · rw [if_pos d1, if_neg d2, decide_eq_true d1, decide_eq_false d2]; rfl
    · rw [if_neg d1, decide_eq_false d1]; rfl
  simp only [fb_ct_succ, fb_sm_succ]
  rw [e 0 (by decide), e 1 (by decide), e 2 (by decide), e 3 (by decide), e 4 (by decide), e 5 (by decide), e 6 (by decide), e 7 (by decide), e 8 (by decide), e 9 (by decide), e 10 (by decide), e 11 (by decide), e 12 (by decide), e 13 (by decide), e 14 (by decide), e 15 (by decide)]
  simp only [Nat.reduceMod, Nat.reduceDiv, Nat.zero_le, if_true, Nat.sub_zero]
  show _ = _
  by_cases d1 : 1 ≤ c % 8
  · by_cases d2 : 1 ≤ c / 8
    · simp only [if_pos d1, if_pos d2, fb_sm, fb_ct]; omega
    · simp only [if_pos d1, if_neg d2, fb_sm, fb_ct]; omega
  · by_cases d2 : 1 ≤ c / 8
    · simp only [if_neg d1, if_pos d2, fb_sm, fb_ct]; omega
    · simp only [if_neg d1, if_neg d2, fb_sm, fb_ct]; omega
theorem ct_one {p : Nat → Bool} {n i j : Nat} (h : fb_ct p n = 1) (hi : i < n) (hj : j < n) (pi : p i = true) (pj : p j = true) : i = j := by
  have key : ∀ i j, i < j → j < n → p i = true → p j = true → False := fun i j hij hj pi pj => by
    have h1 := fb_ct_mono p (show i + 1 ≤ j by omega)
    have h2 := fb_ct_mono p (show j + 1 ≤ n by omega)
    rw [fb_ct_succ, pi] at h1
    rw [fb_ct_succ, pj] at h2
    simp at h1 h2
    omega
  rcases Nat.lt_trichotomy i j with z | z | z
  · exact absurd (key i j z hj pi pj) id
  · exact z
  · exact absurd (key j i z hi pj pi) id
end CNT
theorem ofTripleE {x y t c : Nat} (hx : x < 7) (hy : y < 7) (ht : t < 4) (hc : c < 64) : f_X5_isOfTriple (nI x) (nI y) (nI t) (nI c) = some (nI (bn ((tm x y t).testBit c))) := by
  have hz : ∀ b : Bool, jz (nI (bn b)) = some (nI (bn b)) := by decide +kernel
  have hl := loopE (L := fun n j s => f_X5_isOfTriple_L6 (nI x) (nI y) (nI t) (nI c) n s j) (N := 4) (r := nI (bn ((t != 0 && c == cb x y 0) || (t != 1 && c == cb x y 1) || (t != 2 && c == cb x y 2) || (t != 3 && c == cb x y 3)))) (fun j => nI (bn ((decide (0 < j) && (t != 0 && c == cb x y 0)) || (decide (1 < j) && (t != 1 && c == cb x y 1)) || (decide (2 < j) && (t != 2 && c == cb x y 2)) || (decide (3 < j) && (t != 3 && c == cb x y 3))))) (fun n => by
    simp (disch := omega) only [f_X5_isOfTriple_L6, f_X5_isOfTriple_L6_b, LIT, nI_leI, if_pos]
    rfl) (fun n j hj => by
    simp only [f_X5_isOfTriple_L6, f_X5_isOfTriple_L6_b]
    simp only [LIT]
    rw [if_neg (nI_ge hj (by decide)), bn_if]
    have hb := cb_lt hx hy hj
    have hv : (if nI j = nI t then some (nI 0) else Option.bind (f_X5_ofBlock (nI x) (nI y) (nI j)) fun r12 => if r12 = nI c then some (nI 1) else some (nI 0)) = some (nI (bn (t != j && c == cb x y j))) := by
      by_cases e : j = t
      · subst e
        rw [if_pos rfl]
        simp [bn]
      · rw [if_neg (by rw [nI_eq (by omega) (by omega)]; exact e), ofBlockE hj, ob]
        have e2 : (t != j) = true := by simpa using fun z => e z.symm
        rw [e2, Bool.true_and]
        by_cases f : c = cb x y j
        · rw [if_pos (by rw [f])]
          simp [f, bn]
        · rw [if_neg (by rw [nI_eq (by omega) (by omega)]; exact fun z => f z.symm)]
          simp [f, bn]
    rw [hv]
    rcases (show j = 0 ∨ j = 1 ∨ j = 2 ∨ j = 3 by omega) with rfl | rfl | rfl | rfl
    · simp only [Nat.lt_irrefl, decide_false, Bool.false_and, Bool.or_false, Nat.not_lt_zero, show ¬ 2 < 0 by decide, show ¬ 1 < 0 by decide, show ¬ 3 < 0 by decide, Bool.false_eq_true, if_false, ob, jletE, nI_add]
      simp
    · cases h0 : (t != 0 && c == cb x y 0) <;> simp [ob, jletE, nI_add, bn]
    · cases h0 : (t != 0 && c == cb x y 0) <;> cases h1 : (t != 1 && c == cb x y 1) <;> simp [ob, jletE, nI_add, bn]
    · cases h0 : (t != 0 && c == cb x y 0) <;> cases h1 : (t != 1 && c == cb x y 1) <;> cases h2 : (t != 2 && c == cb x y 2) <;> simp [ob, jletE, nI_add, bn]) (k := 0) (n := 4096) (by omega) (by omega)
  unfold f_X5_isOfTriple
  rw [show f_X5_isOfTriple_L6 (nI x) (nI y) (nI t) (nI c) 4096 0 0 = _ from hl, ob, hz, ob, tm_bit x hx y hy t ht c hc]
