/-! ===== a triple laid, a triple lifted ===== -/
theorem pv_app : ∀ (T : List TR) (q : TR), pv (T ++ [q]) = pv T ||| qm q := by
  intro T q
  induction T with
  | nil => show qm q ||| 0 = 0 ||| qm q; rw [Nat.or_zero, Nat.zero_or]
  | cons p T ih => show qm p ||| pv (T ++ [q]) = (qm p ||| pv T) ||| qm q; rw [ih, Nat.or_assoc]
theorem ow_app : ∀ (T : List TR) (q : TR) (c : Nat), (pv T).testBit c = true → ow (T ++ [q]) c = ow T c := by
  intro T q c
  induction T with
  | nil => intro h; rw [pv, Nat.zero_testBit] at h; cases h
  | cons p T ih =>
    intro h
    rw [List.cons_append, ow, ow]
    by_cases g : (qm p).testBit c = true
    · rw [if_pos g, if_pos g]
    · rw [if_neg g, if_neg g]
      rw [pv, Nat.testBit_or, Bool.or_eq_true] at h
      rw [ih (h.resolve_left g)]
theorem ow_app2 : ∀ (T : List TR) (q : TR) (c : Nat), (pv T).testBit c = false → (qm q).testBit c = true → ow (T ++ [q]) c = T.length := by
  intro T q c
  induction T with
  | nil => intro _ h; show (if (qm q).testBit c = true then 0 else _) = 0; rw [if_pos h]
  | cons p T ih =>
    intro h h2
    rw [pv, Nat.testBit_or, Bool.or_eq_false_iff] at h
    rw [List.cons_append, ow, if_neg (by rw [h.1]; decide), ih h.2 h2, List.length_cons]
theorem owI_app {T : List TR} {q : TR} {c : Nat} (hd : pv T &&& qm q = 0) : owI (T ++ [q]) c = if (qm q).testBit c then nI T.length else owI T c := by
  have h := (andz _ _).mp hd c
  unfold owI
  rw [pv_app, Nat.testBit_or]
  cases g1 : (pv T).testBit c with
  | true =>
    rw [g1, Bool.true_and] at h
    rw [h, ow_app T q c g1]
    rfl
  | false =>
    cases g2 : (qm q).testBit c with
    | true => rw [ow_app2 T q c g1 g2]; rfl
    | false => rfl
section TOX
variable {W H P wm : Nat}
theorem TO_app : ∀ {T : List TR} {q : TR}, TO W H P wm T → (q.1 + 2 ≤ W ∧ q.2.1 + 2 ≤ H ∧ q.2.2 < 4 ∧ qm q &&& wm = 0 ∧ qm q &&& 2 ^ P = 0) → pv T &&& qm q = 0 → TO W H P wm (T ++ [q]) := by
  intro T q
  induction T with
  | nil => intro _ h _; exact ⟨⟨h.1, h.2.1, h.2.2.1, h.2.2.2.1, h.2.2.2.2, Nat.and_zero _⟩, trivial⟩
  | cons p T ih =>
    rintro ⟨⟨a, b, c, d, e, f⟩, h1⟩ h2 h3
    obtain ⟨h4, h5⟩ := or_zero_l h3
    refine ⟨⟨a, b, c, d, e, ?_⟩, ih h1 h2 h5⟩
    show qm p &&& pv (T ++ [q]) = 0
    rw [pv_app]
    exact and_comm0 (or_zero (and_comm0 f) (and_comm0 h4))
theorem TO_sub_pv : ∀ {T : List TR} {i : Nat}, ∀ c, (pv (T.eraseIdx i)).testBit c = true → (pv T).testBit c = true := by
  intro T
  induction T with
  | nil => intro i c h; exact h
  | cons p T ih =>
    intro i c h
    cases i with
    | zero => rw [List.eraseIdx_cons_zero] at h; rw [pv, Nat.testBit_or, h, Bool.or_true]
    | succ i =>
      rw [List.eraseIdx_cons_succ, pv, Nat.testBit_or, Bool.or_eq_true] at h
      rw [pv, Nat.testBit_or, Bool.or_eq_true]
      exact h.imp id (ih c)
theorem TO_erase : ∀ {T : List TR} {i : Nat}, TO W H P wm T → TO W H P wm (T.eraseIdx i) := by
  intro T
  induction T with
  | nil => intro i h; exact h
  | cons p T ih =>
    rintro i ⟨⟨a, b, c, d, e, f⟩, h1⟩
    cases i with
    | zero => rw [List.eraseIdx_cons_zero]; exact h1
    | succ i =>
      rw [List.eraseIdx_cons_succ]
      refine ⟨⟨a, b, c, d, e, ?_⟩, ih h1⟩
      rw [andz] at f ⊢
      intro j
      have := f j
      cases g : (pv (T.eraseIdx i)).testBit j with
      | false => rw [Bool.and_false]
      | true => rw [TO_sub_pv j g] at this; exact this
theorem ow_spec : ∀ {T : List TR} {c : Nat}, (pv T).testBit c = true → ∃ q, T[ow T c]? = some q ∧ (qm q).testBit c = true := by
  intro T c
  induction T with
  | nil => intro h; rw [pv, Nat.zero_testBit] at h; cases h
  | cons p T ih =>
    intro h
    rw [ow]
    by_cases g : (qm p).testBit c = true
    · rw [if_pos g]; exact ⟨p, rfl, g⟩
    · rw [if_neg g]
      rw [pv, Nat.testBit_or, Bool.or_eq_true] at h
      obtain ⟨q, h1, h2⟩ := ih (h.resolve_left g)
      exact ⟨q, by simpa using h1, h2⟩
theorem pv_at : ∀ {T : List TR} {j c : Nat} {q : TR}, T[j]? = some q → (qm q).testBit c = true → (pv T).testBit c = true := by
  intro T
  induction T with
  | nil => intro j c q h; simp at h
  | cons p T ih =>
    intro j c q h h2
    rw [pv, Nat.testBit_or, Bool.or_eq_true]
    cases j with
    | zero => simp at h; subst h; exact Or.inl h2
    | succ j => exact Or.inr (ih (by simpa using h) h2)
theorem ow_uniq : ∀ {T : List TR} {j c : Nat} {q : TR}, TO W H P wm T → T[j]? = some q → (qm q).testBit c = true → ow T c = j := by
  intro T
  induction T with
  | nil => intro j c q _ h; simp at h
  | cons p T ih =>
    rintro j c q ⟨⟨-, -, -, -, -, f⟩, h1⟩ h h2
    rw [ow]
    cases j with
    | zero => simp at h; subst h; rw [if_pos h2]
    | succ j =>
      have h3 : T[j]? = some q := by simpa using h
      have h4 := pv_at h3 h2
      have h5 := (andz _ _).mp f c
      rw [h4, Bool.and_true] at h5
      rw [if_neg (by rw [h5]; decide), ih h1 h3 h2]
theorem pv_erase {T : List TR} {i c : Nat} {q : TR} (hT : TO W H P wm T) (hq : T[i]? = some q) : (pv (T.eraseIdx i)).testBit c = ((pv T).testBit c && !(qm q).testBit c) := by
  cases g : (pv (T.eraseIdx i)).testBit c with
  | true =>
    have h1 := TO_sub_pv c g
    obtain ⟨r, h2, h3⟩ := ow_spec g
    rw [h1, Bool.true_and]
    cases g2 : (qm q).testBit c with
    | false => rfl
    | true =>
      have h4 := ow_uniq hT hq g2
      rw [List.getElem?_eraseIdx] at h2
      split at h2
      · have := ow_uniq hT h2 h3; omega
      · have := ow_uniq hT h2 h3; omega
  | false =>
    cases g1 : (pv T).testBit c with
    | false => rfl
    | true =>
      obtain ⟨r, h2, h3⟩ := ow_spec g1
      by_cases z : ow T c = i
      · rw [z, hq] at h2
        cases h2
        rw [h3]
        rfl
      · exfalso
        have h4 : ∃ j : Nat, (T.eraseIdx i)[j]? = some r := by
          by_cases z2 : ow T c < i
          · exact ⟨ow T c, by rw [List.getElem?_eraseIdx, if_pos z2]; exact h2⟩
          · refine ⟨ow T c - 1, ?_⟩
            rw [List.getElem?_eraseIdx, if_neg (by omega), show ow T c - 1 + 1 = ow T c by omega]
            exact h2
        obtain ⟨j, h4⟩ := h4
        rw [pv_at h4 h3] at g
        cases g
theorem owI_erase {T : List TR} {i c : Nat} {q : TR} (hT : TO W H P wm T) (hl : T.length < 1000) (hq : T[i]? = some q) : owI (T.eraseIdx i) c = if owI T c = nI i then -nI 1 else if owI T c ≤ nI i then owI T c else owI T c - nI 1 := by
  have hi : i < T.length := (List.getElem?_eq_some_iff.mp hq).1
  have hp := pv_erase (c := c) hT hq
  cases g1 : (pv T).testBit c with
  | false =>
    rw [g1, Bool.false_and] at hp
    unfold owI
    rw [g1, hp]
    simp only [Bool.false_eq_true, if_false]
    rw [if_neg (m1_ne' (by omega)), if_pos]
    rw [le_not_lt]
    exact m1_ngt (by omega)
  | true =>
    obtain ⟨r, h2, h3⟩ := ow_spec g1
    have hlt := ow_lt g1
    have e1 : owI T c = nI (ow T c) := by unfold owI; rw [if_pos g1]
    rw [e1]
    by_cases z : ow T c = i
    · rw [z, if_pos rfl]
      rw [z, hq] at h2
      cases h2
      rw [h3, Bool.not_true, Bool.and_false] at hp
      unfold owI
      rw [hp]
      rfl
    · rw [if_neg (by rw [nI_eq (by omega) (by omega)]; exact z)]
      have h4 : (qm q).testBit c = false := by
        cases g2 : (qm q).testBit c with
        | false => rfl
        | true => exact absurd (ow_uniq hT hq g2) z
      rw [g1, h4, Bool.not_false, Bool.and_true] at hp
      have e2 : owI (T.eraseIdx i) c = nI (ow (T.eraseIdx i) c) := by unfold owI; rw [if_pos hp]
      rw [e2]
      by_cases z2 : ow T c < i
      · rw [if_pos (nI_le (by omega) (by omega)), ow_uniq (TO_erase hT) (j := ow T c) (by rw [List.getElem?_eraseIdx, if_pos z2]; exact h2) h3]
      · rw [if_neg (nI_ge (by omega) (by omega)), pk_sub (by omega), ow_uniq (TO_erase hT) (j := ow T c - 1) (by rw [List.getElem?_eraseIdx, if_neg (by omega), show ow T c - 1 + 1 = ow T c by omega]; exact h2) h3]
theorem OK_app {T : List TR} {x y t : Nat} (h : OK W H P wm T) (hx : x + 2 ≤ W) (hy : y + 2 ≤ H) (ht : t < 4) (hw : wn P wm (pv T) x y t = 0) : OK W H P wm (T ++ [(x, y, t)]) ∧ pv T &&& qm (x, y, t) = 0 := by
  have hW := h.2.1
  have hH := h.2.2.2.1
  have h1 := wn_0.mp hw
  rw [← tm_hit (by omega) (by omega) ht, ← tm_hit (by omega) (by omega) ht, ← tm_hit (by omega) (by omega) ht] at h1
  have h2 : pv T &&& qm (x, y, t) = 0 := and_comm0 h1.2.2
  obtain ⟨a, b, c, d, e, f, g, i, j⟩ := h
  exact ⟨⟨a, b, c, d, e, f, g, i, TO_app j ⟨hx, hy, ht, h1.2.1, h1.1⟩ h2⟩, h2⟩
theorem OK_erase {T : List TR} {i : Nat} (h : OK W H P wm T) : OK W H P wm (T.eraseIdx i) := by
  obtain ⟨a, b, c, d, e, f, g, i, j⟩ := h
  exact ⟨a, b, c, d, e, f, g, i, TO_erase j⟩
end TOX
section CMV
variable {W H P wm : Nat} {T : List TR} {fl rf : Int32} {g : GS}
theorem putE (hG : GR W H P wm T fl rf g) (hO : OK W H P wm T) {x y t : Nat} (hx : x + 2 ≤ W) (hy : y + 2 ≤ H) (ht : t < 4) (hw : wn P wm (pv T) x y t = 0) : ∃ nm, f_X1_putTriple g (nI x) (nI y) (nI t) = some (lN (pv (T ++ [(x, y, t)])), nI (T ++ [(x, y, t)]).length, nm) ∧ ∀ i q, (T ++ [(x, y, t)])[i]? = some q → nm i = nI (nam q) := by
  have hW := hO.2.1
  have hH := hO.2.2.2.1
  obtain ⟨h1, h2⟩ := OK_app hO hx hy ht hw
  have hl := OK_len h1
  rw [List.length_append] at hl
  simp at hl
  refine ⟨va_up (g_names g) T.length (nI (nam (x, y, t))), ?_, ?_⟩
  · unfold f_X1_putTriple
    simp only [LIT]
    rw [hG.2.2.2.2.2.1, if_neg (nI_ge (by omega) (by omega))]
    unfold f_X4_nameOf
    simp only [LIT]
    rw [pk_mul, pk_mul, nI_add, nI_add, ob, jstE (by omega) (by decide), ob, jletE, cellsOfE (by omega) (by omega) ht, ob, jletE, hG.2.2.2.2.1, fb_orL, pv_app, nI_add, List.length_append]
    rfl
  · intro i q hq
    by_cases z : i = T.length
    · subst z
      rw [List.getElem?_append_right (Nat.le_refl _), Nat.sub_self] at hq
      simp at hq
      subst hq
      rw [up_s]
    · have hi := (List.getElem?_eq_some_iff.mp hq).1
      rw [List.length_append] at hi
      simp at hi
      rw [List.getElem?_append_left (by omega)] at hq
      rw [up_n z]
      exact hG.2.2.2.2.2.2.2.2 i q hq
theorem takeE (hG : GR W H P wm T fl rf g) (hO : OK W H P wm T) {i : Nat} (hi : i < T.length) : ∃ nm, f_X1_takeTriple g (nI i) = some (lN (pv (T.eraseIdx i)), nI (T.eraseIdx i).length, nm) ∧ ∀ j q, (T.eraseIdx i)[j]? = some q → nm j = nI (nam q) := by
  have hl := OK_len hO
  have hpv := OK_pv hO
  have hpv2 := OK_pv (OK_erase (i := i) hO)
  have hq : T[i]? = some T[i] := List.getElem?_eq_getElem hi
  have hle : (T.eraseIdx i).length = T.length - 1 := by rw [List.length_eraseIdx, if_pos hi]
  obtain ⟨nm, h1, h2⟩ := loopQ (L := fun n j s => f_X1_takeTriple_L43 (nI (T.length - 1)) n j s) (N := T.length - 1) (I := fun j s => i ≤ j ∧ ∀ k, s k = if i ≤ k ∧ k < j then g_names g (k + 1) else g_names g k) (Q := fun s => ∀ k, s k = if i ≤ k ∧ k < T.length - 1 then g_names g (k + 1) else g_names g k) (fun n j s hj hI => by
    simp only [f_X1_takeTriple_L43, f_X1_takeTriple_L43_b]
    simp only [LIT]
    obtain ⟨hij, hI⟩ := hI
    by_cases e : j = T.length - 1
    · subst e
      exact Or.inl ⟨s, by rw [if_pos (nI_le (Nat.le_refl _) (by omega))], hI⟩
    · rw [if_neg (nI_ge (by omega) (by omega)), nI_add, if_neg (nI_ge (by omega) (by omega)), jldE (by omega) (by decide), ob, jstE (by omega) (by decide), ob, jletE]
      refine Or.inr ⟨by omega, _, ⟨by omega, fun k => ?_⟩, rfl⟩
      by_cases z : k = j
      · subst z
        rw [up_s, hI, if_neg (by omega), if_pos (by omega)]
      · rw [up_n z, hI]
        by_cases y : i ≤ k ∧ k < j
        · rw [if_pos y, if_pos (by omega)]
        · rw [if_neg y, if_neg (by omega)]) (T.length - 1 - i) 4096 i (g_names g) (by omega) (by omega) ⟨Nat.le_refl _, fun k => by rw [if_neg (by omega)]⟩
  refine ⟨nm, ?_, ?_⟩
  · unfold f_X1_takeTriple
    simp only [LIT]
    rw [if_neg (nI_nlt (Nat.zero_le _) (by omega)), hG.2.2.2.2.2.1, if_pos (nI_lt hi (by omega)), tripleCellsE hG hO hq, ob, jletE, pk_sub (by omega), jletE, h1, ob, hG.2.2.2.2.1, xorM, fb_andL, hle]
    have hpe : pv T &&& (qm T[i] ^^^ (2 ^ 64 - 1)) = pv (T.eraseIdx i) := ext64 (Nat.lt_of_le_of_lt Nat.and_le_left hpv.1) hpv2.1 (fun c hc => by
      rw [Nat.testBit_and, not_bit _ hc, pv_erase hO.2.2.2.2.2.2.2.2 hq])
    rw [hpe]
  · intro j q hjq
    have hj := (List.getElem?_eq_some_iff.mp hjq).1
    rw [hle] at hj
    rw [List.getElem?_eraseIdx] at hjq
    rw [h2]
    by_cases z : j < i
    · rw [if_pos z] at hjq
      rw [if_neg (by omega)]
      exact hG.2.2.2.2.2.2.2.2 j q hjq
    · rw [if_neg z] at hjq
      rw [if_pos (by omega)]
      exact hG.2.2.2.2.2.2.2.2 (j + 1) q hjq
end CMV
