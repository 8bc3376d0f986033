/-! ===== the garden that a text tells ===== -/
/-- the cells that have been told -/
def con (r col mw R x : Nat) : Prop := (R < r ∧ x < mw) ∨ (R = r ∧ x < col)
def JI (cd : Nat → Nat) (a : Nat) : PS6 → Prop
  | (r, col, mw, pd, pl, wm) => a = r * (mw + 1) + col ∧ (∀ R x, con r col mw R x → ((cd (R * (mw + 1) + x) = 35 ↔ wm.testBit (8 * R + x) = true) ∧ (cd (R * (mw + 1) + x) = 111 ↔ (pd = 1 ∧ pl = 8 * R + x)))) ∧ (∀ R, R < r → cd (R * (mw + 1) + mw) = 47) ∧ (∀ j, wm.testBit j = true → con r col mw (j / 8) (j % 8)) ∧ (pd = 1 → con r col mw (pl / 8) (pl % 8))
theorem JI_step {cd : Nat → Nat} {a : Nat} {st st' : PS6} (hv : VS6 st) (h : JI cd a st) (hs : stp (cd a) st = some st') : JI cd (a + 1) st' := by
  obtain ⟨r, col, mw, pd, pl, wm⟩ := st
  obtain ⟨h1, h2, h3, h4, h5, h6, h7⟩ := hv
  have hw := wd_le h3
  obtain ⟨i1, i2, i3, i4, i5⟩ := h
  unfold stp at hs
  dsimp only at hs
  by_cases c47 : cd a = 47
  · rw [if_pos c47] at hs
    split at hs
    · rename_i g
      cases hs
      obtain ⟨g1, g2⟩ := g
      have hcol : col = if r = 0 then col else mw := by
        by_cases z : r = 0
        · rw [if_pos z]
        · rw [if_neg z]; omega
      have hmw : r ≠ 0 → (if r = 0 then col else mw) = mw := fun z => if_neg z
      have hpos : ∀ R x, R ≤ r → R * ((if r = 0 then col else mw) + 1) + x = R * (mw + 1) + x := fun R x hR => by
        by_cases z : r = 0
        · have : R = 0 := by omega
          rw [this, Nat.zero_mul, Nat.zero_mul]
        · rw [hmw z]
      have hcon : ∀ R x, con (r + 1) 0 (if r = 0 then col else mw) R x → con r col mw R x := fun R x hc => by
        rcases hc with ⟨c1, c2⟩ | ⟨c1, c2⟩
        · by_cases z : R = r
          · exact Or.inr ⟨z, by rw [hcol]; exact c2⟩
          · exact Or.inl ⟨by omega, by rwa [hmw (by omega)] at c2⟩
        · omega
      have hcon2 : ∀ R x, con r col mw R x → con (r + 1) 0 (if r = 0 then col else mw) R x := fun R x hc => by
        rcases hc with ⟨c1, c2⟩ | ⟨c1, c2⟩
        · exact Or.inl ⟨by omega, by rw [hmw (by omega)]; exact c2⟩
        · exact Or.inl ⟨by omega, by rw [← hcol]; exact c2⟩
      refine ⟨?_, ?_, ?_, ?_, ?_⟩
      · rw [i1, Nat.succ_mul, hpos r 0 (Nat.le_refl _) |> fun e => (show r * ((if r = 0 then col else mw) + 1) = r * (mw + 1) from e), ← hcol]
        omega
      · intro R x hc
        have hc' := hcon R x hc
        have hR : R ≤ r := by rcases hc' with ⟨c1, c2⟩ | ⟨c1, c2⟩ <;> omega
        rw [hpos R x hR]
        exact i2 R x hc'
      · intro R hR
        by_cases z : R = r
        · rw [hpos R _ (by omega), z, ← hcol, ← i1]
          exact c47
        · rw [hpos R _ (by omega), hmw (by omega)]
          exact i3 R (by omega)
      · intro j hj
        exact hcon2 _ _ (i4 j hj)
      · intro hpd
        exact hcon2 _ _ (i5 hpd)
    · cases hs
  · rw [if_neg c47] at hs
    split at hs
    · rename_i g
      have hcol8 : col < 8 := by omega
      have old : ∀ R x, con r (col + 1) mw R x → con r col mw R x ∨ (R = r ∧ x = col) := fun R x hc => by
        rcases hc with ⟨c1, c2⟩ | ⟨c1, c2⟩
        · exact Or.inl (Or.inl ⟨c1, c2⟩)
        · by_cases z : x = col
          · exact Or.inr ⟨c1, z⟩
          · exact Or.inl (Or.inr ⟨c1, by omega⟩)
      have more : ∀ R x, con r col mw R x → con r (col + 1) mw R x := fun R x hc => by
        rcases hc with ⟨c1, c2⟩ | ⟨c1, c2⟩
        · exact Or.inl ⟨c1, c2⟩
        · exact Or.inr ⟨c1, by omega⟩
      have new : con r (col + 1) mw r col := Or.inr ⟨rfl, by omega⟩
      have notold : ¬ con r col mw r col := fun hc => by
        rcases hc with ⟨c1, c2⟩ | ⟨c1, c2⟩ <;> omega
      have small : ∀ R x, con r col mw R x → x < 8 := fun R x hc => by
        rcases hc with ⟨c1, c2⟩ | ⟨c1, c2⟩
        · have := h3 (by omega); omega
        · omega
      have differ : ∀ R x, con r col mw R x → 8 * R + x ≠ 8 * r + col := fun R x hc e => by
        have := small R x hc
        have e1 : R = r := by omega
        have e2 : x = col := by omega
        subst e1 e2
        exact notold hc
      have nobit : wm.testBit (8 * r + col) = false := by
        cases q : wm.testBit (8 * r + col) with
        | false => rfl
        | true =>
          have := i4 _ q
          rw [show (8 * r + col) / 8 = r by omega, show (8 * r + col) % 8 = col by omega] at this
          exact absurd this notold
      have hat : r * (mw + 1) + col = a := i1.symm
      by_cases c111 : cd a = 111
      · rw [if_pos c111] at hs
        split at hs
        · rename_i hpd
          cases hs
          refine ⟨by omega, fun R x hc => ?_, i3, fun j hj => more _ _ (i4 j hj), fun _ => ?_⟩
          · rcases old R x hc with hc | ⟨rfl, rfl⟩
            · obtain ⟨a1, a2⟩ := i2 R x hc
              refine ⟨a1, a2.trans ⟨fun z => absurd z.1 (by omega), fun z => absurd z.2.symm (differ R x hc)⟩⟩
            · rw [hat, c111, nobit]
              exact ⟨⟨fun z => absurd z (by decide), fun z => by cases z⟩, fun _ => ⟨rfl, rfl⟩, fun _ => rfl⟩
          · rw [show (8 * r + col) / 8 = r by omega, show (8 * r + col) % 8 = col by omega]
            exact new
        · cases hs
      · rw [if_neg c111] at hs
        split at hs
        · split at hs
          · cases hs
          · cases hs
            have hb : ∀ j, (if cd a = 35 then wm ||| 2 ^ (8 * r + col) else wm).testBit j = (wm.testBit j || (decide (cd a = 35) && decide (j = 8 * r + col))) := fun j => by
              by_cases z : cd a = 35
              · rw [if_pos z, Nat.testBit_or, pw_bit, decide_eq_true z, Bool.true_and]
              · rw [if_neg z, decide_eq_false z, Bool.false_and, Bool.or_false]
            refine ⟨by omega, fun R x hc => ?_, i3, fun j hj => ?_, fun hpd => more _ _ (i5 hpd)⟩
            · rcases old R x hc with hc | ⟨rfl, rfl⟩
              · obtain ⟨a1, a2⟩ := i2 R x hc
                rw [hb, decide_eq_false (differ R x hc), Bool.and_false, Bool.or_false]
                exact ⟨a1, a2⟩
              · rw [hat, hb, nobit, decide_eq_true rfl, Bool.and_true, Bool.false_or, decide_eq_true_iff]
                refine ⟨Iff.rfl, fun z => absurd z c111, fun z => ?_⟩
                have := i5 z.1
                rw [z.2, show (8 * R + x) / 8 = R by omega, show (8 * R + x) % 8 = x by omega] at this
                exact absurd this notold
            · rw [hb, Bool.or_eq_true] at hj
              rcases hj with hj | hj
              · exact more _ _ (i4 j hj)
              · rw [Bool.and_eq_true, decide_eq_true_iff, decide_eq_true_iff] at hj
                rw [hj.2, show (8 * r + col) / 8 = r by omega, show (8 * r + col) % 8 = col by omega]
                exact new
        · cases hs
    · cases hs
theorem PRs_JI {cd : Nat → Nat} : ∀ {n : Nat} {st : PS6}, PRs cd n = some st → JI cd n st := by
  intro n
  induction n with
  | zero =>
    intro st h
    cases h
    refine ⟨rfl, fun R x hc => ?_, fun R hR => absurd hR (Nat.not_lt_zero R), fun j hj => ?_, fun z => absurd z (by decide)⟩
    · rcases hc with ⟨c1, c2⟩ | ⟨c1, c2⟩ <;> omega
    · rw [Nat.zero_testBit] at hj; cases hj
  | succ n ih =>
    intro st h
    rw [PRs] at h
    obtain ⟨su, h1, h2⟩ := Option.bind_eq_some_iff.mp h
    exact JI_step (PRs_VS h1) (ih h1) h2
/-- a whole text tells a garden that holds -/
theorem told_OK {cd : Nat → Nat} {n r col mw pd pl wm : Nat} (h : PRs cd n = some (r, col, mw, pd, pl, wm)) (hw : whl (r, col, mw, pd, pl, wm) = true) : OK mw (r + 1) pl wm [] ∧ 1 ≤ r ∧ col = mw ∧ pd = 1 := by
  obtain ⟨h1, h2, h3, h4, h5, h6, h7⟩ := PRs_VS h
  obtain ⟨i1, i2, i3, i4, i5⟩ := PRs_JI h
  unfold whl at hw
  simp only [Bool.and_eq_true, decide_eq_true_iff] at hw
  obtain ⟨⟨w1, w2⟩, w3⟩ := hw
  have hm := h3 (by omega)
  have cg : ∀ R x, con r col mw R x → x < mw ∧ R < r + 1 := fun R x hc => by
    rcases hc with ⟨c1, c2⟩ | ⟨c1, c2⟩ <;> omega
  have hp := cg _ _ (i5 w3)
  refine ⟨⟨hm.1, hm.2, by omega, by omega, hp.1, hp.2, h7, fun j hj => ?_, trivial⟩, w1, w2, w3⟩
  have hc := i4 j hj
  have := cg _ _ hc
  refine ⟨this.1, this.2, fun e => ?_⟩
  subst e
  have hx : 8 * (j / 8) + j % 8 = j := by omega
  obtain ⟨a1, a2⟩ := i2 _ _ hc
  rw [hx] at a1 a2
  have e1 := a1.mpr hj
  have e2 := a2.mpr ⟨w3, rfl⟩
  omega
/-- the reference's second reading -/
theorem loadLoop {cd : Nat → Nat} {n r mw pl wm : Nat} {μ : MS} {fl rf : Int32} (hn : n ≤ 71) (hb : buf cd n (m_text μ)) (ht : m_typed μ = nI n) (h : PRs cd n = some (r, mw, mw, 1, pl, wm)) (hr : 1 ≤ r) (hO : OK mw (r + 1) pl wm []) {s : Nat → Int32} (hS : SR mw (r + 1) 0 0 [] fl rf s 0) :
    ∃ s', f_X5_load_L53 μ (nI mw) 4096 0 s = some s' ∧ SR mw (r + 1) pl wm [] fl rf s' 0 ∧ ∀ i, 197 ≤ i → s' i = s i := by
  obtain ⟨h1, h2, h3, h4, h5, h6, h7⟩ := PRs_VS h
  obtain ⟨i1, i2, i3, i4, i5⟩ := PRs_JI h
  have hmw := h3 (by omega)
  have hpos : ∀ c, con r mw mw (c / 8) (c % 8) → c / 8 * (mw + 1) + c % 8 < n := fun c hc => by
    have hle : c / 8 * (mw + 1) ≤ r * (mw + 1) := Nat.mul_le_mul_right _ (by rcases hc with ⟨c1, c2⟩ | ⟨c1, c2⟩ <;> omega)
    rcases hc with ⟨c1, c2⟩ | ⟨c1, c2⟩
    · omega
    · omega
  have dec : ∀ k, k < n → k / (mw + 1) ≤ r ∧ k % (mw + 1) ≤ mw ∧ k / (mw + 1) * (mw + 1) + k % (mw + 1) = k ∧ (k % (mw + 1) = mw → k / (mw + 1) < r) := fun k hk => by
    have a1 := Nat.mod_lt k (show mw + 1 > 0 by omega)
    have a2 := Nat.div_add_mod k (mw + 1)
    rw [Nat.mul_comm] at a2
    have a3 : k / (mw + 1) ≤ r := by
      apply Classical.byContradiction
      intro z
      have : (r + 1) * (mw + 1) ≤ k / (mw + 1) * (mw + 1) := Nat.mul_le_mul_right _ (by omega)
      rw [Nat.succ_mul] at this
      omega
    refine ⟨a3, by omega, a2, fun z => ?_⟩
    apply Classical.byContradiction
    intro y
    have : k / (mw + 1) = r := by omega
    rw [this, z] at a2
    omega
  have uniq : ∀ c k, c % 8 ≤ mw → k < n → c / 8 * (mw + 1) + c % 8 = k → c = 8 * (k / (mw + 1)) + k % (mw + 1) := fun c k hc hk e => by
    have e1 : k / (mw + 1) = c / 8 := by
      rw [← e, Nat.mul_comm, Nat.mul_add_div (by omega), Nat.div_eq_of_lt (show c % 8 < mw + 1 by omega), Nat.add_zero]
    have e2 : k % (mw + 1) = c % 8 := by
      rw [← e, Nat.mul_comm, Nat.mul_add_mod, Nat.mod_eq_of_lt (show c % 8 < mw + 1 by omega)]
    rw [e1, e2]
    omega
  obtain ⟨b0, b1, b2, b3, b4, b5, b6, b7, b8⟩ := hS
  obtain ⟨s', l1, l2, l3, l4⟩ := loopQ (L := fun n' j s => f_X5_load_L53 μ (nI mw) n' j s) (N := n) (I := fun k q => (∀ c, c < 64 → q (3 + c) = nI (bn (wm.testBit c && decide (c / 8 * (mw + 1) + c % 8 < k)))) ∧ q 2 = nI (if pl / 8 * (mw + 1) + pl % 8 < k then pl else 0) ∧ ∀ i, (i < 2 ∨ 67 ≤ i) → q i = s i) (Q := fun q => (∀ c, c < 64 → q (3 + c) = nI (bn (wm.testBit c))) ∧ q 2 = nI pl ∧ ∀ i, (i < 2 ∨ 67 ≤ i) → q i = s i) (fun n' k q hk hI => by
    obtain ⟨j1, j2, j3⟩ := hI
    simp only [f_X5_load_L53, f_X5_load_L53_b]
    simp only [LIT]
    rw [ht]
    by_cases z : k = n
    · subst z
      refine Or.inl ⟨q, by rw [if_pos (nI_le (Nat.le_refl _) (by omega))], fun c hc => ?_, ?_, j3⟩
      · rw [j1 c hc]
        cases w : wm.testBit c with
        | false => rfl
        | true => rw [decide_eq_true (hpos c (i4 c w))]; rfl
      · rw [j2, if_pos (hpos pl (i5 rfl))]
    · have hkn : k < n := by omega
      obtain ⟨d1, d2, d3, d4⟩ := dec k hkn
      obtain ⟨hc, -⟩ := hb k hkn
      have hne : ¬ nI (mw + 1) = nI 0 := by rw [nI_eq (by omega) (by decide)]; omega
      rw [if_neg (nI_ge hkn (by omega)), nI_add, if_neg hne, if_neg hne, pk_div (by omega) (by omega) (by omega), pk_mul, pk_rem (by omega) (by omega) (by omega) |> fun e => (show nI k - nI (k / (mw + 1)) * nI (mw + 1) = nI (k % (mw + 1)) from by rw [← e, pk_div (by omega) (by omega) (by omega)]), nI_add, jletE, jldE (by omega) (by decide), ob, hc]
      simp only [nI_eq (show cd k < 2 ^ 31 from Nat.lt_trans (hb k hkn).2 (by decide)) (show 35 < 2 ^ 31 by decide), ob, nI_eq (show cd k < 2 ^ 31 from Nat.lt_trans (hb k hkn).2 (by decide)) (show 111 < 2 ^ 31 by decide)]
      have cellOf : cd k ≠ 47 → con r mw mw (k / (mw + 1)) (k % (mw + 1)) := fun hne => by
        have : k % (mw + 1) ≠ mw := fun e => by
          have := i3 _ (d4 e)
          rw [show k / (mw + 1) * (mw + 1) + mw = k by omega] at this
          exact hne this
        by_cases y : k / (mw + 1) = r
        · exact Or.inr ⟨y, by omega⟩
        · exact Or.inl ⟨by omega, by omega⟩
      -- what is told at k
      have wk : cd k ≠ 35 → ∀ c, wm.testBit c = true → c / 8 * (mw + 1) + c % 8 ≠ k := fun hne c w e => by
        have hc := i4 c w
        have := (i2 _ _ hc).1.mpr (by rw [show 8 * (c / 8) + c % 8 = c by omega]; exact w)
        rw [e] at this
        exact hne this
      have pk : cd k ≠ 111 → pl / 8 * (mw + 1) + pl % 8 ≠ k := fun hne e => by
        have hc := i5 rfl
        have := (i2 _ _ hc).2.mpr ⟨rfl, by omega⟩
        rw [e] at this
        exact hne this
      have keep1 : cd k ≠ 35 → ∀ c, c < 64 → q (3 + c) = nI (bn (wm.testBit c && decide (c / 8 * (mw + 1) + c % 8 < k + 1))) := fun hne c hc => by
        rw [j1 c hc]
        cases w : wm.testBit c with
        | false => rfl
        | true =>
          have := wk hne c w
          congr 2
          rw [decide_eq_decide.mpr (show c / 8 * (mw + 1) + c % 8 < k ↔ c / 8 * (mw + 1) + c % 8 < k + 1 by omega)]
      have keep2 : cd k ≠ 111 → q 2 = nI (if pl / 8 * (mw + 1) + pl % 8 < k + 1 then pl else 0) := fun hne => by
        have := pk hne
        rw [j2]
        by_cases y : pl / 8 * (mw + 1) + pl % 8 < k
        · rw [if_pos y, if_pos (by omega)]
        · rw [if_neg y, if_neg (by omega)]
      by_cases c35 : cd k = 35
      · have hcn := cellOf (by omega)
        have hlt8 : k % (mw + 1) < 8 ∧ k / (mw + 1) < 8 := by rcases hcn with ⟨c1, c2⟩ | ⟨c1, c2⟩ <;> omega
        have hbit := (i2 _ _ hcn).1.mp (by rw [d3]; exact c35)
        rw [if_pos c35, nI_add, jstE (by omega) (by decide), ob, ob, jletE, nI_add]
        refine Or.inr ⟨hkn, _, ⟨fun c hc => ?_, ?_, fun i hi => ?_⟩, rfl⟩
        · by_cases y : c = 8 * (k / (mw + 1)) + k % (mw + 1)
          · rw [y, up_s, hbit, show (8 * (k / (mw + 1)) + k % (mw + 1)) / 8 = k / (mw + 1) by omega, show (8 * (k / (mw + 1)) + k % (mw + 1)) % 8 = k % (mw + 1) by omega, d3, decide_eq_true (by omega : k < k + 1)]
            rfl
          · rw [up_n (by omega), j1 c hc]
            cases w : wm.testBit c with
            | false => rfl
            | true =>
              have hc2 := i4 c w
              have hm8 : c % 8 ≤ mw := by rcases hc2 with ⟨c1, c2⟩ | ⟨c1, c2⟩ <;> omega
              have : c / 8 * (mw + 1) + c % 8 ≠ k := fun e => y (uniq c k hm8 hkn e)
              congr 2
              rw [decide_eq_decide.mpr (show c / 8 * (mw + 1) + c % 8 < k ↔ c / 8 * (mw + 1) + c % 8 < k + 1 by omega)]
        · rw [up_n (by omega)]
          exact keep2 (by omega)
        · rw [up_n (by omega)]
          exact j3 i hi
      · rw [if_neg c35]
        by_cases c111 : cd k = 111
        · have hcn := cellOf (by omega)
          have hlt8 : k % (mw + 1) < 8 ∧ k / (mw + 1) < 8 := by rcases hcn with ⟨c1, c2⟩ | ⟨c1, c2⟩ <;> omega
          have hbit := (i2 _ _ hcn).2.mp (by rw [d3]; exact c111)
          rw [if_pos c111, jstE (by decide) (by decide), ob, ob, jletE, nI_add]
          refine Or.inr ⟨hkn, _, ⟨fun c hc => ?_, ?_, fun i hi => ?_⟩, rfl⟩
          · rw [up_n (by omega)]
            exact keep1 c35 c hc
          · rw [up_s, ← hbit.2, if_pos]
            rw [hbit.2, show (8 * (k / (mw + 1)) + k % (mw + 1)) / 8 = k / (mw + 1) by omega, show (8 * (k / (mw + 1)) + k % (mw + 1)) % 8 = k % (mw + 1) by omega, d3]
            omega
          · rw [up_n (by omega)]
            exact j3 i hi
        · rw [if_neg c111, ob, jletE, nI_add]
          exact Or.inr ⟨hkn, q, ⟨keep1 c35, keep2 c111, j3⟩, rfl⟩) n 4096 0 s (by omega) (by omega) ⟨fun c hc => by
      have := b3 c hc
      rw [Nat.zero_add, Nat.zero_testBit] at this
      rw [this, decide_eq_false (Nat.not_lt_zero _), Bool.and_false]
      rfl, by rw [if_neg (Nat.not_lt_zero _)]; exact b2, fun i _ => rfl⟩
  refine ⟨s', l1, ⟨?_, ?_, ?_, ?_, ?_, ?_, ?_, ?_, ?_⟩, fun i hi => l4 i (by omega)⟩
  · rw [l4 _ (by omega)]; exact b0
  · rw [l4 _ (by omega)]; exact b1
  · exact l3
  · intro k hk
    rw [show 0 + 3 + k = 3 + k by omega]
    exact l2 k hk
  · intro k hk
    rw [l4 _ (by omega)]
    exact b4 k hk
  · rw [l4 _ (by omega)]; exact b5
  · intro i q hq
    simp at hq
  · rw [l4 _ (by omega)]; exact b7
  · rw [l4 _ (by omega)]; exact b8
