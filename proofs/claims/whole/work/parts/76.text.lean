/-! ===== gardens as texts ===== -/
abbrev PS6 : Type := Nat × Nat × Nat × Nat × Nat × Nat
def wd (r mw : Nat) : Nat := if r = 0 then 8 else mw
/-- a character taken: row, column, width, whether there is a pond, its place, the walls -/
def stp (c : Nat) : PS6 → Option PS6
  | (r, col, mw, pd, pl, wm) =>
    if c = 47 then (if (r = 0 ∧ 2 ≤ col ∨ r ≠ 0 ∧ col = mw) ∧ r + 1 < 8 then some (r + 1, 0, (if r = 0 then col else mw), pd, pl, wm) else none)
    else if col < wd r mw then
      (if c = 111 then (if pd = 0 then some (r, col + 1, mw, 1, 8 * r + col, wm) else none)
      else if c = 46 ∨ c = 35 then (if pd = 0 ∧ r + 1 = 8 ∧ col + 1 = wd r mw then none else some (r, col + 1, mw, pd, pl, if c = 35 then wm ||| 2 ^ (8 * r + col) else wm)) else none)
    else none
def VS6 : PS6 → Prop
  | (r, col, mw, pd, pl, wm) => r ≤ 7 ∧ col ≤ wd r mw ∧ (r ≠ 0 → 2 ≤ mw ∧ mw ≤ 8) ∧ (r = 0 → mw = 0) ∧ pd ≤ 1 ∧ pl < 64 ∧ wm < 2 ^ 64
def EC : PS6 → RDS
  | (r, col, mw, pd, pl, wm) => (nI (wd r mw), nI r, if pd = 0 then -nI 1 else nI pl, lN wm, nI col)
theorem wd_le {r mw : Nat} (h : r ≠ 0 → 2 ≤ mw ∧ mw ≤ 8) : wd r mw ≤ 8 := by
  unfold wd
  split
  · omega
  · exact (h (by assumption)).2
theorem stp_VS {c : Nat} {st st' : PS6} (h : VS6 st) (hs : stp c st = some st') : VS6 st' := by
  obtain ⟨r, col, mw, pd, pl, wm⟩ := st
  obtain ⟨h1, h2, h3, h4, h5, h6, h7⟩ := h
  have hw := wd_le h3
  unfold stp at hs
  dsimp only at hs
  split at hs
  · split at hs
    · rename_i g
      cases hs
      obtain ⟨g1, g2⟩ := g
      refine ⟨by omega, Nat.zero_le _, fun _ => ?_, fun z => absurd z (by omega), h5, h6, h7⟩
      by_cases z : r = 0
      · rw [if_pos z]
        unfold wd at h2
        rw [if_pos z] at h2
        omega
      · rw [if_neg z]; exact h3 z
    · cases hs
  · split at hs
    · split at hs
      · split at hs
        · cases hs
          exact ⟨h1, by omega, h3, h4, by omega, by omega, h7⟩
        · cases hs
      · split at hs
        · split at hs
          · cases hs
          · cases hs
            refine ⟨h1, by omega, h3, h4, h5, h6, ?_⟩
            split
            · exact Nat.or_lt_two_pow h7 (pw_lt (by omega))
            · exact h7
        · cases hs
    · cases hs
theorem isRowWholeE {r col mw pd pl wm : Nat} (h : VS6 (r, col, mw, pd, pl, wm)) : f_X3_isRowWhole (EC (r, col, mw, pd, pl, wm)) = some (nI (bn (decide (r = 0 ∧ 2 ≤ col ∨ r ≠ 0 ∧ col = mw)))) := by
  obtain ⟨h1, h2, h3, h4, h5, h6, h7⟩ := h
  have hw := wd_le h3
  unfold f_X3_isRowWhole
  show (if nI r = 0 then (if nI col < 2 then some 0 else some 1) else (if nI col = nI (wd r mw) then some 1 else some 0)) = _
  simp only [LIT]
  by_cases z : r = 0
  · rw [if_pos (by rw [z]), lt_bn _ _ (by omega) (by decide)]
    congr 3
    simp [z]
  · rw [if_neg (by rw [nI_eq (by omega) (by decide)]; exact z), dec_bn _ _ (by omega) (by omega)]
    congr 3
    unfold wd
    simp [z]
theorem isNextE {c : Nat} {st : PS6} (hc : c < 1000) (h : VS6 st) : f_X3_isNext (EC st) (nI c) = some (nI (bn (stp c st).isSome)) := by
  obtain ⟨r, col, mw, pd, pl, wm⟩ := st
  have hr := isRowWholeE h
  obtain ⟨h1, h2, h3, h4, h5, h6, h7⟩ := h
  have hw := wd_le h3
  unfold f_X3_isNext f_X3_isLastForPond
  rw [hr]
  show (if nI c = 47 then (Option.bind (some (nI (bn (decide (r = 0 ∧ 2 ≤ col ∨ r ≠ 0 ∧ col = mw))))) fun r3 => if r3 = 0 then some 0 else (if 8 ≤ nI r + 1 then some 0 else some 1)) else (if nI col < nI (wd r mw) then (if nI c = 111 then (if (if pd = 0 then -nI 1 else nI pl) = -1 then some 1 else some 0) else (if nI c = 46 then (Option.bind (if (if pd = 0 then -nI 1 else nI pl) = -1 then (if nI r + 1 = 8 then (if nI col + 1 = nI (wd r mw) then some 1 else some 0) else some 0) else some 0) fun r1 => if r1 = 0 then some 1 else some 0) else (if nI c = 35 then (Option.bind (if (if pd = 0 then -nI 1 else nI pl) = -1 then (if nI r + 1 = 8 then (if nI col + 1 = nI (wd r mw) then some 1 else some 0) else some 0) else some 0) fun r1 => if r1 = 0 then some 1 else some 0) else some 0))) else some 0)) = _
  simp only [LIT, nI_add]
  have hpd : ((if pd = 0 then -nI 1 else nI pl) = -nI 1) ↔ pd = 0 := by
    by_cases z : pd = 0
    · rw [if_pos z]; exact ⟨fun _ => z, fun _ => rfl⟩
    · rw [if_neg z]; exact ⟨fun y => absurd y (m1_ne (by omega)), fun y => absurd y z⟩
  have hl : (if (if pd = 0 then -nI 1 else nI pl) = -nI 1 then (if nI (r + 1) = nI 8 then (if nI (col + 1) = nI (wd r mw) then some (nI 1) else some (nI 0)) else some (nI 0)) else some (nI 0)) = some (nI (bn (decide (pd = 0 ∧ r + 1 = 8 ∧ col + 1 = wd r mw)))) := by
    simp only [hpd, nI_eq (show r + 1 < 2 ^ 31 by omega) (show 8 < 2 ^ 31 by decide), nI_eq (show col + 1 < 2 ^ 31 by omega) (show wd r mw < 2 ^ 31 by omega)]
    by_cases a : pd = 0
    · by_cases b : r + 1 = 8
      · by_cases d : col + 1 = wd r mw
        · simp [a, b, d, bn]
        · simp [a, b, d, bn]
      · simp [a, b, bn]
    · simp [a, bn]
  rw [hl]
  simp only [ob, bn_if, hpd, nI_eq (show c < 2 ^ 31 by omega) (show 47 < 2 ^ 31 by decide), nI_eq (show c < 2 ^ 31 by omega) (show 111 < 2 ^ 31 by decide), nI_eq (show c < 2 ^ 31 by omega) (show 46 < 2 ^ 31 by decide), nI_eq (show c < 2 ^ 31 by omega) (show 35 < 2 ^ 31 by decide), nI_leI (show 8 < 2 ^ 31 by decide) (show r + 1 < 2 ^ 31 by omega), nI_ltI (show col < 2 ^ 31 by omega) (show wd r mw < 2 ^ 31 by omega)]
  unfold stp
  dsimp only
  by_cases c47 : c = 47
  · simp only [c47, if_true]
    by_cases a : r = 0 ∧ 2 ≤ col ∨ r ≠ 0 ∧ col = mw
    · rw [decide_eq_true a]
      by_cases b : r + 1 < 8
      · rw [if_pos rfl, if_neg (by omega), if_pos ⟨a, b⟩]; rfl
      · rw [if_pos rfl, if_pos (by omega), if_neg (fun z => b z.2)]; rfl
    · rw [decide_eq_false a, if_neg (show ¬ false = true by decide), if_neg (fun z => a z.1)]; rfl
  · simp only [c47, if_false]
    by_cases d : col < wd r mw
    · simp only [d, if_true]
      by_cases c111 : c = 111
      · simp only [c111, if_true]
        by_cases z : pd = 0
        · rw [if_pos z, if_pos z]; rfl
        · rw [if_neg z, if_neg z]; rfl
      · simp only [c111, if_false]
        by_cases e : pd = 0 ∧ r + 1 = 8 ∧ col + 1 = wd r mw
        · rw [decide_eq_true e]
          simp only [e, and_self, if_true]
          by_cases c46 : c = 46
          · simp [c46, bn]
          · by_cases c35 : c = 35
            · simp [c35, bn]
            · simp [c46, c35, bn]
        · rw [decide_eq_false e]
          simp only [e, if_false]
          by_cases c46 : c = 46
          · simp [c46, bn]
          · by_cases c35 : c = 35
            · simp [c35, bn]
            · simp [c46, c35, bn]
    · simp only [d, if_false]
      rfl
theorem takeX {c : Nat} {st st' : PS6} (hc : c < 1000) (h : VS6 st) (hs : stp c st = some st') : f_X3_take (EC st) (nI c) = some (EC st') := by
  obtain ⟨r, col, mw, pd, pl, wm⟩ := st
  obtain ⟨h1, h2, h3, h4, h5, h6, h7⟩ := h
  have hw := wd_le h3
  unfold f_X3_take
  show (if nI c = 47 then (Option.bind (if nI r = 0 then some (nI col) else some (nI (wd r mw))) fun o10 => jlet (nI r + 1) fun x11 => some (o10, x11, (if pd = 0 then -nI 1 else nI pl), lN wm, 0)) else (Option.bind (if nI c = 111 then (Option.bind (f_X4_placeOf (nI col) (nI r)) fun r3 => some r3) else some (if pd = 0 then -nI 1 else nI pl)) fun o2 => (Option.bind (if nI c = 35 then (Option.bind (f_X4_cellAt (nI col) (nI r)) fun r7 => jlet (lN wm ||| r7) fun x8 => some x8) else some (lN wm)) fun o6 => jlet (nI col + 1) fun x9 => some (nI (wd r mw), nI r, o2, o6, x9)))) = _
  simp only [LIT, nI_add, jletE, nI_eq (show c < 2 ^ 31 by omega) (show 47 < 2 ^ 31 by decide), nI_eq (show c < 2 ^ 31 by omega) (show 111 < 2 ^ 31 by decide), nI_eq (show c < 2 ^ 31 by omega) (show 35 < 2 ^ 31 by decide), nI_eq (show r < 2 ^ 31 by omega) (show 0 < 2 ^ 31 by decide)]
  unfold stp at hs
  dsimp only at hs
  by_cases c47 : c = 47
  · rw [if_pos c47] at hs ⊢
    split at hs
    · cases hs
      unfold EC
      by_cases z : r = 0
      · simp [z, ob, wd]
      · simp [z, ob, wd]
    · cases hs
  · rw [if_neg c47] at hs ⊢
    split at hs
    · by_cases c111 : c = 111
      · rw [if_pos c111] at hs
        split at hs
        · cases hs
          rw [if_pos c111, if_neg (by omega), placeOfE, ob, ob, ob]
          unfold EC
          simp
        · cases hs
      · rw [if_neg c111] at hs
        split at hs
        · split at hs
          · cases hs
          · cases hs
            rw [if_neg c111, ob]
            unfold EC
            by_cases c35 : c = 35
            · rw [if_pos c35, if_pos c35, cellAtE (by omega), ob, ob, fb_orL]
            · rw [if_neg c35, if_neg c35, ob]
        · cases hs
    · cases hs
/-- the state behind so many characters -/
def PRs (cd : Nat → Nat) : Nat → Option PS6
  | 0 => some (0, 0, 0, 0, 0, 0)
  | n + 1 => Option.bind (PRs cd n) (stp (cd n))
def EA (cd : Nat → Nat) (n a : Nat) (st : PS6) : Prop := PRs cd a = some st ∧ a ≤ n ∧ (a = n ∨ stp (cd a) st = none)
theorem EA_one {cd : Nat → Nat} {n a b : Nat} {st su : PS6} (h : EA cd n a st) (h2 : EA cd n b su) : a = b ∧ st = su := by
  have key : ∀ {a b st su}, EA cd n a st → EA cd n b su → ¬ a < b := fun {a b st su} h h2 hlt => by
    obtain ⟨h3, h4, h5⟩ := h
    have hs : stp (cd a) st = none := h5.resolve_left (by have := h2.2.1; omega)
    have hn : ∀ d, PRs cd (a + 1 + d) = none := by
      intro d
      induction d with
      | zero => show Option.bind (PRs cd a) (stp (cd a)) = none; rw [h3]; exact hs
      | succ d ih => show Option.bind (PRs cd (a + 1 + d)) _ = none; rw [ih]; rfl
    have := hn (b - (a + 1))
    rw [show a + 1 + (b - (a + 1)) = b by omega, h2.1] at this
    cases this
  have e : a = b := by
    rcases Nat.lt_trichotomy a b with z | z | z
    · exact absurd z (key h h2)
    · exact z
    · exact absurd z (key h2 h)
  subst e
  have := h.1.symm.trans h2.1
  cases this
  exact ⟨rfl, rfl⟩
theorem PRs_VS {cd : Nat → Nat} : ∀ {n : Nat} {st : PS6}, PRs cd n = some st → VS6 st := by
  intro n
  induction n with
  | zero => intro st h; cases h; exact ⟨by decide, by decide, fun z => absurd rfl z, fun _ => rfl, by decide, by decide, by decide⟩
  | succ n ih =>
    intro st h
    rw [PRs] at h
    obtain ⟨su, h1, h2⟩ := Option.bind_eq_some_iff.mp h
    exact stp_VS (ih h1) h2
def buf (cd : Nat → Nat) (n : Nat) (f : Nat → Int32) : Prop := ∀ i, i < n → f i = nI (cd i) ∧ cd i < 1000
theorem codeAtE {cd : Nat → Nat} {n i : Nat} {f : Nat → Int32} (hn : n ≤ 71) (hb : buf cd n f) (hi : i < n) : f_X0_codeAt (nI n, f) (nI i) = some (nI (cd i)) := by
  unfold f_X0_codeAt
  simp only [LIT]
  show (if nI i < nI 0 then some (nI 0) else if nI n ≤ nI i then some (nI 0) else if nI 71 ≤ nI i then some (nI 0) else Option.bind (jld 71 f (nI i)) fun v1 => some v1) = _
  rw [if_neg (nI_nlt (Nat.zero_le _) (by omega)), if_neg (nI_ge hi (by omega)), if_neg (nI_ge (by omega) (by decide)), jldE (by omega) (by decide), ob, (hb i hi).1]
theorem readIntoE {cd : Nat → Nat} {n : Nat} {f : Nat → Int32} (hn : n ≤ 71) (hb : buf cd n f) : ∃ a st, EA cd n a st ∧ f_X0_readInto (nI n, f, EC (0, 0, 0, 0, 0, 0)) = some (nI a, EC st) := by
  obtain ⟨v, h1, h2⟩ := loopQ (L := fun n' j (s : RDS) => f_X0_readInto_L2 (nI n, f, EC (0, 0, 0, 0, 0, 0)) n' j s.1 s.2.1 s.2.2.1 s.2.2.2.1 s.2.2.2.2) (N := n) (I := fun j s => ∃ st, s = EC st ∧ PRs cd j = some st) (Q := fun r => ∃ a st, EA cd n a st ∧ ((a = n ∧ r = .inl (EC st)) ∨ (a < n ∧ r = .inr (nI a, EC st)))) (fun n' j s hj hI => by
    obtain ⟨st, rfl, hp⟩ := hI
    have hv := PRs_VS hp
    simp only [f_X0_readInto_L2, f_X0_readInto_L2_b]
    by_cases z : j = n
    · subst z
      exact Or.inl ⟨_, by rw [if_pos (nI_le (Nat.le_refl _) (by omega))], j, st, ⟨hp, Nat.le_refl _, Or.inl rfl⟩, Or.inl ⟨rfl, rfl⟩⟩
    · have hjn : j < n := by omega
      have hc := (hb j hjn).2
      rw [if_neg (nI_ge hjn (by omega)), codeAtE hn hb hjn, ob, show f_X3_isNext ((EC st).1, (EC st).2.1, (EC st).2.2.1, (EC st).2.2.2.1, (EC st).2.2.2.2) (nI (cd j)) = _ from isNextE hc hv, ob]
      simp only [LIT]
      rw [bn_if]
      cases hs : stp (cd j) st with
      | none =>
        refine Or.inl ⟨_, rfl, j, st, ⟨hp, by omega, Or.inr hs⟩, Or.inr ⟨hjn, rfl⟩⟩
      | some st' =>
        refine Or.inr ⟨hjn, EC st', ⟨st', rfl, by rw [PRs, hp]; exact hs⟩, ?_⟩
        simp only [Option.isSome_some, if_true, ob]
        rw [show f_X3_take ((EC st).1, (EC st).2.1, (EC st).2.2.1, (EC st).2.2.2.1, (EC st).2.2.2.2) (nI (cd j)) = _ from takeX hc hv hs, ob, jletE, nI_add]) n 4096 0 (EC (0, 0, 0, 0, 0, 0)) (by omega) (by omega) ⟨_, rfl, rfl⟩
  obtain ⟨a, st, h3, h4⟩ := h2
  refine ⟨a, st, h3, ?_⟩
  unfold f_X0_readInto
  rw [show f_X0_readInto_L2 (nI n, f, EC (0, 0, 0, 0, 0, 0)) 4096 0 (br_wide (nI n, f, EC (0, 0, 0, 0, 0, 0))) (br_row (nI n, f, EC (0, 0, 0, 0, 0, 0))) (br_pond (nI n, f, EC (0, 0, 0, 0, 0, 0))) (br_walls (nI n, f, EC (0, 0, 0, 0, 0, 0))) (br_column (nI n, f, EC (0, 0, 0, 0, 0, 0))) = some v from h1, ob]
  rcases h4 with ⟨h5, rfl⟩ | ⟨h5, rfl⟩
  · rw [h5]; rfl
  · rfl
/-- whether a garden is told -/
def whl : PS6 → Bool
  | (r, col, mw, pd, _, _) => decide (1 ≤ r) && decide (col = mw) && decide (pd = 1)
theorem isWholeE {st : PS6} (h : VS6 st) : f_X3_isWhole (EC st) = some (nI (bn (whl st))) := by
  obtain ⟨r, col, mw, pd, pl, wm⟩ := st
  have hr := isRowWholeE h
  obtain ⟨h1, h2, h3, h4, h5, h6, h7⟩ := h
  unfold f_X3_isWhole
  rw [hr]
  show (if nI r + 1 < 2 then some 0 else Option.bind (some (nI (bn (decide (r = 0 ∧ 2 ≤ col ∨ r ≠ 0 ∧ col = mw))))) fun r1 => if r1 = 0 then some 0 else (if (if pd = 0 then -nI 1 else nI pl) = -1 then some 0 else some 1)) = _
  simp only [LIT, nI_add, ob, bn_if]
  unfold whl
  by_cases z : r = 0
  · rw [if_pos (nI_lt (by omega) (by decide))]
    simp [z, bn]
  · rw [if_neg (nI_nlt (by omega) (by omega))]
    by_cases c : col = mw
    · simp only [z, c, ne_eq, not_false_eq_true, and_self, or_true, decide_true, if_true]
      by_cases d : pd = 0
      · rw [if_pos d, if_pos rfl]
        simp [d, bn]
      · rw [if_neg d, if_neg (m1_ne (by omega))]
        simp [show pd = 1 by omega, show 1 ≤ r by omega, bn]
    · simp [z, c, bn]
theorem errorE {cd : Nat → Nat} {n : Nat} {μ : MS} (hn : n ≤ 71) (hb : buf cd n (m_text μ)) (ht : m_typed μ = nI n) : ∃ a st, EA cd n a st ∧ f_X5_error μ = some (if a = n ∧ whl st = true then -nI 1 else nI a, nI (st.1 + 1)) := by
  obtain ⟨v, h1, h2⟩ := loopQ (L := fun n' j (s : Int32 × Int32 × Int32 × Int32) => f_X5_error_L14 μ n' s.1 s.2.1 s.2.2.1 j s.2.2.2) (N := n) (I := fun j s => ∃ r col mw pd pl wm, s = (nI mw, nI col, nI pd, nI (r + 1)) ∧ PRs cd j = some (r, col, mw, pd, pl, wm)) (Q := fun q => ∃ a r col mw pd pl wm, EA cd n a (r, col, mw, pd, pl, wm) ∧ ((a = n ∧ q = .inl (nI mw, nI col, nI pd, nI (r + 1))) ∨ (a < n ∧ q = .inr (nI a, nI (r + 1))))) (fun n' j s hj hI => by
    obtain ⟨r, col, mw, pd, pl, wm, rfl, hp⟩ := hI
    have hv := PRs_VS hp
    obtain ⟨v1, v2, v3, v4, v5, v6, v7⟩ := hv
    have hw := wd_le v3
    simp only [f_X5_error_L14, f_X5_error_L14_b]
    simp only [LIT]
    rw [ht]
    by_cases z : j = n
    · subst z
      exact Or.inl ⟨_, by rw [if_pos (nI_le (Nat.le_refl _) (by omega))], j, r, col, mw, pd, pl, wm, ⟨hp, Nat.le_refl _, Or.inl rfl⟩, Or.inl ⟨rfl, rfl⟩⟩
    · have hjn : j < n := by omega
      obtain ⟨hc, hc2⟩ := hb j hjn
      have hmw8 : mw ≤ 8 := by
        by_cases y : r = 0
        · rw [v4 y]; omega
        · exact (v3 y).2
      rw [if_neg (nI_ge hjn (by omega)), jldE (by omega) (by decide), ob, hc]
      have h26 : (if nI (r + 1) = nI 1 then (if nI col < nI 2 then some (nI 0) else some (nI 1)) else (if nI col = nI mw then some (nI 1) else some (nI 0))) = some (nI (bn (decide (r = 0 ∧ 2 ≤ col ∨ r ≠ 0 ∧ col = mw)))) := by
        by_cases y : r = 0
        · rw [if_pos (by rw [y]), lt_bn _ _ (by omega) (by decide)]
          congr 3
          simp [y]
        · rw [if_neg (by rw [nI_eq (by omega) (by decide)]; omega), dec_bn _ _ (by omega) (by omega)]
          congr 3
          simp [y]
      have h25 : ∃ b : Bool, (if nI (r + 1) = nI 8 then (if nI col = nI mw - nI 1 then some (nI 1) else some (nI 0)) else some (nI 0)) = some (nI (bn b)) ∧ (b = true ↔ r + 1 = 8 ∧ col + 1 = wd r mw) := by
        by_cases y : r + 1 = 8
        · have := v3 (by omega)
          rw [if_pos (by rw [y]), pk_sub (by omega), dec_bn _ _ (by omega) (by omega)]
          refine ⟨_, rfl, ?_⟩
          unfold wd
          rw [if_neg (by omega), decide_eq_true_iff]
          omega
        · rw [if_neg (by rw [nI_eq (by omega) (by decide)]; exact y)]
          exact ⟨false, rfl, by simp [y]⟩
      have h27 : (if nI (r + 1) = nI 1 then (if nI 8 ≤ nI col then some (nI 0) else some (nI 1)) else (if nI mw ≤ nI col then some (nI 0) else some (nI 1))) = some (nI (bn (decide (col < wd r mw)))) := by
        unfold wd
        simp only [nI_eq (show r + 1 < 2 ^ 31 by omega) (show 1 < 2 ^ 31 by decide), nI_leI (show 8 < 2 ^ 31 by decide) (show col < 2 ^ 31 by omega), nI_leI (show mw < 2 ^ 31 by omega) (show col < 2 ^ 31 by omega)]
        by_cases y : r = 0
        · rw [if_pos (by omega), if_pos y]
          by_cases q : col < 8
          · rw [if_neg (by omega), decide_eq_true q]; rfl
          · rw [if_pos (by omega), decide_eq_false q]; rfl
        · rw [if_neg (by omega), if_neg y]
          by_cases q : col < mw
          · rw [if_neg (by omega), decide_eq_true q]; rfl
          · rw [if_pos (by omega), decide_eq_false q]; rfl
      obtain ⟨b25, h25, h25b⟩ := h25
      rw [h25, ob, h26, ob]
      simp only [nI_eq (show cd j < 2 ^ 31 by omega) (show 47 < 2 ^ 31 by decide)]
      by_cases c47 : cd j = 47
      · rw [if_pos c47, bn_if]
        by_cases a : r = 0 ∧ 2 ≤ col ∨ r ≠ 0 ∧ col = mw
        · rw [decide_eq_true a, if_pos rfl]
          by_cases e : r + 1 < 8
          · rw [if_neg (by rw [nI_eq (by omega) (by decide)]; omega), jletE, jletE, nI_add, nI_add]
            have hs : stp (cd j) (r, col, mw, pd, pl, wm) = some (r + 1, 0, (if r = 0 then col else mw), pd, pl, wm) := by
              unfold stp
              dsimp only
              rw [if_pos c47, if_pos ⟨a, e⟩]
            have hcol : (if r = 0 then col else mw) = col := by
              by_cases y : r = 0
              · rw [if_pos y]
              · rw [if_neg y]; omega
            rw [hcol] at hs
            exact Or.inr ⟨hjn, (nI col, nI 0, nI pd, nI (r + 1 + 1)), ⟨_, _, _, _, _, _, rfl, by rw [PRs, hp]; exact hs⟩, rfl⟩
          · rw [if_pos (by rw [show r + 1 = 8 by omega])]
            refine Or.inl ⟨_, rfl, j, r, col, mw, pd, pl, wm, ⟨hp, by omega, Or.inr ?_⟩, Or.inr ⟨hjn, rfl⟩⟩
            unfold stp
            dsimp only
            rw [if_pos c47, if_neg (fun y => e y.2)]
        · rw [decide_eq_false a, if_neg (by decide)]
          refine Or.inl ⟨_, rfl, j, r, col, mw, pd, pl, wm, ⟨hp, by omega, Or.inr ?_⟩, Or.inr ⟨hjn, rfl⟩⟩
          unfold stp
          dsimp only
          rw [if_pos c47, if_neg (fun y => a y.1)]
      · rw [if_neg c47, h27, ob]
        simp only [bn_if, nI_eq (show cd j < 2 ^ 31 by omega) (show 111 < 2 ^ 31 by decide), nI_eq (show cd j < 2 ^ 31 by omega) (show 46 < 2 ^ 31 by decide), nI_eq (show cd j < 2 ^ 31 by omega) (show 35 < 2 ^ 31 by decide), nI_eq (show pd < 2 ^ 31 by omega) (show 0 < 2 ^ 31 by decide), nI_eq (show pd < 2 ^ 31 by omega) (show 1 < 2 ^ 31 by decide)]
        by_cases d : col < wd r mw
        · rw [decide_eq_true d]
          simp only [if_true]
          have hst : stp (cd j) (r, col, mw, pd, pl, wm) = (if cd j = 111 then (if pd = 0 then some (r, col + 1, mw, 1, 8 * r + col, wm) else none) else if cd j = 46 ∨ cd j = 35 then (if pd = 0 ∧ r + 1 = 8 ∧ col + 1 = wd r mw then none else some (r, col + 1, mw, pd, pl, if cd j = 35 then wm ||| 2 ^ (8 * r + col) else wm)) else none) := by
            unfold stp
            dsimp only
            rw [if_neg c47, if_pos d]
          by_cases c111 : cd j = 111
          · simp only [c111, if_true] at hst ⊢
            by_cases y : pd = 0
            · rw [if_pos y] at hst ⊢
              rw [ob, if_neg (by rw [nI_eq (by decide) (by decide)]; decide), ob, jletE, jletE, jletE, nI_add, nI_add, nI_add]
              exact Or.inr ⟨hjn, (nI mw, nI (col + 1), nI (pd + 1), nI (r + 1)), ⟨_, _, _, _, _, _, by rw [y], by rw [PRs, hp]; exact (c111 ▸ hst : _)⟩, rfl⟩
            · rw [if_neg y] at hst ⊢
              rw [ob, if_pos rfl]
              exact Or.inl ⟨_, rfl, j, r, col, mw, pd, pl, wm, ⟨hp, by omega, Or.inr (c111 ▸ hst)⟩, Or.inr ⟨hjn, rfl⟩⟩
          · simp only [c111, if_false] at hst ⊢
            have hok : ∀ (o : cd j = 46 ∨ cd j = 35), (if b25 = true then (if pd = 1 then some (nI 1) else some (nI 0)) else some (nI 1)) = some (nI (bn (!decide (pd = 0 ∧ r + 1 = 8 ∧ col + 1 = wd r mw)))) := fun _ => by
              by_cases q : b25 = true
              · rw [if_pos q]
                have q2 := h25b.mp q
                by_cases y : pd = 1
                · rw [if_pos y, decide_eq_false (by omega)]; rfl
                · rw [if_neg y, decide_eq_true (by omega)]; rfl
              · rw [if_neg q, decide_eq_false (fun w => q (h25b.mpr w.2))]; rfl
            by_cases o : cd j = 46 ∨ cd j = 35
            · have h28 : (if cd j = 46 then (if b25 = true then (if pd = 1 then some (nI 1) else some (nI 0)) else some (nI 1)) else if cd j = 35 then (if b25 = true then (if pd = 1 then some (nI 1) else some (nI 0)) else some (nI 1)) else some (nI 0)) = some (nI (bn (!decide (pd = 0 ∧ r + 1 = 8 ∧ col + 1 = wd r mw)))) := by
                rw [hok o]
                rcases o with o | o
                · rw [if_pos o]
                · by_cases q : cd j = 46
                  · rw [if_pos q]
                  · rw [if_neg q, if_pos o]
              rw [h28, ob, bn_if]
              rw [if_pos o] at hst
              by_cases e : pd = 0 ∧ r + 1 = 8 ∧ col + 1 = wd r mw
              · rw [if_pos e] at hst
                rw [decide_eq_true e]
                exact Or.inl ⟨_, rfl, j, r, col, mw, pd, pl, wm, ⟨hp, by omega, Or.inr hst⟩, Or.inr ⟨hjn, rfl⟩⟩
              · rw [if_neg e] at hst
                rw [decide_eq_false e]
                simp only [Bool.not_false, if_true, ob, jletE, nI_add, Nat.add_zero]
                exact Or.inr ⟨hjn, (nI mw, nI (col + 1), nI pd, nI (r + 1)), ⟨_, _, _, _, _, _, rfl, by rw [PRs, hp]; exact hst⟩, rfl⟩
            · rw [if_neg o] at hst
              have o1 : ¬ cd j = 46 := fun q => o (Or.inl q)
              have o2 : ¬ cd j = 35 := fun q => o (Or.inr q)
              rw [if_neg o1, if_neg o2, ob, if_pos rfl]
              exact Or.inl ⟨_, rfl, j, r, col, mw, pd, pl, wm, ⟨hp, by omega, Or.inr hst⟩, Or.inr ⟨hjn, rfl⟩⟩
        · have hst : stp (cd j) (r, col, mw, pd, pl, wm) = none := by
            unfold stp
            dsimp only
            rw [if_neg c47, if_neg d]
          rw [decide_eq_false d]
          simp only [Bool.false_eq_true, if_false]
          have h28 : ∃ o, (if cd j = 111 then (if pd = 0 then some (nI 1) else some (nI 0)) else if cd j = 46 then (if b25 = true then (if pd = 1 then some (nI 1) else some (nI 0)) else some (nI 1)) else if cd j = 35 then (if b25 = true then (if pd = 1 then some (nI 1) else some (nI 0)) else some (nI 1)) else some (nI 0)) = some o := by
            split
            · split <;> exact ⟨_, rfl⟩
            · split
              · split
                · split <;> exact ⟨_, rfl⟩
                · exact ⟨_, rfl⟩
              · split
                · split
                  · split <;> exact ⟨_, rfl⟩
                  · exact ⟨_, rfl⟩
                · exact ⟨_, rfl⟩
          obtain ⟨o, h28⟩ := h28
          rw [h28, ob]
          exact Or.inl ⟨_, rfl, j, r, col, mw, pd, pl, wm, ⟨hp, by omega, Or.inr hst⟩, Or.inr ⟨hjn, rfl⟩⟩) n 4096 0 (nI 0, nI 0, nI 0, nI 1) (by omega) (by omega) ⟨0, 0, 0, 0, 0, 0, rfl, rfl⟩
  obtain ⟨a, r, col, mw, pd, pl, wm, h3, h4⟩ := h2
  have hv := PRs_VS h3.1
  obtain ⟨v1, v2, v3, v4, v5, v6, v7⟩ := hv
  have hw := wd_le v3
  refine ⟨a, _, h3, ?_⟩
  unfold f_X5_error
  rw [show f_X5_error_L14 μ 4096 0 0 0 0 1 = some v from h1, ob]
  simp only [LIT]
  rcases h4 with ⟨h5, rfl⟩ | ⟨h5, rfl⟩
  · show (if nI (r + 1) ≤ nI 1 then some (m_typed μ, nI (r + 1)) else (if nI col = nI mw then (if nI pd = nI 1 then some (-nI 1, nI (r + 1)) else some (m_typed μ, nI (r + 1))) else some (m_typed μ, nI (r + 1)))) = _
    have hmw8 : mw ≤ 8 := by
      by_cases y : r = 0
      · rw [v4 y]; omega
      · exact (v3 y).2
    simp only [nI_leI (show r + 1 < 2 ^ 31 by omega) (show 1 < 2 ^ 31 by decide), nI_eq (show col < 2 ^ 31 by omega) (show mw < 2 ^ 31 by omega), nI_eq (show pd < 2 ^ 31 by omega) (show 1 < 2 ^ 31 by decide)]
    rw [ht, h5]
    unfold whl
    by_cases y : r = 0
    · simp [y]
    · by_cases c : col = mw
      · by_cases d : pd = 1
        · simp [y, c, d, show 1 ≤ r by omega]
        · simp [y, c, d]
      · simp [y, c]
  · show some (nI a, nI (r + 1)) = _
    rw [if_neg (fun z => by omega)]
