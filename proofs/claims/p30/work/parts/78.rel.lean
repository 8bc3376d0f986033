/-! ===== the class's state and the reference's state tell the same ===== -/
def LNK (g : GS) (s : Nat → Int32) (b : Nat) : Prop := ∃ W H P wm T fl rf, OK W H P wm T ∧ GR W H P wm T fl rf g ∧ SR W H P wm T fl rf s b
def SLr (S : Option GS) (a : Option Nat) (k : Int32) (s : Nat → Int32) (b : Nat) : Prop := (S = none ∧ a = none ∧ k = nI 0) ∨ ∃ γ q, S = some γ ∧ a = some q ∧ k = nI 1 ∧ LNK γ s b
def SVr (L : List GS) (S0 S1 : Option GS) (sl : Nat → Option Nat) (kp : Nat → Int32) (s : Nat → Int32) : Prop := (∀ i γ, L[i]? = some γ → LNK γ s (197 * (i + 1))) ∧ SLr S0 (sl 0) (kp 0) s 1379 ∧ SLr S1 (sl 1) (kp 1) s 1576
def BUFr (x : XS) (m : MS) : Prop := ∃ cd n, n ≤ 71 ∧ x_length x = nI n ∧ m_typed m = nI n ∧ buf cd n (x_codes x) ∧ buf cd n (m_text m)
def RR (x : XS) (L : List GS) (S0 S1 : Option GS) (m : MS) : Prop := LNK (gsX x) (m_s m) 0 ∧ SVr L S0 S1 (x_sl x) (m_kept m) (m_s m) ∧ L.length ≤ 6 ∧ x_lsize x = nI L.length ∧ m_states m = nI L.length ∧ BUFr x m
theorem LNK_cong {g : GS} {s s' : Nat → Int32} {b b' : Nat} (h : ∀ k, k < 197 → s' (b' + k) = s (b + k)) (hL : LNK g s b) : LNK g s' b' := by
  obtain ⟨W, H, P, wm, T, fl, rf, hO, hG, hS⟩ := hL
  exact ⟨W, H, P, wm, T, fl, rf, hO, hG, SR_cong h (OK_len hO) hS⟩
theorem SLr_cong {S : Option GS} {a : Option Nat} {k : Int32} {s s' : Nat → Int32} {b : Nat} (h : ∀ i, i < 197 → s' (b + i) = s (b + i)) (hL : SLr S a k s b) : SLr S a k s' b := by
  rcases hL with hL | ⟨γ, q, h1, h2, h3, h4⟩
  · exact Or.inl hL
  · exact Or.inr ⟨γ, q, h1, h2, h3, LNK_cong h h4⟩
theorem SVr_cong {L : List GS} {S0 S1 : Option GS} {sl : Nat → Option Nat} {kp s s' : Nat → Int32} (h : ∀ i, 197 ≤ i → i < 1773 → s' i = s i) (hl : L.length ≤ 6) (hL : SVr L S0 S1 sl kp s) : SVr L S0 S1 sl kp s' := by
  obtain ⟨h1, h2, h3⟩ := hL
  refine ⟨fun i γ hi => ?_, SLr_cong (fun i hi => h _ (by omega) (by omega)) h2, SLr_cong (fun i hi => h _ (by omega) (by omega)) h3⟩
  have := (List.getElem?_eq_some_iff.mp hi).1
  exact LNK_cong (fun k hk => h _ (by omega) (by omega)) (h1 i γ hi)
theorem obl {α β γ : Type} (a : α) (F : α → Option γ) (G : β → Option γ) : (Option.bind (some (Sum.inl a)) fun o => Sum.elim F G o) = F a := rfl
theorem obr {α β γ : Type} (b : β) (F : α → Option γ) (G : β → Option γ) : (Option.bind (some (Sum.inr b)) fun o => Sum.elim F G o) = G b := rfl
theorem n10 : ¬ nI 1 = nI 0 := by decide +kernel
theorem n20 : ¬ nI 2 = nI 0 := by decide +kernel
theorem n21 : ¬ nI 2 = nI 1 := by decide +kernel
abbrev IAE : String := "java/lang/IllegalArgumentException"
abbrev IOE : String := "java/lang/IndexOutOfBoundsException"
abbrev ISE : String := "java/lang/IllegalStateException"
theorem goesE (μ : MS) (p q : Bool) : f_X5_goes μ (nI (bn p)) (nI (bn q)) = some (nI (bn (p && q)), nI (if p then (if q then 0 else 2) else 1)) := by
  unfold f_X5_goes
  simp only [LIT]
  rw [bn_if, bn_if]
  cases p <;> cases q <;> rfl
theorem goes1 (μ : MS) (p : Bool) : f_X5_goes μ (nI (bn p)) (nI 1) = some (nI (bn p), nI (if p then 0 else 1)) := by
  have := goesE μ p true
  rw [Bool.and_true] at this
  exact this
/-- an argument within 0 .. n, or not -/
theorem arg_in (a : Int32) {n : Nat} (hn : n < 1000) : (∃ k, k ≤ n ∧ a = nI k ∧ f_X5_in a (nI 0) (nI n) = some (nI 1)) ∨ ((a < nI 0 ∨ nI n < a) ∧ f_X5_in a (nI 0) (nI n) = some (nI 0)) := inX a (hi := n) (by omega)
theorem turnArg (a : Int32) : (∃ t, t < 4 ∧ a = nI t ∧ f_X4_requireTurn a = some (.inl ()) ∧ f_X5_in a (nI 0) (nI 3) = some (nI 1)) ∨ (f_X4_requireTurn a = some (.inr IAE) ∧ f_X5_in a (nI 0) (nI 3) = some (nI 0)) := by
  unfold f_X4_requireTurn
  simp only [LIT]
  rcases arg_in a (n := 3) (by decide) with ⟨k, hk, rfl, h⟩ | ⟨h1, h⟩
  · exact Or.inl ⟨k, by omega, rfl, by rw [if_neg (nI_nlt (Nat.zero_le _) (by omega)), if_pos (nI_lt (by omega) (by decide))], h⟩
  · refine Or.inr ⟨?_, h⟩
    by_cases c : a < nI 0
    · rw [if_pos c]
    · rw [if_neg c, if_neg]
      obtain ⟨k, hk, rfl⟩ := nI_of c
      rw [nI_ltI hk (by decide)]
      have := h1.resolve_left c
      rw [nI_ltI (by decide) hk] at this
      omega
theorem propArg (a : Int32) : (∃ t, t < 3 ∧ a = nI t ∧ f_X4_requireProperty a = some (.inl ()) ∧ f_X5_in a (nI 0) (nI 2) = some (nI 1)) ∨ (f_X4_requireProperty a = some (.inr IAE) ∧ f_X5_in a (nI 0) (nI 2) = some (nI 0)) := by
  unfold f_X4_requireProperty
  simp only [LIT]
  rcases arg_in a (n := 2) (by decide) with ⟨k, hk, rfl, h⟩ | ⟨h1, h⟩
  · exact Or.inl ⟨k, by omega, rfl, by rw [if_neg (nI_nlt (Nat.zero_le _) (by omega)), if_pos (nI_lt (by omega) (by decide))], h⟩
  · refine Or.inr ⟨?_, h⟩
    by_cases c : a < nI 0
    · rw [if_pos c]
    · rw [if_neg c, if_neg]
      obtain ⟨k, hk, rfl⟩ := nI_of c
      rw [nI_ltI hk (by decide)]
      have := h1.resolve_left c
      rw [nI_ltI (by decide) hk] at this
      omega
theorem slotArg (μ : XS) (a : Int32) : (∃ t, t < 2 ∧ a = nI t ∧ f_X4_requireSlot μ a = some (.inl ()) ∧ f_X5_in a (nI 0) (nI 1) = some (nI 1)) ∨ (f_X4_requireSlot μ a = some (.inr IAE) ∧ f_X5_in a (nI 0) (nI 1) = some (nI 0)) := by
  unfold f_X4_requireSlot
  simp only [LIT]
  rcases arg_in a (n := 1) (by decide) with ⟨k, hk, rfl, h⟩ | ⟨h1, h⟩
  · exact Or.inl ⟨k, by omega, rfl, by rw [if_neg (nI_nlt (Nat.zero_le _) (by omega)), if_pos (nI_lt (by omega) (by decide))], h⟩
  · refine Or.inr ⟨?_, h⟩
    by_cases c : a < nI 0
    · rw [if_pos c]
    · rw [if_neg c, if_neg]
      obtain ⟨k, hk, rfl⟩ := nI_of c
      rw [nI_ltI hk (by decide)]
      have := h1.resolve_left c
      rw [nI_ltI (by decide) hk] at this
      omega
theorem sideArg (a : Int32) : (∃ t, 2 ≤ t ∧ t ≤ 8 ∧ a = nI t ∧ f_X4_isSide a = some (nI 1) ∧ f_X5_in a (nI 2) (nI 8) = some (nI 1)) ∨ (f_X4_isSide a = some (nI 0) ∧ f_X5_in a (nI 2) (nI 8) = some (nI 0)) := by
  unfold f_X4_isSide f_X5_in
  simp only [LIT]
  by_cases c : a < nI 2
  · exact Or.inr ⟨by rw [if_pos c], by rw [if_pos c]⟩
  · rw [if_neg c]
    by_cases d : nI 8 < a
    · exact Or.inr ⟨by rw [if_pos d], by rw [if_pos d]⟩
    · rw [if_neg d]
      have h0 : ¬ a < nI 0 := fun z => c (Int32.lt_trans z (nI_lt (by decide) (by decide)))
      obtain ⟨k, hk, rfl⟩ := nI_of h0
      rw [nI_ltI hk (by decide)] at c
      rw [nI_ltI (by decide) hk] at d
      exact Or.inl ⟨k, by omega, by omega, rfl, rfl, rfl⟩
section CELL
variable {W H P wm : Nat} {T : List TR} {fl rf : Int32} {x : XS} {m : MS}
theorem cellArg (hG : GR W H P wm T fl rf (gsX x)) (hS : SR W H P wm T fl rf (m_s m) 0) (hO : OK W H P wm T) (a b : Int32) : (∃ X Y, X < W ∧ Y < H ∧ a = nI X ∧ b = nI Y ∧ f_X4_requireCell x a b = some (.inl ()) ∧ f_X5_isIn m a b = some (nI 1)) ∨ (f_X4_requireCell x a b = some (.inr IOE) ∧ f_X5_isIn m a b = some (nI 0)) := by
  have hW2 := hO.1
  have hW := hO.2.1
  have hH2 := hO.2.2.1
  have hH := hO.2.2.2.1
  have hS0 : m_s m 0 = nI W := hS.1
  have hS1 : m_s m 1 = nI H := hS.2.1
  unfold f_X4_requireCell f_X5_isIn
  simp only [LIT]
  rw [jldE (by decide) (by decide), ob, hS0, pk_sub (by omega), jldE (by decide) (by decide), hS1]
  rcases arg_in a (n := W - 1) (by omega) with ⟨X, hX, rfl, e1⟩ | ⟨h1, e1⟩
  · rcases arg_in b (n := H - 1) (by omega) with ⟨Y, hY, rfl, e2⟩ | ⟨h2, e2⟩
    · refine Or.inl ⟨X, Y, by omega, by omega, rfl, rfl, ?_, ?_⟩
      · rw [show f_X1_hasBlock (gsX x) (nI X) (nI Y) (nI 1) (nI 1) = some (nI 1) from hasBlockIn hG hW hH (by omega) (by omega), ob, if_neg (by rw [nI_eq (by decide) (by decide)]; decide)]
      · rw [e1, ob, if_neg (by rw [nI_eq (by decide) (by decide)]; decide), ob, pk_sub (by omega), e2, ob, if_neg (by rw [nI_eq (by decide) (by decide)]; decide)]
    · refine Or.inr ⟨?_, ?_⟩
      · rw [show f_X1_hasBlock (gsX x) (nI X) b (nI 1) (nI 1) = some (nI 0) from hasBlockOut hG hW hH (by decide) (by decide) (by
          rintro ⟨A, B, _, rfl, h3, h4⟩
          rw [nI_ltI (by omega) (by decide), nI_ltI (by omega) (by omega)] at h2
          omega), ob, if_pos rfl]
      · rw [e1, ob, if_neg (by rw [nI_eq (by decide) (by decide)]; decide), ob, pk_sub (by omega), e2, ob, if_pos rfl]
  · refine Or.inr ⟨?_, ?_⟩
    · rw [show f_X1_hasBlock (gsX x) a b (nI 1) (nI 1) = some (nI 0) from hasBlockOut hG hW hH (by decide) (by decide) (by
        rintro ⟨A, B, rfl, _, h3, h4⟩
        rw [nI_ltI (by omega) (by decide), nI_ltI (by omega) (by omega)] at h1
        omega), ob, if_pos rfl]
    · rw [e1, ob, if_pos rfl]
end CELL
section READ
variable {W H P wm : Nat} {T : List TR} {fl rf : Int32} {x : XS} {L : List GS} {S0 S1 : Option GS} {m : MS}
theorem pr_cell (h : RR x L S0 S1 m) (a b c : Int32) : (∃ v, f_X4_cell x a b c = some (.inl v) ∧ f_X5_cell m a b c = some (v, nI 0)) ∨ (f_X4_cell x a b c = some (.inr IOE) ∧ f_X5_cell m a b c = some (nI 0, nI 1)) ∨ (f_X4_cell x a b c = some (.inr IAE) ∧ f_X5_cell m a b c = some (nI 0, nI 2)) := by
  obtain ⟨⟨W, H, P, wm, T, fl, rf, hO, hG, hS⟩, -⟩ := h
  have hW := hO.2.1
  have hH := hO.2.2.2.1
  rcases cellArg hG hS hO a b with ⟨X, Y, hX, hY, rfl, rfl, e1, e2⟩ | ⟨e1, e2⟩
  · have hc : 8 * Y + X < 64 := by omega
    rcases propArg c with ⟨t, ht, rfl, e3, e4⟩ | ⟨e3, e4⟩
    · left
      have hM : ∀ v, f_X5_cells (m_thrown' m (nI 0)) (nI (8 * Y + X)) (nI t) = some v → f_X5_cell m (nI X) (nI Y) (nI t) = some (v, nI 0) := fun v hv => by
        unfold f_X5_cell
        simp only [LIT]
        rw [e2, ob, e4, ob, show f_X5_goes m (nI 1) (nI 1) = some (nI 1, nI 0) from goesE m true true, ob, if_neg n10, pk_mul, nI_add, hv, ob]
      have hC : ∀ v, (if nI t = nI 0 then (Option.bind (f_X4_cellAt (nI X) (nI Y)) fun r7 => Option.bind (f_X1_kindOf (gsX x) r7) fun r8 => some (Sum.inl r8)) else (if nI t = nI 1 then (Option.bind (f_X4_cellAt (nI X) (nI Y)) fun r5 => Option.bind (f_X1_tripleOver (gsX x) r5) fun r6 => some (Sum.inl r6)) else (Option.bind (f_X4_placeOf (nI X) (nI Y)) fun r3 => Option.bind (f_X1_coverCount (gsX x) r3) fun r4 => some (Sum.inl r4)))) = (some (Sum.inl v) : Option (Int32 ⊕ String)) → f_X4_cell x (nI X) (nI Y) (nI t) = some (.inl v) := fun v hv => by
        unfold f_X4_cell
        simp only [LIT]
        rw [e1, obl, e3, obl]
        exact hv
      rcases (show t = 0 ∨ t = 1 ∨ t = 2 by omega) with rfl | rfl | rfl
      · exact ⟨_, hC _ (by rw [if_pos rfl, cellAtE hc, ob, kindE hG hO hc, ob]), hM _ (cells0 (μ := m_thrown' m (nI 0)) hS hO hc)⟩
      · exact ⟨_, hC _ (by rw [if_neg n10, if_pos rfl, cellAtE hc, ob, tripleOverE hG hO hc, ob]), hM _ (cells1 (μ := m_thrown' m (nI 0)) hS hc)⟩
      · exact ⟨_, hC _ (by rw [if_neg n20, if_neg n21, placeOfE, ob, coverCountE hG hO hc, ob]), hM _ (cells2 (μ := m_thrown' m (nI 0)) hS hO hc)⟩
    · right; right
      refine ⟨?_, ?_⟩
      · unfold f_X4_cell
        rw [e1, obl, e3, obr]
      · unfold f_X5_cell
        simp only [LIT]
        rw [e2, ob, e4, ob, show f_X5_goes m (nI 1) (nI 0) = some (nI 0, nI 2) from goesE m true false, ob, if_pos rfl]
  · right; left
    refine ⟨?_, ?_⟩
    · unfold f_X4_cell
      rw [e1, obr]
    · unfold f_X5_cell
      simp only [LIT]
      rcases propArg c with ⟨t, ht, rfl, e3, e4⟩ | ⟨e3, e4⟩
      · rw [e2, ob, e4, ob, show f_X5_goes m (nI 0) (nI 1) = some (nI 0, nI 1) from goesE m false true, ob, if_pos rfl]
      · rw [e2, ob, e4, ob, show f_X5_goes m (nI 0) (nI 0) = some (nI 0, nI 1) from goesE m false false, ob, if_pos rfl]
theorem inPre (a : Int32) {n : Nat} (hn : n < 1000) : (∃ i, i < n ∧ a = nI i ∧ f_X5_in a (nI 0) (nI n - nI 1) = some (nI 1)) ∨ ((a < nI 0 ∨ ¬ a < nI n) ∧ f_X5_in a (nI 0) (nI n - nI 1) = some (nI 0)) := by
  by_cases c : a < nI 0
  · exact Or.inr ⟨Or.inl c, by unfold f_X5_in; rw [if_pos c]; rfl⟩
  · obtain ⟨i, hi, rfl⟩ := nI_of c
    by_cases d : i < n
    · exact Or.inl ⟨i, d, rfl, by rw [pk_sub (by omega), inE hi (by decide) (by omega), if_pos ⟨Nat.zero_le _, by omega⟩]⟩
    · refine Or.inr ⟨Or.inr (nI_nlt (by omega) hi), ?_⟩
      unfold f_X5_in
      rw [if_neg c]
      by_cases z : n = 0
      · subst z
        rw [if_pos]
        · rfl
        · rw [show nI 0 - nI 1 = -nI 1 by decide +kernel]
          exact m1_lt hi
      · rw [pk_sub (by omega), if_pos (nI_lt (by omega) hi)]
        rfl
theorem pr_triple (h : RR x L S0 S1 m) (a b : Int32) : (∃ v, f_X4_triple x a b = some (.inl v) ∧ f_X5_triple m a b = some (v, nI 0)) ∨ (f_X4_triple x a b = some (.inr IOE) ∧ f_X5_triple m a b = some (nI 0, nI 1)) ∨ (f_X4_triple x a b = some (.inr IAE) ∧ f_X5_triple m a b = some (nI 0, nI 2)) := by
  obtain ⟨⟨W, H, P, wm, T, fl, rf, hO, hG, hS⟩, -⟩ := h
  have hl := OK_len hO
  have hW := hO.2.1
  have hH := hO.2.2.2.1
  have hn : m_s m 131 = nI T.length := hS.2.2.2.2.2.1
  have htc : x_tc x = nI T.length := hG.2.2.2.2.2.1
  have hM0 : ∀ {p q : Bool} {k : Nat}, f_X5_in a (nI 0) (nI T.length - nI 1) = some (nI (bn p)) → f_X5_in b (nI 0) (nI 2) = some (nI (bn q)) → f_X5_triple m a b = (if (p && q) = true then (Option.bind (jld 1970 (m_s m) ((nI 132 + nI 3 * a) + b)) fun v5 => some (v5, nI 0)) else some (nI 0, nI (if p then (if q then 0 else 2) else 1))) := fun {p q k} h1 h2 => by
    unfold f_X5_triple
    simp only [LIT]
    rw [jldE (by decide) (by decide), ob, hn, h1, ob, h2, ob, goesE, ob, bn_if]
    cases p <;> cases q <;> rfl
  rcases inPre a (n := T.length) (by omega) with ⟨i, hi, rfl, e1⟩ | ⟨e0, e1⟩
  · have hq : T[i]? = some T[i] := List.getElem?_eq_getElem hi
    have k1 := TO_get hO.2.2.2.2.2.2.2.2 hq
    have k2 := hS.2.2.2.2.2.2.1 i _ hq
    rw [Nat.zero_add] at k2
    obtain ⟨p1, p2, p3⟩ := nam_parts (q := T[i]) (by omega) (by omega) k1.2.2
    have c1 : ¬ nI i < nI 0 := nI_nlt (Nat.zero_le _) (by omega)
    have c2 : nI i < x_tc x := by rw [htc]; exact nI_lt hi (by omega)
    rcases propArg b with ⟨t, ht, rfl, e3, e4⟩ | ⟨e3, e4⟩
    · left
      have hM1 := hM0 (p := true) (q := true) (k := 0) e1 e4
      have hC : ∀ v, (if nI t = nI 0 then (Option.bind (f_X4_columnOf (nI (nam T[i]))) fun r5 => some (Sum.inl r5)) else (if nI t = nI 1 then (Option.bind (f_X4_rowOf (nI (nam T[i]))) fun r4 => some (Sum.inl r4)) else (Option.bind (f_X4_turnOf (nI (nam T[i]))) fun r3 => some (Sum.inl r3)))) = (some (Sum.inl v) : Option (Int32 ⊕ String)) → f_X4_triple x (nI i) (nI t) = some (.inl v) := fun v hv => by
        unfold f_X4_triple
        simp only [LIT]
        rw [if_neg c1, if_pos c2, e3, obl, show f_X1_tripleName (x_wide x, x_high x, x_pond x, x_walls x, x_paved x, x_tc x, x_flips x, x_refused x, x_names x) (nI i) = _ from nameE hG hO hq, ob]
        exact hv
      have hM2 : f_X5_triple m (nI i) (nI t) = some (m_s m (132 + 3 * i + t), nI 0) := by
        rw [hM1, Bool.and_true, if_pos rfl, pk_mul, nI_add, nI_add, jldE (by omega) (by decide), ob]
      rw [hM2]
      rcases (show t = 0 ∨ t = 1 ∨ t = 2 by omega) with rfl | rfl | rfl
      · exact ⟨_, hC _ (by rw [if_pos rfl, p1, ob]), by rw [Nat.add_zero, k2.1]⟩
      · exact ⟨_, hC _ (by rw [if_neg n10, if_pos rfl, p2, ob]), by rw [k2.2.1]⟩
      · exact ⟨_, hC _ (by rw [if_neg n20, if_neg n21, p3, ob]), by rw [k2.2.2]⟩
    · right; right
      refine ⟨?_, hM0 (p := true) (q := false) (k := 0) e1 e4⟩
      unfold f_X4_triple
      simp only [LIT]
      rw [if_neg c1, if_pos c2, e3, obr]
  · right; left
    refine ⟨?_, ?_⟩
    · unfold f_X4_triple
      simp only [LIT]
      by_cases c : a < nI 0
      · rw [if_pos c]
      · rw [if_neg c, if_neg (by rw [htc]; exact e0.resolve_left c)]
    · rcases propArg b with ⟨t, ht, rfl, e3, e4⟩ | ⟨e3, e4⟩
      · exact hM0 (p := false) (q := true) (k := 0) e1 e4
      · exact hM0 (p := false) (q := false) (k := 0) e1 e4
theorem rowC (hO : OK W H P wm T) (hG : GR W H P wm T fl rf (gsX x)) {y t : Nat} (hy : y < H) (ht : t < 3) : (if nI t = nI 0 then (Option.bind (f_X1_freeCells (gsX x)) fun r4 => Option.bind (f_X4_rowMask r4 (nI y)) fun r5 => some (Sum.inl r5)) else (Option.bind (if nI t = nI 1 then some (x_walls x) else some (x_paved x)) fun o2 => Option.bind (f_X4_rowMask o2 (nI y)) fun r3 => some (Sum.inl r3))) = (some (Sum.inl (nI (mkk (fun x => kd P wm (pv T) (8 * y + x) == if t = 0 then 0 else t + 1) W))) : Option (Int32 ⊕ String)) := by
  have hW := hO.2.1
  have hH := hO.2.2.2.1
  rw [← rowSame hO hy ht]
  rcases (show t = 0 ∨ t = 1 ∨ t = 2 by omega) with rfl | rfl | rfl
  · rw [if_pos rfl, freeCellsG hG hO, ob, rowMaskE (fm_lt hW hH) (by omega), ob]
    rfl
  · rw [if_neg n10, if_pos rfl, ob, show x_walls x = lN wm from hG.2.2.2.1, rowMaskE hO.2.2.2.2.2.2.1 (by omega), ob]
    rfl
  · rw [if_neg n20, if_neg n21, ob, show x_paved x = lN (pv T) from hG.2.2.2.2.1, rowMaskE (OK_pv hO).1 (by omega), ob]
    rfl
theorem pr_row (h : RR x L S0 S1 m) (a b : Int32) : (∃ v, f_X4_row x a b = some (.inl v) ∧ f_X5_row m a b = some (v, nI 0)) ∨ (f_X4_row x a b = some (.inr IOE) ∧ f_X5_row m a b = some (nI 0, nI 1)) ∨ (f_X4_row x a b = some (.inr IAE) ∧ f_X5_row m a b = some (nI 0, nI 2)) := by
  obtain ⟨⟨W, H, P, wm, T, fl, rf, hO, hG, hS⟩, -⟩ := h
  have hW := hO.2.1
  have hH2 := hO.2.2.1
  have hH := hO.2.2.2.1
  have hS1 : m_s m 1 = nI H := hS.2.1
  have hx : x_high x = nI H := hG.2.1
  have hM0 : ∀ {p q : Bool}, f_X5_in a (nI 0) (nI H - nI 1) = some (nI (bn p)) → f_X5_in b (nI 0) (nI 2) = some (nI (bn q)) → f_X5_row m a b = (if (p && q) = true then (Option.bind (f_X5_mask (m_thrown' m (nI 0)) a b) fun v5 => some (v5, nI 0)) else some (nI 0, nI (if p then (if q then 0 else 2) else 1))) := fun {p q} h1 h2 => by
    unfold f_X5_row
    simp only [LIT]
    rw [jldE (by decide) (by decide), ob, hS1, h1, ob, h2, ob, goesE, ob, bn_if]
    cases p <;> cases q <;> simp
  rcases inPre a (n := H) (by omega) with ⟨y, hy, rfl, e1⟩ | ⟨e0, e1⟩
  · have c1 : ¬ nI y < nI 0 := nI_nlt (Nat.zero_le _) (by omega)
    have c2 : nI y < x_high x := by rw [hx]; exact nI_lt hy (by omega)
    rcases propArg b with ⟨t, ht, rfl, e3, e4⟩ | ⟨e3, e4⟩
    · left
      refine ⟨nI (mkk (fun x => kd P wm (pv T) (8 * y + x) == if t = 0 then 0 else t + 1) W), ?_, ?_⟩
      · unfold f_X4_row
        simp only [LIT]
        rw [if_neg c1, if_pos c2, e3, obl]
        exact rowC hO hG hy ht
      · rw [hM0 (p := true) (q := true) e1 e4, Bool.and_true, if_pos rfl, maskE (μ := m_thrown' m (nI 0)) hS hO hy ht, ob]
    · right; right
      refine ⟨?_, hM0 (p := true) (q := false) e1 e4⟩
      unfold f_X4_row
      simp only [LIT]
      rw [if_neg c1, if_pos c2, e3, obr]
  · right; left
    refine ⟨?_, ?_⟩
    · unfold f_X4_row
      simp only [LIT]
      by_cases c : a < nI 0
      · rw [if_pos c]
      · rw [if_neg c, if_neg (by rw [hx]; exact e0.resolve_left c)]
    · rcases propArg b with ⟨t, ht, rfl, e3, e4⟩ | ⟨e3, e4⟩
      · exact hM0 (p := false) (q := true) e1 e4
      · exact hM0 (p := false) (q := false) e1 e4
end READ
