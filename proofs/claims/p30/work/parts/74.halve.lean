/-! ===== gardens halved into squares ===== -/
def qtn (right low : Bool) : Nat := if low then (if right then 2 else 3) else (if right then 1 else 0)
def sqp (x y h p i : Nat) (right low : Bool) : Nat := if (right == decide (i % 2 = 1)) && (low == decide (i / 2 = 1)) then p else 8 * (y + h - 1 + i / 2) + (x + h - 1 + i % 2)
def rgt (x h p : Nat) : Bool := decide (x + h ≤ p % 8)
def lowb (y h p : Nat) : Bool := decide (y + h ≤ p / 8)
def midq (x y h p : Nat) : TR := (x + h - 1, y + h - 1, qtn (rgt x h p) (lowb y h p))
def sq : Nat → Nat → Nat → Nat → Nat → List TR
  | 0, _, _, _, _ => []
  | n + 1, x, y, s, p => if s / 2 < 1 then [] else midq x y (s / 2) p :: (sq n (x + (s / 2) * (0 % 2)) (y + (s / 2) * (0 / 2)) (s / 2) (sqp x y (s / 2) p 0 (rgt x (s / 2) p) (lowb y (s / 2) p)) ++ (sq n (x + (s / 2) * (1 % 2)) (y + (s / 2) * (1 / 2)) (s / 2) (sqp x y (s / 2) p 1 (rgt x (s / 2) p) (lowb y (s / 2) p)) ++ (sq n (x + (s / 2) * (2 % 2)) (y + (s / 2) * (2 / 2)) (s / 2) (sqp x y (s / 2) p 2 (rgt x (s / 2) p) (lowb y (s / 2) p)) ++ sq n (x + (s / 2) * (3 % 2)) (y + (s / 2) * (3 / 2)) (s / 2) (sqp x y (s / 2) p 3 (rgt x (s / 2) p) (lowb y (s / 2) p)))))
def qx (n x y h p i : Nat) : List TR := sq n (x + h * (i % 2)) (y + h * (i / 2)) h (sqp x y h p i (rgt x h p) (lowb y h p))
def qsx (n x y h p : Nat) : Nat → List TR
  | 0 => []
  | j + 1 => qsx n x y h p j ++ qx n x y h p j
theorem sq_succ (n x y s p : Nat) (h : 1 ≤ s / 2) : sq (n + 1) x y s p = midq x y (s / 2) p :: qsx n x y (s / 2) p 4 := by
  rw [sq, if_neg (by omega)]
  show _ = midq x y (s / 2) p :: (((([] ++ qx n x y (s / 2) p 0) ++ qx n x y (s / 2) p 1) ++ qx n x y (s / 2) p 2) ++ qx n x y (s / 2) p 3)
  rw [List.nil_append, List.append_assoc, List.append_assoc]
  rfl
theorem qtn_lt (a b : Bool) : qtn a b < 4 := by cases a <;> cases b <;> decide
def LSq (W H P wm : Nat) : List TR → List TR → Prop
  | _, [] => True
  | T, q :: L => (q.1 + 2 ≤ W ∧ q.2.1 + 2 ≤ H ∧ q.2.2 < 4 ∧ wn P wm (pv T) q.1 q.2.1 q.2.2 = 0) ∧ LSq W H P wm (T ++ [q]) L
section SQ
variable {W H P wm : Nat}
theorem LSq_app : ∀ {L1 T L2 : List TR}, LSq W H P wm T (L1 ++ L2) ↔ LSq W H P wm T L1 ∧ LSq W H P wm (T ++ L1) L2 := by
  intro L1
  induction L1 with
  | nil => intro T L2; rw [List.nil_append, List.append_nil]; exact ⟨fun h => ⟨trivial, h⟩, fun h => h.2⟩
  | cons q L1 ih =>
    intro T L2
    rw [List.cons_append, LSq, LSq, ih, show T ++ q :: L1 = T ++ [q] ++ L1 by rw [List.append_assoc]; rfl]
    exact ⟨fun h => ⟨⟨h.1, h.2.1⟩, h.2.2⟩, fun h => ⟨h.1.1, h.1.2, h.2⟩⟩
theorem LSq_OK : ∀ {L T : List TR}, OK W H P wm T → LSq W H P wm T L → OK W H P wm (T ++ L) := by
  intro L
  induction L with
  | nil => intro T h _; rw [List.append_nil]; exact h
  | cons q L ih =>
    rintro T h ⟨⟨a, b, c, d⟩, h2⟩
    rw [show T ++ q :: L = T ++ [q] ++ L by rw [List.append_assoc]; rfl]
    exact ih (OK_app h a b c d).1 h2
end SQ
section SQC
variable {W H P wm : Nat} {fl rf : Int32}
def PSQ (W H P wm : Nat) (fl rf : Int32) (F : GS → Int32 → Int32 → Int32 → Int32 → Option (Int64 × Int32 × (Nat → Int32))) (n : Nat) : Prop := ∀ (T : List TR) (g : GS) (x y s p : Nat), GR W H P wm T fl rf g → OK W H P wm T → LSq W H P wm T (sq n x y s p) → x + s ≤ 8 → y + s ≤ 8 → p < 64 → s < 2 ^ n → ∃ nm, F g (nI x) (nI y) (nI s) (nI p) = some (lN (pv (T ++ sq n x y s p)), nI (T ++ sq n x y s p).length, nm) ∧ ∀ i q, (T ++ sq n x y s p)[i]? = some q → nm i = nI (nam q)
theorem quarterTurnE (a b : Bool) : f_X1_quarterTurn (nI (bn a)) (nI (bn b)) = some (nI (qtn a b)) := by cases a <;> cases b <;> decide +kernel
theorem sq_small {n x y s p : Nat} (h : s / 2 < 1) : sq (n + 1) x y s p = [] := by rw [sq, if_pos h]
theorem eq_bn {a b : Bool} {α : Type} (u v : α) : (if nI (bn a) = nI (bn b) then u else v) = if (a == b) then u else v := by
  cases a <;> cases b <;> first | exact if_pos rfl | (exact if_neg (by rw [nI_eq (by decide) (by decide)]; decide))
theorem dec_bn (j c : Nat) (hj : j < 1000) (hc : c < 1000) : (if nI j = nI c then some (nI 1) else some (nI 0)) = some (nI (bn (decide (j = c)))) := by
  by_cases h : j = c
  · rw [if_pos (by rw [h]), decide_eq_true h]; rfl
  · rw [if_neg (by rw [nI_eq (by omega) (by omega)]; exact h), decide_eq_false h]; rfl
theorem lt_bn (a b : Nat) (ha : a < 1000) (hb : b < 1000) : (if nI a < nI b then some (nI 0) else some (nI 1)) = some (nI (bn (decide (b ≤ a)))) := by
  by_cases h : b ≤ a
  · rw [if_neg (nI_nlt h (by omega)), decide_eq_true h]; rfl
  · rw [if_pos (nI_lt (by omega) (by omega)), decide_eq_false h]; rfl
theorem psq_1 : PSQ W H P wm fl rf f_X1_paveSquare_1 1 := fun T g x y s p hG hO hL hx hy hp hs => by
  have h1 : s / 2 = 0 := by omega
  refine ⟨g_names g, ?_, ?_⟩
  · rw [sq_small (by omega), List.append_nil]
    unfold f_X1_paveSquare_1
    simp only [LIT]
    rw [if_pos (nI_lt (show s < 2 by omega) (by decide)), hG.2.2.2.2.1, hG.2.2.2.2.2.1]
  · rw [sq_small (by omega), List.append_nil]
    exact hG.2.2.2.2.2.2.2.2
theorem psq_2 : PSQ W H P wm fl rf f_X1_paveSquare_2 2 := fun T g x y s p hG hO hL hx hy hp hs => by
  by_cases h1 : s / 2 < 1
  · refine ⟨g_names g, ?_, ?_⟩
    · rw [sq_small h1, List.append_nil]
      unfold f_X1_paveSquare_2
      simp only [LIT]
      rw [if_pos (nI_lt (show s < 2 by omega) (by decide)), hG.2.2.2.2.1, hG.2.2.2.2.2.1]
    · rw [sq_small h1, List.append_nil]
      exact hG.2.2.2.2.2.2.2.2
  · obtain ⟨h, hh⟩ : ∃ h, h = s / 2 := ⟨_, rfl⟩
    have e1 := sq_succ 1 x y s p (by omega)
    rw [← hh] at e1 h1
    rw [e1] at hL ⊢
    have hhs : 2 * h ≤ s := by omega
    obtain ⟨⟨a1, a2, a3, a4⟩, hL2⟩ := hL
    obtain ⟨nm0, p1, p2⟩ := putE hG hO a1 a2 a3 a4
    have hO1 := (OK_app hO a1 a2 a3 a4).1
    obtain ⟨⟨pa, tc, nm⟩, l1, l2, l3, l4⟩ := loopQ (L := fun n j (q : Int64 × Int32 × (Nat → Int32)) => f_X1_paveSquare_2_L89 (nI x) (nI y) (nI p) g (nI h) (nI (bn (rgt x h p))) (nI (bn (lowb y h p))) (nI (x + h - 1)) (nI (y + h - 1)) n j q.1 q.2.1 q.2.2) (N := 4) (I := fun j q => q.1 = lN (pv (T ++ [midq x y h p] ++ qsx 1 x y h p j)) ∧ q.2.1 = nI (T ++ [midq x y h p] ++ qsx 1 x y h p j).length ∧ ∀ i r, (T ++ [midq x y h p] ++ qsx 1 x y h p j)[i]? = some r → q.2.2 i = nI (nam r)) (Q := fun q => q.1 = lN (pv (T ++ [midq x y h p] ++ qsx 1 x y h p 4)) ∧ q.2.1 = nI (T ++ [midq x y h p] ++ qsx 1 x y h p 4).length ∧ ∀ i r, (T ++ [midq x y h p] ++ qsx 1 x y h p 4)[i]? = some r → q.2.2 i = nI (nam r)) (fun n j q hj hI => by
      simp only [f_X1_paveSquare_2_L89, f_X1_paveSquare_2_L89_b]
      simp only [LIT]
      by_cases z : j = 4
      · subst z
        exact Or.inl ⟨q, by rw [if_pos (nI_le (Nat.le_refl _) (by decide))], hI⟩
      · have hj4 : j < 4 := by omega
        obtain ⟨i1, i2, i3⟩ := hI
        have hall : LSq W H P wm (T ++ [midq x y h p] ++ qsx 1 x y h p j) (qx 1 x y h p j) ∧ OK W H P wm (T ++ [midq x y h p] ++ qsx 1 x y h p j) := by
          have key : ∀ d, j + 1 + d = 4 → ∃ R, qsx 1 x y h p 4 = qsx 1 x y h p j ++ (qx 1 x y h p j ++ R) := by
            intro d hd
            rcases (show j = 0 ∨ j = 1 ∨ j = 2 ∨ j = 3 by omega) with rfl | rfl | rfl | rfl
            · exact ⟨qx 1 x y h p 1 ++ (qx 1 x y h p 2 ++ qx 1 x y h p 3), by simp only [qsx, List.append_assoc]⟩
            · exact ⟨qx 1 x y h p 2 ++ qx 1 x y h p 3, by simp only [qsx, List.append_assoc]⟩
            · exact ⟨qx 1 x y h p 3, by simp only [qsx, List.append_assoc]⟩
            · exact ⟨[], by simp only [qsx, List.append_assoc, List.append_nil]⟩
          obtain ⟨R, hR⟩ := key (3 - j) (by omega)
          have hL3 : LSq W H P wm (T ++ [midq x y h p]) (qsx 1 x y h p 4) := hL2
          rw [hR, LSq_app, LSq_app] at hL3
          exact ⟨hL3.2.1, LSq_OK hO1 hL3.1⟩
        have hpp : sqp x y h p j (rgt x h p) (lowb y h p) < 64 := by
          unfold sqp
          split
          · exact hp
          · omega
        have hm2 : h * (j % 2) ≤ h := by
          rcases (show j % 2 = 0 ∨ j % 2 = 1 by omega) with e | e <;> rw [e] <;> omega
        have hm3 : h * (j / 2) ≤ h := by
          rcases (show j / 2 = 0 ∨ j / 2 = 1 by omega) with e | e <;> rw [e] <;> omega
        have hpow : (2 : Nat) ^ 2 = 2 * 2 ^ 1 := by decide
        obtain ⟨nm1, c1, c2⟩ := psq_1 (T ++ [midq x y h p] ++ qsx 1 x y h p j) (g_names' (g_tc' (g_paved' g q.1) q.2.1) q.2.2) (x + h * (j % 2)) (y + h * (j / 2)) h (sqp x y h p j (rgt x h p) (lowb y h p)) ⟨hG.1, hG.2.1, hG.2.2.1, hG.2.2.2.1, i1, i2, hG.2.2.2.2.2.2.1, hG.2.2.2.2.2.2.2.1, i3⟩ hall.2 hall.1 (by omega) (by omega) hpp (by omega)
        refine Or.inr ⟨hj4, (lN (pv (T ++ [midq x y h p] ++ qsx 1 x y h p (j + 1))), nI (T ++ [midq x y h p] ++ qsx 1 x y h p (j + 1)).length, nm1), ⟨rfl, rfl, ?_⟩, ?_⟩
        · intro i r hr
          have e2 : T ++ [midq x y h p] ++ qsx 1 x y h p (j + 1) = T ++ [midq x y h p] ++ qsx 1 x y h p j ++ sq 1 (x + h * (j % 2)) (y + h * (j / 2)) h (sqp x y h p j (rgt x h p) (lowb y h p)) := by
            show T ++ [midq x y h p] ++ (qsx 1 x y h p j ++ qx 1 x y h p j) = _
            rw [← List.append_assoc]
            rfl
          rw [e2] at hr
          exact c2 i r hr
        · have e2 : T ++ [midq x y h p] ++ qsx 1 x y h p (j + 1) = T ++ [midq x y h p] ++ qsx 1 x y h p j ++ sq 1 (x + h * (j % 2)) (y + h * (j / 2)) h (sqp x y h p j (rgt x h p) (lowb y h p)) := by
            show T ++ [midq x y h p] ++ (qsx 1 x y h p j ++ qx 1 x y h p j) = _
            rw [← List.append_assoc]
            rfl
          have h38 : (if nI (bn (rgt x h p == decide (j % 2 = 1) && lowb y h p == decide (j / 2 = 1))) = nI 0 then (Option.bind (f_X4_placeOf (nI (x + h - 1) + nI (j % 2)) (nI (y + h - 1) + nI (j / 2))) fun r39 => some r39) else some (nI p)) = some (nI (sqp x y h p j (rgt x h p) (lowb y h p))) := by
            rw [bn_if, nI_add, nI_add, placeOfE, ob]
            unfold sqp
            split <;> rfl
          have h35 : (if nI (bn (rgt x h p)) = nI (bn (decide (j % 2 = 1))) then (Option.bind (some (nI (bn (decide (j / 2 = 1))))) fun o36 => if nI (bn (lowb y h p)) = o36 then some (nI 1) else some (nI 0)) else some (nI 0)) = some (nI (bn (rgt x h p == decide (j % 2 = 1) && lowb y h p == decide (j / 2 = 1)))) := by
            rw [eq_bn, ob, eq_bn]
            cases rgt x h p <;> cases lowb y h p <;> cases decide (j % 2 = 1) <;> cases decide (j / 2 = 1) <;> rfl
          rw [if_neg (nI_ge hj4 (by decide)), pk_rem (by omega) (by decide) (by decide), jletE, pk_div (by omega) (by decide) (by decide), jletE, dec_bn _ _ (by omega) (by decide), ob, dec_bn _ _ (by omega) (by decide), h35, ob, h38, ob, pk_mul, nI_add, pk_mul, nI_add, c1, ob, jletE, nI_add, e2]) 4 4096 0 (lN (pv (T ++ [midq x y h p])), nI (T ++ [midq x y h p]).length, nm0) (by omega) (by omega) ⟨by rw [show qsx 1 x y h p 0 = [] from rfl, List.append_nil], by rw [show qsx 1 x y h p 0 = [] from rfl, List.append_nil], fun i r hr => p2 i r (by rw [show qsx 1 x y h p 0 = [] from rfl, List.append_nil] at hr; exact hr)⟩
    have e3 : T ++ midq x y h p :: qsx 1 x y h p 4 = T ++ [midq x y h p] ++ qsx 1 x y h p 4 := by rw [List.append_assoc]; rfl
    rw [e3]
    refine ⟨nm, ?_, l4⟩
    have ho2 : (if nI (p % 8) < nI (x + h) then some (nI 0) else some (nI 1)) = some (nI (bn (rgt x h p))) := lt_bn _ _ (by omega) (by omega)
    have ho3 : (if nI (p / 8) < nI (y + h) then some (nI 0) else some (nI 1)) = some (nI (bn (lowb y h p))) := lt_bn _ _ (by omega) (by omega)
    have p1' : f_X1_putTriple g (nI (x + h - 1)) (nI (y + h - 1)) (nI (qtn (rgt x h p) (lowb y h p))) = some (lN (pv (T ++ [midq x y h p])), nI (T ++ [midq x y h p]).length, nm0) := p1
    dsimp only at l2 l3
    unfold f_X1_paveSquare_2
    simp only [LIT]
    rw [if_neg (nI_nlt (show 2 ≤ s by omega) (by omega)), if_pos (nI_le (show s ≤ 8 by omega) (by decide)), pk_div (by omega) (by decide) (by decide), ← hh, jletE, pk_rem (by omega) (by decide) (by decide), nI_add, ho2, ob, pk_div (by omega) (by decide) (by decide), nI_add, ho3, ob, pk_sub (by omega), jletE, pk_sub (by omega), jletE, quarterTurnE, ob, p1', ob, show f_X1_paveSquare_2_L89 (nI x) (nI y) (nI p) g (nI h) (nI (bn (rgt x h p))) (nI (bn (lowb y h p))) (nI (x + h - 1)) (nI (y + h - 1)) 4096 (nI 0) (lN (pv (T ++ [midq x y h p])), nI (T ++ [midq x y h p]).length, nm0).1 (lN (pv (T ++ [midq x y h p])), nI (T ++ [midq x y h p]).length, nm0).2.1 (lN (pv (T ++ [midq x y h p])), nI (T ++ [midq x y h p]).length, nm0).2.2 = some (pa, tc, nm) from l1, ob, l2, l3]
theorem psq_3 : PSQ W H P wm fl rf f_X1_paveSquare_3 3 := fun T g x y s p hG hO hL hx hy hp hs => by
  by_cases h1 : s / 2 < 1
  · refine ⟨g_names g, ?_, ?_⟩
    · rw [sq_small h1, List.append_nil]
      unfold f_X1_paveSquare_3
      simp only [LIT]
      rw [if_pos (nI_lt (show s < 2 by omega) (by decide)), hG.2.2.2.2.1, hG.2.2.2.2.2.1]
    · rw [sq_small h1, List.append_nil]
      exact hG.2.2.2.2.2.2.2.2
  · obtain ⟨h, hh⟩ : ∃ h, h = s / 2 := ⟨_, rfl⟩
    have e1 := sq_succ 2 x y s p (by omega)
    rw [← hh] at e1 h1
    rw [e1] at hL ⊢
    have hhs : 2 * h ≤ s := by omega
    obtain ⟨⟨a1, a2, a3, a4⟩, hL2⟩ := hL
    obtain ⟨nm0, p1, p2⟩ := putE hG hO a1 a2 a3 a4
    have hO1 := (OK_app hO a1 a2 a3 a4).1
    obtain ⟨⟨pa, tc, nm⟩, l1, l2, l3, l4⟩ := loopQ (L := fun n j (q : Int64 × Int32 × (Nat → Int32)) => f_X1_paveSquare_3_L89 (nI x) (nI y) (nI p) g (nI h) (nI (bn (rgt x h p))) (nI (bn (lowb y h p))) (nI (x + h - 1)) (nI (y + h - 1)) n j q.1 q.2.1 q.2.2) (N := 4) (I := fun j q => q.1 = lN (pv (T ++ [midq x y h p] ++ qsx 2 x y h p j)) ∧ q.2.1 = nI (T ++ [midq x y h p] ++ qsx 2 x y h p j).length ∧ ∀ i r, (T ++ [midq x y h p] ++ qsx 2 x y h p j)[i]? = some r → q.2.2 i = nI (nam r)) (Q := fun q => q.1 = lN (pv (T ++ [midq x y h p] ++ qsx 2 x y h p 4)) ∧ q.2.1 = nI (T ++ [midq x y h p] ++ qsx 2 x y h p 4).length ∧ ∀ i r, (T ++ [midq x y h p] ++ qsx 2 x y h p 4)[i]? = some r → q.2.2 i = nI (nam r)) (fun n j q hj hI => by
      simp only [f_X1_paveSquare_3_L89, f_X1_paveSquare_3_L89_b]
      simp only [LIT]
      by_cases z : j = 4
      · subst z
        exact Or.inl ⟨q, by rw [if_pos (nI_le (Nat.le_refl _) (by decide))], hI⟩
      · have hj4 : j < 4 := by omega
        obtain ⟨i1, i2, i3⟩ := hI
        have hall : LSq W H P wm (T ++ [midq x y h p] ++ qsx 2 x y h p j) (qx 2 x y h p j) ∧ OK W H P wm (T ++ [midq x y h p] ++ qsx 2 x y h p j) := by
          have key : ∀ d, j + 1 + d = 4 → ∃ R, qsx 2 x y h p 4 = qsx 2 x y h p j ++ (qx 2 x y h p j ++ R) := by
            intro d hd
            rcases (show j = 0 ∨ j = 1 ∨ j = 2 ∨ j = 3 by omega) with rfl | rfl | rfl | rfl
            · exact ⟨qx 2 x y h p 1 ++ (qx 2 x y h p 2 ++ qx 2 x y h p 3), by simp only [qsx, List.append_assoc]⟩
            · exact ⟨qx 2 x y h p 2 ++ qx 2 x y h p 3, by simp only [qsx, List.append_assoc]⟩
            · exact ⟨qx 2 x y h p 3, by simp only [qsx, List.append_assoc]⟩
            · exact ⟨[], by simp only [qsx, List.append_assoc, List.append_nil]⟩
          obtain ⟨R, hR⟩ := key (3 - j) (by omega)
          have hL3 : LSq W H P wm (T ++ [midq x y h p]) (qsx 2 x y h p 4) := hL2
          rw [hR, LSq_app, LSq_app] at hL3
          exact ⟨hL3.2.1, LSq_OK hO1 hL3.1⟩
        have hpp : sqp x y h p j (rgt x h p) (lowb y h p) < 64 := by
          unfold sqp
          split
          · exact hp
          · omega
        have hm2 : h * (j % 2) ≤ h := by
          rcases (show j % 2 = 0 ∨ j % 2 = 1 by omega) with e | e <;> rw [e] <;> omega
        have hm3 : h * (j / 2) ≤ h := by
          rcases (show j / 2 = 0 ∨ j / 2 = 1 by omega) with e | e <;> rw [e] <;> omega
        have hpow : (2 : Nat) ^ 3 = 2 * 2 ^ 2 := by decide
        obtain ⟨nm1, c1, c2⟩ := psq_2 (T ++ [midq x y h p] ++ qsx 2 x y h p j) (g_names' (g_tc' (g_paved' g q.1) q.2.1) q.2.2) (x + h * (j % 2)) (y + h * (j / 2)) h (sqp x y h p j (rgt x h p) (lowb y h p)) ⟨hG.1, hG.2.1, hG.2.2.1, hG.2.2.2.1, i1, i2, hG.2.2.2.2.2.2.1, hG.2.2.2.2.2.2.2.1, i3⟩ hall.2 hall.1 (by omega) (by omega) hpp (by omega)
        refine Or.inr ⟨hj4, (lN (pv (T ++ [midq x y h p] ++ qsx 2 x y h p (j + 1))), nI (T ++ [midq x y h p] ++ qsx 2 x y h p (j + 1)).length, nm1), ⟨rfl, rfl, ?_⟩, ?_⟩
        · intro i r hr
          have e2 : T ++ [midq x y h p] ++ qsx 2 x y h p (j + 1) = T ++ [midq x y h p] ++ qsx 2 x y h p j ++ sq 2 (x + h * (j % 2)) (y + h * (j / 2)) h (sqp x y h p j (rgt x h p) (lowb y h p)) := by
            show T ++ [midq x y h p] ++ (qsx 2 x y h p j ++ qx 2 x y h p j) = _
            rw [← List.append_assoc]
            rfl
          rw [e2] at hr
          exact c2 i r hr
        · have e2 : T ++ [midq x y h p] ++ qsx 2 x y h p (j + 1) = T ++ [midq x y h p] ++ qsx 2 x y h p j ++ sq 2 (x + h * (j % 2)) (y + h * (j / 2)) h (sqp x y h p j (rgt x h p) (lowb y h p)) := by
            show T ++ [midq x y h p] ++ (qsx 2 x y h p j ++ qx 2 x y h p j) = _
            rw [← List.append_assoc]
            rfl
          have h38 : (if nI (bn (rgt x h p == decide (j % 2 = 1) && lowb y h p == decide (j / 2 = 1))) = nI 0 then (Option.bind (f_X4_placeOf (nI (x + h - 1) + nI (j % 2)) (nI (y + h - 1) + nI (j / 2))) fun r39 => some r39) else some (nI p)) = some (nI (sqp x y h p j (rgt x h p) (lowb y h p))) := by
            rw [bn_if, nI_add, nI_add, placeOfE, ob]
            unfold sqp
            split <;> rfl
          have h35 : (if nI (bn (rgt x h p)) = nI (bn (decide (j % 2 = 1))) then (Option.bind (some (nI (bn (decide (j / 2 = 1))))) fun o36 => if nI (bn (lowb y h p)) = o36 then some (nI 1) else some (nI 0)) else some (nI 0)) = some (nI (bn (rgt x h p == decide (j % 2 = 1) && lowb y h p == decide (j / 2 = 1)))) := by
            rw [eq_bn, ob, eq_bn]
            cases rgt x h p <;> cases lowb y h p <;> cases decide (j % 2 = 1) <;> cases decide (j / 2 = 1) <;> rfl
          rw [if_neg (nI_ge hj4 (by decide)), pk_rem (by omega) (by decide) (by decide), jletE, pk_div (by omega) (by decide) (by decide), jletE, dec_bn _ _ (by omega) (by decide), ob, dec_bn _ _ (by omega) (by decide), h35, ob, h38, ob, pk_mul, nI_add, pk_mul, nI_add, c1, ob, jletE, nI_add, e2]) 4 4096 0 (lN (pv (T ++ [midq x y h p])), nI (T ++ [midq x y h p]).length, nm0) (by omega) (by omega) ⟨by rw [show qsx 2 x y h p 0 = [] from rfl, List.append_nil], by rw [show qsx 2 x y h p 0 = [] from rfl, List.append_nil], fun i r hr => p2 i r (by rw [show qsx 2 x y h p 0 = [] from rfl, List.append_nil] at hr; exact hr)⟩
    have e3 : T ++ midq x y h p :: qsx 2 x y h p 4 = T ++ [midq x y h p] ++ qsx 2 x y h p 4 := by rw [List.append_assoc]; rfl
    rw [e3]
    refine ⟨nm, ?_, l4⟩
    have ho2 : (if nI (p % 8) < nI (x + h) then some (nI 0) else some (nI 1)) = some (nI (bn (rgt x h p))) := lt_bn _ _ (by omega) (by omega)
    have ho3 : (if nI (p / 8) < nI (y + h) then some (nI 0) else some (nI 1)) = some (nI (bn (lowb y h p))) := lt_bn _ _ (by omega) (by omega)
    have p1' : f_X1_putTriple g (nI (x + h - 1)) (nI (y + h - 1)) (nI (qtn (rgt x h p) (lowb y h p))) = some (lN (pv (T ++ [midq x y h p])), nI (T ++ [midq x y h p]).length, nm0) := p1
    dsimp only at l2 l3
    unfold f_X1_paveSquare_3
    simp only [LIT]
    rw [if_neg (nI_nlt (show 2 ≤ s by omega) (by omega)), if_pos (nI_le (show s ≤ 8 by omega) (by decide)), pk_div (by omega) (by decide) (by decide), ← hh, jletE, pk_rem (by omega) (by decide) (by decide), nI_add, ho2, ob, pk_div (by omega) (by decide) (by decide), nI_add, ho3, ob, pk_sub (by omega), jletE, pk_sub (by omega), jletE, quarterTurnE, ob, p1', ob, show f_X1_paveSquare_3_L89 (nI x) (nI y) (nI p) g (nI h) (nI (bn (rgt x h p))) (nI (bn (lowb y h p))) (nI (x + h - 1)) (nI (y + h - 1)) 4096 (nI 0) (lN (pv (T ++ [midq x y h p])), nI (T ++ [midq x y h p]).length, nm0).1 (lN (pv (T ++ [midq x y h p])), nI (T ++ [midq x y h p]).length, nm0).2.1 (lN (pv (T ++ [midq x y h p])), nI (T ++ [midq x y h p]).length, nm0).2.2 = some (pa, tc, nm) from l1, ob, l2, l3]
theorem psq_4 : PSQ W H P wm fl rf f_X1_paveSquare_4 4 := fun T g x y s p hG hO hL hx hy hp hs => by
  by_cases h1 : s / 2 < 1
  · refine ⟨g_names g, ?_, ?_⟩
    · rw [sq_small h1, List.append_nil]
      unfold f_X1_paveSquare_4
      simp only [LIT]
      rw [if_pos (nI_lt (show s < 2 by omega) (by decide)), hG.2.2.2.2.1, hG.2.2.2.2.2.1]
    · rw [sq_small h1, List.append_nil]
      exact hG.2.2.2.2.2.2.2.2
  · obtain ⟨h, hh⟩ : ∃ h, h = s / 2 := ⟨_, rfl⟩
    have e1 := sq_succ 3 x y s p (by omega)
    rw [← hh] at e1 h1
    rw [e1] at hL ⊢
    have hhs : 2 * h ≤ s := by omega
    obtain ⟨⟨a1, a2, a3, a4⟩, hL2⟩ := hL
    obtain ⟨nm0, p1, p2⟩ := putE hG hO a1 a2 a3 a4
    have hO1 := (OK_app hO a1 a2 a3 a4).1
    obtain ⟨⟨pa, tc, nm⟩, l1, l2, l3, l4⟩ := loopQ (L := fun n j (q : Int64 × Int32 × (Nat → Int32)) => f_X1_paveSquare_4_L89 (nI x) (nI y) (nI p) g (nI h) (nI (bn (rgt x h p))) (nI (bn (lowb y h p))) (nI (x + h - 1)) (nI (y + h - 1)) n j q.1 q.2.1 q.2.2) (N := 4) (I := fun j q => q.1 = lN (pv (T ++ [midq x y h p] ++ qsx 3 x y h p j)) ∧ q.2.1 = nI (T ++ [midq x y h p] ++ qsx 3 x y h p j).length ∧ ∀ i r, (T ++ [midq x y h p] ++ qsx 3 x y h p j)[i]? = some r → q.2.2 i = nI (nam r)) (Q := fun q => q.1 = lN (pv (T ++ [midq x y h p] ++ qsx 3 x y h p 4)) ∧ q.2.1 = nI (T ++ [midq x y h p] ++ qsx 3 x y h p 4).length ∧ ∀ i r, (T ++ [midq x y h p] ++ qsx 3 x y h p 4)[i]? = some r → q.2.2 i = nI (nam r)) (fun n j q hj hI => by
      simp only [f_X1_paveSquare_4_L89, f_X1_paveSquare_4_L89_b]
      simp only [LIT]
      by_cases z : j = 4
      · subst z
        exact Or.inl ⟨q, by rw [if_pos (nI_le (Nat.le_refl _) (by decide))], hI⟩
      · have hj4 : j < 4 := by omega
        obtain ⟨i1, i2, i3⟩ := hI
        have hall : LSq W H P wm (T ++ [midq x y h p] ++ qsx 3 x y h p j) (qx 3 x y h p j) ∧ OK W H P wm (T ++ [midq x y h p] ++ qsx 3 x y h p j) := by
          have key : ∀ d, j + 1 + d = 4 → ∃ R, qsx 3 x y h p 4 = qsx 3 x y h p j ++ (qx 3 x y h p j ++ R) := by
            intro d hd
            rcases (show j = 0 ∨ j = 1 ∨ j = 2 ∨ j = 3 by omega) with rfl | rfl | rfl | rfl
            · exact ⟨qx 3 x y h p 1 ++ (qx 3 x y h p 2 ++ qx 3 x y h p 3), by simp only [qsx, List.append_assoc]⟩
            · exact ⟨qx 3 x y h p 2 ++ qx 3 x y h p 3, by simp only [qsx, List.append_assoc]⟩
            · exact ⟨qx 3 x y h p 3, by simp only [qsx, List.append_assoc]⟩
            · exact ⟨[], by simp only [qsx, List.append_assoc, List.append_nil]⟩
          obtain ⟨R, hR⟩ := key (3 - j) (by omega)
          have hL3 : LSq W H P wm (T ++ [midq x y h p]) (qsx 3 x y h p 4) := hL2
          rw [hR, LSq_app, LSq_app] at hL3
          exact ⟨hL3.2.1, LSq_OK hO1 hL3.1⟩
        have hpp : sqp x y h p j (rgt x h p) (lowb y h p) < 64 := by
          unfold sqp
          split
          · exact hp
          · omega
        have hm2 : h * (j % 2) ≤ h := by
          rcases (show j % 2 = 0 ∨ j % 2 = 1 by omega) with e | e <;> rw [e] <;> omega
        have hm3 : h * (j / 2) ≤ h := by
          rcases (show j / 2 = 0 ∨ j / 2 = 1 by omega) with e | e <;> rw [e] <;> omega
        have hpow : (2 : Nat) ^ 4 = 2 * 2 ^ 3 := by decide
        obtain ⟨nm1, c1, c2⟩ := psq_3 (T ++ [midq x y h p] ++ qsx 3 x y h p j) (g_names' (g_tc' (g_paved' g q.1) q.2.1) q.2.2) (x + h * (j % 2)) (y + h * (j / 2)) h (sqp x y h p j (rgt x h p) (lowb y h p)) ⟨hG.1, hG.2.1, hG.2.2.1, hG.2.2.2.1, i1, i2, hG.2.2.2.2.2.2.1, hG.2.2.2.2.2.2.2.1, i3⟩ hall.2 hall.1 (by omega) (by omega) hpp (by omega)
        refine Or.inr ⟨hj4, (lN (pv (T ++ [midq x y h p] ++ qsx 3 x y h p (j + 1))), nI (T ++ [midq x y h p] ++ qsx 3 x y h p (j + 1)).length, nm1), ⟨rfl, rfl, ?_⟩, ?_⟩
        · intro i r hr
          have e2 : T ++ [midq x y h p] ++ qsx 3 x y h p (j + 1) = T ++ [midq x y h p] ++ qsx 3 x y h p j ++ sq 3 (x + h * (j % 2)) (y + h * (j / 2)) h (sqp x y h p j (rgt x h p) (lowb y h p)) := by
            show T ++ [midq x y h p] ++ (qsx 3 x y h p j ++ qx 3 x y h p j) = _
            rw [← List.append_assoc]
            rfl
          rw [e2] at hr
          exact c2 i r hr
        · have e2 : T ++ [midq x y h p] ++ qsx 3 x y h p (j + 1) = T ++ [midq x y h p] ++ qsx 3 x y h p j ++ sq 3 (x + h * (j % 2)) (y + h * (j / 2)) h (sqp x y h p j (rgt x h p) (lowb y h p)) := by
            show T ++ [midq x y h p] ++ (qsx 3 x y h p j ++ qx 3 x y h p j) = _
            rw [← List.append_assoc]
            rfl
          have h38 : (if nI (bn (rgt x h p == decide (j % 2 = 1) && lowb y h p == decide (j / 2 = 1))) = nI 0 then (Option.bind (f_X4_placeOf (nI (x + h - 1) + nI (j % 2)) (nI (y + h - 1) + nI (j / 2))) fun r39 => some r39) else some (nI p)) = some (nI (sqp x y h p j (rgt x h p) (lowb y h p))) := by
            rw [bn_if, nI_add, nI_add, placeOfE, ob]
            unfold sqp
            split <;> rfl
          have h35 : (if nI (bn (rgt x h p)) = nI (bn (decide (j % 2 = 1))) then (Option.bind (some (nI (bn (decide (j / 2 = 1))))) fun o36 => if nI (bn (lowb y h p)) = o36 then some (nI 1) else some (nI 0)) else some (nI 0)) = some (nI (bn (rgt x h p == decide (j % 2 = 1) && lowb y h p == decide (j / 2 = 1)))) := by
            rw [eq_bn, ob, eq_bn]
            cases rgt x h p <;> cases lowb y h p <;> cases decide (j % 2 = 1) <;> cases decide (j / 2 = 1) <;> rfl
          rw [if_neg (nI_ge hj4 (by decide)), pk_rem (by omega) (by decide) (by decide), jletE, pk_div (by omega) (by decide) (by decide), jletE, dec_bn _ _ (by omega) (by decide), ob, dec_bn _ _ (by omega) (by decide), h35, ob, h38, ob, pk_mul, nI_add, pk_mul, nI_add, c1, ob, jletE, nI_add, e2]) 4 4096 0 (lN (pv (T ++ [midq x y h p])), nI (T ++ [midq x y h p]).length, nm0) (by omega) (by omega) ⟨by rw [show qsx 3 x y h p 0 = [] from rfl, List.append_nil], by rw [show qsx 3 x y h p 0 = [] from rfl, List.append_nil], fun i r hr => p2 i r (by rw [show qsx 3 x y h p 0 = [] from rfl, List.append_nil] at hr; exact hr)⟩
    have e3 : T ++ midq x y h p :: qsx 3 x y h p 4 = T ++ [midq x y h p] ++ qsx 3 x y h p 4 := by rw [List.append_assoc]; rfl
    rw [e3]
    refine ⟨nm, ?_, l4⟩
    have ho2 : (if nI (p % 8) < nI (x + h) then some (nI 0) else some (nI 1)) = some (nI (bn (rgt x h p))) := lt_bn _ _ (by omega) (by omega)
    have ho3 : (if nI (p / 8) < nI (y + h) then some (nI 0) else some (nI 1)) = some (nI (bn (lowb y h p))) := lt_bn _ _ (by omega) (by omega)
    have p1' : f_X1_putTriple g (nI (x + h - 1)) (nI (y + h - 1)) (nI (qtn (rgt x h p) (lowb y h p))) = some (lN (pv (T ++ [midq x y h p])), nI (T ++ [midq x y h p]).length, nm0) := p1
    dsimp only at l2 l3
    unfold f_X1_paveSquare_4
    simp only [LIT]
    rw [if_neg (nI_nlt (show 2 ≤ s by omega) (by omega)), if_pos (nI_le (show s ≤ 8 by omega) (by decide)), pk_div (by omega) (by decide) (by decide), ← hh, jletE, pk_rem (by omega) (by decide) (by decide), nI_add, ho2, ob, pk_div (by omega) (by decide) (by decide), nI_add, ho3, ob, pk_sub (by omega), jletE, pk_sub (by omega), jletE, quarterTurnE, ob, p1', ob, show f_X1_paveSquare_4_L89 (nI x) (nI y) (nI p) g (nI h) (nI (bn (rgt x h p))) (nI (bn (lowb y h p))) (nI (x + h - 1)) (nI (y + h - 1)) 4096 (nI 0) (lN (pv (T ++ [midq x y h p])), nI (T ++ [midq x y h p]).length, nm0).1 (lN (pv (T ++ [midq x y h p])), nI (T ++ [midq x y h p]).length, nm0).2.1 (lN (pv (T ++ [midq x y h p])), nI (T ++ [midq x y h p]).length, nm0).2.2 = some (pa, tc, nm) from l1, ob, l2, l3]
end SQC
