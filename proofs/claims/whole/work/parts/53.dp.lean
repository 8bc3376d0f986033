/-! ===== ways to pave a set of cells: what the class counts ===== -/
def offs (t : Nat) : Nat := if t = 0 then 0x181 else if t = 1 then 0x301 else if t = 2 then 0x103 else 0x203
def bxk (k t : Nat) : Nat := if t = 0 then k % 8 - 1 else k % 8
def okt (k t : Nat) : Bool := decide (k / 8 ≤ 6) && (if t = 0 then decide (1 ≤ k % 8) else decide (k % 8 ≤ 6))
/-- the cells of the triple that has its first cell at a place -/
def cl (k t : Nat) : Nat := if okt k t then tm (bxk k t) (k / 8) t else 0
def fit (m k t : Nat) : Bool := okt k t && ((cl k t &&& (m ^^^ (2 ^ 64 - 1))) == 0)
def opn (m k t w : Nat) : Bool := fit m k t && ((offs t &&& w) == 0)
def sc (t w : Nat) : Nat := (offs t ||| w) / 2 % 512
def tk (m k t : Nat) : Nat := if fit m k t then offs t else 0
theorem offs_f : ∀ t, t < 4 → offs t < 1024 ∧ offs t % 2 = 1 ∧ offs t ≠ 0 := by decide +kernel
theorem cl_lt : ∀ k, k < 64 → ∀ t, t < 4 → cl k t < 2 ^ 64 := by decide +kernel
theorem cl_offs : ∀ k, k < 64 → ∀ t, t < 4 → cl k t / 2 ^ k = if okt k t then offs t else 0 := by decide +kernel
theorem cl_at : ∀ k, k < 64 → ∀ t, t < 4 → Option.bind (f_X2_blockColumn (nI k) (nI t)) (fun r => f_X4_cellsOf r (nI k / nI 8) (nI t)) = some (lN (cl k t)) := by decide +kernel
theorem tk_lt (m k : Nat) {t : Nat} (ht : t < 4) : tk m k t < 1024 := by
  have h := offs_f t ht
  unfold tk
  split <;> omega
theorem tk_opn {m k t : Nat} (ht : t < 4) (w : Nat) : (tk m k t ≠ 0 ∧ tk m k t &&& w = 0) ↔ opn m k t w = true := by
  have h := offs_f t ht
  unfold tk opn
  cases fit m k t <;> simp [h.2.2]
theorem sc_lt (t w : Nat) : sc t w < 512 := Nat.mod_lt _ (by decide)
theorem findTakesE {m k : Nat} (hm : m < 2 ^ 64) (hk : k < 64) (μ : PS) : ∃ g, f_X2_findTakes μ (lN m) (nI k) = some g ∧ ∀ t, t < 4 → g t = nI (tk m k t) := by
  unfold f_X2_findTakes
  obtain ⟨g, h1, h2⟩ := loopQ (L := fun n j s => f_X2_findTakes_L3 (lN m) (nI k) n j s) (N := 4) (I := fun j s => ∀ t, t < j → s t = nI (tk m k t)) (Q := fun s => ∀ t, t < 4 → s t = nI (tk m k t)) (fun n j s hj hI => by
    simp only [f_X2_findTakes_L3, f_X2_findTakes_L3_b]
    by_cases c : j = 4
    · subst c
      exact Or.inl ⟨s, by simp (disch := omega) only [LIT, nI_leI, if_pos], hI⟩
    · right
      have hc := cl_lt k hk j (by omega)
      have hn := not_lt hm
      have ha := cl_at k hk j (by omega)
      have ho := cl_offs k hk j (by omega)
      refine ⟨by omega, va_up s j (nI (tk m k j)), ?_, ?_⟩
      · intro t ht
        by_cases e : t = j
        · rw [e, up_s]
        · rw [up_n e]
          exact hI t (by omega)
      · simp only [LIT]
        rw [if_neg (by rw [nI_leI (by omega) (by omega)]; omega)]
        cases hb : f_X2_blockColumn (nI k) (nI j) with
        | none => rw [hb] at ha; cases ha
        | some r =>
          rw [hb, ob] at ha
          rw [ob, ha, ob, xorM]
          have hz := cmpZ (b := m ^^^ (2 ^ 64 - 1)) hc
          have hw : ((lN (cl k j)).toUInt64 >>> ((nI k).toInt64.toUInt64 &&& Int64.toUInt64 63)).toInt64.toInt32 = nI (if okt k j then offs j else 0) := by
            rw [wb_shr hc hk, lN_i, ho]
          by_cases z : cl k j &&& (m ^^^ (2 ^ 64 - 1)) = 0
          · have hv : (if okt k j then offs j else 0) = tk m k j := by
              unfold tk fit
              cases okt k j <;> simp [z]
            rw [if_pos (hz.mpr z), ob, if_neg (by rw [nI_eq (by decide) (by decide)]; decide), ob, hw, hv, jstE (by omega) (by decide), ob, jletE, nI_add]
          · have hv : tk m k j = 0 := by
              unfold tk fit
              cases okt k j <;> simp [z]
            rw [if_neg (fun y => z (hz.mp y)), ob, if_pos rfl, ob, hv, jstE (by omega) (by decide), ob, jletE, nI_add]) 4 4096 0 (p_takes μ) (by omega) (by omega) (fun t ht => absurd ht (by omega))
  rw [show f_X2_findTakes_L3 (lN m) (nI k) 4096 0 (p_takes μ) = some g from h1]
  exact ⟨g, rfl, h2⟩
theorem isOpenE {T : Nat → Int32} {u1 u2 : Nat → Nat} {c : Nat → Nat} {t w : Nat} (hT : ∀ t, t < 4 → T t = nI (c t)) (hc : ∀ t, t < 4 → c t < 1024) (ht : t < 4) : f_X2_isOpen (T, u1, u2) (nI t) (nI w) = some (nI (if c t ≠ 0 ∧ c t &&& w = 0 then 1 else 0)) := by
  have h1 := hc t ht
  have h2 : c t &&& w < 1024 := Nat.lt_of_le_of_lt Nat.and_le_left h1
  simp (disch := omega) only [f_X2_isOpen, p_takes, LIT, jldE, ob, hT t ht, fa_and, nI_eq]
  by_cases a : c t = 0
  · rw [if_pos a, if_neg (fun z => z.1 a)]
  · rw [if_neg a]
    by_cases b : c t &&& w = 0
    · rw [if_pos b, if_pos ⟨a, b⟩]
    · rw [if_neg b, if_neg (fun z => b z.2)]
theorem windowAfterE {T : Nat → Int32} {u1 u2 : Nat → Nat} {c : Nat → Nat} {t w : Nat} (hT : ∀ t, t < 4 → T t = nI (c t)) (hc : ∀ t, t < 4 → c t < 1024) (ht : t < 4) (hw : w < 1024) : f_X2_windowAfter (T, u1, u2) (nI t) (nI w) = some (nI ((c t ||| w) / 2 % 512)) := by
  have h2 : c t ||| w < 2 ^ 10 := Nat.or_lt_two_pow (hc t ht) hw
  unfold f_X2_windowAfter
  simp only [LIT, p_takes]
  rw [jldE ht (by decide), ob, hT t ht, fa_or, shrE (by omega) (by decide), show nI 511 = nI (2 ^ 9 - 1) from rfl, fa_mask]
/-- the ways to pave the free cells from place 64 - d on that are not in the window w -/
def CW (m : Nat) : Nat → Nat → Nat
  | 0, _ => 1
  | d + 1, w => if m.testBit (63 - d) && w % 2 == 0 then fb_sm (fun t => if opn m (63 - d) t w then CW m d (sc t w) else 0) 4 else CW m d (w / 2)
/-- the window's cells are cells of the set -/
def subw (m k w : Nat) : Prop := ∀ i, w.testBit i = true → m.testBit (k + i) = true
theorem subw_half {m k w : Nat} (h : subw m k w) : subw m (k + 1) (w / 2) := fun i hi => by
  have := h (i + 1) (by rwa [Nat.testBit_succ])
  rwa [show k + 1 + i = k + (i + 1) by omega]
theorem subw_sc {m k t w : Nat} (hk : k < 64) (ht : t < 4) (h : subw m k w) (hf : fit m k t = true) : subw m (k + 1) (sc t w) := fun i hi => by
  unfold sc at hi
  rw [show (512 : Nat) = 2 ^ 9 from rfl, Nat.testBit_mod_two_pow, Bool.and_eq_true, ← Nat.testBit_succ, Nat.testBit_or, Bool.or_eq_true] at hi
  rcases hi.2 with z | z
  · unfold fit at hf
    rw [Bool.and_eq_true] at hf
    have h1 := cl_offs k hk t ht
    rw [if_pos hf.1] at h1
    have h2 : (cl k t).testBit (k + (i + 1)) = true := by
      rw [← h1, Nat.testBit_div_two_pow] at z
      rwa [Nat.add_comm]
    have h3 := (andz _ _).mp (beq_iff_eq.mp hf.2) (k + (i + 1))
    have h4 : k + (i + 1) < 64 := by
      by_cases c : k + (i + 1) < 64
      · exact c
      · rw [big_bit (cl_lt k hk t ht) (by omega)] at h2; cases h2
    rw [h2, not_bit _ h4, Bool.true_and] at h3
    rw [show k + 1 + i = k + (i + 1) by omega]
    cases g : m.testBit (k + (i + 1)) with
    | true => rfl
    | false => rw [g] at h3; cases h3
  · have := h (i + 1) z
    rwa [show k + 1 + i = k + (i + 1) by omega]
theorem CW_succ {m k w : Nat} (hk : k < 64) : CW m (64 - k) w = if m.testBit k && w % 2 == 0 then fb_sm (fun t => if opn m k t w then CW m (63 - k) (sc t w) else 0) 4 else CW m (63 - k) (w / 2) := by
  rw [show 64 - k = (63 - k) + 1 by omega, CW, show 63 - (63 - k) = k by omega]
theorem CW_end {m : Nat} : ∀ {d : Nat} (w : Nat), d ≤ 64 → m < 2 ^ (64 - d) → CW m d w = 1 := by
  intro d
  induction d with
  | zero => intros; rfl
  | succ d ih =>
    intro w hd h
    have h1 : m.testBit (63 - d) = false := Nat.testBit_lt_two_pow (by rwa [show 64 - (d + 1) = 63 - d by omega] at h)
    rw [CW, h1]
    simp only [Bool.false_and]
    exact ih _ (by omega) (Nat.lt_of_lt_of_le h (Nat.pow_le_pow_right (by decide) (by omega)))
theorem countTurnsE {m k w : Nat} (μ : PNS) (hT : ∀ t, t < 4 → pn_takes μ t = nI (tk m k t)) (hw : w < 512) : ∃ v, f_X2_countTurns μ (nI w) = some v ∧ ∀ c : Nat → Nat, (∀ t, t < 4 → opn m k t w = true → pn_nx μ (sc t w) = nI (c (sc t w))) → v = nI (fb_sm (fun t => if opn m k t w then c (sc t w) else 0) 4) := by
  unfold f_X2_countTurns
  obtain ⟨v, h1, h2⟩ := loopQ (L := fun n j s => f_X2_countTurns_L5 (nI w) μ n s j) (N := 4) (I := fun j s => ∀ c : Nat → Nat, (∀ t, t < 4 → opn m k t w = true → pn_nx μ (sc t w) = nI (c (sc t w))) → s = nI (fb_sm (fun t => if opn m k t w then c (sc t w) else 0) j)) (Q := fun s => ∀ c : Nat → Nat, (∀ t, t < 4 → opn m k t w = true → pn_nx μ (sc t w) = nI (c (sc t w))) → s = nI (fb_sm (fun t => if opn m k t w then c (sc t w) else 0) 4)) (fun n j s hj hI => by
    simp only [f_X2_countTurns_L5, f_X2_countTurns_L5_b]
    by_cases c : j = 4
    · subst c
      exact Or.inl ⟨s, by simp (disch := omega) only [LIT, nI_leI, if_pos], hI⟩
    · right
      refine ⟨by omega, if opn m k j w then s + pn_nx μ (sc j w) else s, ?_, ?_⟩
      · intro f hf
        have h3 := hI f hf
        rw [fb_sm_succ]
        by_cases o : opn m k j w = true
        · rw [if_pos o, if_pos o, h3, hf j (by omega) o, nI_add]
        · rw [if_neg o, if_neg o, h3, Nat.add_zero]
      · simp only [LIT]
        rw [if_neg (by rw [nI_leI (by omega) (by omega)]; omega), isOpenE hT (fun t ht => tk_lt m k ht) (by omega), ob]
        by_cases o : opn m k j w = true
        · have o2 := (tk_opn (by omega) w).mpr o
          have o3 : tk m k j = offs j := by
            unfold tk
            rw [if_pos (by unfold opn at o; exact (Bool.and_eq_true _ _ ▸ o).1)]
          rw [if_pos o2, if_neg (by rw [nI_eq (by decide) (by decide)]; decide), windowAfterE hT (fun t ht => tk_lt m k ht) (by omega) (by omega), ob, jldE (Nat.mod_lt _ (by decide)) (by decide), ob, jletE, ob, jletE, if_pos o, o3, nI_add]
          rfl
        · rw [if_neg (fun z => o ((tk_opn (by omega) w).mp z)), if_pos rfl, ob, jletE, if_neg o, nI_add]) 4 4096 0 (nI 0) (by omega) (by omega) (fun c hc => rfl)
  rw [show f_X2_countTurns_L5 (nI w) μ 4096 0 0 = some v from h1]
  exact ⟨v, rfl, h2⟩
theorem opn_fit {m k t w : Nat} (h : opn m k t w = true) : fit m k t = true := by
  unfold opn at h
  exact ((Bool.and_eq_true _ _).mp h).1
theorem countPlaceE {m k : Nat} (hk : k < 64) (μ : PHS) (hT : ∀ t, t < 4 → ph_takes μ t = nI (tk m k t)) (hN : ∀ w, w < 512 → subw m (k + 1) w → ph_nx μ w = nI (CW m (63 - k) w)) : ∃ hr, f_X2_countPlace μ (nI (if m.testBit k then 1 else 0)) = some hr ∧ ∀ w, w < 512 → subw m k w → hr w = nI (CW m (64 - k) w) := by
  unfold f_X2_countPlace
  obtain ⟨v, h1, h2⟩ := loopQ (L := fun n j s => f_X2_countPlace_L3 (nI (if m.testBit k then 1 else 0)) μ n j s) (N := 512) (I := fun j s => ∀ w, w < j → subw m k w → s w = nI (CW m (64 - k) w)) (Q := fun s => ∀ w, w < 512 → subw m k w → s w = nI (CW m (64 - k) w)) (fun n j s hj hI => by
    simp only [f_X2_countPlace_L3, f_X2_countPlace_L3_b]
    by_cases c : j = 512
    · subst c
      exact Or.inl ⟨s, by simp (disch := omega) only [LIT, nI_leI, if_pos], hI⟩
    · right
      simp only [LIT]
      rw [if_neg (by rw [nI_leI (by omega) (by omega)]; omega)]
      have hs : nI j >>> (nI 1 &&& 31) = nI (j / 2) := shrE (by omega) (by decide)
      have ha : nI j &&& nI 1 = nI (j % 2) := fa_mask j 1
      have fin : ∀ v, (subw m k j → v = nI (CW m (64 - k) j)) → ∀ w, w < j + 1 → subw m k w → va_up s j v w = nI (CW m (64 - k) w) := fun v hv w hw hb => by
        by_cases e : w = j
        · rw [e, up_s]
          exact hv (e ▸ hb)
        · rw [up_n e]
          exact hI w (by omega) hb
      refine ⟨by omega, ?_⟩
      rw [hs, ha]
      cases hf : m.testBit k with
      | false =>
        refine ⟨va_up s j (ph_nx μ (j / 2)), fin _ (fun hb => ?_), ?_⟩
        · rw [CW_succ hk, hf]
          exact hN _ (by omega) (subw_half hb)
        · simp only [Bool.false_eq_true, if_false]
          rw [if_pos trivial, jldE (by omega) (by decide), ob, jstE (by omega) (by decide), ob, ob, jletE, nI_add]
      | true =>
        simp only [if_true]
        rw [if_neg (by rw [nI_eq (by decide) (by decide)]; decide)]
        by_cases e : j % 2 = 0
        · obtain ⟨v, g1, g2⟩ := countTurnsE (m := m) (k := k) (w := j) ((ph_takes μ), (ph_u1 μ), (ph_u2 μ), (ph_nx μ)) hT (by omega)
          refine ⟨va_up s j v, fin _ (fun hb => ?_), ?_⟩
          · rw [CW_succ hk, hf, e]
            exact g2 (CW m (63 - k)) (fun t ht ho => hN _ (sc_lt _ _) (subw_sc hk ht hb (opn_fit ho)))
          · rw [e, if_pos rfl, g1, ob, jstE (by omega) (by decide), ob, ob, jletE, nI_add]
        · refine ⟨va_up s j (ph_nx μ (j / 2)), fin _ (fun hb => ?_), ?_⟩
          · rw [CW_succ hk, hf, if_neg (by simp; omega)]
            exact hN _ (by omega) (subw_half hb)
          · rw [if_neg (by rw [nI_eq (by omega) (by decide)]; exact e), jldE (by omega) (by decide), ob, jstE (by omega) (by decide), ob, ob, jletE, nI_add]) 512 4096 0 (ph_hr μ) (by omega) (by omega) (fun w hw => absurd hw (by omega))
  rw [show f_X2_countPlace_L3 (nI (if m.testBit k then 1 else 0)) μ 4096 0 (ph_hr μ) = some v from h1]
  exact ⟨v, rfl, h2⟩
theorem restOfE (μ : VS) {j : Nat} (hj : j ≤ 64) : f_X2_restOf μ (nI j) = some j := by
  unfold f_X2_restOf
  simp only [LIT]
  rw [if_neg (nI_nlt hj (by decide))]
  by_cases c : j = 0
  · subst c
    rw [if_neg (nI_nlt (Nat.le_refl 0) (by decide)), jixE (by decide) (by decide), ob]
  · rw [if_pos (nI_lt (by omega) (by omega)), jixE (by omega) (by decide), ob]
/-- the rows from place k to place e are right -/
def RO (m e k : Nat) (R : Nat → Nat → Int32) : Prop := ∀ j, k ≤ j → j ≤ e → ∀ w, w < 512 → subw m j w → R j w = nI (CW m (64 - j) w)
theorem restLoop {m e : Nat} (μ : VS) (hm : m < 2 ^ 64) (he : e ≤ 64) : ∀ k, k ≤ e → ∀ n, k < n → ∀ (R : Nat → Nat → Int32) (T : Nat → Int32), RO m e k R → ∃ R' T', f_X2_countRest_L28 (lN m) μ n (nI k - nI 1) R T = some (R', T') ∧ RO m e 0 R' := by
  intro k
  induction k with
  | zero =>
    intro _ n hn R T h
    obtain ⟨n, rfl⟩ : ∃ n', n = n' + 1 := ⟨n - 1, by omega⟩
    exact ⟨R, T, by simp only [f_X2_countRest_L28, f_X2_countRest_L28_b]; rw [if_pos (by decide)], h⟩
  | succ k ih =>
    intro hk n hn R T h
    obtain ⟨n, rfl⟩ : ∃ n', n = n' + 1 := ⟨n - 1, by omega⟩
    rw [pk_sub (by omega), Nat.add_sub_cancel]
    simp only [f_X2_countRest_L28, f_X2_countRest_L28_b]
    obtain ⟨g, g1, g2⟩ := findTakesE hm (show k < 64 by omega) (T, v_u1 μ, v_u2 μ)
    obtain ⟨hr, h1, h2⟩ := countPlaceE (m := m) (show k < 64 by omega) (g, v_u1 μ, v_u2 μ, R k, R (k + 1)) g2 (fun w hw hb => by
      have := h (k + 1) (by omega) (by omega) w hw hb
      rwa [show 64 - (k + 1) = 63 - k by omega] at this)
    obtain ⟨R', T', q1, q2⟩ := ih (by omega) n (by omega) (va_up R k hr) g (fun j j1 j2 w hw hb => by
      by_cases e : j = k
      · subst e
        rw [up_s]
        exact h2 w hw hb
      · rw [up_n e]
        exact h j (by omega) j2 w hw hb)
    refine ⟨R', T', ?_, q2⟩
    simp only [LIT]
    rw [if_neg (nI_nlt (Nat.zero_le _) (by omega)), g1, ob, holdsE hm (by omega), ob, restOfE _ (by omega), ob, nI_add, restOfE _ (by omega), ob, if_neg (by omega), h1, ob, jletE, ← Int32.sub_eq_add_neg, q1]
theorem fillE (μ : FS) (a : Int32) : ∃ g, f_J7_fill_53178 μ a = some g ∧ ∀ i, i < 512 → g i = a := by
  unfold f_J7_fill_53178
  obtain ⟨v, h1, h2⟩ := loopQ (L := fun n j s => f_J7_fill_53178_L5 a n j s) (N := 512) (I := fun j s => ∀ w, w < j → s w = a) (Q := fun s => ∀ w, w < 512 → s w = a) (fun n j s hj hI => by
    simp only [f_J7_fill_53178_L5, f_J7_fill_53178_L5_b]
    by_cases c : j = 512
    · subst c
      exact Or.inl ⟨s, by simp (disch := omega) only [LIT, nI_leI, if_pos], hI⟩
    · right
      refine ⟨by omega, va_up s j a, fun w hw => ?_, ?_⟩
      · by_cases e : w = j
        · rw [e, up_s]
        · rw [up_n e]
          exact hI w (by omega)
      · simp only [LIT]
        rw [if_neg (by rw [nI_leI (by omega) (by omega)]; omega), jstE (by omega) (by decide), ob, jletE, nI_add]) 512 4096 0 μ (by omega) (by omega) (fun w hw => absurd hw (by omega))
  rw [show f_J7_fill_53178_L5 a 4096 0 μ = some v from h1]
  exact ⟨v, rfl, h2⟩
theorem subw_end {m e w : Nat} (he : m < 2 ^ e) (h : subw m e w) : w = 0 := by
  apply Nat.eq_of_testBit_eq
  intro i
  rw [Nat.zero_testBit]
  cases g : w.testBit i with
  | false => rfl
  | true =>
    have h1 := h i g
    rw [Nat.testBit_lt_two_pow (Nat.lt_of_lt_of_le he (Nat.pow_le_pow_right (by decide) (by omega)))] at h1
    cases h1
theorem countRestE {m : Nat} (hm : m < 2 ^ 64) (μ : VS) : ∃ e R T, e ≤ 64 ∧ m < 2 ^ e ∧ f_X2_endOf (lN m) = some (nI e) ∧ f_X2_countRest μ (lN m) = some (R, T) ∧ RO m e 0 R := by
  obtain ⟨e, he, h1, h2⟩ := endOfE hm
  obtain ⟨g, g1, g2⟩ := fillE ((v_rest μ) e) (0 : Int32)
  obtain ⟨R, T, q1, q2⟩ := restLoop μ hm he e (Nat.le_refl e) 4096 (by omega) (va_up (va_up (v_rest μ) e g) e (va_up g 0 (1 : Int32))) (v_takes μ) (fun j j1 j2 w hw hb => by
    have e1 : j = e := by omega
    subst e1
    have e2 := subw_end h2 hb
    subst e2
    rw [up_s, up_s, CW_end 0 (by omega) (by rwa [show 64 - (64 - j) = j by omega])]
    rfl)
  refine ⟨e, R, T, he, h2, h1, ?_, q2⟩
  unfold f_X2_countRest
  rw [h1, ob, restOfE _ he, ob, g1, ob, up_s, show jst 512 g (0 : Int32) (1 : Int32) = some (va_up g 0 1) from jstE (i := 0) (by decide) (by decide), ob, jletE, show f_X2_countRest_L28 (lN m) μ 4096 (nI e - 1) _ _ = _ from q1]
  rfl
theorem offs_bits : ∀ t, t < 4 → ∃ a, a < 9 ∧ ∃ b, b < 9 ∧ a ≠ b ∧ ∀ i, i < 16 → (offs t).testBit (i + 1) = (decide (i = a) || decide (i = b)) := by decide +kernel
theorem CW_mod {m : Nat} : ∀ d, d ≤ 64 → ∀ w, w < 512 → subw m (64 - d) w → CW m d w ≠ 0 → fb_ct (fun i => m.testBit (64 - d + i) && !w.testBit i) d % 3 = 0 := by
  intro d
  induction d with
  | zero => intros; rfl
  | succ d ih =>
    intro hd w hw9 hb hc
    have hk : 64 - (d + 1) = 63 - d := by omega
    rw [hk] at hb
    rw [show d + 1 = 1 + d by omega, fb_ct_split, show (1 + d) = d + 1 by omega, hk]
    have e1 : fb_ct (fun i => m.testBit (63 - d + i) && !w.testBit i) 1 = if m.testBit (63 - d) && w % 2 == 0 then 1 else 0 := by
      show 0 + (if (m.testBit (63 - d + 0) && !w.testBit 0) = true then 1 else 0) = _
      rw [Nat.zero_add, Nat.add_zero, Nat.testBit_zero]
      have : (!decide (w % 2 = 1)) = (w % 2 == 0) := by
        rcases (show w % 2 = 0 ∨ w % 2 = 1 by omega) with z | z <;> rw [z] <;> rfl
      rw [this]
    have e2 : ∀ i, (m.testBit (63 - d + (1 + i)) && !w.testBit (1 + i)) = (m.testBit (64 - d + i) && !(w / 2).testBit i) := fun i => by
      rw [show 63 - d + (1 + i) = 64 - d + i by omega, Nat.add_comm 1 i, Nat.testBit_succ]
    rw [e1, fb_ct_cong (fun i _ => e2 i)]
    have hs : subw m (64 - d) (w / 2) := by
      have := subw_half hb
      rwa [show 63 - d + 1 = 64 - d by omega] at this
    rw [CW] at hc
    by_cases g : (m.testBit (63 - d) && w % 2 == 0) = true
    · rw [if_pos g] at hc
      rw [if_pos g]
      have h1 : ∃ t, t < 4 ∧ opn m (63 - d) t w = true ∧ CW m d (sc t w) ≠ 0 := by
        apply Classical.byContradiction
        intro h2
        apply hc
        have h3 : fb_sm (fun t => if opn m (63 - d) t w then CW m d (sc t w) else 0) 4 = fb_sm (fun _ => 0) 4 := fb_sm_cong (fun t ht => by
          by_cases o : opn m (63 - d) t w = true
          · rw [if_pos o]
            exact Classical.byContradiction fun z => h2 ⟨t, ht, o, z⟩
          · rw [if_neg o])
        rw [h3]
        rfl
      obtain ⟨t, ht, ho, hz⟩ := h1
      have hf := opn_fit ho
      have hs2 := subw_sc (show 63 - d < 64 by omega) ht hb hf
      rw [show 63 - d + 1 = 64 - d by omega] at hs2
      have h4 := ih (by omega) (sc t w) (sc_lt t w) hs2 hz
      obtain ⟨a, ha, b, hb9, hab, hbits⟩ := offs_bits t ht
      have hw : ∀ i, i < 9 → (offs t).testBit (i + 1) = true → w.testBit (i + 1) = false := fun i _ h => by
        have h5 : (offs t &&& w) = 0 := by
          unfold opn at ho
          exact beq_iff_eq.mp ((Bool.and_eq_true _ _).mp ho).2
        have h6 := (andz _ _).mp h5 (i + 1)
        rwa [h, Bool.true_and] at h6
      have hm1 : ∀ i, i < 9 → (offs t).testBit (i + 1) = true → m.testBit (64 - d + i) = true ∧ i < d := fun i hi h => by
        have h5 : (sc t w).testBit i = true := by
          unfold sc
          rw [show (512 : Nat) = 2 ^ 9 from rfl, Nat.testBit_mod_two_pow, ← Nat.testBit_succ, Nat.testBit_or, h]
          simp [hi]
        have h6 := hs2 i h5
        refine ⟨h6, ?_⟩
        have h7 := cl_offs (63 - d) (by omega) t ht
        unfold fit at hf
        rw [if_pos ((Bool.and_eq_true _ _).mp hf).1] at h7
        rw [← h7, Nat.testBit_div_two_pow] at h
        by_cases z : i < d
        · exact z
        · rw [big_bit (cl_lt (63 - d) (by omega) t ht) (by omega)] at h
          cases h
      have oa : (offs t).testBit (a + 1) = true := by rw [hbits a (by omega)]; simp
      have ob' : (offs t).testBit (b + 1) = true := by rw [hbits b (by omega)]; simp
      obtain ⟨ma, da⟩ := hm1 a ha oa
      obtain ⟨mb, db⟩ := hm1 b hb9 ob'
      have wa := hw a ha oa
      have wb := hw b hb9 ob'
      rw [Nat.testBit_succ] at wa wb
      have h8 : fb_ct (fun i => m.testBit (64 - d + i) && !(sc t w).testBit i) d = fb_ct (fun i => if i = b then false else (if i = a then false else (m.testBit (64 - d + i) && !(w / 2).testBit i))) d := fb_ct_cong (fun i hi => by
        show (m.testBit (64 - d + i) && !(sc t w).testBit i) = (if i = b then false else (if i = a then false else (m.testBit (64 - d + i) && !(w / 2).testBit i)))
        have h9 : (sc t w).testBit i = (decide (i < 9) && ((offs t).testBit (i + 1) || (w / 2).testBit i)) := by
          unfold sc
          rw [show (512 : Nat) = 2 ^ 9 from rfl, Nat.testBit_mod_two_pow, ← Nat.testBit_succ, Nat.testBit_or, Nat.testBit_succ w]
        by_cases i9 : i < 9
        · rw [h9, hbits i (by omega)]
          by_cases ib : i = b
          · rw [if_pos ib]
            subst ib
            simp [hb9]
          · rw [if_neg ib]
            by_cases ia : i = a
            · rw [if_pos ia]
              subst ia
              simp [ha]
            · rw [if_neg ia]
              simp [i9, ia, ib]
        · rw [if_neg (by omega), if_neg (by omega), h9, Nat.testBit_lt_two_pow (x := w / 2) (Nat.lt_of_lt_of_le (show w / 2 < 2 ^ 9 by omega) (Nat.pow_le_pow_right (by decide) (by omega)))]
          simp [i9])
      rw [h8] at h4
      have u1 := fb_ct_upd (fun i => if i = a then false else (m.testBit (64 - d + i) && !(w / 2).testBit i)) false db
      have u2 := fb_ct_upd (fun i => (m.testBit (64 - d + i) && !(w / 2).testBit i)) false da
      rw [if_neg (fun z : b = a => hab z.symm), mb, wb] at u1
      rw [ma, wa] at u2
      rw [if_pos (show (true && !false) = true from rfl), if_neg (show ¬ false = true by decide)] at u1 u2
      omega
    · rw [if_neg g] at hc
      rw [if_neg g]
      have h1 := ih (by omega) (w / 2) (by omega) hs hc
      omega
