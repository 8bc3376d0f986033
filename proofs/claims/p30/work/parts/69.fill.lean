/-! ===== the first way ===== -/
theorem CW_le_UW {m : Nat} : ∀ d, d ≤ 64 → ∀ w, w < 512 → CW m d w ≤ UW d w := by
  intro d
  induction d with
  | zero => intro _ w hw; exact (UW_le 0 (by omega)).2 w hw
  | succ d ih =>
    intro hd w hw
    have st := UW_step (d := d) (w := w) (by omega) hw
    rw [CW]
    by_cases c : (m.testBit (63 - d) && w % 2 == 0) = true
    · rw [if_pos c]
      have c2 : w % 2 = 0 := beq_iff_eq.mp ((Bool.and_eq_true _ _).mp c).2
      refine Nat.le_trans (fb_sm_le (fun t ht => ?_)) (st.2 c2)
      unfold opn fit
      cases okt (63 - d) t
      · exact Nat.zero_le _
      · rw [Bool.true_and, Bool.true_and]
        by_cases e : ((offs t &&& w) == 0) = true
        · rw [e, Bool.and_true, if_pos rfl]
          split
          · exact ih (by omega) _ (sc_lt _ _)
          · exact Nat.zero_le _
        · rw [show ((offs t &&& w) == 0) = false by simpa using e, Bool.and_false]
          exact Nat.zero_le _
    · rw [if_neg c]
      exact Nat.le_trans (ih (by omega) _ (by omega)) st.1
theorem CW_small (m : Nat) : CW m 64 0 < 2 ^ 31 := Nat.lt_of_le_of_lt (CW_le_UW 64 (by omega) 0 (by decide)) UW_top
theorem cl_shift : ∀ k, k < 64 → ∀ t, t < 4 → cl k t = if okt k t then offs t * 2 ^ k else 0 := by decide +kernel
theorem cl_bits {k t : Nat} (hk : k < 64) (ht : t < 4) (ho : okt k t = true) (j : Nat) : (cl k t).testBit j = (decide (k ≤ j) && (offs t).testBit (j - k)) := by
  rw [cl_shift k hk t ht, if_pos ho, Nat.mul_comm, Nat.testBit_two_pow_mul]
theorem fit_bits {m k t : Nat} (hk : k < 64) (ht : t < 4) (ho : okt k t = true) : fit m k t = true ↔ ∀ i, (offs t).testBit i = true → m.testBit (k + i) = true ∧ k + i < 64 := by
  unfold fit
  rw [ho, Bool.true_and, beq_iff_eq, andz]
  constructor
  · intro h i hi
    have h1 := h (k + i)
    have h2 : (cl k t).testBit (k + i) = true := by
      rw [cl_bits hk ht ho, decide_eq_true (by omega : k ≤ k + i), show k + i - k = i by omega, hi]
      rfl
    have h3 : k + i < 64 := by
      by_cases c : k + i < 64
      · exact c
      · rw [big_bit (cl_lt k hk t ht) (by omega)] at h2; cases h2
    rw [h2, Bool.true_and, not_bit _ h3] at h1
    exact ⟨by simpa using h1, h3⟩
  · intro h j
    rw [cl_bits hk ht ho]
    by_cases c : k ≤ j
    · cases g : (offs t).testBit (j - k) with
      | false => simp
      | true =>
        obtain ⟨h1, h2⟩ := h _ g
        rw [show k + (j - k) = j by omega] at h1 h2
        rw [not_bit _ h2, h1]
        simp
    · simp [c]
theorem opn_bits {m k t w : Nat} (hk : k < 64) (ht : t < 4) (ho : okt k t = true) : opn m k t w = true ↔ ∀ i, (offs t).testBit i = true → m.testBit (k + i) = true ∧ w.testBit i = false ∧ k + i < 64 := by
  unfold opn
  rw [Bool.and_eq_true, beq_iff_eq, fit_bits hk ht ho, andz]
  constructor
  · rintro ⟨h1, h2⟩ i hi
    have h3 := h2 i
    rw [hi, Bool.true_and] at h3
    exact ⟨(h1 i hi).1, h3, (h1 i hi).2⟩
  · intro h
    refine ⟨fun i hi => ⟨(h i hi).1, (h i hi).2.2⟩, fun i => ?_⟩
    cases g : (offs t).testBit i with
    | false => rfl
    | true => rw [(h i g).2.1]; rfl
theorem opn_okt {m k t w : Nat} (h : opn m k t w = true) : okt k t = true := by
  have := opn_fit h
  unfold fit at this
  exact ((Bool.and_eq_true _ _).mp this).1
theorem opn_cong {F F' k t w w' : Nat} (hk : k < 64) (ht : t < 4) (h : ∀ i, k + i < 64 → (F.testBit (k + i) && !w.testBit i) = (F'.testBit (k + i) && !w'.testBit i)) : opn F k t w = opn F' k t w' := by
  have key : ∀ {F F' w w' : Nat}, (∀ i, k + i < 64 → (F.testBit (k + i) && !w.testBit i) = (F'.testBit (k + i) && !w'.testBit i)) → opn F k t w = true → opn F' k t w' = true := fun {F F' w w'} h ho => by
    have hk2 := opn_okt ho
    rw [opn_bits hk ht hk2] at ho ⊢
    intro i hi
    obtain ⟨h1, h2, h3⟩ := ho i hi
    have h4 := h i h3
    rw [h1, h2] at h4
    have h5 := h4.symm
    simp at h5
    exact ⟨h5.1, h5.2, h3⟩
  cases g : opn F k t w with
  | true => rw [key h g]
  | false =>
    cases g2 : opn F' k t w' with
    | false => rfl
    | true => rw [key (fun i hi => (h i hi).symm) g2] at g; cases g
theorem sc_bit {t w : Nat} (ht : t < 4) (hw : w < 512) (i : Nat) : (sc t w).testBit i = ((offs t).testBit (i + 1) || w.testBit (i + 1)) := by
  unfold sc
  rw [show (512 : Nat) = 2 ^ 9 from rfl, Nat.testBit_mod_two_pow, ← Nat.testBit_succ, Nat.testBit_or]
  by_cases c : i < 9
  · simp [c]
  · have h1 : (offs t).testBit (i + 1) = false := Nat.testBit_lt_two_pow (Nat.lt_of_lt_of_le (show offs t < 2 ^ 10 from (offs_f t ht).1) (Nat.pow_le_pow_right (by decide) (by omega)))
    have h2 : w.testBit (i + 1) = false := Nat.testBit_lt_two_pow (Nat.lt_of_lt_of_le (show w < 2 ^ 9 from hw) (Nat.pow_le_pow_right (by decide) (by omega)))
    rw [h1, h2]
    simp
theorem CW_cong {F F' : Nat} : ∀ d, d ≤ 64 → ∀ w w', w < 512 → w' < 512 → (∀ i, i < d → (F.testBit (64 - d + i) && !w.testBit i) = (F'.testBit (64 - d + i) && !w'.testBit i)) → CW F d w = CW F' d w' := by
  intro d
  induction d with
  | zero => intros; rfl
  | succ d ih =>
    intro hd w w' hw hw' h
    have hk : 64 - (d + 1) = 63 - d := by omega
    rw [hk] at h
    have h0 := h 0 (by omega)
    rw [Nat.add_zero, Nat.testBit_zero, Nat.testBit_zero] at h0
    have e : ∀ w : Nat, (!decide (w % 2 = 1)) = (w % 2 == 0) := fun w => by
      rcases (show w % 2 = 0 ∨ w % 2 = 1 by omega) with z | z <;> rw [z] <;> rfl
    rw [e, e] at h0
    have hn : ∀ i, i < d → (F.testBit (64 - d + i) && !(w / 2).testBit i) = (F'.testBit (64 - d + i) && !(w' / 2).testBit i) := fun i hi => by
      have := h (i + 1) (by omega)
      rwa [Nat.testBit_succ, Nat.testBit_succ, show 63 - d + (i + 1) = 64 - d + i by omega] at this
    rw [CW, CW, h0]
    by_cases c : (F'.testBit (63 - d) && w' % 2 == 0) = true
    · rw [if_pos c, if_pos c]
      apply fb_sm_cong
      intro t ht
      rw [opn_cong (F := F) (F' := F') (w := w) (w' := w') (show 63 - d < 64 by omega) ht (fun i hi => h i (by omega))]
      split
      · apply ih (by omega) _ _ (sc_lt _ _) (sc_lt _ _)
        intro i hi
        rw [sc_bit ht hw, sc_bit ht hw']
        have := hn i hi
        rw [← Nat.testBit_succ, ← Nat.testBit_succ] at this
        cases (offs t).testBit (i + 1)
        · simpa using this
        · simp
      · rfl
    · rw [if_neg c, if_neg c]
      exact ih (by omega) _ _ (by omega) (by omega) hn
/-- what is free: the cells from place k on that are not in the window -/
def RLT (F m k w : Nat) : Prop := ∀ j, j < 64 → F.testBit j = (decide (k ≤ j) && m.testBit j && !w.testBit (j - k))
theorem CW_rel {F m k w : Nat} (hk : k ≤ 64) (hw : w < 512) (h : RLT F m k w) : CW F 64 0 = CW m (64 - k) w := by
  have h1 := CW_skip (m := F) k 0 0 (by omega) (fun j _ hj => by rw [h j (by omega), decide_eq_false (by omega)]; rfl)
  rw [show 64 - 0 = 64 from rfl, Nat.zero_add, Nat.zero_div] at h1
  rw [h1]
  apply CW_cong (64 - k) (by omega) 0 w (by decide) hw
  intro i hi
  rw [show 64 - (64 - k) + i = k + i by omega, h (k + i) (by omega), decide_eq_true (by omega : k ≤ k + i), show k + i - k = i by omega, Nat.zero_testBit, Bool.true_and, Bool.not_false, Bool.and_true]
def gd (m k w t : Nat) : Bool := opn m k t w && (CW m (63 - k) (sc t w) != 0)
def ft (m k w : Nat) : Nat := fa_first (gd m k w) 4
def qk (k t : Nat) : TR := (bxk k t, k / 8, t)
/-- the first way from a place on -/
def GRD (m : Nat) : Nat → Nat → List TR → List TR
  | 0, _, T => T
  | d + 1, w, T => if m.testBit (63 - d) && w % 2 == 0 then (if ft m (63 - d) w < 4 then GRD m d (sc (ft m (63 - d) w) w) (T ++ [qk (63 - d) (ft m (63 - d) w)]) else GRD m d (w / 2) T) else GRD m d (w / 2) T
theorem GRD_succ {m k w : Nat} {T : List TR} (hk : k < 64) : GRD m (64 - k) w T = if m.testBit k && w % 2 == 0 then (if ft m k w < 4 then GRD m (63 - k) (sc (ft m k w) w) (T ++ [qk k (ft m k w)]) else GRD m (63 - k) (w / 2) T) else GRD m (63 - k) (w / 2) T := by
  rw [show 64 - k = (63 - k) + 1 by omega, GRD, show 63 - (63 - k) = k by omega]
section FI
variable {W H P wm m k w : Nat} {T T0 : List TR}
def FI (W H P wm m : Nat) (T0 : List TR) (k w : Nat) (T : List TR) : Prop := w < 512 ∧ OK W H P wm T ∧ RLT (fm W H P wm (pv T)) m k w ∧ subw m k w ∧ CW m (64 - k) w ≠ 0 ∧ CW m (64 - k) w ≤ CW m 64 0 ∧ GRD m (64 - k) w T = GRD m 64 0 T0
theorem FI_skip (hk : k < 64) (hc : (m.testBit k && w % 2 == 0) = false) (h : FI W H P wm m T0 k w T) : FI W H P wm m T0 (k + 1) (w / 2) T := by
  obtain ⟨h1, h2, h3, h4, h5, h6, h7⟩ := h
  rw [CW_succ hk, hc] at h5 h6
  rw [GRD_succ hk, hc] at h7
  simp only [Bool.false_eq_true, if_false] at h5 h6 h7
  refine ⟨by omega, h2, fun j hj => ?_, subw_half h4, by rwa [show 64 - (k + 1) = 63 - k by omega], by rwa [show 64 - (k + 1) = 63 - k by omega], by rwa [show 64 - (k + 1) = 63 - k by omega]⟩
  rw [h3 j hj]
  by_cases c : j = k
  · subst c
    have e : (w % 2 == 0) = !w.testBit 0 := by
      rw [Nat.testBit_zero]
      rcases (show w % 2 = 0 ∨ w % 2 = 1 by omega) with z | z <;> rw [z] <;> rfl
    rw [e] at hc
    rw [Nat.sub_self, decide_eq_true (Nat.le_refl j), Bool.true_and, hc, decide_eq_false (by omega)]
    rfl
  · by_cases d : k ≤ j
    · rw [decide_eq_true d, decide_eq_true (by omega : k + 1 ≤ j), ← Nat.testBit_succ, show (j - (k + 1)).succ = j - k by omega]
    · rw [decide_eq_false d, decide_eq_false (by omega)]
      rfl
theorem good_ex (hk : k < 64) (hc : (m.testBit k && w % 2 == 0) = true) (h : CW m (64 - k) w ≠ 0) : ft m k w < 4 := by
  rw [CW_succ hk, if_pos hc] at h
  apply Classical.byContradiction
  intro z
  apply h
  rw [← fb_sm_zeros 4]
  apply fb_sm_cong
  intro t ht
  have := fa_first_no (gd m k w) 4 t (by unfold ft at z; omega)
  unfold gd at this
  cases o : opn m k t w with
  | false => rfl
  | true =>
    rw [o, Bool.true_and] at this
    rw [if_pos rfl]
    simpa using this
theorem fit_opn (h : RLT (fm W H P wm (pv T)) m k w) (hk : k < 64) {t : Nat} (ht : t < 4) : fit (fm W H P wm (pv T)) k t = opn m k t w := by
  have e : fit (fm W H P wm (pv T)) k t = opn (fm W H P wm (pv T)) k t 0 := by
    unfold opn
    rw [Nat.and_zero]
    simp
  rw [e]
  apply opn_cong hk ht
  intro i hi
  rw [h _ hi, Nat.zero_testBit, decide_eq_true (by omega : k ≤ k + i), show k + i - k = i by omega]
  simp
theorem qm_qk (hk : k < 64) {t : Nat} (ho : okt k t = true) : qm (qk k t) = cl k t := by unfold cl qm qk; rw [if_pos ho]
theorem REL_take (hW : W ≤ 8) (hH : H ≤ 8) (h : RLT (fm W H P wm (pv T)) m k w) (hw : w < 512) (hk : k < 64) {t : Nat} (ht : t < 4) (ho : opn m k t w = true) : RLT (fm W H P wm (pv (T ++ [qk k t]))) m (k + 1) (sc t w) := fun j hj => by
  have ok := opn_okt ho
  have e1 : (fm W H P wm (pv (T ++ [qk k t]))).testBit j = ((fm W H P wm (pv T)).testBit j && !(cl k t).testBit j) := by
    rw [fm_bit hW hH hj, fm_bit hW hH hj, pv_app, Nat.testBit_or, qm_qk hk ok]
    cases decide (j % 8 < W) <;> cases decide (j / 8 < H) <;> cases wm.testBit j <;> cases (pv T).testBit j <;> cases (cl k t).testBit j <;> cases decide (j = P) <;> rfl
  rw [e1, h j hj, cl_bits hk ht ok]
  have hod := (offs_f t ht).2.1
  by_cases c : j = k
  · subst c
    rw [Nat.sub_self, decide_eq_true (Nat.le_refl j), decide_eq_false (by omega : ¬ j + 1 ≤ j), Nat.testBit_zero (x := offs t), decide_eq_true hod]
    simp
  · by_cases d : k ≤ j
    · rw [decide_eq_true d, decide_eq_true (by omega : k + 1 ≤ j), sc_bit ht hw, show j - (k + 1) + 1 = j - k by omega]
      cases m.testBit j <;> cases w.testBit (j - k) <;> cases (offs t).testBit (j - k) <;> rfl
    · rw [decide_eq_false d, decide_eq_false (by omega : ¬ k + 1 ≤ j)]
      rfl
theorem FI_lay (hI : FI W H P wm m T0 k w T) (hk : k < 64) {t : Nat} (ht : t < 4) (ho : opn m k t w = true) : bxk k t + 2 ≤ W ∧ k / 8 + 2 ≤ H ∧ wn P wm (pv T) (bxk k t) (k / 8) t = 0 ∧ OK W H P wm (T ++ [qk k t]) := by
  obtain ⟨h1, h2, h3, h4, h5, h6, h7⟩ := hI
  have hW := h2.2.1
  have hH := h2.2.2.2.1
  have hf : fit (fm W H P wm (pv T)) k t = true := by rw [fit_opn h3 hk ht]; exact ho
  have ok := opn_okt ho
  have hb := (fit_bits hk ht ok).mp hf 0 (by rw [Nat.testBit_zero, (offs_f t ht).2.1]; rfl)
  rw [Nat.add_zero] at hb
  have hg := fm_grid hW hH k hb.1
  have e : 8 * (k / 8) + k % 8 = k := by omega
  rw [← e] at hf
  have h8 := (fit_iff hW hH hg.1 hg.2 ht).mp hf
  have e2 : (if t = 0 then k % 8 - 1 else k % 8) = bxk k t := rfl
  rw [e2] at h8
  have h9 : bxk k t + 2 ≤ W := by
    have := h8.1
    unfold bxk
    by_cases z : t = 0
    · rw [if_pos z] at this ⊢; omega
    · rw [if_neg z] at this ⊢; omega
  exact ⟨h9, h8.2.1, h8.2.2, (OK_app h2 h9 h8.2.1 ht h8.2.2).1⟩
theorem FI_take (hI : FI W H P wm m T0 k w T) (hk : k < 64) (hc : (m.testBit k && w % 2 == 0) = true) : ft m k w < 4 ∧ opn m k (ft m k w) w = true ∧ FI W H P wm m T0 (k + 1) (sc (ft m k w) w) (T ++ [qk k (ft m k w)]) := by
  have hlt := good_ex hk hc hI.2.2.2.2.1
  have hy : gd m k w (ft m k w) = true := fa_first_yes (gd m k w) 4 hlt
  unfold gd at hy
  rw [Bool.and_eq_true] at hy
  have hl := FI_lay hI hk hlt hy.1
  obtain ⟨h1, h2, h3, h4, h5, h6, h7⟩ := hI
  have hz : CW m (63 - k) (sc (ft m k w) w) ≠ 0 := by simpa using hy.2
  have hle : CW m (63 - k) (sc (ft m k w) w) ≤ CW m (64 - k) w := by
    rw [CW_succ hk, if_pos hc]
    have := fb_sm_part (fun t => if opn m k t w then CW m (63 - k) (sc t w) else 0) hlt
    rw [if_pos hy.1] at this
    omega
  rw [GRD_succ hk, if_pos hc, if_pos hlt] at h7
  refine ⟨hlt, hy.1, sc_lt _ _, hl.2.2.2, REL_take h2.2.1 h2.2.2.2.1 h3 h1 hk hlt hy.1, subw_sc hk hlt h4 (opn_fit hy.1), ?_, ?_, ?_⟩
  · rwa [show 64 - (k + 1) = 63 - k by omega]
  · rw [show 64 - (k + 1) = 63 - k by omega]; omega
  · rwa [show 64 - (k + 1) = 63 - k by omega]
theorem FI_end (hI : FI W H P wm m T0 k w T) (hk : k ≤ 64) (hm : m < 2 ^ k) : T = GRD m 64 0 T0 := by
  rw [← hI.2.2.2.2.2.2]
  have key : ∀ d w T, d ≤ 64 → m < 2 ^ (64 - d) → GRD m d w T = T := by
    intro d
    induction d with
    | zero => intros; rfl
    | succ d ih =>
      intro w T hd h
      have h1 : m.testBit (63 - d) = false := Nat.testBit_lt_two_pow (by rwa [show 64 - (d + 1) = 63 - d by omega] at h)
      rw [GRD, h1]
      simp only [Bool.false_and]
      exact ih _ _ (by omega) (Nat.lt_of_lt_of_le h (Nat.pow_le_pow_right (by decide) (by omega)))
  rw [key (64 - k) w T (by omega) (by rwa [show 64 - (64 - k) = k by omega])]
theorem FI_start (hO : OK W H P wm T) (hz : CW (fm W H P wm (pv T)) 64 0 ≠ 0) : FI W H P wm (fm W H P wm (pv T)) T 0 0 T := by
  refine ⟨by decide, hO, fun j hj => ?_, fun i hi => ?_, hz, Nat.le_refl _, rfl⟩
  · rw [decide_eq_true (Nat.zero_le j), Nat.zero_testBit]
    simp
  · rw [Nat.zero_testBit] at hi; cases hi
end FI
