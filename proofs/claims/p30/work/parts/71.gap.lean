/-! ===== the best pond ===== -/
def PM5 (N φ : Nat → Nat) : Nat := fb_sm (fun i => N i * φ i) 512
theorem pm_upd (N φ : Nat → Nat) (c : Nat) {i : Nat} (hi : i < 512) : PM5 (fun k => if k = i then N i + c else N k) φ = PM5 N φ + c * φ i := by
  show fb_sm (fun k => (if k = i then N i + c else N k) * φ k) 512 = fb_sm (fun k => N k * φ k) 512 + c * φ i
  have h := fb_sm_upd (fun k => N k * φ k) ((N i + c) * φ i) hi
  have e : fb_sm (fun k => if k = i then (N i + c) * φ i else N k * φ k) 512 = fb_sm (fun k => (if k = i then N i + c else N k) * φ k) 512 := fb_sm_cong (fun k _ => by
    by_cases g : k = i
    · subst g; rw [if_pos rfl, if_pos rfl]
    · rw [if_neg g, if_neg g])
  rw [e, Nat.add_mul] at h
  omega
def sg (m k : Nat) (φ : Nat → Nat) (w : Nat) : Nat := if m.testBit k && w % 2 == 0 then fb_sm (fun t => if opn m k t w then φ (sc t w) else 0) 4 else φ (w / 2)
def psi (m p k w : Nat) : Nat := if w.testBit (p - k) then 0 else CW (m ^^^ 2 ^ p) (64 - k) w
def FP (m k : Nat) (N : Nat → Nat) : Prop := (∀ w, w < 512 → N w ≠ 0 → subw m k w) ∧ PM5 N (UW (64 - k)) ≤ UW 64 0 ∧ ∀ p, k ≤ p → p < 64 → m.testBit p = true → PM5 N (psi m p k) = CW (m ^^^ 2 ^ p) 64 0
theorem xor_bit {m p : Nat} (hp : m.testBit p = true) (j : Nat) : (m ^^^ 2 ^ p).testBit j = (m.testBit j && !decide (j = p)) := by
  rw [Nat.testBit_xor, pw_bit]
  by_cases c : j = p
  · subst c; rw [hp]; simp
  · simp [c]
theorem psi_step {m p k w : Nat} (hkp : k < p) (hp : p < 64) (hm : m.testBit p = true) (hw : w < 512) : psi m p k w = sg m k (psi m p (k + 1)) w := by
  have hk : k < 64 := by omega
  have hmk : (m ^^^ 2 ^ p).testBit k = m.testBit k := by rw [xor_bit hm, decide_eq_false (by omega)]; simp
  have hkd : p - k = (p - (k + 1)) + 1 := by omega
  unfold sg psi
  rw [CW_succ hk, hmk]
  by_cases c : (m.testBit k && w % 2 == 0) = true
  · rw [if_pos c, if_pos c]
    by_cases z : w.testBit (p - k) = true
    · rw [if_pos z]
      refine Eq.symm (Eq.trans (fb_sm_cong (g := fun _ => 0) (fun t ht => ?_)) (fb_sm_zeros 4))
      split
      · rw [if_pos]
        rw [sc_bit ht hw, ← hkd, z, Bool.or_true]
      · rfl
    · rw [if_neg z]
      have zf : w.testBit (p - k) = false := by simpa using z
      apply fb_sm_cong
      intro t ht
      rw [show 64 - (k + 1) = 63 - k by omega, sc_bit ht hw, ← hkd, zf, Bool.or_false]
      by_cases o : opn m k t w = true
      · have ok := opn_okt o
        rw [if_pos o]
        have hb := (opn_bits hk ht ok).mp o
        cases g : (offs t).testBit (p - k) with
        | true =>
          rw [if_pos rfl, if_neg]
          intro o2
          have := ((opn_bits hk ht ok).mp o2 (p - k) g).1
          rw [show k + (p - k) = p by omega, xor_bit hm] at this
          simp at this
        | false =>
          rw [if_neg (show ¬ false = true by decide), if_pos]
          rw [opn_bits hk ht ok]
          intro i hi
          obtain ⟨b1, b2, b3⟩ := hb i hi
          refine ⟨?_, b2, b3⟩
          rw [xor_bit hm, b1, decide_eq_false (fun e => by
            rw [show p - k = i by omega, hi] at g
            cases g)]
          rfl
      · rw [if_neg o, if_neg]
        intro o2
        apply o
        have ok := opn_okt o2
        rw [opn_bits hk ht ok] at o2 ⊢
        intro i hi
        obtain ⟨b1, b2, b3⟩ := o2 i hi
        rw [xor_bit hm, Bool.and_eq_true] at b1
        exact ⟨b1.1, b2, b3⟩
  · rw [if_neg c, if_neg c, show 64 - (k + 1) = 63 - k by omega]
    have e : (w / 2).testBit (p - (k + 1)) = w.testBit (p - k) := by rw [← Nat.testBit_succ]; congr 1; omega
    rw [e]
theorem psi_at {m p w : Nat} (hp : p < 64) (hm : m.testBit p = true) (hw : w < 512) : psi m p p w = if w % 2 = 0 then CW m (63 - p) (w / 2) else 0 := by
  unfold psi
  rw [Nat.sub_self, Nat.testBit_zero]
  by_cases c : w % 2 = 0
  · rw [if_neg (by simp; omega), if_pos c, CW_succ hp, xor_bit hm]
    simp only [decide_true, Bool.not_true, Bool.and_false, Bool.false_and, Bool.false_eq_true, if_false]
    apply CW_cong (63 - p) (by omega) _ _ (by omega) (by omega)
    intro i hi
    rw [xor_bit hm, decide_eq_false (by omega)]
    simp
  · rw [if_pos (by simp; omega), if_neg c]
def FB (m k : Nat) (N : Nat → Nat) : Prop := (∀ w, w < 512 → N w ≠ 0 → subw m k w) ∧ PM5 N (UW (64 - k)) ≤ UW 64 0
theorem FP.fb {m k : Nat} {N : Nat → Nat} (h : FP m k N) : FB m k N := ⟨h.1, h.2.1⟩
theorem sg_UW {m k w : Nat} (hk : k < 64) (hw : w < 512) : sg m k (UW (63 - k)) w ≤ UW (64 - k) w := by
  have st := UW_step (d := 63 - k) (w := w) (by omega) hw
  rw [show 63 - k + 1 = 64 - k by omega, show 63 - (63 - k) = k by omega] at st
  unfold sg
  by_cases c : (m.testBit k && w % 2 == 0) = true
  · rw [if_pos c]
    have c2 : w % 2 = 0 := beq_iff_eq.mp ((Bool.and_eq_true _ _).mp c).2
    refine Nat.le_trans (fb_sm_le (fun t ht => ?_)) (st.2 c2)
    unfold opn fit
    cases okt k t
    · exact Nat.zero_le _
    · rw [Bool.true_and, Bool.true_and]
      by_cases e : ((offs t &&& w) == 0) = true
      · rw [e, Bool.and_true, if_pos rfl]
        split
        · exact Nat.le_refl _
        · exact Nat.zero_le _
      · rw [show ((offs t &&& w) == 0) = false by simpa using e, Bool.and_false]
        exact Nat.zero_le _
  · rw [if_neg c]
    exact st.1
theorem fbStep {m k : Nat} {N N' : Nat → Nat} (hk : k < 64) (h : FB m k N) (hN : ∀ φ, PM5 N' φ = fb_sm (fun w => N w * sg m k φ w) 512) : FB m (k + 1) N' := by
  obtain ⟨h1, h2⟩ := h
  refine ⟨fun w hw hn => ?_, ?_⟩
  · apply Classical.byContradiction
    intro hno
    have e1 := hN (fun j => if j = w then 1 else 0)
    have e2 : fb_sm (fun i => N i * sg m k (fun j => if j = w then 1 else 0) i) 512 = fb_sm (fun _ => 0) 512 := fb_sm_cong (fun i hi => by
      by_cases z : N i = 0
      · rw [z, Nat.zero_mul]
      · have hs := h1 i hi z
        have : sg m k (fun j => if j = w then 1 else 0) i = 0 := by
          unfold sg
          by_cases c : (m.testBit k && i % 2 == 0) = true
          · rw [if_pos c]
            refine Eq.trans (fb_sm_cong (g := fun _ => 0) (fun t ht => ?_)) (fb_sm_zeros 4)
            split
            · rename_i o
              exact if_neg (fun e => hno (by rw [← e]; exact subw_sc hk ht hs (opn_fit o)))
            · rfl
          · rw [if_neg c]
            exact if_neg (fun e => hno (by rw [← e]; exact subw_half hs))
        rw [this, Nat.mul_zero])
    rw [e2, fb_sm_zeros] at e1
    have e3 : N' w * (if w = w then 1 else 0) = 0 := fb_sm_zero e1 w hw
    rw [if_pos rfl, Nat.mul_one] at e3
    exact hn e3
  · rw [hN]
    refine Nat.le_trans (fb_sm_le (fun w hw => Nat.mul_le_mul_left _ ?_)) h2
    rw [show 64 - (k + 1) = 63 - k by omega]
    exact sg_UW hk hw
theorem gapStep {m k : Nat} {N N' : Nat → Nat} (hk : k < 64) (h : FP m k N) (hN : ∀ φ, PM5 N' φ = fb_sm (fun w => N w * sg m k φ w) 512) : FP m (k + 1) N' := by
  obtain ⟨g1, g2⟩ := fbStep hk h.fb hN
  obtain ⟨h1, h2, h3⟩ := h
  refine ⟨g1, g2, fun p hp1 hp2 hm => ?_⟩
  · rw [hN, ← h3 p (by omega) hp2 hm]
    unfold PM5
    apply fb_sm_cong
    intro w hw
    rw [psi_step (by omega) hp2 hm hw]
theorem gap_bound {m k : Nat} {N : Nat → Nat} (h : FP m k N) : ∀ w, w < 512 → N w < 2 ^ 31 := fun w hw => by
  have h3 := (UW_le (64 - k) (by omega)).2 _ hw
  have h4 : fb_sm (fun i => N i * UW (64 - k) i) w + N w * UW (64 - k) w ≤ fb_sm (fun i => N i * UW (64 - k) i) 512 := fb_sm_part (fun i => N i * UW (64 - k) i) hw
  have h5 : fb_sm (fun i => N i * UW (64 - k) i) 512 ≤ UW 64 0 := h.2.1
  have h6 := UW_top
  have h7 : N w * 1 ≤ N w * UW (64 - k) w := Nat.mul_le_mul_left _ h3
  omega
theorem gap_first (m : Nat) : FP m 0 (fun i => if i = 0 then 1 else 0) := by
  have hP : ∀ φ : Nat → Nat, PM5 (fun i => if i = 0 then 1 else 0) φ = φ 0 := fun φ => by
    have h : PM5 (fun i => if i = 0 then 1 else 0) φ = PM5 (fun _ => 0) φ + 1 * φ 0 := pm_upd (fun _ => 0) φ 1 (show 0 < 512 by decide)
    have h0 : PM5 (fun _ => 0) φ = 0 := by
      unfold PM5
      rw [fb_sm_cong (g := fun _ => 0) (fun k _ => Nat.zero_mul _), fb_sm_zeros]
    rw [h0, Nat.zero_add, Nat.one_mul] at h
    exact h
  refine ⟨fun w hw hn => ?_, ?_, fun p _ _ _ => ?_⟩
  · by_cases z : w = 0
    · subst z
      exact fun i hi => by rw [Nat.zero_testBit] at hi; cases hi
    · exact absurd (if_neg z) hn
  · rw [hP]; exact Nat.le_refl _
  · rw [hP]
    unfold psi
    rw [Nat.zero_testBit]
    rfl
/-! ===== the windows that are reached, as a list ===== -/
def LI (N : Nat → Nat) (sz : Int32) (win way : Nat → Int32) : Prop := ∃ (n : Nat) (q : Nat → Nat), sz = nI n ∧ n ≤ 512 ∧ (∀ i, i < n → q i < 512 ∧ win i = nI (q i)) ∧ (∀ w, w < 512 → way w = nI (N w)) ∧ ∀ φ : Nat → Nat, fb_sm (fun i => φ (q i)) n = fb_sm (fun w => if N w = 0 then 0 else φ w) 512
def LC (sz : Int32) (win way : Nat → Int32) : Prop := ∃ N, LI N sz win way
theorem li_in {N q : Nat → Nat} {n w : Nat} (h : ∀ φ : Nat → Nat, fb_sm (fun i => φ (q i)) n = fb_sm (fun w => if N w = 0 then 0 else φ w) 512) (hw : w < 512) (hz : N w ≠ 0) : ∃ i, i < n ∧ q i = w := by
  apply Classical.byContradiction
  intro hno
  have h1 := h (fun v => if v = w then 1 else 0)
  have h2 : fb_sm (fun i => if q i = w then 1 else 0) n = fb_sm (fun _ => 0) n := fb_sm_cong (fun i hi => if_neg (fun e => hno ⟨i, hi, e⟩))
  rw [h2, fb_sm_zeros] at h1
  have h3 := fb_sm_zero h1.symm w hw
  rw [if_neg hz, if_pos rfl] at h3
  cases h3
theorem li_nz {N q : Nat → Nat} {n i : Nat} (h : ∀ φ : Nat → Nat, fb_sm (fun i => φ (q i)) n = fb_sm (fun w => if N w = 0 then 0 else φ w) 512) (hi : i < n) (hq : q i < 512) : N (q i) ≠ 0 := by
  intro z
  have h1 := h (fun v => if v = q i then 1 else 0)
  have h2 : fb_sm (fun w => if N w = 0 then 0 else if w = q i then 1 else 0) 512 = fb_sm (fun _ => 0) 512 := fb_sm_cong (fun w hw => by
    by_cases e : w = q i
    · rw [e, if_pos z]
    · rw [if_neg e]
      split <;> rfl)
  rw [h2, fb_sm_zeros] at h1
  have h3 := fb_sm_zero h1 i hi
  try dsimp only at h3
  rw [if_pos rfl] at h3
  cases h3
theorem li_lt {N q : Nat → Nat} {n w : Nat} (h : ∀ φ : Nat → Nat, fb_sm (fun i => φ (q i)) n = fb_sm (fun w => if N w = 0 then 0 else φ w) 512) (hw : w < 512) (hz : N w = 0) : n < 512 := by
  have h1 := h (fun _ => 1)
  rw [fb_sm_const, Nat.mul_one] at h1
  have h2 := fb_sm_upd (fun w => if N w = 0 then 0 else 1) 1 hw
  try dsimp only at h2
  rw [if_pos hz, ← h1] at h2
  have h3 : fb_sm (fun k => if k = w then 1 else if N k = 0 then 0 else 1) 512 ≤ 512 * 1 := fb_sm_bound (fun k _ => by split <;> (try split) <;> omega)
  omega
theorem windowAtE {sz : Int32} {win way : Nat → Int32} {i : Nat} (hi : i < 512) : f_X6_windowAt (sz, win, way) (nI i) = some (win i) := by
  unfold f_X6_windowAt
  simp only [LIT]
  rw [if_neg (nI_nlt (Nat.zero_le _) (by omega)), if_neg (nI_ge hi (by decide)), jldE hi (by decide), ob]
theorem waysToE {sz : Int32} {win way : Nat → Int32} {w : Nat} (hw : w < 512) : f_X6_waysTo (sz, win, way) (nI w) = some (way w) := by
  unfold f_X6_waysTo
  simp only [LIT]
  rw [if_neg (nI_nlt (Nat.zero_le _) (by omega)), if_neg (nI_ge hw (by decide)), jldE hw (by decide), ob]
theorem clearE {sz : Int32} {win way : Nat → Int32} (h : LC sz win way) : ∃ g, f_X6_clear (sz, win, way) = some (nI 0, g) ∧ LI (fun _ => 0) (nI 0) win g := by
  obtain ⟨N, n, q, rfl, hn, hq, hw, hs⟩ := h
  obtain ⟨g, h1, h2⟩ := loopQ (L := fun k j s => f_X6_clear_L2 (nI n, win, way) k j s) (N := n) (I := fun j s => (∀ w, w < 512 → s w = nI (N w) ∨ s w = nI 0) ∧ ∀ i, i < j → s (q i) = nI 0) (Q := fun s => ∀ w, w < 512 → s w = nI 0) (fun k j s hj hI => by
    obtain ⟨i1, i2⟩ := hI
    simp only [f_X6_clear_L2, f_X6_clear_L2_b]
    by_cases c : j = n
    · subst c
      refine Or.inl ⟨s, by rw [if_pos (nI_le (Nat.le_refl _) (by omega))], fun w hw9 => ?_⟩
      by_cases z : N w = 0
      · rcases i1 w hw9 with e | e
        · rw [e, z]
        · exact e
      · obtain ⟨i, hi, rfl⟩ := li_in hs hw9 z
        exact i2 i hi
    · obtain ⟨q1, q2⟩ := hq j (by omega)
      refine Or.inr ⟨by omega, va_up s (q j) (nI 0), ⟨fun w hw9 => ?_, fun i hi => ?_⟩, ?_⟩
      · by_cases e : w = q j
        · rw [e, up_s]; exact Or.inr rfl
        · rw [up_n e]; exact i1 w hw9
      · by_cases e : q i = q j
        · rw [e, up_s]
        · rw [up_n e]
          exact i2 i (by
            by_cases y : i = j
            · subst y; exact absurd rfl e
            · omega)
      · rw [if_neg (nI_ge (show j < n by omega) (by omega)), windowAtE (by omega), ob]
        dsimp only
        rw [q2]
        simp only [LIT]
        rw [jstE q1 (by decide), ob, jletE, nI_add]) n 4096 0 way (by omega) (by omega) ⟨fun w hw9 => Or.inl (hw w hw9), fun i hi => absurd hi (by omega)⟩
  refine ⟨g, ?_, 0, fun _ => 0, rfl, by omega, fun i hi => absurd hi (by omega), h2, fun φ => ?_⟩
  · unfold f_X6_clear
    rw [show f_X6_clear_L2 (nI n, win, way) 4096 0 way = some g from h1]
    rfl
  · rw [fb_sm_cong (g := fun _ => 0) (fun k _ => if_pos rfl), fb_sm_zeros]
    rfl
theorem addE {M : Nat → Nat} {sz : Int32} {win way : Nat → Int32} (h : LI M sz win way) {w c : Nat} (hw9 : w < 512) (hc : c ≠ 0) (hM : M w < 2 ^ 31) : ∃ sz' win' way', f_X6_add (sz, win, way) (nI w) (nI c) = some (sz', win', way') ∧ LI (fun k => if k = w then M w + c else M k) sz' win' way' := by
  obtain ⟨n, q, rfl, hn, hq, hw, hs⟩ := h
  have hway : ∀ v, v < 512 → va_up way w (nI (M w) + nI c) v = nI (if v = w then M w + c else M v) := fun v hv => by
    by_cases e : v = w
    · rw [e, up_s, if_pos rfl, nI_add]
    · rw [up_n e, if_neg e]
      exact hw v hv
  unfold f_X6_add
  simp only [LIT, re_size, re_win, re_way]
  rw [if_neg (nI_nlt (Nat.zero_le _) (by omega)), if_pos (nI_lt hw9 (by decide)), jldE hw9 (by decide), ob, hw w hw9]
  by_cases z : M w = 0
  · have hlt := li_lt hs hw9 z
    rw [if_pos (by rw [z]), if_neg (nI_ge hlt (by decide)), jstE hlt (by decide), ob, jletE, nI_add, ob, ob, jstE hw9 (by decide), ob]
    refine ⟨_, _, _, rfl, n + 1, fun i => if i = n then w else q i, rfl, hlt, fun i hi => ?_, ?_, fun φ => ?_⟩
    · by_cases e : i = n
      · dsimp only
        rw [e, if_pos rfl, up_s]
        exact ⟨hw9, rfl⟩
      · dsimp only
        rw [if_neg e, up_n e]
        exact hq i (by omega)
    · exact hway
    · rw [fb_sm_succ, fb_sm_cong (g := fun i => φ (q i)) (fun k hk => by dsimp only; rw [if_neg (by omega)]), hs φ]
      dsimp only
      rw [if_pos rfl]
      have h1 := fb_sm_upd (fun v => if M v = 0 then 0 else φ v) (φ w) hw9
      try dsimp only at h1
      rw [if_pos z, Nat.add_zero] at h1
      rw [← h1]
      apply fb_sm_cong
      intro k _
      by_cases e : k = w
      · subst e
        show (if k = k then φ k else if M k = 0 then 0 else φ k) = if (if k = k then M k + c else M k) = 0 then 0 else φ k
        simp [hc]
      · show (if k = w then φ w else if M k = 0 then 0 else φ k) = if (if k = w then M w + c else M k) = 0 then 0 else φ k
        simp only [if_neg e]
  · rw [if_neg (by rw [nI_eq hM (by decide)]; exact z), ob, ob, jstE hw9 (by decide), ob]
    refine ⟨_, _, _, rfl, n, q, rfl, hn, hq, ?_, fun φ => ?_⟩
    · exact hway
    · rw [hs φ]
      apply fb_sm_cong
      intro k _
      by_cases e : k = w
      · rw [if_neg (show ¬ (if k = w then M w + c else M k) = 0 by rw [if_pos e]; omega), if_neg (by rw [e]; exact z)]
      · show (if M k = 0 then 0 else φ k) = if (if k = w then M w + c else M k) = 0 then 0 else φ k
        rw [if_neg e]
theorem pm_small {M U : Nat → Nat} {B v : Nat} (h : PM5 M U < B) (hU : 1 ≤ U v) (hv : v < 512) : M v < B := by
  have h1 : fb_sm (fun i => M i * U i) v + M v * U v ≤ fb_sm (fun i => M i * U i) 512 := fb_sm_part (fun i => M i * U i) hv
  have h2 : fb_sm (fun i => M i * U i) 512 < B := h
  have h3 : M v * 1 ≤ M v * U v := Nat.mul_le_mul_left _ hU
  omega
theorem sm_le_part (f : Nat → Nat) {j n : Nat} (h : j ≤ n) : fb_sm f j ≤ fb_sm f n := by
  have := fb_sm_mono f j (n - j)
  rwa [show j + (n - j) = n by omega] at this
theorem turnsPush {m k w : Nat} {N : Nat → Nat} (μ : VS) (hT : ∀ t, t < 4 → v_takes μ t = nI (tk m k t)) (hw : w < 512) (hr : v_hway μ w = nI (N w)) (hz : N w ≠ 0) {U : Nat → Nat} (hU : ∀ v, v < 512 → 1 ≤ U v) (M : Nat → Nat) (hM : LI M (v_nsz μ) (v_nwin μ) (v_nway μ)) (hB : PM5 M U + N w * fb_sm (fun t => if opn m k t w then U (sc t w) else 0) 4 < 2 ^ 31) : ∃ sz win way M', f_X2_goOnByTurns μ (nI w) = some (sz, win, way) ∧ LI M' sz win way ∧ ∀ φ, PM5 M' φ = PM5 M φ + N w * fb_sm (fun t => if opn m k t w then φ (sc t w) else 0) 4 := by
  obtain ⟨⟨sz, win, way⟩, h1, M', h2, h3⟩ := loopQ (L := fun n j (s : Int32 × (Nat → Int32) × (Nat → Int32)) => f_X2_goOnByTurns_L2 (nI w) μ n j s.1 s.2.1 s.2.2) (N := 4) (I := fun j s => ∃ M', LI M' s.1 s.2.1 s.2.2 ∧ ∀ φ, PM5 M' φ = PM5 M φ + N w * fb_sm (fun t => if opn m k t w then φ (sc t w) else 0) j) (Q := fun s => ∃ M', LI M' s.1 s.2.1 s.2.2 ∧ ∀ φ, PM5 M' φ = PM5 M φ + N w * fb_sm (fun t => if opn m k t w then φ (sc t w) else 0) 4) (fun n j s hj hI => by
    obtain ⟨M1, g1, g2⟩ := hI
    simp only [f_X2_goOnByTurns_L2, f_X2_goOnByTurns_L2_b]
    simp only [LIT]
    by_cases e : j = 4
    · subst e
      exact Or.inl ⟨s, by rw [if_pos (nI_le (Nat.le_refl _) (by decide))], M1, g1, g2⟩
    · have hj4 : j < 4 := by omega
      rw [if_neg (nI_ge hj4 (by decide)), isOpenE hT (fun t ht => tk_lt m k ht) hj4, ob]
      refine Or.inr ⟨hj4, ?_⟩
      by_cases o : opn m k j w = true
      · have o2 := (tk_opn hj4 w).mpr o
        have o3 : tk m k j = offs j := by
          unfold tk
          rw [if_pos (opn_fit o)]
        have hsc := sc_lt j w
        have hb : PM5 M1 U < 2 ^ 31 := by
          rw [g2 U]
          have := Nat.mul_le_mul_left (N w) (sm_le_part (fun t => if opn m k t w then U (sc t w) else 0) (show j ≤ 4 by omega))
          omega
        obtain ⟨sz', win', way', a1, a2⟩ := addE g1 hsc hz (pm_small hb (hU _ hsc) hsc)
        refine ⟨(sz', win', way'), ⟨_, a2, fun φ => ?_⟩, ?_⟩
        · rw [pm_upd _ _ _ hsc, g2 φ, fb_sm_succ, if_pos o, Nat.mul_add]
          omega
        · rw [if_pos o2, if_neg (by rw [nI_eq (by decide) (by decide)]; decide), windowAfterE hT (fun t ht => tk_lt m k ht) hj4 (by omega), ob, o3, show (offs j ||| w) / 2 % 512 = sc j w from rfl, waysToE hw, ob, hr, a1, ob, ob, jletE, nI_add]
      · refine ⟨s, ⟨M1, g1, fun φ => ?_⟩, ?_⟩
        · rw [g2 φ, fb_sm_succ, if_neg o, Nat.add_zero]
        · rw [if_neg (fun z => o ((tk_opn hj4 w).mp z)), if_pos rfl, ob, jletE, nI_add]) 4 4096 0 ((v_nsz μ), (v_nwin μ), (v_nway μ)) (by omega) (by omega) ⟨M, hM, fun φ => by show _ = _ + N w * 0; rw [Nat.mul_zero, Nat.add_zero]⟩
  unfold f_X2_goOnByTurns
  rw [show f_X2_goOnByTurns_L2 (nI w) μ 4096 0 (v_nsz μ) (v_nwin μ) (v_nway μ) = some (sz, win, way) from h1, ob]
  exact ⟨sz, win, way, M', rfl, h2, h3⟩
theorem goOnE {m k : Nat} {N : Nat → Nat} (μ : VS) (hm : m < 2 ^ 64) (hk : k < 64) (hF : FB m k N) (hr : LI N (v_hsz μ) (v_hwin μ) (v_hway μ)) (hn : LC (v_nsz μ) (v_nwin μ) (v_nway μ)) : ∃ tks sz win way N', f_X2_goOn μ (lN m) (nI k) = some (tks, v_u2 μ, v_u1 μ, sz, win, way, v_hsz μ, v_hwin μ, v_hway μ) ∧ LI N' sz win way ∧ ∀ φ, PM5 N' φ = fb_sm (fun w => N w * sg m k φ w) 512 := by
  obtain ⟨z, z1, z2⟩ := clearE hn
  obtain ⟨n, q, e1, e2, e3, e4, e5⟩ := hr
  obtain ⟨tks, t0, t2⟩ : ∃ tks, (if nI (if m.testBit k then 1 else 0) = nI 0 then some (v_takes μ) else Option.bind (f_X2_findTakes ((v_takes μ), (v_u1 μ), (v_u2 μ)) (lN m) (nI k)) fun r4 => some r4) = some tks ∧ (m.testBit k = true → ∀ t, t < 4 → tks t = nI (tk m k t)) := by
    cases hf : m.testBit k with
    | false => exact ⟨v_takes μ, if_pos (by simp), fun h => by cases h⟩
    | true =>
      obtain ⟨tks, t1, t2⟩ := findTakesE hm hk ((v_takes μ), (v_u1 μ), (v_u2 μ))
      exact ⟨tks, by simp only [if_true]; rw [if_neg (by rw [nI_eq (by decide) (by decide)]; decide), t1, ob], fun _ => t2⟩
  have hsum : ∀ φ : Nat → Nat, fb_sm (fun i => N (q i) * sg m k φ (q i)) n = fb_sm (fun w => N w * sg m k φ w) 512 := fun φ => by
    rw [e5 (fun w => N w * sg m k φ w)]
    apply fb_sm_cong
    intro w _
    by_cases y : N w = 0
    · rw [if_pos y, y, Nat.zero_mul]
    · rw [if_neg y]
  have htop : fb_sm (fun i => N (q i) * sg m k (UW (63 - k)) (q i)) n < 2 ^ 31 := by
    rw [hsum]
    refine Nat.lt_of_le_of_lt (Nat.le_trans (fb_sm_le (fun w hw => Nat.mul_le_mul_left _ (sg_UW hk hw))) hF.2) UW_top
  have hU : ∀ v, v < 512 → 1 ≤ UW (63 - k) v := (UW_le (63 - k) (by omega)).2
  obtain ⟨⟨sz, win, way⟩, h1, N', h2, h3⟩ := loopQ (L := fun n j (s : Int32 × (Nat → Int32) × (Nat → Int32)) => f_X2_goOn_L28 μ (nI (if m.testBit k then 1 else 0)) tks n j s.1 s.2.1 s.2.2) (N := n) (I := fun j s => ∃ N', LI N' s.1 s.2.1 s.2.2 ∧ ∀ φ, PM5 N' φ = fb_sm (fun i => N (q i) * sg m k φ (q i)) j) (Q := fun s => ∃ N', LI N' s.1 s.2.1 s.2.2 ∧ ∀ φ, PM5 N' φ = fb_sm (fun i => N (q i) * sg m k φ (q i)) n) (fun p j s hj hI => by
    simp only [f_X2_goOn_L28, f_X2_goOn_L28_b]
    simp only [LIT]
    by_cases e : j = n
    · subst e
      exact Or.inl ⟨s, by rw [e1, if_pos (nI_le (Nat.le_refl _) (by omega))], hI⟩
    · obtain ⟨M1, g1, g2⟩ := hI
      have hjn : j < n := by omega
      obtain ⟨q1, q2⟩ := e3 j hjn
      have hnz := li_nz e5 hjn q1
      have hb : PM5 M1 (UW (63 - k)) + N (q j) * sg m k (UW (63 - k)) (q j) < 2 ^ 31 := by
        rw [g2]
        exact Nat.lt_of_le_of_lt (fb_sm_part (fun i => N (q i) * sg m k (UW (63 - k)) (q i)) hjn) htop
      rw [e1, if_neg (nI_ge hjn (by omega))]
      refine Or.inr ⟨hjn, ?_⟩
      rw [windowAtE (by omega), ob, q2]
      have hs : nI (q j) >>> (nI 1 &&& 31) = nI (q j / 2) := shrE (by omega) (by decide)
      have ha : nI (q j) &&& nI 1 = nI (q j % 2) := fa_mask (q j) 1
      rw [hs, ha, waysToE q1, e4 _ q1]
      have mv : ∃ sz' win' way', f_X6_add (s.1, s.2.1, s.2.2) (nI (q j / 2)) (nI (N (q j))) = some (sz', win', way') ∧ LI (fun k => if k = q j / 2 then M1 (q j / 2) + N (q j) else M1 k) sz' win' way' := addE g1 (by omega) hnz (pm_small (show PM5 M1 (UW (63 - k)) < 2 ^ 31 by omega) (hU _ (by omega)) (by omega))
      obtain ⟨sz', win', way', a1, a2⟩ := mv
      cases hf : m.testBit k with
      | false =>
        have hsg : ∀ φ, sg m k φ (q j) = φ (q j / 2) := fun φ => by unfold sg; rw [hf]; rfl
        refine ⟨(sz', win', way'), ⟨_, a2, fun φ => ?_⟩, ?_⟩
        · rw [pm_upd _ _ _ (by omega), g2 φ, fb_sm_succ, hsg φ]
        · simp only [Bool.false_eq_true, if_false, if_true]
          rw [ob, a1, ob, ob, jletE, nI_add]
      | true =>
        simp only [if_true]
        rw [if_neg (by rw [nI_eq (by decide) (by decide)]; decide)]
        by_cases o : q j % 2 = 0
        · have hsg : ∀ φ, sg m k φ (q j) = fb_sm (fun t => if opn m k t (q j) then φ (sc t (q j)) else 0) 4 := fun φ => by unfold sg; rw [hf, o]; rfl
          obtain ⟨sz2, win2, way2, M3, r1, r2, r3⟩ := turnsPush (m := m) (k := k) (N := N) ((v_rest μ), tks, (v_u1 μ), (v_u2 μ), (v_hsz μ), (v_hwin μ), (v_hway μ), s.1, s.2.1, s.2.2) (t2 hf) q1 (e4 _ q1) hnz hU M1 g1 (by rw [← hsg]; exact hb)
          refine ⟨(sz2, win2, way2), ⟨M3, r2, fun φ => ?_⟩, ?_⟩
          · rw [r3 φ, g2 φ, fb_sm_succ (fun i => N (q i) * sg m k φ (q i)) j, hsg φ]
          · rw [e1] at r1
            rw [o, if_pos rfl]
            rw [r1, ob, ob, jletE, nI_add]
        · have hsg : ∀ φ, sg m k φ (q j) = φ (q j / 2) := fun φ => by
            unfold sg
            rw [hf, if_neg (by simp; omega)]
          refine ⟨(sz', win', way'), ⟨_, a2, fun φ => ?_⟩, ?_⟩
          · rw [pm_upd _ _ _ (by omega), g2 φ, fb_sm_succ, hsg φ]
          · rw [if_neg (by rw [nI_eq (by omega) (by decide)]; exact o), ob, a1, ob, ob, jletE, nI_add]) n 4096 0 (nI 0, v_nwin μ, z) (by omega) (by omega) ⟨fun _ => 0, z2, fun φ => by
        unfold PM5
        rw [fb_sm_cong (g := fun _ => 0) (fun k _ => Nat.zero_mul _), fb_sm_zeros]
        rfl⟩
  refine ⟨tks, sz, win, way, N', ?_, h2, fun φ => (h3 φ).trans (hsum φ)⟩
  unfold f_X2_goOn
  rw [holdsE hm hk, ob, show (0 : Int32) = nI 0 from rfl, t0, ob, z1, ob]
  rw [show f_X2_goOn_L28 μ (nI (if m.testBit k then 1 else 0)) tks 4096 (nI 0) (nI 0, z).1 (v_nwin μ) (nI 0, z).2 = some (sz, win, way) from h1, ob]
theorem beginE (μ : VS) (h : LC (v_hsz μ) (v_hwin μ) (v_hway μ)) : ∃ sz win way, f_X2_begin μ = some (sz, win, way) ∧ LI (fun i => if i = 0 then 1 else 0) sz win way := by
  obtain ⟨g, h1, h2⟩ := clearE h
  obtain ⟨sz, win, way, a1, a2⟩ := addE h2 (w := 0) (c := 1) (by decide) (by decide) (by decide)
  refine ⟨sz, win, way, ?_, a2⟩
  unfold f_X2_begin
  rw [h1, ob, show f_X6_add ((nI 0, g).1, (v_hwin μ), (nI 0, g).2) (0 : Int32) (1 : Int32) = some (sz, win, way) from a1, ob]
/-! ===== the ways to pave ===== -/
abbrev PB : Type := (Nat → Int32) × (Nat → Nat) × (Nat → Nat) × Int32 × (Nat → Int32) × (Nat → Int32) × Int32 × (Nat → Int32) × (Nat → Int32)
def LB (p : PB) : Prop := LC p.2.2.2.1 p.2.2.2.2.1 p.2.2.2.2.2.1 ∧ LC p.2.2.2.2.2.2.1 p.2.2.2.2.2.2.2.1 p.2.2.2.2.2.2.2.2
theorem CW_step {m k : Nat} {N N' : Nat → Nat} (hk : k < 64) (hN : ∀ φ, PM5 N' φ = fb_sm (fun w => N w * sg m k φ w) 512) : PM5 N' (CW m (64 - (k + 1))) = PM5 N (CW m (64 - k)) := by
  rw [hN]
  apply fb_sm_cong
  intro w _
  rw [CW_succ hk, show 64 - (k + 1) = 63 - k by omega]
  rfl
theorem skipTo {m : Nat} : ∀ p, p ≤ 64 → (∀ i, i < p → m.testBit i = false) → CW m (64 - p) 0 = CW m 64 0 ∧ UW (64 - p) 0 ≤ UW 64 0 := by
  intro p
  induction p with
  | zero => intros; exact ⟨rfl, Nat.le_refl _⟩
  | succ p ih =>
    intro hp h
    obtain ⟨i1, i2⟩ := ih (by omega) (fun i hi => h i (by omega))
    refine ⟨?_, ?_⟩
    · rw [← i1, CW_succ (show p < 64 by omega), h p (by omega), show 64 - (p + 1) = 63 - p by omega]
      rfl
    · have := (UW_step (d := 63 - p) (w := 0) (by omega) (by decide)).1
      rw [show 63 - p + 1 = 64 - p by omega] at this
      rw [show 64 - (p + 1) = 63 - p by omega]
      exact Nat.le_trans this i2
theorem pm_one (φ : Nat → Nat) : PM5 (fun i => if i = 0 then 1 else 0) φ = φ 0 := by
  have h : PM5 (fun i => if i = 0 then 1 else 0) φ = PM5 (fun _ => 0) φ + 1 * φ 0 := pm_upd (fun _ => 0) φ 1 (show 0 < 512 by decide)
  have h0 : PM5 (fun _ => 0) φ = 0 := by
    unfold PM5
    rw [fb_sm_cong (g := fun _ => 0) (fun k _ => Nat.zero_mul _), fb_sm_zeros]
  rw [h0, Nat.zero_add, Nat.one_mul] at h
  exact h
theorem pm_at0 {N φ : Nat → Nat} (h : ∀ w, w < 512 → N w ≠ 0 → w = 0) : PM5 N φ = N 0 * φ 0 := by
  have h1 : PM5 N φ = PM5 (fun i => if i = 0 then 0 + N 0 else 0) φ := fb_sm_cong (fun w hw => by
    by_cases e : w = 0
    · subst e
      show N 0 * φ 0 = (if (0 : Nat) = 0 then 0 + N 0 else 0) * φ 0
      rw [if_pos rfl, Nat.zero_add]
    · show N w * φ w = (if w = 0 then 0 + N 0 else 0) * φ w
      rw [if_neg e, show N w = 0 from Classical.byContradiction fun z => e (h w hw z)])
  rw [h1, pm_upd (fun _ => 0) φ (N 0) (by decide)]
  have h0 : PM5 (fun _ => 0) φ = 0 := by
    unfold PM5
    rw [fb_sm_cong (g := fun _ => 0) (fun k _ => Nat.zero_mul _), fb_sm_zeros]
  rw [h0, Nat.zero_add]
theorem waysToPaveE {m : Nat} (hm : m < 2 ^ 64) (μ : VS) (hh : LC (v_hsz μ) (v_hwin μ) (v_hway μ)) (hn : LC (v_nsz μ) (v_nwin μ) (v_nway μ)) : ∃ p : PB, f_X2_waysToPave μ (lN m) = some (nI (CW m 64 0), p) ∧ LB p := by
  have hp : pc m ≤ 64 := fb_ct_le _ _
  unfold f_X2_waysToPave
  rw [bitCountE hm, ob, show (3 : Int32) = nI 3 from rfl, pk_rem (by omega) (by decide) (by decide), show (0 : Int32) = nI 0 from rfl]
  by_cases c : pc m % 3 = 0
  · obtain ⟨sz, win, way, b1, b2⟩ := beginE μ hh
    obtain ⟨e, he, h1, h2⟩ := endOfE hm
    obtain ⟨p0, hp0, n1, n2⟩ := ntzE hm
    obtain ⟨s1, s2⟩ := skipTo p0 hp0 n2
    have fin : ∀ (p : PB) (N : Nat → Nat), LI N p.2.2.2.1 p.2.2.2.2.1 p.2.2.2.2.2.1 → N 0 = CW m 64 0 → f_X6_waysTo (p.2.2.2.1, p.2.2.2.2.1, p.2.2.2.2.2.1) (nI 0) = some (nI (CW m 64 0)) := fun p N hL h0 => by
      obtain ⟨_, _, _, _, _, h4, _⟩ := hL
      rw [waysToE (by decide), h4 0 (by decide), h0]
    have st : ∃ r : PB, f_X2_waysToPave_L26 (lN m) μ (nI e) 4096 (nI p0) (v_takes μ) (v_u1 μ) (v_u2 μ) sz win way (v_nsz μ) (v_nwin μ) (v_nway μ) = some r ∧ (∃ N, LI N r.2.2.2.1 r.2.2.2.2.1 r.2.2.2.2.2.1 ∧ N 0 = CW m 64 0) ∧ LC r.2.2.2.2.2.2.1 r.2.2.2.2.2.2.2.1 r.2.2.2.2.2.2.2.2 := by
      by_cases g : p0 < e
      · exact loopQ (L := fun n j (s : PB) => f_X2_waysToPave_L26 (lN m) μ (nI e) n j s.1 s.2.1 s.2.2.1 s.2.2.2.1 s.2.2.2.2.1 s.2.2.2.2.2.1 s.2.2.2.2.2.2.1 s.2.2.2.2.2.2.2.1 s.2.2.2.2.2.2.2.2) (N := e) (I := fun j s => (∃ N, LI N s.2.2.2.1 s.2.2.2.2.1 s.2.2.2.2.2.1 ∧ FB m j N ∧ PM5 N (CW m (64 - j)) = CW m 64 0) ∧ LC s.2.2.2.2.2.2.1 s.2.2.2.2.2.2.2.1 s.2.2.2.2.2.2.2.2) (Q := fun r : PB => (∃ N, LI N r.2.2.2.1 r.2.2.2.2.1 r.2.2.2.2.2.1 ∧ N 0 = CW m 64 0) ∧ LC r.2.2.2.2.2.2.1 r.2.2.2.2.2.2.2.1 r.2.2.2.2.2.2.2.2) (fun n j s hj hI => by
          obtain ⟨⟨N, i1, i2, i3⟩, i4⟩ := hI
          simp only [f_X2_waysToPave_L26, f_X2_waysToPave_L26_b]
          simp only [LIT]
          by_cases q : j = e
          · subst q
            refine Or.inl ⟨s, by rw [if_pos (nI_le (Nat.le_refl _) (by omega))], ⟨N, i1, ?_⟩, i4⟩
            rw [pm_at0 (fun w hw hz => subw_end h2 (i2.1 w hw hz)), CW_end 0 (by omega) (by rwa [show 64 - (64 - j) = j by omega]), Nat.mul_one] at i3
            exact i3
          · have hje : j < e := by omega
            rw [if_neg (nI_ge hje (by omega))]
            obtain ⟨tks, sz', win', way', N', r1, r2, r3⟩ := goOnE (v_rest μ, s.1, s.2.1, s.2.2.1, s.2.2.2.1, s.2.2.2.2.1, s.2.2.2.2.2.1, s.2.2.2.2.2.2.1, s.2.2.2.2.2.2.2.1, s.2.2.2.2.2.2.2.2) hm (show j < 64 by omega) i2 i1 i4
            refine Or.inr ⟨hje, (tks, s.2.2.1, s.2.1, sz', win', way', s.2.2.2.1, s.2.2.2.2.1, s.2.2.2.2.2.1), ⟨⟨N', r2, fbStep (by omega) i2 r3, ?_⟩, ⟨N, i1⟩⟩, ?_⟩
            · rw [CW_step (by omega) r3, i3]
            · rw [r1, ob, jletE, nI_add]) (e - p0) 4096 p0 (v_takes μ, v_u1 μ, v_u2 μ, sz, win, way, v_nsz μ, v_nwin μ, v_nway μ) (by omega) (by omega) ⟨⟨_, b2, ⟨fun w hw hz => by
              by_cases y : w = 0
              · subst y
                exact fun i hi => by rw [Nat.zero_testBit] at hi; cases hi
              · exact absurd (if_neg y) hz, by rw [pm_one]; exact s2⟩, by rw [pm_one]; exact s1⟩, hn⟩
      · refine ⟨(v_takes μ, v_u1 μ, v_u2 μ, sz, win, way, v_nsz μ, v_nwin μ, v_nway μ), ?_, ⟨_, b2, ?_⟩, hn⟩
        · have gen : ∀ n, f_X2_waysToPave_L26 (lN m) μ (nI e) (n + 1) (nI p0) (v_takes μ) (v_u1 μ) (v_u2 μ) sz win way (v_nsz μ) (v_nwin μ) (v_nway μ) = some (v_takes μ, v_u1 μ, v_u2 μ, sz, win, way, v_nsz μ, v_nwin μ, v_nway μ) := fun n => by
            simp only [f_X2_waysToPave_L26, f_X2_waysToPave_L26_b]
            rw [if_pos (nI_le (by omega) (by omega))]
          exact gen 4095
        · rw [if_pos rfl, ← s1, CW_end 0 (by omega) (by
            rw [show 64 - (64 - p0) = p0 by omega]
            exact Nat.lt_of_lt_of_le h2 (Nat.pow_le_pow_right (by decide) (by omega)))]
    obtain ⟨r, r1, ⟨N, r2, r3⟩, r4⟩ := st
    refine ⟨r, ?_, ⟨N, r2⟩, r4⟩
    rw [if_pos (by rw [c]), b1, ob, h1, ob, n1, ob]
    rw [show f_X2_waysToPave_L26 (lN m) μ (nI e) 4096 (nI p0) (v_takes μ) (v_u1 μ) (v_u2 μ) (sz, win, way).1 (sz, win, way).2.1 (sz, win, way).2.2 (v_nsz μ) (v_nwin μ) (v_nway μ) = some r from r1, ob, fin r N r2 r3, ob]
  · rw [if_neg (by rw [nI_eq (by omega) (by decide)]; exact c), CW_three c]
    exact ⟨_, rfl, hh, hn⟩
/-! ===== the best gap ===== -/
theorem waysAroundE {m k e : Nat} {N : Nat → Nat} (μ : VS) (hm : m.testBit k = true) (hk : k < e) (he : e ≤ 64) (hF : FP m k N) (hr : LI N (v_hsz μ) (v_hwin μ) (v_hway μ)) (hR : RO m e 0 (v_rest μ)) : f_X2_waysAround μ (nI k) = some (nI (CW (m ^^^ 2 ^ k) 64 0)) := by
  obtain ⟨n, q, e1, e2, e3, e4, e5⟩ := hr
  have hv : fb_sm (fun i => if q i % 2 = 0 then N (q i) * CW m (63 - k) (q i / 2) else 0) n = CW (m ^^^ 2 ^ k) 64 0 := by
    rw [← hF.2.2 k (Nat.le_refl k) (by omega) hm, e5 (fun w => if w % 2 = 0 then N w * CW m (63 - k) (w / 2) else 0)]
    apply fb_sm_cong
    intro w hw
    try dsimp only
    rw [psi_at (by omega) hm hw]
    by_cases z : N w = 0
    · rw [if_pos z, z, Nat.zero_mul]
    · rw [if_neg z]
      split
      · rfl
      · rw [Nat.mul_zero]
  rw [← hv]
  unfold f_X2_waysAround
  rw [show f_X2_waysAround_L4 (nI k) μ 4096 0 0 = some (nI (fb_sm (fun i => if q i % 2 = 0 then N (q i) * CW m (63 - k) (q i / 2) else 0) n)) from loopE (L := fun p j s => f_X2_waysAround_L4 (nI k) μ p s j) (N := n) (fun j => nI (fb_sm (fun i => if q i % 2 = 0 then N (q i) * CW m (63 - k) (q i / 2) else 0) j)) (fun p => by
    simp only [f_X2_waysAround_L4, f_X2_waysAround_L4_b]
    rw [e1, if_pos (nI_le (Nat.le_refl _) (by omega))]) (fun p j hj => by
    obtain ⟨q1, q2⟩ := e3 j hj
    simp only [f_X2_waysAround_L4, f_X2_waysAround_L4_b]
    simp only [LIT]
    have ha : nI (q j) &&& nI 1 = nI (q j % 2) := fa_mask (q j) 1
    rw [e1, if_neg (nI_ge hj (by omega)), windowAtE (by omega), ob, q2, ha, fb_sm_succ]
    by_cases o : q j % 2 = 0
    · have hs := subw_half (hF.1 (q j) q1 (li_nz e5 hj q1))
      rw [o, if_pos rfl, waysToE q1, ob, nI_add, shrE (by omega) (by decide), restFromE μ he hR (by omega) (by omega) hs, ob, e4 _ q1, jletE, ob, jletE, nI_add, pk_mul, nI_add, show 64 - (k + 1) = 63 - k by omega, if_pos rfl]
    · rw [if_neg (by rw [nI_eq (by omega) (by decide)]; exact o), if_neg o, ob, jletE, nI_add]
      simp only [Nat.add_zero]) (k := 0) (n := 4096) (by omega) (by omega)]
  rfl
/-- the best so far -/
def BP (m : Nat) : Nat → Int32 × Int32
  | 0 => (-nI 1, nI 0)
  | k + 1 => if m.testBit k then (if nI (CW (m ^^^ 2 ^ k) 64 0) ≤ (BP m k).2 then BP m k else (nI k, nI (CW (m ^^^ 2 ^ k) 64 0))) else BP m k
theorem BP_f (m : Nat) : ∀ k, (∃ u, u < 2 ^ 31 ∧ (BP m k).2 = nI u) ∧ ((BP m k).1 = -nI 1 ∨ ∃ c, c < k ∧ (BP m k).1 = nI c) := by
  intro k
  induction k with
  | zero => exact ⟨⟨0, by decide, rfl⟩, Or.inl rfl⟩
  | succ k ih =>
    obtain ⟨i1, i2⟩ := ih
    have i2' : (BP m k).1 = -nI 1 ∨ ∃ c, c < k + 1 ∧ (BP m k).1 = nI c := i2.imp id (fun ⟨c, h, e⟩ => ⟨c, by omega, e⟩)
    rw [BP]
    split
    · split
      · exact ⟨i1, i2'⟩
      · exact ⟨⟨_, CW_small _, rfl⟩, Or.inr ⟨k, by omega, rfl⟩⟩
    · exact ⟨i1, i2'⟩
theorem bestGapE {m : Nat} (hm : m < 2 ^ 64) (μ : VS) (hh : LC (v_hsz μ) (v_hwin μ) (v_hway μ)) (hn : LC (v_nsz μ) (v_nwin μ) (v_nway μ)) : ∃ R, ∃ p : PB, f_X2_bestGap μ (lN m) = some ((BP m 64).1, R, p) ∧ LB p := by
  obtain ⟨e, R, T, he, h1, h2, h3, h4⟩ := countRestE hm μ
  obtain ⟨sz, win, way, b1, b2⟩ := beginE (v_takes' (v_rest' μ R) T) hh
  have hend : BP m 64 = BP m e := by
    have key : ∀ d, e + d ≤ 64 → BP m (e + d) = BP m e := by
      intro d
      induction d with
      | zero => intro _; rfl
      | succ d ih =>
        intro hd
        rw [show e + (d + 1) = (e + d) + 1 by omega, BP, Nat.testBit_lt_two_pow (Nat.lt_of_lt_of_le h1 (Nat.pow_le_pow_right (by decide) (by omega)))]
        exact ih (by omega)
    have := key (64 - e) (by omega)
    rwa [show e + (64 - e) = 64 by omega] at this
  obtain ⟨⟨b, p⟩, g1, g2, g3⟩ := loopQ (L := fun n j (s : (Int32 × Int32) × PB) => f_X2_bestGap_L23 (lN m) (R, T) (nI e) n s.1.1 s.1.2 j s.2.1 s.2.2.1 s.2.2.2.1 s.2.2.2.2.1 s.2.2.2.2.2.1 s.2.2.2.2.2.2.1 s.2.2.2.2.2.2.2.1 s.2.2.2.2.2.2.2.2.1 s.2.2.2.2.2.2.2.2.2) (N := e) (I := fun j s => s.1 = BP m j ∧ (∃ N, LI N s.2.2.2.2.1 s.2.2.2.2.2.1 s.2.2.2.2.2.2.1 ∧ FP m j N) ∧ LC s.2.2.2.2.2.2.2.1 s.2.2.2.2.2.2.2.2.1 s.2.2.2.2.2.2.2.2.2) (Q := fun r : Int32 × PB => r.1 = (BP m e).1 ∧ LB r.2) (fun n j s hj hI => by
    obtain ⟨i1, ⟨N, i2, i3⟩, i4⟩ := hI
    simp only [f_X2_bestGap_L23, f_X2_bestGap_L23_b]
    simp only [LIT]
    by_cases q : j = e
    · subst q
      exact Or.inl ⟨_, by rw [if_pos (nI_le (Nat.le_refl _) (by omega))], by rw [i1], ⟨N, i2⟩, i4⟩
    · have hje : j < e := by omega
      rw [if_neg (nI_ge hje (by omega)), holdsE hm (by omega), ob]
      obtain ⟨tks, sz', win', way', N', r1, r2, r3⟩ := goOnE (R, s.2.1, s.2.2.1, s.2.2.2.1, s.2.2.2.2.1, s.2.2.2.2.2.1, s.2.2.2.2.2.2.1, s.2.2.2.2.2.2.2.1, s.2.2.2.2.2.2.2.2.1, s.2.2.2.2.2.2.2.2.2) hm (show j < 64 by omega) i3.fb i2 i4
      refine Or.inr ⟨hje, (BP m (j + 1), tks, s.2.2.2.1, s.2.2.1, sz', win', way', s.2.2.2.2.1, s.2.2.2.2.2.1, s.2.2.2.2.2.2.1), ⟨rfl, ⟨N', r2, gapStep (by omega) i3 r3⟩, ⟨N, i2⟩⟩, ?_⟩
      obtain ⟨⟨u, u1, u2⟩, -⟩ := BP_f m j
      cases hf : m.testBit j with
      | false =>
        simp only [Bool.false_eq_true, if_false, if_true]
        rw [ob, i1, u2, if_pos (nI_le (Nat.zero_le _) u1), ob, r1, ob, jletE, nI_add, BP, hf]
        simp only [Bool.false_eq_true, if_false]
        rw [u2]
      | true =>
        simp only [if_true]
        rw [if_neg (by rw [nI_eq (by decide) (by decide)]; decide), waysAroundE (R, s.2.1, s.2.2.1, s.2.2.2.1, s.2.2.2.2.1, s.2.2.2.2.2.1, s.2.2.2.2.2.2.1, s.2.2.2.2.2.2.2.1, s.2.2.2.2.2.2.2.2.1, s.2.2.2.2.2.2.2.2.2) hf hje he i3 i2 h4, ob, ob, i1, BP, hf]
        simp only [if_true]
        by_cases c : nI (CW (m ^^^ 2 ^ j) 64 0) ≤ (BP m j).2
        · rw [if_pos c, if_pos c, ob, r1, ob, jletE, nI_add]
        · rw [if_neg c, if_neg c, ob, r1, ob, jletE, nI_add]) e 4096 0 (BP m 0, T, v_u1 μ, v_u2 μ, sz, win, way, v_nsz μ, v_nwin μ, v_nway μ) (by omega) (by omega) ⟨rfl, ⟨_, b2, gap_first m⟩, hn⟩
  refine ⟨R, p, ?_, g3⟩
  unfold f_X2_bestGap
  rw [h3, ob, show f_X2_begin (v_takes' (v_rest' μ (R, T).1) (R, T).2) = some (sz, win, way) from b1, ob, h2, ob, show f_X2_bestGap_L23 (lN m) (R, T) (nI e) 4096 (-1) 0 0 (R, T).2 (v_u1 μ) (v_u2 μ) (sz, win, way).1 (sz, win, way).2.1 (sz, win, way).2.2 (v_nsz μ) (v_nwin μ) (v_nway μ) = some (b, p) from g1, ob, hend, ← g2]
/-! ===== the class's state: its two lists ===== -/
def LST (x : XS) : Prop := LC (x_hsz x) (x_hwin x) (x_hway x) ∧ LC (x_nsz x) (x_nwin x) (x_nway x)
abbrev vX (x : XS) : VS := (x_rest x, x_takes x, x_u1 x, x_u2 x, x_hsz x, x_hwin x, x_hway x, x_nsz x, x_nwin x, x_nway x)
/-- the state, with other values in the paver -/
abbrev xP (x : XS) (R : Nat → Nat → Int32) (p : PB) : XS := (x_length x, x_codes x, R, p.1, p.2.1, p.2.2.1, p.2.2.2.1, p.2.2.2.2.1, p.2.2.2.2.2.1, p.2.2.2.2.2.2.1, p.2.2.2.2.2.2.2.1, p.2.2.2.2.2.2.2.2, x_wide x, x_high x, x_pond x, x_walls x, x_paved x, x_tc x, x_flips x, x_refused x, x_names x, x_sl x, x_lmod x, x_lsize x)
theorem LST_0 (u1 u2 : Nat → Nat) : LST (x0S u1 u2) := by
  have h : LC 0 (fun _ => 0) (fun _ => 0) := ⟨fun _ => 0, 0, fun _ => 0, rfl, by omega, fun i hi => absurd hi (by omega), fun _ _ => rfl, fun φ => by
    rw [fb_sm_cong (g := fun _ => 0) (fun k _ => if_pos rfl), fb_sm_zeros]
    rfl⟩
  exact ⟨h, h⟩
theorem LST_sv {x : XS} (h : LST x) : LST (svX x) := by
  unfold svX
  split
  · exact h
  · exact h
