/-! ===== the best pond ===== -/
def PM5 (N φ : Nat → Nat) : Nat := fb_sm (fun i => N i * φ i) 512
theorem pm_upd (N φ : Nat → Nat) (c : Nat) {i : Nat} (hi : i < 512) : PM5 (fun k => if k = i then N i + c else N k) φ = PM5 N φ + c * φ i := by
  show fb_sm (fun k => (if k = i then N i + c else N k) * φ k) 512 = fb_sm (fun k => N k * φ k) 512 + c * φ i
  have h := fb_sm_upd (fun k => N k * φ k) ((N i + c) * φ i) hi
  have e : fb_sm (fun k => if k = i then (N i + c) * φ i else N k * φ k) 512 = fb_sm (fun k => (if k = i then N i + c else N k) * φ k) 512 := fb_sm_cong (fun k _ => by
    by_cases g : k = i
    · subst g; rw [if_pos rfl, if_pos rfl]
    · rw [if_neg g, if_neg g])
  rw [e, Nat.add_mul] at h
  omega
def sg (m k : Nat) (φ : Nat → Nat) (w : Nat) : Nat := if m.testBit k && w % 2 == 0 then fb_sm (fun t => if opn m k t w then φ (sc t w) else 0) 4 else φ (w / 2)
def psi (m p k w : Nat) : Nat := if w.testBit (p - k) then 0 else CW (m ^^^ 2 ^ p) (64 - k) w
def FP (m k : Nat) (N : Nat → Nat) : Prop := (∀ w, w < 512 → N w ≠ 0 → subw m k w) ∧ PM5 N (UW (64 - k)) ≤ UW 64 0 ∧ ∀ p, k ≤ p → p < 64 → m.testBit p = true → PM5 N (psi m p k) = CW (m ^^^ 2 ^ p) 64 0
theorem xor_bit {m p : Nat} (hp : m.testBit p = true) (j : Nat) : (m ^^^ 2 ^ p).testBit j = (m.testBit j && !decide (j = p)) := by
  rw [Nat.testBit_xor, pw_bit]
  by_cases c : j = p
  · subst c; rw [hp]; simp
  · simp [c]
theorem psi_step {m p k w : Nat} (hkp : k < p) (hp : p < 64) (hm : m.testBit p = true) (hw : w < 512) : psi m p k w = sg m k (psi m p (k + 1)) w := by
  have hk : k < 64 := by omega
  have hmk : (m ^^^ 2 ^ p).testBit k = m.testBit k := by rw [xor_bit hm, decide_eq_false (by omega)]; simp
  have hkd : p - k = (p - (k + 1)) + 1 := by omega
  unfold sg psi
  rw [CW_succ hk, hmk]
  by_cases c : (m.testBit k && w % 2 == 0) = true
  · rw [if_pos c, if_pos c]
    by_cases z : w.testBit (p - k) = true
    · rw [if_pos z]
      refine Eq.symm (Eq.trans (fb_sm_cong (g := fun _ => 0) (fun t ht => ?_)) (fb_sm_zeros 4))
      split
      · rw [if_pos]
        rw [sc_bit ht hw, ← hkd, z, Bool.or_true]
      · rfl
    · rw [if_neg z]
      have zf : w.testBit (p - k) = false := by simpa using z
      apply fb_sm_cong
      intro t ht
      rw [show 64 - (k + 1) = 63 - k by omega, sc_bit ht hw, ← hkd, zf, Bool.or_false]
      by_cases o : opn m k t w = true
      · have ok := opn_okt o
        rw [if_pos o]
        have hb := (opn_bits hk ht ok).mp o
        cases g : (offs t).testBit (p - k) with
        | true =>
          rw [if_pos rfl, if_neg]
          intro o2
          have := ((opn_bits hk ht ok).mp o2 (p - k) g).1
          rw [show k + (p - k) = p by omega, xor_bit hm] at this
          simp at this
        | false =>
          rw [if_neg (show ¬ false = true by decide), if_pos]
          rw [opn_bits hk ht ok]
          intro i hi
          obtain ⟨b1, b2, b3⟩ := hb i hi
          refine ⟨?_, b2, b3⟩
          rw [xor_bit hm, b1, decide_eq_false (fun e => by
            rw [show p - k = i by omega, hi] at g
            cases g)]
          rfl
      · rw [if_neg o, if_neg]
        intro o2
        apply o
        have ok := opn_okt o2
        rw [opn_bits hk ht ok] at o2 ⊢
        intro i hi
        obtain ⟨b1, b2, b3⟩ := o2 i hi
        rw [xor_bit hm, Bool.and_eq_true] at b1
        exact ⟨b1.1, b2, b3⟩
  · rw [if_neg c, if_neg c, show 64 - (k + 1) = 63 - k by omega]
    have e : (w / 2).testBit (p - (k + 1)) = w.testBit (p - k) := by rw [← Nat.testBit_succ]; congr 1; omega
    rw [e]
theorem psi_at {m p w : Nat} (hp : p < 64) (hm : m.testBit p = true) (hw : w < 512) : psi m p p w = if w % 2 = 0 then CW m (63 - p) (w / 2) else 0 := by
  unfold psi
  rw [Nat.sub_self, Nat.testBit_zero]
  by_cases c : w % 2 = 0
  · rw [if_neg (by simp; omega), if_pos c, CW_succ hp, xor_bit hm]
    simp only [decide_true, Bool.not_true, Bool.and_false, Bool.false_and, Bool.false_eq_true, if_false]
    apply CW_cong (63 - p) (by omega) _ _ (by omega) (by omega)
    intro i hi
    rw [xor_bit hm, decide_eq_false (by omega)]
    simp
  · rw [if_pos (by simp; omega), if_neg c]
theorem gapStep {m k : Nat} {N N' : Nat → Nat} (hk : k < 64) (h : FP m k N) (hN : ∀ φ, PM5 N' φ = fb_sm (fun w => N w * sg m k φ w) 512) : FP m (k + 1) N' := by
  obtain ⟨h1, h2, h3⟩ := h
  refine ⟨fun w hw hn => ?_, ?_, fun p hp1 hp2 hm => ?_⟩
  · apply Classical.byContradiction
    intro hno
    have e1 := hN (fun j => if j = w then 1 else 0)
    have e2 : fb_sm (fun i => N i * sg m k (fun j => if j = w then 1 else 0) i) 512 = fb_sm (fun _ => 0) 512 := fb_sm_cong (fun i hi => by
      by_cases z : N i = 0
      · rw [z, Nat.zero_mul]
      · have hs := h1 i hi z
        have : sg m k (fun j => if j = w then 1 else 0) i = 0 := by
          unfold sg
          by_cases c : (m.testBit k && i % 2 == 0) = true
          · rw [if_pos c]
            refine Eq.trans (fb_sm_cong (g := fun _ => 0) (fun t ht => ?_)) (fb_sm_zeros 4)
            split
            · rename_i o
              exact if_neg (fun e => hno (by rw [← e]; exact subw_sc hk ht hs (opn_fit o)))
            · rfl
          · rw [if_neg c]
            exact if_neg (fun e => hno (by rw [← e]; exact subw_half hs))
        rw [this, Nat.mul_zero])
    rw [e2, fb_sm_zeros] at e1
    have e3 : N' w * (if w = w then 1 else 0) = 0 := fb_sm_zero e1 w hw
    rw [if_pos rfl, Nat.mul_one] at e3
    exact hn e3
  · rw [hN]
    refine Nat.le_trans (fb_sm_le (fun w hw => Nat.mul_le_mul_left _ ?_)) h2
    have st := UW_step (d := 63 - k) (w := w) (by omega) hw
    rw [show 63 - k + 1 = 64 - k by omega, show 63 - (63 - k) = k by omega] at st
    unfold sg
    rw [show 64 - (k + 1) = 63 - k by omega]
    by_cases c : (m.testBit k && w % 2 == 0) = true
    · rw [if_pos c]
      have c2 : w % 2 = 0 := beq_iff_eq.mp ((Bool.and_eq_true _ _).mp c).2
      refine Nat.le_trans (fb_sm_le (fun t ht => ?_)) (st.2 c2)
      unfold opn fit
      cases okt k t
      · exact Nat.zero_le _
      · rw [Bool.true_and, Bool.true_and]
        by_cases e : ((offs t &&& w) == 0) = true
        · rw [e, Bool.and_true, if_pos rfl]
          split
          · exact Nat.le_refl _
          · exact Nat.zero_le _
        · rw [show ((offs t &&& w) == 0) = false by simpa using e, Bool.and_false]
          exact Nat.zero_le _
    · rw [if_neg c]
      exact st.1
  · rw [hN, ← h3 p (by omega) hp2 hm]
    unfold PM5
    apply fb_sm_cong
    intro w hw
    rw [psi_step (by omega) hp2 hm hw]
theorem gap_bound {m k : Nat} {N : Nat → Nat} (h : FP m k N) : ∀ w, w < 512 → N w < 2 ^ 31 := fun w hw => by
  have h3 := (UW_le (64 - k) (by omega)).2 _ hw
  have h4 : fb_sm (fun i => N i * UW (64 - k) i) w + N w * UW (64 - k) w ≤ fb_sm (fun i => N i * UW (64 - k) i) 512 := fb_sm_part (fun i => N i * UW (64 - k) i) hw
  have h5 : fb_sm (fun i => N i * UW (64 - k) i) 512 ≤ UW 64 0 := h.2.1
  have h6 := UW_top
  have h7 : N w * 1 ≤ N w * UW (64 - k) w := Nat.mul_le_mul_left _ h3
  omega
theorem gap_first (m : Nat) : FP m 0 (fun i => if i = 0 then 1 else 0) := by
  have hP : ∀ φ : Nat → Nat, PM5 (fun i => if i = 0 then 1 else 0) φ = φ 0 := fun φ => by
    have h : PM5 (fun i => if i = 0 then 1 else 0) φ = PM5 (fun _ => 0) φ + 1 * φ 0 := pm_upd (fun _ => 0) φ 1 (show 0 < 512 by decide)
    have h0 : PM5 (fun _ => 0) φ = 0 := by
      unfold PM5
      rw [fb_sm_cong (g := fun _ => 0) (fun k _ => Nat.zero_mul _), fb_sm_zeros]
    rw [h0, Nat.zero_add, Nat.one_mul] at h
    exact h
  refine ⟨fun w hw hn => ?_, ?_, fun p _ _ _ => ?_⟩
  · by_cases z : w = 0
    · subst z
      exact fun i hi => by rw [Nat.zero_testBit] at hi; cases hi
    · exact absurd (if_neg z) hn
  · rw [hP]; exact Nat.le_refl _
  · rw [hP]
    unfold psi
    rw [Nat.zero_testBit]
    rfl
/-! the class's walk of it -/
theorem loopE2 {S R : Type} {L : Nat → Int32 → S → Option R} {N : Nat} (g : Nat → S) {r : R}
    (h1 : ∀ n, L (n + 1) (nI (2 * N)) (g N) = some r) (h2 : ∀ n k, k < N → L (n + 1) (nI (2 * k)) (g k) = L n (nI (2 * (k + 1))) (g (k + 1))) : ∀ d k n, k + d = N → d < n → L n (nI (2 * k)) (g k) = some r := by
  intro d
  induction d with
  | zero =>
    intro k n hk hn
    obtain ⟨n, rfl⟩ : ∃ n', n = n' + 1 := ⟨n - 1, by omega⟩
    have : k = N := by omega
    subst this
    exact h1 n
  | succ d ih =>
    intro k n hk hn
    obtain ⟨n, rfl⟩ : ∃ n', n = n' + 1 := ⟨n - 1, by omega⟩
    rw [h2 n k (by omega)]
    exact ih (k + 1) n (by omega) (by omega)
theorem fb_sm_pair (f : Nat → Nat) : ∀ n, fb_sm f (2 * n) = fb_sm (fun i => f (2 * i) + f (2 * i + 1)) n := by
  intro n
  induction n with
  | zero => rfl
  | succ n ih =>
    rw [show 2 * (n + 1) = 2 * n + 1 + 1 by omega, fb_sm_succ, fb_sm_succ, ih, fb_sm_succ]
    omega
theorem waysAroundE {m k e : Nat} {N : Nat → Nat} (μ : VS) (hm : m.testBit k = true) (hk : k < e) (he : e ≤ 64) (hF : FP m k N) (hr : ∀ w, w < 512 → v_reached μ w = nI (N w)) (hR : RO m e 0 (v_rest μ)) : f_X2_waysAround μ (nI k) = some (nI (CW (m ^^^ 2 ^ k) 64 0)) := by
  have hv : fb_sm (fun i => N (2 * i) * CW m (63 - k) i) 256 = CW (m ^^^ 2 ^ k) 64 0 := by
    rw [← hF.2.2 k (Nat.le_refl k) (by omega) hm]
    unfold PM5
    rw [show (512 : Nat) = 2 * 256 from rfl, fb_sm_pair]
    apply fb_sm_cong
    intro i hi
    rw [psi_at (by omega) hm (by omega), psi_at (by omega) hm (by omega), if_pos (by omega), if_neg (by omega), Nat.mul_zero, Nat.add_zero, show 2 * i / 2 = i by omega]
  rw [← hv]
  unfold f_X2_waysAround
  rw [show f_X2_waysAround_L4 (nI k) μ 4096 0 0 = some (nI (fb_sm (fun i => N (2 * i) * CW m (63 - k) i) 256)) from loopE2 (L := fun n j s => f_X2_waysAround_L4 (nI k) μ n s j) (N := 256) (fun j => nI (fb_sm (fun i => N (2 * i) * CW m (63 - k) i) j)) (fun n => by
    simp only [f_X2_waysAround_L4, f_X2_waysAround_L4_b]
    simp only [LIT]
    rw [if_pos (nI_le (by decide) (by decide))]) (fun n j hj => by
    simp only [f_X2_waysAround_L4, f_X2_waysAround_L4_b]
    simp only [LIT]
    rw [if_neg (nI_ge (by omega) (by omega)), jldE (by omega) (by decide), ob, nI_add, jixE (by omega) (by decide), ob, shrE (by omega) (by decide), jldE (by omega) (by decide), ob, hr _ (by omega), jletE, jletE, nI_add, show 2 * j / 2 ^ 1 = j by omega]
    have hmul : nI (N (2 * j)) * v_rest μ (k + 1) j = nI (N (2 * j) * CW m (63 - k) j) := by
      by_cases z : N (2 * j) = 0
      · rw [z, Nat.zero_mul, nI_0, Int32.zero_mul]
      · have hs := subw_half (hF.1 (2 * j) (by omega) z)
        rw [show 2 * j / 2 = j by omega] at hs
        rw [hR (k + 1) (by omega) (by omega) j (by omega) hs, pk_mul, show 64 - (k + 1) = 63 - k by omega]
    rw [hmul, nI_add, fb_sm_succ]
    rfl) 256 0 4096 (by omega) (by omega)]
  rfl
theorem turnsPush {m k w : Nat} {N : Nat → Nat} (μ : PRS) (hT : ∀ t, t < 4 → pr_takes μ t = nI (tk m k t)) (hw : w < 512) (hr : pr_reached μ w = nI (N w)) (hsm : N w < 2 ^ 31) (M : Nat → Nat) (hM : ∀ q, q < 512 → pr_rnext μ q = nI (M q)) : ∃ nx M', f_X2_reachByTurns μ (nI w) = some nx ∧ (∀ q, q < 512 → nx q = nI (M' q)) ∧ ∀ φ, PM5 M' φ = PM5 M φ + N w * fb_sm (fun t => if opn m k t w then φ (sc t w) else 0) 4 := by
  obtain ⟨v, h1, M', h2, h3⟩ := loopQ (L := fun n j s => f_X2_reachByTurns_L2 (nI w) μ n j s) (N := 4) (I := fun j s => ∃ M', (∀ q, q < 512 → s q = nI (M' q)) ∧ ∀ φ, PM5 M' φ = PM5 M φ + N w * fb_sm (fun t => if opn m k t w then φ (sc t w) else 0) j) (Q := fun s => ∃ M', (∀ q, q < 512 → s q = nI (M' q)) ∧ ∀ φ, PM5 M' φ = PM5 M φ + N w * fb_sm (fun t => if opn m k t w then φ (sc t w) else 0) 4) (fun n j s hj hI => by
    obtain ⟨M1, g1, g2⟩ := hI
    simp only [f_X2_reachByTurns_L2, f_X2_reachByTurns_L2_b]
    simp only [LIT]
    rw [jldE hw (by decide), ob, hr]
    by_cases z : N w = 0
    · refine Or.inl ⟨s, by rw [z, if_pos rfl], M1, g1, fun φ => ?_⟩
      rw [g2 φ, z, Nat.zero_mul, Nat.zero_mul]
    · rw [if_neg (by rw [nI_eq hsm (by decide)]; exact z)]
      by_cases e : j = 4
      · subst e
        exact Or.inl ⟨s, by rw [if_pos (nI_le (Nat.le_refl _) (by decide))], M1, g1, g2⟩
      · have hj4 : j < 4 := by omega
        rw [if_neg (nI_ge hj4 (by decide)), isOpenE hT (fun t ht => tk_lt m k ht) hj4, ob]
        refine Or.inr ⟨hj4, ?_⟩
        by_cases o : opn m k j w = true
        · have o2 := (tk_opn hj4 w).mpr o
          have o3 : tk m k j = offs j := by
            unfold tk
            rw [if_pos (opn_fit o)]
          have hsc := sc_lt j w
          refine ⟨va_up s (sc j w) (s (sc j w) + nI (N w)), ⟨fun i => if i = sc j w then M1 (sc j w) + N w else M1 i, fun q hq => ?_, fun φ => ?_⟩, ?_⟩
          · by_cases y : q = sc j w
            · subst y
              rw [up_s]
              show _ = nI (if _ = _ then _ else _)
              rw [if_pos rfl, g1 _ hsc, nI_add]
            · rw [up_n y]
              show s q = nI (if q = _ then _ else _)
              rw [if_neg y]
              exact g1 q hq
          · rw [pm_upd _ _ _ hsc, g2 φ, fb_sm_succ, if_pos o, Nat.mul_add]
            omega
          · rw [if_pos o2, if_neg (by rw [nI_eq (by decide) (by decide)]; decide), windowAfterE hT (fun t ht => tk_lt m k ht) hj4 (by omega), ob, o3, show (offs j ||| w) / 2 % 512 = sc j w from rfl, jldE hsc (by decide), ob, ob, jstE hsc (by decide), ob, ob, jletE, nI_add]
        · refine ⟨s, ⟨M1, g1, fun φ => ?_⟩, ?_⟩
          · rw [g2 φ, fb_sm_succ, if_neg o, Nat.add_zero]
          · rw [if_neg (fun z => o ((tk_opn hj4 w).mp z)), if_pos rfl, ob, jletE, nI_add]) 4 4096 0 (pr_rnext μ) (by omega) (by omega) ⟨M, hM, fun φ => by show _ = _ + N w * 0; rw [Nat.mul_zero, Nat.add_zero]⟩
  unfold f_X2_reachByTurns
  rw [show f_X2_reachByTurns_L2 (nI w) μ 4096 0 (pr_rnext μ) = some v from h1, ob]
  exact ⟨v, M', rfl, h2, h3⟩
theorem reachNextE {m k : Nat} {N : Nat → Nat} (μ : VS) (hm : m < 2 ^ 64) (hk : k < 64) (hF : FP m k N) (hr : ∀ w, w < 512 → v_reached μ w = nI (N w)) : ∃ tks nx N', f_X2_reachNext μ (lN m) (nI k) = some (tks, nx, v_reached μ) ∧ (∀ q, q < 512 → nx q = nI (N' q)) ∧ FP m (k + 1) N' := by
  obtain ⟨tks, t1, t2⟩ := findTakesE hm hk (v_takes μ)
  obtain ⟨z, z1, z2⟩ := fillE (v_rnext μ) (0 : Int32)
  obtain ⟨nx, h1, N', h2, h3⟩ := loopQ (L := fun n j s => f_X2_reachNext_L24 μ (nI (if m.testBit k then 1 else 0)) tks n j s) (N := 512) (I := fun j s => ∃ N', (∀ q, q < 512 → s q = nI (N' q)) ∧ ∀ φ, PM5 N' φ = fb_sm (fun w => N w * sg m k φ w) j) (Q := fun s => ∃ N', (∀ q, q < 512 → s q = nI (N' q)) ∧ ∀ φ, PM5 N' φ = fb_sm (fun w => N w * sg m k φ w) 512) (fun n j s hj hI => by
    simp only [f_X2_reachNext_L24, f_X2_reachNext_L24_b]
    simp only [LIT]
    by_cases e : j = 512
    · subst e
      exact Or.inl ⟨s, by rw [if_pos (nI_le (Nat.le_refl _) (by decide))], hI⟩
    · obtain ⟨M1, g1, g2⟩ := hI
      have hj5 : j < 512 := by omega
      rw [if_neg (nI_ge hj5 (by decide))]
      refine Or.inr ⟨hj5, ?_⟩
      have hs : nI j >>> (nI 1 &&& 31) = nI (j / 2) := shrE (by omega) (by decide)
      have ha : nI j &&& nI 1 = nI (j % 2) := fa_mask j 1
      rw [hs, ha]
      have mv : ∃ s', (∃ N', (∀ q, q < 512 → s' q = nI (N' q)) ∧ ∀ φ, PM5 N' φ = fb_sm (fun w => N w * sg m k φ w) j + N j * φ (j / 2)) ∧ (Option.bind (jld 512 s (nI (j / 2))) fun v45 => (Option.bind (jld 512 (v_reached μ) (nI j)) fun v46 => (Option.bind (jst 512 s (nI (j / 2)) (v45 + v46)) fun f47 => some f47))) = some s' := by
        refine ⟨va_up s (j / 2) (s (j / 2) + nI (N j)), ⟨fun i => if i = j / 2 then M1 (j / 2) + N j else M1 i, fun q hq => ?_, fun φ => ?_⟩, ?_⟩
        · by_cases y : q = j / 2
          · subst y
            rw [up_s]
            show _ = nI (if _ = _ then _ else _)
            rw [if_pos rfl, g1 _ (by omega), nI_add]
          · rw [up_n y]
            show s q = nI (if q = _ then _ else _)
            rw [if_neg y]
            exact g1 q hq
        · rw [pm_upd _ _ _ (by omega), g2 φ]
        · rw [jldE (by omega) (by decide), ob, jldE hj5 (by decide), ob, hr j hj5, jstE (by omega) (by decide), ob]
      obtain ⟨s1, ⟨N2, k1, k2⟩, k3⟩ := mv
      cases hf : m.testBit k with
      | false =>
        have hsg : ∀ φ, sg m k φ j = φ (j / 2) := fun φ => by unfold sg; rw [hf]; rfl
        refine ⟨s1, ⟨N2, k1, fun φ => ?_⟩, ?_⟩
        · rw [k2 φ, ← hsg φ]; rfl
        · simp only [Bool.false_eq_true, if_false, if_true]
          rw [k3, ob, jletE, nI_add]
      | true =>
        simp only [if_true]
        rw [if_neg (by rw [nI_eq (by decide) (by decide)]; decide)]
        by_cases o : j % 2 = 0
        · obtain ⟨s2, N3, q1, q2, q3⟩ := turnsPush (N := N) (tks, v_reached μ, s) t2 hj5 (hr j hj5) (gap_bound hF j hj5) M1 g1
          have hsg : ∀ φ, sg m k φ j = fb_sm (fun t => if opn m k t j then φ (sc t j) else 0) 4 := fun φ => by unfold sg; rw [hf, o]; rfl
          refine ⟨s2, ⟨N3, q2, fun φ => ?_⟩, ?_⟩
          · rw [q3 φ, g2 φ, ← hsg φ]; rfl
          · rw [o, if_pos rfl, q1, ob, ob, jletE, nI_add]
        · have hsg : ∀ φ, sg m k φ j = φ (j / 2) := fun φ => by
            unfold sg
            rw [hf, if_neg (by simp; omega)]
          refine ⟨s1, ⟨N2, k1, fun φ => ?_⟩, ?_⟩
          · rw [k2 φ, ← hsg φ]; rfl
          · rw [if_neg (by rw [nI_eq (by omega) (by decide)]; exact o), k3, ob, jletE, nI_add]) 512 4096 0 z (by omega) (by omega) ⟨fun _ => 0, fun q hq => (z2 q hq).trans nI_0.symm, fun φ => by
        unfold PM5
        rw [fb_sm_cong (g := fun _ => 0) (fun k _ => Nat.zero_mul _), fb_sm_zeros]
        rfl⟩
  refine ⟨tks, nx, N', ?_, h2, gapStep hk hF h3⟩
  unfold f_X2_reachNext
  rw [holdsE hm hk, ob, t1, ob, z1, ob, show f_X2_reachNext_L24 μ (nI (if m.testBit k then 1 else 0)) tks 4096 0 z = some nx from h1, ob]
/-- the best so far -/
def BP (m : Nat) : Nat → Int32 × Int32
  | 0 => (-nI 1, nI 0)
  | k + 1 => if m.testBit k then (if nI (CW (m ^^^ 2 ^ k) 64 0) ≤ (BP m k).2 then BP m k else (nI k, nI (CW (m ^^^ 2 ^ k) 64 0))) else BP m k
theorem BP_f (m : Nat) : ∀ k, (∃ u, u < 2 ^ 31 ∧ (BP m k).2 = nI u) ∧ ((BP m k).1 = -nI 1 ∨ ∃ c, c < k ∧ (BP m k).1 = nI c) := by
  intro k
  induction k with
  | zero => exact ⟨⟨0, by decide, rfl⟩, Or.inl rfl⟩
  | succ k ih =>
    obtain ⟨i1, i2⟩ := ih
    have i2' : (BP m k).1 = -nI 1 ∨ ∃ c, c < k + 1 ∧ (BP m k).1 = nI c := i2.imp id (fun ⟨c, h, e⟩ => ⟨c, by omega, e⟩)
    rw [BP]
    split
    · split
      · exact ⟨i1, i2'⟩
      · exact ⟨⟨_, CW_small _, rfl⟩, Or.inr ⟨k, by omega, rfl⟩⟩
    · exact ⟨i1, i2'⟩
theorem bestGapE {m : Nat} (hm : m < 2 ^ 64) (μ : VS) : ∃ R t r n, f_X2_bestGap μ (lN m) = some ((BP m 64).1, R, t, r, n) := by
  obtain ⟨e, R, T, he, h1, h2, h3, h4⟩ := countRestE hm μ
  obtain ⟨z, z1, z2⟩ := fillE (v_reached μ) (0 : Int32)
  have hend : BP m 64 = BP m e := by
    have key : ∀ d, e + d ≤ 64 → BP m (e + d) = BP m e := by
      intro d
      induction d with
      | zero => intro _; rfl
      | succ d ih =>
        intro hd
        rw [show e + (d + 1) = (e + d) + 1 by omega, BP, Nat.testBit_lt_two_pow (Nat.lt_of_lt_of_le h1 (Nat.pow_le_pow_right (by decide) (by omega)))]
        exact ih (by omega)
    have := key (64 - e) (by omega)
    rwa [show e + (64 - e) = 64 by omega] at this
  obtain ⟨⟨b, t, r, n⟩, g1, g2⟩ := loopQ (L := fun n j (s : (Int32 × Int32) × (Nat → Int32) × (Nat → Int32) × (Nat → Int32)) => f_X2_bestGap_L34 (lN m) μ (R, T) (nI e) n s.1.1 s.1.2 j s.2.1 s.2.2.1 s.2.2.2) (N := e) (I := fun j s => s.1 = BP m j ∧ ∃ N, (∀ w, w < 512 → s.2.2.1 w = nI (N w)) ∧ FP m j N) (Q := fun r => r.1 = (BP m e).1) (fun n j s hj hI => by
    obtain ⟨i1, N, i2, i3⟩ := hI
    simp only [f_X2_bestGap_L34, f_X2_bestGap_L34_b]
    simp only [LIT]
    by_cases q : j = e
    · subst q
      exact Or.inl ⟨_, by rw [if_pos (nI_le (Nat.le_refl _) (by omega))], by rw [i1]⟩
    · have hje : j < e := by omega
      rw [if_neg (nI_ge hje (by omega)), holdsE hm (by omega), ob]
      obtain ⟨tks, nx, N', r1, r2, r3⟩ := reachNextE (v_rnext' (v_reached' (v_takes' (v_rest' μ R) s.2.1) s.2.2.1) s.2.2.2) hm (show j < 64 by omega) i3 i2
      refine Or.inr ⟨hje, (BP m (j + 1), tks, nx, s.2.2.1), ⟨rfl, N', r2, r3⟩, ?_⟩
      obtain ⟨⟨u, u1, u2⟩, -⟩ := BP_f m j
      cases hf : m.testBit j with
      | false =>
        simp only [Bool.false_eq_true, if_false, if_true]
        rw [ob, i1, u2, if_pos (nI_le (Nat.zero_le _) u1), ob, r1, ob, jletE, nI_add, BP, hf]
        simp only [Bool.false_eq_true, if_false]
        rw [u2]
      | true =>
        simp only [if_true]
        rw [if_neg (by rw [nI_eq (by decide) (by decide)]; decide), waysAroundE (v_rnext' (v_reached' (v_takes' (v_rest' μ R) s.2.1) s.2.2.1) s.2.2.2) hf hje he i3 i2 h4, ob, ob, i1, BP, hf]
        simp only [if_true]
        by_cases c : nI (CW (m ^^^ 2 ^ j) 64 0) ≤ (BP m j).2
        · rw [if_pos c, if_pos c, ob, r1, ob, jletE, nI_add]
        · rw [if_neg c, if_neg c, ob, r1, ob, jletE, nI_add]) e 4096 0 (BP m 0, T, va_up z 0 1, v_rnext μ) (by omega) (by omega) ⟨rfl, fun i => if i = 0 then 1 else 0, fun w hw => by
      show va_up z 0 1 w = nI (if w = 0 then 1 else 0)
      by_cases y : w = 0
      · subst y; rw [up_s]; rfl
      · rw [up_n y, if_neg y]
        exact z2 w hw, gap_first m⟩
  refine ⟨R, t, r, n, ?_⟩
  unfold f_X2_bestGap
  rw [h3, ob, z1, ob, show jst 512 z (0 : Int32) (1 : Int32) = some (va_up z 0 1) from jstE (i := 0) (by decide) (by decide), ob, h2, ob, show f_X2_bestGap_L34 (lN m) μ (R, T) (nI e) 4096 (-1) 0 0 T (va_up z 0 1) (v_rnext μ) = some (b, t, r, n) from g1, ob, hend, ← g2]
