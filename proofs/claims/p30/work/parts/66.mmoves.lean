/-! ===== the reference's slots written: a triple laid or lifted, slots copied, states saved ===== -/
section MMV
variable {W H P wm b : Nat} {T : List TR} {fl rf : Int32} {μ : MS}
theorem laysE (hS : SR W H P wm T fl rf (m_s μ) b) (hb : b + 197 ≤ 1970) (hl : T.length ≤ 20) {x y t : Nat} (hx : x < 7) (hy : y < 7) (ht : t < 4) (hd : pv T &&& qm (x, y, t) = 0) : ∃ s', f_X5_lays μ (nI b) (nI x) (nI y) (nI t) = some s' ∧ SR W H P wm (T ++ [(x, y, t)]) fl rf s' b ∧ ∀ i, (i < b ∨ b + 197 ≤ i) → s' i = m_s μ i := by
  obtain ⟨h0, h1, h2, h3, h4, h5, h6, h7, h8⟩ := hS
  obtain ⟨n, hn⟩ : ∃ n, n = T.length := ⟨_, rfl⟩
  rw [← hn] at h5 hl
  obtain ⟨f4, hf4⟩ : ∃ f4, f4 = va_up (va_up (va_up (m_s μ) (b + 132 + 3 * n) (nI x)) (b + 132 + 3 * n + 1) (nI y)) (b + 132 + 3 * n + 2) (nI t) := ⟨_, rfl⟩
  obtain ⟨s1, l1, l2, l3⟩ := loopQ (L := fun n' j s => f_X5_lays_L68 (nI b) (nI x) (nI y) (nI t) (nI n) n' j s) (N := 4) (I := fun j s => (∀ k, k < j → k ≠ t → s (b + 67 + cb x y k) = nI n) ∧ ∀ i, (∀ k, k < j → k ≠ t → i ≠ b + 67 + cb x y k) → s i = f4 i) (Q := fun s => (∀ k, k < 4 → k ≠ t → s (b + 67 + cb x y k) = nI n) ∧ ∀ i, (∀ k, k < 4 → k ≠ t → i ≠ b + 67 + cb x y k) → s i = f4 i) (fun n' j s hj hI => by
    simp only [f_X5_lays_L68, f_X5_lays_L68_b]
    simp only [LIT]
    by_cases e : j = 4
    · subst e
      exact Or.inl ⟨s, by rw [if_pos (nI_le (Nat.le_refl _) (by decide))], hI⟩
    · rw [if_neg (nI_ge (show j < 4 by omega) (by decide))]
      obtain ⟨i1, i2⟩ := hI
      refine Or.inr ⟨by omega, ?_⟩
      have hc := cb_lt hx hy (show j < 4 by omega)
      by_cases z : j = t
      · refine ⟨s, ⟨fun k hk hkt => i1 k (by omega) hkt, fun i hi => i2 i (fun k hk hkt => hi k (by omega) hkt)⟩, ?_⟩
        rw [if_pos (by rw [z]), ob, jletE, nI_add]
      · refine ⟨va_up s (b + 67 + cb x y j) (nI n), ⟨fun k hk hkt => ?_, fun i hi => ?_⟩, ?_⟩
        · rw [up_eq]
          split
          · rfl
          · exact i1 k (by
              by_cases q : k = j
              · subst q; contradiction
              · omega) hkt
        · rw [up_n (hi j (by omega) z)]
          exact i2 i (fun k hk hkt => hi k (by omega) hkt)
        · rw [if_neg (by rw [nI_eq (by omega) (by omega)]; exact z), ofBlockE (by omega), ob, nI_add, nI_add, jstE (by omega) (by decide), ob, ob, jletE, nI_add]) 4 4096 0 f4 (by omega) (by omega) ⟨fun k hk => absurd hk (by omega), fun i _ => rfl⟩
  have hcb : ∀ k, k < 4 → cb x y k < 64 := fun k hk => cb_lt hx hy hk
  have out1 : ∀ i, (i < b + 67 ∨ b + 131 ≤ i) → s1 i = f4 i := fun i hi => l3 i (fun k hk _ => by have := hcb k hk; omega)
  have out2 : ∀ i, (i < b + 132 + 3 * n ∨ b + 135 + 3 * n ≤ i) → f4 i = m_s μ i := fun i hi => by
    rw [hf4, up_n (by omega), up_n (by omega), up_n (by omega)]
  have e24 : s1 (b + 131) = nI n := by rw [out1 _ (by omega), out2 _ (by omega), h5]
  have out : ∀ i, (i < b + 67 ∨ (b + 132 ≤ i ∧ i < b + 132 + 3 * n) ∨ b + 135 + 3 * n ≤ i) → va_up s1 (b + 131) (nI (n + 1)) i = m_s μ i := fun i hi => by
    rw [up_n (by omega), out1 _ (by omega), out2 _ (by omega)]
  refine ⟨va_up s1 (b + 131) (nI (n + 1)), ?_, ⟨?_, ?_, ?_, ?_, ?_, ?_, ?_, ?_, ?_⟩, ?_⟩
  · unfold f_X5_lays
    simp only [LIT]
    rw [nI_add, jldE (by omega) (by decide), ob, h5, nI_add, pk_mul, nI_add, jstE (by omega) (by decide), ob, nI_add, jstE (by omega) (by decide), ob, nI_add, jstE (by omega) (by decide), ob, ← hf4, show f_X5_lays_L68 (nI b) (nI x) (nI y) (nI t) (nI n) 4096 (nI 0) f4 = some s1 from l1, ob, jldE (by omega) (by decide), ob, e24, nI_add, jstE (by omega) (by decide), ob]
  · rw [out _ (by omega), h0]
  · rw [out _ (by omega), h1]
  · rw [out _ (by omega), h2]
  · intro k hk
    rw [out _ (by omega), h3 k hk]
  · intro c hc
    rw [up_n (by omega), owI_app hd]
    cases g : (qm (x, y, t)).testBit c with
    | true =>
      have g2 := tm_bit x hx y hy t ht c hc
      have g3 : (tm x y t).testBit c = true := g
      rw [g3] at g2
      have g4 : ∃ k, k < 4 ∧ k ≠ t ∧ c = cb x y k := by
        have := g2.symm
        simp only [Bool.or_eq_true, Bool.and_eq_true, beq_iff_eq, bne_iff_ne, ne_eq] at this
        rcases this with ((⟨q1, q2⟩ | ⟨q1, q2⟩) | ⟨q1, q2⟩) | ⟨q1, q2⟩
        · exact ⟨0, by decide, fun z => q1 z.symm, q2⟩
        · exact ⟨1, by decide, fun z => q1 z.symm, q2⟩
        · exact ⟨2, by decide, fun z => q1 z.symm, q2⟩
        · exact ⟨3, by decide, fun z => q1 z.symm, q2⟩
      obtain ⟨k, k1, k2, k3⟩ := g4
      rw [k3, l2 k k1 k2, if_pos rfl, hn]
    | false =>
      have g2 := tm_bit x hx y hy t ht c hc
      have g3 : (tm x y t).testBit c = false := g
      rw [g3] at g2
      rw [l3 _ (fun k hk hkt z => by
        have zc : c = cb x y k := by omega
        have := g2.symm
        simp only [Bool.or_eq_false_iff, Bool.and_eq_false_iff, beq_eq_false_iff_ne, ne_eq, bne_eq_false_iff_eq] at this
        rcases (show k = 0 ∨ k = 1 ∨ k = 2 ∨ k = 3 by omega) with rfl | rfl | rfl | rfl
        · rcases this.1.1.1 with q | q
          · exact hkt q.symm
          · exact q zc
        · rcases this.1.1.2 with q | q
          · exact hkt q.symm
          · exact q zc
        · rcases this.1.2 with q | q
          · exact hkt q.symm
          · exact q zc
        · rcases this.2 with q | q
          · exact hkt q.symm
          · exact q zc), out2 _ (by omega), h4 c hc]
      rfl
  · rw [up_s, List.length_append, hn]
    rfl
  · intro i q hq
    by_cases z : i < T.length
    · rw [List.getElem?_append_left z] at hq
      have := h6 i q hq
      rw [out _ (by omega), out _ (by omega), out _ (by omega)]
      exact this
    · have hi := (List.getElem?_eq_some_iff.mp hq).1
      rw [List.length_append] at hi
      simp at hi
      have e : i = n := by omega
      rw [List.getElem?_append_right (by omega), show i - T.length = 0 by omega] at hq
      simp at hq
      subst hq
      rw [e]
      refine ⟨?_, ?_, ?_⟩
      · rw [up_n (by omega), out1 _ (by omega), hf4, up_n (by omega), up_n (by omega), up_s]
      · rw [up_n (by omega), out1 _ (by omega), hf4, up_n (by omega), up_s]
      · rw [up_n (by omega), out1 _ (by omega), hf4, up_s]
  · rw [out _ (by omega), h7]
  · rw [out _ (by omega), h8]
  · intro i hi
    exact out i (by omega)
theorem liftsE (hS : SR W H P wm T fl rf (m_s μ) b) (hO : OK W H P wm T) (hb : b + 197 ≤ 1970) {i : Nat} (hi : i < T.length) : ∃ s', f_X5_lifts μ (nI b) (nI i) = some s' ∧ SR W H P wm (T.eraseIdx i) fl rf s' b ∧ ∀ k, (k < b ∨ b + 197 ≤ k) → s' k = m_s μ k := by
  have hl := OK_len hO
  have hT := hO.2.2.2.2.2.2.2.2
  have hq : T[i]? = some T[i] := List.getElem?_eq_getElem hi
  have hle : (T.eraseIdx i).length = T.length - 1 := by rw [List.length_eraseIdx, if_pos hi]
  obtain ⟨h0, h1, h2, h3, h4, h5, h6, h7, h8⟩ := hS
  obtain ⟨n, hn⟩ : ∃ n, n = T.length := ⟨_, rfl⟩
  rw [← hn] at h5 hl hle hi
  obtain ⟨s1, l1, l2, l3⟩ := loopQ (L := fun n' j s => f_X5_lifts_L2 (nI b) (nI i) n' j s) (N := 64) (I := fun j s => (∀ k, k < j → s (b + 67 + k) = owI (T.eraseIdx i) k) ∧ ∀ k, (k < b + 67 ∨ b + 67 + j ≤ k) → s k = m_s μ k) (Q := fun s => (∀ k, k < 64 → s (b + 67 + k) = owI (T.eraseIdx i) k) ∧ ∀ k, (k < b + 67 ∨ b + 131 ≤ k) → s k = m_s μ k) (fun n' j s hj hI => by
    simp only [f_X5_lifts_L2, f_X5_lifts_L2_b]
    simp only [LIT]
    by_cases e : j = 64
    · subst e
      exact Or.inl ⟨s, by rw [if_pos (nI_le (Nat.le_refl _) (by decide))], hI.1, fun k hk => hI.2 k (by omega)⟩
    · rw [if_neg (nI_ge (show j < 64 by omega) (by decide)), nI_add, nI_add, jldE (by omega) (by decide), ob, hI.2 _ (by omega), h4 j (by omega)]
      have hv : (if owI T j = nI i then some (-nI 1) else if owI T j ≤ nI i then some (owI T j) else some (owI T j - nI 1)) = some (owI (T.eraseIdx i) j) := by
        rw [owI_erase hT (by omega) hq]
        split
        · rfl
        · split <;> rfl
      rw [hv, ob, jstE (by omega) (by decide), ob, jletE, nI_add]
      refine Or.inr ⟨by omega, _, ⟨fun k hk => ?_, fun k hk => ?_⟩, rfl⟩
      · by_cases z : k = j
        · subst z; rw [up_s]
        · rw [up_n (by omega)]
          exact hI.1 k (by omega)
      · rw [up_n (by omega)]
        exact hI.2 k (by omega)) 64 4096 0 (m_s μ) (by omega) (by omega) ⟨fun k hk => absurd hk (by omega), fun k _ => rfl⟩
  have e131 : s1 (b + 131) = nI n := by rw [l3 _ (by omega), h5]
  obtain ⟨s2, r1, r2, r3⟩ := loopQ (L := fun n' j s => f_X5_lifts_L67 (nI b) n' j s) (N := 3 * (n - 1)) (I := fun j s => 3 * i ≤ j ∧ (∀ e, 3 * i ≤ e → e < j → s (b + 132 + e) = s1 (b + 132 + e + 3)) ∧ ∀ k, (k < b + 132 + 3 * i ∨ b + 132 + j ≤ k) → s k = s1 k) (Q := fun s => (∀ e, 3 * i ≤ e → e < 3 * (n - 1) → s (b + 132 + e) = s1 (b + 132 + e + 3)) ∧ ∀ k, (k < b + 132 + 3 * i ∨ b + 132 + 3 * (n - 1) ≤ k) → s k = s1 k) (fun n' j s hj hI => by
    obtain ⟨i0, i1, i2⟩ := hI
    simp only [f_X5_lifts_L67, f_X5_lifts_L67_b]
    simp only [LIT]
    rw [nI_add, jldE (by omega) (by decide), ob, i2 _ (by omega), e131, pk_mul, nI_add]
    by_cases e : j = 3 * (n - 1)
    · subst e
      exact Or.inl ⟨s, by rw [if_pos (nI_le (by omega) (by omega))], i1, i2⟩
    · rw [if_neg (nI_ge (by omega) (by omega)), nI_add, nI_add, nI_add, jldE (by omega) (by decide), ob, jstE (by omega) (by decide), ob, jletE, nI_add]
      refine Or.inr ⟨by omega, _, ⟨by omega, fun q q1 q2 => ?_, fun k hk => ?_⟩, rfl⟩
      · by_cases z : q = j
        · subst z
          rw [up_s]
          exact i2 _ (by omega)
        · rw [up_n (by omega)]
          exact i1 q q1 (by omega)
      · rw [up_n (by omega)]
        exact i2 k (by omega)) (3 * (n - 1) - 3 * i) 4096 (3 * i) s1 (by omega) (by omega) ⟨Nat.le_refl _, fun q q1 q2 => absurd q2 (by omega), fun k _ => rfl⟩
  have e131b : s2 (b + 131) = nI n := by rw [r3 _ (by omega), e131]
  have out : ∀ k, (k < b + 67 ∨ (b + 132 ≤ k ∧ k < b + 132 + 3 * i) ∨ b + 132 + 3 * (n - 1) ≤ k) → va_up s2 (b + 131) (nI (n - 1)) k = m_s μ k := fun k hk => by
    rw [up_n (by omega), r3 _ (by omega), l3 _ (by omega)]
  refine ⟨va_up s2 (b + 131) (nI (n - 1)), ?_, ⟨?_, ?_, ?_, ?_, ?_, ?_, ?_, ?_, ?_⟩, ?_⟩
  · unfold f_X5_lifts
    simp only [LIT]
    rw [show f_X5_lifts_L2 (nI b) (nI i) 4096 (nI 0) (m_s μ) = some s1 from l1, ob, pk_mul, jletE, r1, ob, nI_add, jldE (by omega) (by decide), ob, e131b, pk_sub (by omega), jstE (by omega) (by decide), ob]
  · rw [out _ (by omega), h0]
  · rw [out _ (by omega), h1]
  · rw [out _ (by omega), h2]
  · intro k hk
    rw [out _ (by omega), h3 k hk]
  · intro c hc
    rw [up_n (by omega), r3 _ (by omega), l2 c hc]
  · rw [up_s, hle]
  · intro j q hjq
    have hj := (List.getElem?_eq_some_iff.mp hjq).1
    rw [hle] at hj
    rw [List.getElem?_eraseIdx] at hjq
    by_cases z : j < i
    · rw [if_pos z] at hjq
      have := h6 j q hjq
      rw [out _ (by omega), out _ (by omega), out _ (by omega)]
      exact this
    · rw [if_neg z] at hjq
      have := h6 (j + 1) q hjq
      have k1 := r2 (3 * j) (by omega) (by omega)
      have k2 := r2 (3 * j + 1) (by omega) (by omega)
      have k3 := r2 (3 * j + 2) (by omega) (by omega)
      rw [l3 _ (by omega)] at k1 k2 k3
      refine ⟨?_, ?_, ?_⟩
      · rw [up_n (by omega), k1, show b + 132 + 3 * j + 3 = b + 132 + 3 * (j + 1) by omega]
        exact this.1
      · rw [up_n (by omega), show b + 132 + 3 * j + 1 = b + 132 + (3 * j + 1) by omega, k2, show b + 132 + (3 * j + 1) + 3 = b + 132 + 3 * (j + 1) + 1 by omega]
        exact this.2.1
      · rw [up_n (by omega), show b + 132 + 3 * j + 2 = b + 132 + (3 * j + 2) by omega, k3, show b + 132 + (3 * j + 2) + 3 = b + 132 + 3 * (j + 1) + 2 by omega]
        exact this.2.2
  · rw [out _ (by omega), h7]
  · rw [out _ (by omega), h8]
  · intro k hk
    exact out k (by omega)
theorem copiesE (μ : MS) {a c : Nat} (ha : a ≤ 9) (hc : c ≤ 9) (hac : a ≠ c) : ∃ s', f_X5_copies μ (nI a) (nI c) = some s' ∧ (∀ k, k < 197 → s' (197 * c + k) = m_s μ (197 * a + k)) ∧ ∀ i, (i < 197 * c ∨ 197 * c + 197 ≤ i) → s' i = m_s μ i := by
  obtain ⟨s1, l1, l2, l3⟩ := loopQ (L := fun n' j s => f_X5_copies_L2 (nI a) (nI c) n' j s) (N := 197) (I := fun j s => (∀ k, k < j → s (197 * c + k) = m_s μ (197 * a + k)) ∧ ∀ i, (i < 197 * c ∨ 197 * c + j ≤ i) → s i = m_s μ i) (Q := fun s => (∀ k, k < 197 → s (197 * c + k) = m_s μ (197 * a + k)) ∧ ∀ i, (i < 197 * c ∨ 197 * c + 197 ≤ i) → s i = m_s μ i) (fun n' j s hj hI => by
    simp only [f_X5_copies_L2, f_X5_copies_L2_b]
    simp only [LIT]
    by_cases e : j = 197
    · subst e
      exact Or.inl ⟨s, by rw [if_pos (nI_le (Nat.le_refl _) (by decide))], hI⟩
    · rw [if_neg (nI_ge (show j < 197 by omega) (by decide)), pk_mul, nI_add, jldE (by omega) (by decide), ob, pk_mul, nI_add, jstE (by omega) (by decide), ob, jletE, nI_add]
      refine Or.inr ⟨by omega, _, ⟨fun k hk => ?_, fun k hk => ?_⟩, rfl⟩
      · by_cases z : k = j
        · subst z
          rw [up_s]
          exact hI.2 _ (by omega)
        · rw [up_n (by omega)]
          exact hI.1 k (by omega)
      · rw [up_n (by omega)]
        exact hI.2 k (by omega)) 197 4096 0 (m_s μ) (by omega) (by omega) ⟨fun k hk => absurd hk (by omega), fun k _ => rfl⟩
  refine ⟨s1, ?_, l2, l3⟩
  unfold f_X5_copies
  rw [show f_X5_copies_L2 (nI a) (nI c) 4096 0 (m_s μ) = some s1 from l1, ob]
theorem SR_cong {s s' : Nat → Int32} {b b' : Nat} (h : ∀ k, k < 197 → s' (b' + k) = s (b + k)) (hl : T.length ≤ 21) (hS : SR W H P wm T fl rf s b) : SR W H P wm T fl rf s' b' := by
  obtain ⟨h0, h1, h2, h3, h4, h5, h6, h7, h8⟩ := hS
  refine ⟨?_, ?_, ?_, ?_, ?_, ?_, ?_, ?_, ?_⟩
  · exact (h 0 (by omega)).trans h0
  · exact (h 1 (by omega)).trans h1
  · exact (h 2 (by omega)).trans h2
  · intro k hk
    rw [Nat.add_assoc, h (3 + k) (by omega), ← Nat.add_assoc]
    exact h3 k hk
  · intro k hk
    rw [Nat.add_assoc, h (67 + k) (by omega), ← Nat.add_assoc]
    exact h4 k hk
  · exact (h 131 (by omega)).trans h5
  · intro i q hq
    have hi := (List.getElem?_eq_some_iff.mp hq).1
    have := h6 i q hq
    rw [show b' + 132 + 3 * i = b' + (132 + 3 * i) by omega, show b' + (132 + 3 * i) + 1 = b' + (132 + 3 * i + 1) by omega, show b' + (132 + 3 * i) + 2 = b' + (132 + 3 * i + 2) by omega, h _ (by omega), h _ (by omega), h _ (by omega), show b + (132 + 3 * i) = b + 132 + 3 * i by omega, show b + (132 + 3 * i + 1) = b + 132 + 3 * i + 1 by omega, show b + (132 + 3 * i + 2) = b + 132 + 3 * i + 2 by omega]
    exact this
  · exact (h 195 (by omega)).trans h7
  · exact (h 196 (by omega)).trans h8
theorem savesE (μ : MS) {n : Nat} (hn : n ≤ 6) (hst : m_states μ = nI n) : ∃ s', f_X5_saves μ = some (s', nI (if n < 6 then n + 1 else 6)) ∧ (∀ k, k < 197 → s' k = m_s μ k) ∧ (∀ i, 1379 ≤ i → s' i = m_s μ i) ∧ (∀ k, k < 197 → s' (197 * (if n < 6 then n + 1 else 6) + k) = m_s μ k) ∧ (n < 6 → ∀ i, i < 197 * (n + 1) → s' i = m_s μ i) ∧ (n = 6 → ∀ q, 1 ≤ q → q < 6 → ∀ k, k < 197 → s' (197 * q + k) = m_s μ (197 * (q + 1) + k)) := by
  unfold f_X5_saves
  rw [hst]
  by_cases c : n < 6
  · simp only [LIT]
    rw [if_neg (by rw [nI_eq (by omega) (by decide)]; omega), ob]
    dsimp only
    rw [nI_add, jletE]
    obtain ⟨s1, c1, c2, c3⟩ := copiesE (m_states' (m_s' μ (m_s μ)) (nI (n + 1))) (show 0 ≤ 9 by decide) (show n + 1 ≤ 9 by omega) (by omega)
    have c2 : ∀ k, k < 197 → s1 (197 * (n + 1) + k) = m_s μ (197 * 0 + k) := c2
    have c3 : ∀ i, (i < 197 * (n + 1) ∨ 197 * (n + 1) + 197 ≤ i) → s1 i = m_s μ i := c3
    rw [c1, ob]
    rw [if_pos c]
    refine ⟨s1, rfl, fun k hk => c3 k (by omega), fun i hi => c3 i (by omega), fun k hk => ?_, fun _ i hi => c3 i (by omega), fun z => absurd z (by omega)⟩
    rw [c2 k hk, show 197 * 0 + k = k by omega]
  · have e6 : n = 6 := by omega
    subst e6
    simp only [LIT]
    rw [if_pos trivial]
    obtain ⟨s1, l1, l2, l3⟩ := loopQ (L := fun n' j s => f_X5_saves_L11 μ n' j s) (N := 6) (I := fun j s => 1 ≤ j ∧ (∀ q, 1 ≤ q → q < j → ∀ k, k < 197 → s (197 * q + k) = m_s μ (197 * (q + 1) + k)) ∧ ∀ i, (i < 197 ∨ 197 * j ≤ i) → s i = m_s μ i) (Q := fun s => (∀ q, 1 ≤ q → q < 6 → ∀ k, k < 197 → s (197 * q + k) = m_s μ (197 * (q + 1) + k)) ∧ ∀ i, (i < 197 ∨ 197 * 6 ≤ i) → s i = m_s μ i) (fun n' j s hj hI => by
      obtain ⟨i0, i1, i2⟩ := hI
      simp only [f_X5_saves_L11, f_X5_saves_L11_b]
      simp only [LIT]
      by_cases e : j = 6
      · subst e
        exact Or.inl ⟨s, by rw [if_pos (nI_le (Nat.le_refl _) (by decide))], i1, i2⟩
      · rw [if_neg (nI_ge (show j < 6 by omega) (by decide)), nI_add]
        obtain ⟨s2, c1, c2, c3⟩ := copiesE (m_s' μ s) (show j + 1 ≤ 9 by omega) (show j ≤ 9 by omega) (by omega)
        have c2 : ∀ k, k < 197 → s2 (197 * j + k) = s (197 * (j + 1) + k) := c2
        have c3 : ∀ i, (i < 197 * j ∨ 197 * j + 197 ≤ i) → s2 i = s i := c3
        rw [c1, ob, jletE]
        refine Or.inr ⟨by omega, s2, ⟨by omega, fun q q1 q2 k hk => ?_, fun i hi => ?_⟩, rfl⟩
        · by_cases z : q = j
          · subst z
            rw [c2 k hk]
            exact i2 _ (by omega)
          · rw [c3 _ (by omega)]
            exact i1 q q1 (by omega) k hk
        · rw [c3 _ (by omega)]
          exact i2 _ (by omega)) 5 4096 1 (m_s μ) (by omega) (by omega) ⟨Nat.le_refl _, fun q q1 q2 => absurd q2 (by omega), fun i _ => rfl⟩
    rw [show f_X5_saves_L11 μ 4096 (nI 1) (m_s μ) = some s1 from l1, ob, pk_sub (by decide), jletE, ob]
    dsimp only
    rw [nI_add, jletE]
    obtain ⟨s2, c1, c2, c3⟩ := copiesE (m_states' (m_s' μ s1) (nI (6 - 1 + 1))) (show 0 ≤ 9 by decide) (show 6 - 1 + 1 ≤ 9 by decide) (by decide)
    have c2 : ∀ k, k < 197 → s2 (197 * 6 + k) = s1 (197 * 0 + k) := c2
    have c3 : ∀ i, (i < 197 * 6 ∨ 197 * 6 + 197 ≤ i) → s2 i = s1 i := c3
    rw [c1, ob]
    refine ⟨s2, rfl, fun k hk => ?_, fun i hi => ?_, fun k hk => ?_, fun z => absurd z (by decide), fun _ q q1 q2 k hk => ?_⟩
    · rw [c3 _ (by omega), l3 _ (by omega)]
    · rw [c3 _ (by omega), l3 _ (by omega)]
    · show s2 (197 * 6 + k) = _
      rw [c2 k hk, l3 _ (by omega), show 197 * 0 + k = k by omega]
    · rw [c3 _ (by omega), l2 q q1 q2 k hk]
theorem laysOutE (μ : MS) {W H : Nat} {fl rf : Int32} (hf : m_s μ 195 = fl) (hr : m_s μ 196 = rf) : ∃ s', f_X5_laysOut μ (nI 0) (nI W) (nI H) = some s' ∧ SR W H 0 0 [] fl rf s' 0 ∧ ∀ i, 197 ≤ i → s' i = m_s μ i := by
  obtain ⟨f4, hf4⟩ : ∃ f4, f4 = va_up (va_up (va_up (va_up (m_s μ) 0 (nI W)) 1 (nI H)) 2 (nI 0)) 131 (nI 0) := ⟨_, rfl⟩
  obtain ⟨s1, l1, l2, l3⟩ := loopQ (L := fun n' j s => f_X5_laysOut_L39 (nI 0) n' j s) (N := 64) (I := fun j s => (∀ k, k < j → s (3 + k) = nI 0 ∧ s (67 + k) = -nI 1) ∧ ∀ i, (i < 3 ∨ 131 ≤ i) → s i = f4 i) (Q := fun s => (∀ k, k < 64 → s (3 + k) = nI 0 ∧ s (67 + k) = -nI 1) ∧ ∀ i, (i < 3 ∨ 131 ≤ i) → s i = f4 i) (fun n' j s hj hI => by
    simp only [f_X5_laysOut_L39, f_X5_laysOut_L39_b]
    simp only [LIT]
    by_cases e : j = 64
    · subst e
      exact Or.inl ⟨s, by rw [if_pos (nI_le (Nat.le_refl _) (by decide))], hI⟩
    · rw [if_neg (nI_ge (show j < 64 by omega) (by decide)), nI_add, nI_add, jstE (by omega) (by decide), ob, nI_add, nI_add, jstE (by omega) (by decide), ob, jletE, nI_add]
      refine Or.inr ⟨by omega, _, ⟨fun k hk => ?_, fun i hi => ?_⟩, rfl⟩
      · by_cases z : k = j
        · subst z
          rw [up_n (by omega), show 3 + k = 0 + 3 + k by omega, up_s, show 67 + k = 0 + 67 + k by omega, up_s]
          exact ⟨rfl, rfl⟩
        · rw [up_n (by omega), up_n (by omega), up_n (by omega), up_n (by omega)]
          exact hI.1 k (by omega)
      · rw [up_n (by omega), up_n (by omega)]
        exact hI.2 i hi) 64 4096 0 f4 (by omega) (by omega) ⟨fun k hk => absurd hk (by omega), fun i _ => rfl⟩
  refine ⟨s1, ?_, ⟨?_, ?_, ?_, ?_, ?_, ?_, ?_, ?_, ?_⟩, ?_⟩
  · unfold f_X5_laysOut
    simp only [LIT]
    rw [jstE (by decide) (by decide), ob, nI_add, jstE (by decide) (by decide), ob, nI_add, jstE (by decide) (by decide), ob, nI_add, jstE (by decide) (by decide), ob, show va_up (va_up (va_up (va_up (m_s μ) 0 (nI W)) (0 + 1) (nI H)) (0 + 2) (nI 0)) (0 + 131) (nI 0) = f4 from hf4.symm, show f_X5_laysOut_L39 (nI 0) 4096 (nI 0) f4 = some s1 from l1, ob]
  · rw [l3 _ (by omega), hf4, up_n (by decide), up_n (by decide), up_n (by decide), up_s]
  · rw [l3 _ (by omega), hf4, up_n (by decide), up_n (by decide), up_s]
  · rw [l3 _ (by omega), hf4, up_n (by decide), up_s]
  · intro k hk
    rw [show 0 + 3 + k = 3 + k by omega, (l2 k hk).1, Nat.zero_testBit]
    rfl
  · intro k hk
    rw [show 0 + 67 + k = 67 + k by omega, (l2 k hk).2]
    unfold owI
    rw [pv, Nat.zero_testBit]
    rfl
  · rw [l3 _ (by omega), hf4, up_s]
    rfl
  · intro i q hq
    simp at hq
  · rw [l3 _ (by omega), hf4, up_n (by decide), up_n (by decide), up_n (by decide), up_n (by decide)]
    exact hf
  · rw [l3 _ (by omega), hf4, up_n (by decide), up_n (by decide), up_n (by decide), up_n (by decide)]
    exact hr
  · intro i hi
    rw [l3 _ (by omega), hf4, up_n (by omega), up_n (by omega), up_n (by omega), up_n (by omega)]
end MMV
