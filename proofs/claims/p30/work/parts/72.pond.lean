/-! ===== the best pond, as the reference finds it ===== -/
section BPM
variable {W H P wm : Nat} {T : List TR} {fl rf : Int32} {μ : MS}
theorem SR_pond {s : Nat → Int32} {b : Nat} (h : SR W H P wm T fl rf s b) (hl : T.length ≤ 21) (c : Nat) : SR W H c wm T fl rf (va_up s (b + 2) (nI c)) b := by
  obtain ⟨h0, h1, h2, h3, h4, h5, h6, h7, h8⟩ := h
  refine ⟨?_, ?_, up_s, fun k hk => ?_, fun k hk => ?_, ?_, fun i q hq => ?_, ?_, ?_⟩
  · rw [up_n (by omega)]; exact h0
  · rw [up_n (by omega)]; exact h1
  · rw [up_n (by omega)]; exact h3 k hk
  · rw [up_n (by omega)]; exact h4 k hk
  · rw [up_n (by omega)]; exact h5
  · rw [up_n (by omega), up_n (by omega), up_n (by omega)]; exact h6 i q hq
  · rw [up_n (by omega)]; exact h7
  · rw [up_n (by omega)]; exact h8
def mgap (W H P wm pm : Nat) : Nat := fm W H P wm pm ||| 2 ^ P
theorem mgap_bit (hO : OK W H P wm T) {j : Nat} (hj : j < 64) : (mgap W H P wm (pv T)).testBit j = (decide (j % 8 < W) && decide (j / 8 < H) && !wm.testBit j && !(pv T).testBit j) := by
  have hW := hO.2.1
  have hH := hO.2.2.2.1
  unfold mgap
  rw [Nat.testBit_or, fm_bit hW hH hj, pw_bit]
  by_cases c : j = P
  · subst c
    have p3 := (andz _ _).mp (OK_pv hO).2.2.1 j
    rw [pw_bit] at p3
    have p4 : (pv T).testBit j = false := by simpa using p3
    have p5 : wm.testBit j = false := by
      cases g : wm.testBit j with
      | false => rfl
      | true => exact absurd rfl (hO.2.2.2.2.2.2.2.1 j g).2.2
    rw [p4, p5, decide_eq_true hO.2.2.2.2.1, decide_eq_true hO.2.2.2.2.2.1]
    simp
  · simp [c]
theorem fm_gap (hO : OK W H P wm T) {c : Nat} (hc : c < 64) (hm : (mgap W H P wm (pv T)).testBit c = true) : fm W H c wm (pv T) = mgap W H P wm (pv T) ^^^ 2 ^ c := by
  have hW := hO.2.1
  have hH := hO.2.2.2.1
  have hg : mgap W H P wm (pv T) < 2 ^ 64 := Nat.or_lt_two_pow (fm_lt hW hH) (pw_lt (OK_P hO))
  refine ext64 (fm_lt hW hH) (Nat.xor_lt_two_pow hg (pw_lt hc)) (fun j hj => ?_)
  rw [fm_bit hW hH hj, xor_bit hm, mgap_bit hO hj]
theorem bestPondE (hS : SR W H P wm T fl rf (m_s μ) 0) (hO : OK W H P wm T) : ∃ s' wy nx, f_X5_bestPond μ = Option.bind (f_X5_told (BP (mgap W H P wm (pv T)) 64).1) (fun r254 => some (r254, s', 0, wy, nx)) ∧ ∀ i, i < 1773 → s' i = m_s μ i := by
  have hW2 := hO.1
  have hW := hO.2.1
  have hH2 := hO.2.2.1
  have hH := hO.2.2.2.1
  have hT := OK_len hO
  have hP := OK_P hO
  have slot0 : ∀ s : Nat → Int32, (∀ i, i < 1773 → s i = m_s μ i) → SR W H P wm T fl rf s 0 := fun s h => SR_cong (b := 0) (fun k hk => h (0 + k) (by omega)) hT hS
  obtain ⟨m, hmd⟩ : ∃ m, m = mgap W H P wm (pv T) := ⟨_, rfl⟩
  have hrow : ∀ y, y < H → ∀ (s wy nx : Nat → Int32), (∀ i, i < 1773 → s i = m_s μ i) → ∃ r, f_X5_bestPond_L24 μ (nI y) 4096 (BP m (8 * y)).1 (BP m (8 * y)).2 (nI 0) s wy nx = some r ∧ (∀ i, i < 1773 → r.2.2.1 i = m_s μ i) ∧ (r.1, r.2.1) = BP m (8 * (y + 1)) := fun y hy s wy nx h0 =>
    loopQ (L := fun n j (q : (Int32 × Int32) × (Nat → Int32) × (Nat → Int32) × (Nat → Int32)) => f_X5_bestPond_L24 μ (nI y) n q.1.1 q.1.2 j q.2.1 q.2.2.1 q.2.2.2) (N := W) (I := fun j q => q.1 = BP m (8 * y + j) ∧ ∀ i, i < 1773 → q.2.1 i = m_s μ i) (Q := fun r => (∀ i, i < 1773 → r.2.2.1 i = m_s μ i) ∧ (r.1, r.2.1) = BP m (8 * (y + 1))) (fun n j q hj hQ => by
      obtain ⟨q1, q2⟩ := hQ
      have hS' := slot0 q.2.1 q2
      have hS0 : q.2.1 0 = nI W := hS'.1
      have hSP : q.2.1 2 = nI P := hS'.2.2.1
      simp only [f_X5_bestPond_L24, f_X5_bestPond_L24_b]
      simp only [LIT]
      rw [jldE (by decide) (by decide), ob, hS0]
      by_cases z : j = W
      · subst z
        refine Or.inl ⟨_, by rw [if_pos (nI_le (Nat.le_refl _) (by omega))], q2, ?_⟩
        have key : ∀ d, j + d ≤ 8 → BP m (8 * y + j + d) = BP m (8 * y + j) := by
          intro d
          induction d with
          | zero => intro _; rfl
          | succ d ih =>
            intro hd
            rw [show 8 * y + j + (d + 1) = (8 * y + j + d) + 1 by omega, BP]
            have : m.testBit (8 * y + j + d) = false := by
              rw [hmd, mgap_bit hO (by omega), decide_eq_false (by omega)]
              rfl
            rw [this]
            exact ih (by omega)
        have := key (8 - j) (by omega)
        rw [show 8 * y + j + (8 - j) = 8 * (y + 1) by omega] at this
        rw [this, ← q1]
      · have hjW : j < W := by omega
        rw [if_neg (nI_ge hjW (by omega)), pk_mul, nI_add, jletE, jldE (by decide) (by decide), ob, hSP]
        refine Or.inr ⟨hjW, ?_⟩
        have hc : 8 * y + j < 64 := by omega
        -- a cell that is tried
        have tried : m.testBit (8 * y + j) = true → ∃ s2 wy2 nx2, (∀ i, i < 1773 → s2 i = m_s μ i) ∧ (Option.bind (f_X5_copies (m_next' (m_ways' (m_thrown' (m_s' μ q.2.1) (nI 0)) q.2.2.1) q.2.2.2) (nI 0) (nI 9)) fun r247 => Option.bind (jst 1970 r247 (nI 1775) (nI (8 * y + j))) fun f248 => Option.bind (f_X5_paves (m_next' (m_ways' (m_thrown' (m_s' μ f248) (nI 0)) q.2.2.1) q.2.2.2) (nI 1773)) fun r249 => Option.bind (if r249.1 ≤ q.1.2 then some q.1.1 else some (nI (8 * y + j))) fun o250 => Option.bind (if r249.1 ≤ q.1.2 then some q.1.2 else some r249.1) fun o251 => some (o250, o251, f248, r249.2.1, r249.2.2)) = some ((BP m (8 * y + j + 1)).1, (BP m (8 * y + j + 1)).2, s2, wy2, nx2) := fun hm => by
          obtain ⟨s1, c1, c2, c3⟩ := copiesE (m_next' (m_ways' (m_thrown' (m_s' μ q.2.1) (nI 0)) q.2.2.1) q.2.2.2) (a := 0) (c := 9) (by decide) (by decide) (by decide)
          have c2 : ∀ k, k < 197 → s1 (1773 + k) = q.2.1 (0 + k) := fun k hk => by
            have := c2 k hk
            rwa [show 197 * 0 + k = 0 + k by omega] at this
          have c3 : ∀ i, i < 1773 → s1 i = q.2.1 i := fun i hi => c3 i (Or.inl hi)
          have hS1 : SR W H P wm T fl rf s1 1773 := SR_cong (b := 0) c2 hT hS'
          have hS2 := SR_pond hS1 hT (8 * y + j)
          obtain ⟨wy2, nx2, d1⟩ := pavesE (μ := m_next' (m_ways' (m_thrown' (m_s' μ (va_up s1 (1773 + 2) (nI (8 * y + j)))) (nI 0)) q.2.2.1) q.2.2.2) hS2 (by omega) (by decide) hc hW2 hH2 hW hH
          rw [fm_gap hO hc (by rw [← hmd]; exact hm), ← hmd] at d1
          refine ⟨va_up s1 (1773 + 2) (nI (8 * y + j)), wy2, nx2, fun i hi => ?_, ?_⟩
          · show va_up s1 (1773 + 2) (nI (8 * y + j)) i = _
            rw [up_n (by omega), c3 i hi, q2 i hi]
          · rw [c1, ob, jstE (by decide) (by decide), ob, show va_up s1 1775 (nI (8 * y + j)) = va_up s1 (1773 + 2) (nI (8 * y + j)) from rfl, d1, ob, BP, hm]
            simp only [if_true]
            rw [q1]
            by_cases c : nI (CW (m ^^^ 2 ^ (8 * y + j)) 64 0) ≤ (BP m (8 * y + j)).2
            · rw [if_pos c, if_pos c, if_pos c, ob, ob]
            · rw [if_neg c, if_neg c, if_neg c, ob, ob]
        have hbit : m.testBit (8 * y + j) = ((fm W H P wm (pv T)).testBit (8 * y + j) || decide (8 * y + j = P)) := by
          rw [hmd]
          unfold mgap
          rw [Nat.testBit_or, pw_bit]
        by_cases e : 8 * y + j = P
        · obtain ⟨s2, wy2, nx2, t1, t2⟩ := tried (by rw [hbit, decide_eq_true e, Bool.or_true])
          rw [if_pos (by rw [e]), t2, ob, jletE, nI_add]
          exact ⟨(BP m (8 * y + j + 1), s2, wy2, nx2), ⟨rfl, t1⟩, rfl⟩
        · rw [if_neg (by rw [nI_eq (by omega) (by omega)]; exact e), show f_X5_isFree (m_next' (m_ways' (m_thrown' (m_s' μ q.2.1) (nI 0)) q.2.2.1) q.2.2.2) (nI 0) (nI (8 * y + j)) = _ from isFreeG (μ := m_next' (m_ways' (m_thrown' (m_s' μ q.2.1) (nI 0)) q.2.2.1) q.2.2.2) (b := 0) hS' (by omega) (by decide) hP hW hH hjW hy, ob]
          rw [decide_eq_false e, Bool.or_false] at hbit
          cases f : (fm W H P wm (pv T)).testBit (8 * y + j) with
          | true =>
            obtain ⟨s2, wy2, nx2, t1, t2⟩ := tried (by rw [hbit, f])
            simp only [if_true]
            rw [if_neg (by rw [nI_eq (by decide) (by decide)]; decide), t2, ob, jletE, nI_add]
            exact ⟨(BP m (8 * y + j + 1), s2, wy2, nx2), ⟨rfl, t1⟩, rfl⟩
          | false =>
            simp only [Bool.false_eq_true, if_false, if_true]
            rw [ob, jletE, nI_add]
            refine ⟨q, ⟨?_, q2⟩, rfl⟩
            rw [show 8 * y + (j + 1) = 8 * y + j + 1 by omega, BP, hbit, f, q1]
            rfl) W 4096 0 (BP m (8 * y), s, wy, nx) (by omega) (by omega) ⟨rfl, h0⟩
  obtain ⟨⟨b, s', wy, nx⟩, h1, h2, h3⟩ := loopQ (L := fun n j (q : (Int32 × Int32) × (Nat → Int32) × (Nat → Int32) × (Nat → Int32)) => f_X5_bestPond_L11 μ n q.1.1 q.1.2 j q.2.1 q.2.2.1 q.2.2.2) (N := H) (I := fun j q => q.1 = BP m (8 * j) ∧ ∀ i, i < 1773 → q.2.1 i = m_s μ i) (Q := fun r => (∀ i, i < 1773 → r.2.1 i = m_s μ i) ∧ r.1 = (BP m 64).1) (fun n j q hj hQ => by
    obtain ⟨q1, q2⟩ := hQ
    have hS' := slot0 q.2.1 q2
    have hS1 : q.2.1 1 = nI H := hS'.2.1
    simp only [f_X5_bestPond_L11, f_X5_bestPond_L11_b]
    simp only [LIT]
    rw [jldE (by decide) (by decide), ob, hS1]
    by_cases z : j = H
    · subst z
      refine Or.inl ⟨_, by rw [if_pos (nI_le (Nat.le_refl _) (by omega))], q2, ?_⟩
      have key : ∀ d, 8 * j + d ≤ 64 → BP m (8 * j + d) = BP m (8 * j) := by
        intro d
        induction d with
        | zero => intro _; rfl
        | succ d ih =>
          intro hd
          rw [show 8 * j + (d + 1) = (8 * j + d) + 1 by omega, BP]
          have : m.testBit (8 * j + d) = false := by
            rw [hmd, mgap_bit hO (by omega), decide_eq_false (by omega : ¬ (8 * j + d) / 8 < j), Bool.and_false]
            rfl
          rw [this]
          exact ih (by omega)
      have := key (64 - 8 * j) (by omega)
      rw [show 8 * j + (64 - 8 * j) = 64 by omega] at this
      rw [this, ← q1]
    · obtain ⟨r, r1, r2, r3⟩ := hrow j (by omega) q.2.1 q.2.2.1 q.2.2.2 q2
      rw [if_neg (nI_ge (show j < H by omega) (by omega)), q1, r1, ob, jletE, nI_add]
      exact Or.inr ⟨by omega, ((r.1, r.2.1), r.2.2.1, r.2.2.2.1, r.2.2.2.2), ⟨r3, r2⟩, rfl⟩) H 4096 0 (BP m 0, m_s μ, m_ways μ, m_next μ) (by omega) (by omega) ⟨rfl, fun i _ => rfl⟩
  refine ⟨s', wy, nx, ?_, h2⟩
  unfold f_X5_bestPond
  rw [show f_X5_bestPond_L11 μ 4096 (-1) 0 0 (m_s μ) (m_ways μ) (m_next μ) = some (b, s', wy, nx) from h1, ob, show b = _ from h3, hmd]
end BPM
theorem toldE {c : Nat} (hc : c < 64) : f_X5_told (nI c) = some (nI (c % 8 + 10 * (c / 8))) ∧ f_X4_cellName (nI c) = some (nI (c % 8 + 10 * (c / 8))) := by
  have : ∀ c, c < 64 → f_X5_told (nI c) = some (nI (c % 8 + 10 * (c / 8))) ∧ f_X4_cellName (nI c) = some (nI (c % 8 + 10 * (c / 8))) := by decide +kernel
  exact this c hc
theorem toldN : f_X5_told (-nI 1) = some (-nI 1) := by decide +kernel
