/-! ===== the reference's squares: a stack ===== -/
abbrev FR4 : Type := Nat × Nat × Nat × Nat
def Fs (s : Nat) : Nat := if s = 8 then 4 else if s = 4 then 3 else 2
def flt : List FR4 → List TR
  | [] => []
  | f :: K => sq (Fs f.2.2.1) f.1 f.2.1 f.2.2.1 f.2.2.2 ++ flt K
def SQM : List FR4 → (Nat → Int32) → Prop
  | [], _ => True
  | f :: K, r => (r (5 * K.length) = nI f.1 ∧ r (5 * K.length + 1) = nI f.2.1 ∧ r (5 * K.length + 2) = nI f.2.2.1 ∧ r (5 * K.length + 3) = nI (f.2.2.2 % 8) ∧ r (5 * K.length + 4) = nI (f.2.2.2 / 8)) ∧ SQM K r
def FRok : List FR4 → Prop
  | [] => True
  | f :: K => ((f.2.2.1 = 2 ∨ f.2.2.1 = 4 ∨ f.2.2.1 = 8) ∧ f.1 + f.2.2.1 ≤ 8 ∧ f.2.1 + f.2.2.1 ≤ 8 ∧ f.2.2.2 < 64) ∧ FRok K
theorem SQM_cong : ∀ {K : List FR4} {r r' : Nat → Int32}, (∀ i, i < 5 * K.length → r' i = r i) → SQM K r → SQM K r' := by
  intro K
  induction K with
  | nil => intros; trivial
  | cons f K ih =>
    rintro r r' h ⟨⟨a, b, c, d, e⟩, h2⟩
    rw [List.length_cons] at h
    exact ⟨⟨(h _ (by omega)).trans a, (h _ (by omega)).trans b, (h _ (by omega)).trans c, (h _ (by omega)).trans d, (h _ (by omega)).trans e⟩, ih (fun i hi => h i (by omega)) h2⟩
theorem sq_pos {s x y p : Nat} (h : s = 2 ∨ s = 4 ∨ s = 8) : 1 ≤ (sq (Fs s) x y s p).length := by
  rcases h with rfl | rfl | rfl
  · show 1 ≤ (sq (1 + 1) x y 2 p).length
    rw [sq_succ 1 x y 2 p (by decide), List.length_cons]; omega
  · show 1 ≤ (sq (2 + 1) x y 4 p).length
    rw [sq_succ 2 x y 4 p (by decide), List.length_cons]; omega
  · show 1 ≤ (sq (3 + 1) x y 8 p).length
    rw [sq_succ 3 x y 8 p (by decide), List.length_cons]; omega
theorem flt_len : ∀ {K : List FR4}, FRok K → K.length ≤ (flt K).length := by
  intro K
  induction K with
  | nil => intro _; exact Nat.le_refl _
  | cons f K ih =>
    rintro ⟨⟨h1, -⟩, h2⟩
    have := ih h2
    have h3 := sq_pos (x := f.1) (y := f.2.1) (p := f.2.2.2) h1
    rw [flt, List.length_append, List.length_cons]
    omega
theorem pushesE (μ : MS) {at' x y s p : Nat} (ha : at' < 20) (hp : p < 64) : ∃ r, f_X5_pushes μ (nI at') (nI x) (nI y) (nI s) (nI p) = some r ∧ (r (5 * at') = nI x ∧ r (5 * at' + 1) = nI y ∧ r (5 * at' + 2) = nI s ∧ r (5 * at' + 3) = nI (p % 8) ∧ r (5 * at' + 4) = nI (p / 8)) ∧ ∀ i, i < 5 * at' → r i = m_square μ i := by
  refine ⟨va_up (va_up (va_up (va_up (va_up (m_square μ) (5 * at') (nI x)) (5 * at' + 1) (nI y)) (5 * at' + 2) (nI s)) (5 * at' + 3) (nI (p % 8))) (5 * at' + 4) (nI (p / 8)), ?_, ⟨?_, ?_, ?_, ?_, ?_⟩, fun i hi => ?_⟩
  · unfold f_X5_pushes
    simp only [LIT]
    rw [pk_mul, jstE (by omega) (by decide), ob, nI_add, jstE (by omega) (by decide), ob, nI_add, jstE (by omega) (by decide), ob, nI_add, pk_rem (by omega) (by decide) (by decide), jstE (by omega) (by decide), ob, nI_add, pk_div (by omega) (by decide) (by decide), jstE (by omega) (by decide), ob]
  · rw [up_n (by omega), up_n (by omega), up_n (by omega), up_n (by omega), up_s]
  · rw [up_n (by omega), up_n (by omega), up_n (by omega), up_s]
  · rw [up_n (by omega), up_n (by omega), up_s]
  · rw [up_n (by omega), up_s]
  · rw [up_s]
  · rw [up_n (by omega), up_n (by omega), up_n (by omega), up_n (by omega), up_n (by omega)]
theorem quarterE (μ : MS) {q x y s p h : Nat} (hq : q + 4 < 100) (hx : x < 100) (hy : y < 100) (hs : s < 100) (hp : p < 64) (hh : h = s / 2) (h0 : m_square μ q = nI x) (h1 : m_square μ (q + 1) = nI y) (h2 : m_square μ (q + 2) = nI s) (h3 : m_square μ (q + 3) = nI (p % 8)) (h4 : m_square μ (q + 4) = nI (p / 8)) : f_X5_quarter μ (nI q) = some (nI (qtn (rgt x h p) (lowb y h p))) := by
  unfold f_X5_quarter
  simp only [LIT]
  rw [nI_add, jldE (by omega) (by decide), ob, h2, pk_div (by omega) (by decide) (by decide), jletE, ← hh, nI_add, jldE (by omega) (by decide), ob, h3, jldE (by omega) (by decide), ob, h0, nI_add, lt_bn _ _ (by omega) (by omega), ob, nI_add, jldE (by omega) (by decide), ob, h4, nI_add, jldE (by omega) (by decide), ob, h1, nI_add, lt_bn _ _ (by omega) (by omega), ob]
  simp only [bn_if]
  unfold qtn rgt lowb
  cases decide (y + h ≤ p / 8) <;> cases decide (x + h ≤ p % 8) <;> rfl
theorem qtn_eq (a b : Bool) : (nI (qtn a b) = nI 2 ↔ (a = true ∧ b = true)) ∧ (nI (qtn a b) = nI 3 ↔ (a = false ∧ b = true)) ∧ (nI (qtn a b) = nI 1 ↔ (a = true ∧ b = false)) ∧ (nI (qtn a b) = nI 0 ↔ (a = false ∧ b = false)) := by
  cases a <;> cases b <;> decide +kernel
section MH
variable {W H P wm : Nat} {fl rf : Int32} {μ : MS} {r2 : Int32 × Int32} {r3 : (Nat → Int32) × Int32}
theorem halveLoop : ∀ (L n : Nat) (K : List FR4) (T : List TR) (s r : Nat → Int32), (flt K).length = L → L < n → SR W H P wm T fl rf s 0 → OK W H P wm T → LSq W H P wm T (flt K) → FRok K → SQM K r → (1 ≤ T.length ∨ K.length = 1) → ∃ s' r', f_X5_halve_L39 μ r2 r3 n (nI K.length) s r = some (s', r') ∧ SR W H P wm (T ++ flt K) fl rf s' 0 ∧ ∀ i, 197 ≤ i → s' i = s i := by
  intro L
  induction L with
  | zero =>
    intro n K T s r hL hn hS hO hQ hF hM _
    obtain ⟨n, rfl⟩ : ∃ n', n = n' + 1 := ⟨n - 1, by omega⟩
    have hK := flt_len hF
    have hK0 : K = [] := List.eq_nil_of_length_eq_zero (by omega)
    subst hK0
    refine ⟨s, r, ?_, by rw [flt, List.append_nil]; exact hS, fun i _ => rfl⟩
    simp only [f_X5_halve_L39, f_X5_halve_L39_b]
    exact if_pos (by decide)
  | succ L ih =>
    intro n K T s r hL hn hS hO hQ hF hM hT1
    obtain ⟨n, rfl⟩ : ∃ n', n = n' + 1 := ⟨n - 1, by omega⟩
    cases K with
    | nil => rw [flt] at hL; cases hL
    | cons f K =>
      obtain ⟨x, y, z, p⟩ := f
      obtain ⟨⟨f1, f2, f3, f4⟩, hF2⟩ := hF
      obtain ⟨⟨m0, m1, m2, m3, m4⟩, hM2⟩ := hM
      dsimp only at f1 f2 f3 f4 m0 m1 m2 m3 m4
      have hlen := OK_len (LSq_OK hO hQ)
      rw [List.length_append] at hlen
      have hKf := flt_len hF2
      have hsp := sq_pos (x := x) (y := y) (p := p) f1
      have hfl : (flt ((x, y, z, p) :: K)).length = (sq (Fs z) x y z p).length + (flt K).length := by rw [flt, List.length_append]
      have hKl : K.length ≤ 19 := by
        rcases hT1 with h | h
        · omega
        · rw [List.length_cons] at h; omega
      obtain ⟨h, hh⟩ : ∃ h, h = z / 2 := ⟨_, rfl⟩
      -- the frame's own list
      have e1 : ∃ N, sq (Fs z) x y z p = midq x y h p :: qsx N x y h p 4 ∧ (h = 1 → qsx N x y h p 4 = []) ∧ (h ≠ 1 → N = Fs h) := by
        rcases f1 with rfl | rfl | rfl
        · refine ⟨1, ?_, fun _ => ?_, fun w => absurd hh w⟩
          · rw [hh]; exact sq_succ 1 x y 2 p (by decide)
          · rw [hh]
            have q0 : ∀ i, qx 1 x y (2 / 2) p i = [] := fun i => sq_small (by decide)
            show (((([] ++ qx 1 x y (2 / 2) p 0) ++ qx 1 x y (2 / 2) p 1) ++ qx 1 x y (2 / 2) p 2) ++ qx 1 x y (2 / 2) p 3) = []
            rw [q0, q0, q0, q0]
            rfl
        · refine ⟨2, ?_, fun w => absurd w (by omega), fun _ => by rw [hh]; rfl⟩
          rw [hh]; exact sq_succ 2 x y 4 p (by decide)
        · refine ⟨3, ?_, fun w => absurd w (by omega), fun _ => by rw [hh]; rfl⟩
          rw [hh]; exact sq_succ 3 x y 8 p (by decide)
      obtain ⟨N, e1, e2, e3⟩ := e1
      have hQ' : LSq W H P wm T (midq x y h p :: (qsx N x y h p 4 ++ flt K)) := by
        have : flt ((x, y, z, p) :: K) = midq x y h p :: (qsx N x y h p 4 ++ flt K) := by
          rw [flt]; dsimp only; rw [e1]; rfl
        rwa [this] at hQ
      obtain ⟨⟨a1, a2, a3, a4⟩, hQ2⟩ := hQ'
      have hW := hO.2.1
      have hH := hO.2.2.2.1
      obtain ⟨hO1, hdis⟩ := OK_app hO a1 a2 a3 a4
      have hlT := OK_len hO1
      rw [List.length_append] at hlT
      simp at hlT
      obtain ⟨s1, b1, b2, b3⟩ := laysE (μ := m_square' (m_thrown' (m_states' (m_s' μ s) r3.2) r2.2) r) (b := 0) hS (by decide) (by omega) (x := (midq x y h p).1) (y := (midq x y h p).2.1) (t := (midq x y h p).2.2) (by omega) (by omega) a3 hdis
      have b1' : f_X5_lays (m_square' (m_thrown' (m_states' (m_s' μ s) r3.2) r2.2) r) (nI 0) (nI (x + h - 1)) (nI (y + h - 1)) (nI (qtn (rgt x h p) (lowb y h p))) = some s1 := b1
      have b3' : ∀ i, 197 ≤ i → s1 i = s i := fun i hi => b3 i (by omega)
      have hz : z ≤ 8 := by rcases f1 with rfl | rfl | rfl <;> decide
      have hq5 := quarterE (m_square' (m_thrown' (m_states' (m_s' μ s) r3.2) r2.2) r) (q := 5 * K.length) (h := h) (by omega) (show x < 100 by omega) (show y < 100 by omega) (show z < 100 by omega) f4 hh m0 m1 m2 m3 m4
      simp only [f_X5_halve_L39, f_X5_halve_L39_b]
      simp only [LIT]
      rw [List.length_cons, if_neg (nI_ge (by omega) (by omega)), pk_m1 K.length |> fun e => (show nI (K.length + 1) + -nI 1 = nI K.length from e), jletE, pk_mul, jletE, jldE (by omega) (by decide), ob, m0, nI_add, jldE (by omega) (by decide), ob, m1, nI_add, jldE (by omega) (by decide), ob, m2, pk_div (by omega) (by decide) (by decide), ← hh, jletE, nI_add, jldE (by omega) (by decide), ob, m4, nI_add, jldE (by omega) (by decide), ob, m3, pk_mul, nI_add, jletE, hq5, ob, nI_add, pk_sub (by omega), nI_add, pk_sub (by omega), b1', ob, show 8 * (p / 8) + p % 8 = p by omega]
      by_cases h1 : h = 1
      · rw [if_pos (nI_le (by omega) (by omega)), ob]
        obtain ⟨s', r', c1, c2, c3⟩ := ih n K (T ++ [midq x y h p]) s1 r (by rw [hfl, e1, e2 h1] at hL; simp at hL; omega) (by omega) b2 hO1 (by rw [e2 h1, List.nil_append] at hQ2; exact hQ2) hF2 hM2 (Or.inl (by rw [List.length_append]; simp))
        refine ⟨s', r', c1, ?_, fun i hi => (c3 i hi).trans (b3' i hi)⟩
        have e5 : T ++ flt ((x, y, z, p) :: K) = T ++ [midq x y h p] ++ flt K := by
          rw [flt]
          dsimp only
          rw [e1, e2 h1, List.append_assoc]
        rw [e5]
        exact c2
      · rw [if_neg (nI_ge (by omega) (by omega))]
        have hN := e3 h1
        have h24 : h = 2 ∨ h = 4 := by rcases f1 with rfl | rfl | rfl <;> omega
        have hpp : ∀ i, i < 4 → sqp x y h p i (rgt x h p) (lowb y h p) < 64 := fun i hi => by
          unfold sqp
          split
          · exact f4
          · have := Nat.div_lt_of_lt_mul (show i < 2 * 2 by omega)
            omega
        obtain ⟨k1, k2, k3, k4⟩ := qtn_eq (rgt x h p) (lowb y h p)
        have q3 : (if nI (qtn (rgt x h p) (lowb y h p)) = nI 2 then some (nI p) else some (nI (8 * (y + h) + x + h))) = some (nI (sqp x y h p 3 (rgt x h p) (lowb y h p))) := by
          simp only [k1]
          unfold sqp
          cases rgt x h p <;> cases lowb y h p <;> simp <;> exact congrArg nI (by omega)
        have q2 : (if nI (qtn (rgt x h p) (lowb y h p)) = nI 3 then some (nI p) else some (nI (8 * (y + h) + x + h - 1))) = some (nI (sqp x y h p 2 (rgt x h p) (lowb y h p))) := by
          simp only [k2]
          unfold sqp
          cases rgt x h p <;> cases lowb y h p <;> simp <;> exact congrArg nI (by omega)
        have q1 : (if nI (qtn (rgt x h p) (lowb y h p)) = nI 1 then some (nI p) else some (nI (8 * (y + h - 1) + x + h))) = some (nI (sqp x y h p 1 (rgt x h p) (lowb y h p))) := by
          simp only [k3]
          unfold sqp
          cases rgt x h p <;> cases lowb y h p <;> simp <;> exact congrArg nI (by omega)
        have q0 : (if nI (qtn (rgt x h p) (lowb y h p)) = nI 0 then some (nI p) else some (nI (8 * (y + h - 1) + x + h - 1))) = some (nI (sqp x y h p 0 (rgt x h p) (lowb y h p))) := by
          simp only [k4]
          unfold sqp
          cases rgt x h p <;> cases lowb y h p <;> simp <;> exact congrArg nI (by omega)
        -- the four frames
        have hL' : (qsx N x y h p 4).length + (flt K).length = L := by
          rw [hfl, e1, List.length_cons] at hL
          omega
        have hqs : qsx N x y h p 4 = qx N x y h p 0 ++ (qx N x y h p 1 ++ (qx N x y h p 2 ++ qx N x y h p 3)) := by
          show (((([] ++ qx N x y h p 0) ++ qx N x y h p 1) ++ qx N x y h p 2) ++ qx N x y h p 3) = _
          rw [List.nil_append, List.append_assoc, List.append_assoc]
        have hfK : flt ((x, y, h, sqp x y h p 0 (rgt x h p) (lowb y h p)) :: (x + h, y, h, sqp x y h p 1 (rgt x h p) (lowb y h p)) :: (x, y + h, h, sqp x y h p 2 (rgt x h p) (lowb y h p)) :: (x + h, y + h, h, sqp x y h p 3 (rgt x h p) (lowb y h p)) :: K) = qsx N x y h p 4 ++ flt K := by
          rw [hqs, hN]
          simp only [flt, qx]
          simp only [Nat.reduceMod, Nat.reduceDiv, Nat.mul_zero, Nat.mul_one, Nat.add_zero, List.append_assoc]
        have hFK : FRok ((x, y, h, sqp x y h p 0 (rgt x h p) (lowb y h p)) :: (x + h, y, h, sqp x y h p 1 (rgt x h p) (lowb y h p)) :: (x, y + h, h, sqp x y h p 2 (rgt x h p) (lowb y h p)) :: (x + h, y + h, h, sqp x y h p 3 (rgt x h p) (lowb y h p)) :: K) := by
          have hv : h = 2 ∨ h = 4 ∨ h = 8 := h24.imp id Or.inl
          refine ⟨⟨hv, ?_, ?_, hpp 0 (by decide)⟩, ⟨hv, ?_, ?_, hpp 1 (by decide)⟩, ⟨hv, ?_, ?_, hpp 2 (by decide)⟩, ⟨hv, ?_, ?_, hpp 3 (by decide)⟩, hF2⟩ <;> dsimp only <;> omega
        have hKl4 : K.length + 4 ≤ 20 := by
          have h5 := flt_len hFK
          rw [hfK, List.length_append] at h5
          simp only [List.length_cons] at h5
          have h6 := OK_len (LSq_OK hO1 hQ2)
          rw [List.length_append, List.length_append, List.length_append] at h6
          simp only [List.length_cons, List.length_nil] at h6
          omega
        obtain ⟨r1, d1, d2, d3⟩ := pushesE (m_square' (m_thrown' (m_states' (m_s' μ s1) r3.2) r2.2) r) (at' := K.length) (x := x + h) (y := y + h) (s := h) (by omega) (hpp 3 (by decide))
        obtain ⟨r2', d4, d5, d6⟩ := pushesE (m_square' (m_thrown' (m_states' (m_s' μ s1) r3.2) r2.2) r1) (at' := K.length + 1) (x := x) (y := y + h) (s := h) (by omega) (hpp 2 (by decide))
        obtain ⟨r3', d7, d8, d9⟩ := pushesE (m_square' (m_thrown' (m_states' (m_s' μ s1) r3.2) r2.2) r2') (at' := K.length + 2) (x := x + h) (y := y) (s := h) (by omega) (hpp 1 (by decide))
        obtain ⟨r4', d10, d11, d12⟩ := pushesE (m_square' (m_thrown' (m_states' (m_s' μ s1) r3.2) r2.2) r3') (at' := K.length + 3) (x := x) (y := y) (s := h) (by omega) (hpp 0 (by decide))
        have d3 : ∀ i, i < 5 * K.length → r1 i = r i := d3
        have d6 : ∀ i, i < 5 * (K.length + 1) → r2' i = r1 i := d6
        have d9 : ∀ i, i < 5 * (K.length + 2) → r3' i = r2' i := d9
        have d12 : ∀ i, i < 5 * (K.length + 3) → r4' i = r3' i := d12
        have hMK : SQM ((x, y, h, sqp x y h p 0 (rgt x h p) (lowb y h p)) :: (x + h, y, h, sqp x y h p 1 (rgt x h p) (lowb y h p)) :: (x, y + h, h, sqp x y h p 2 (rgt x h p) (lowb y h p)) :: (x + h, y + h, h, sqp x y h p 3 (rgt x h p) (lowb y h p)) :: K) r4' := by
          refine ⟨d11, SQM_cong (r := r3') (fun i hi => d12 i hi) ⟨d8, SQM_cong (r := r2') (fun i hi => d9 i hi) ⟨d5, SQM_cong (r := r1) (fun i hi => d6 i hi) ⟨d2, SQM_cong (r := r) (fun i hi => d3 i hi) hM2⟩⟩⟩⟩
        obtain ⟨s', r', c1, c2, c3⟩ := ih n _ (T ++ [midq x y h p]) s1 r4' (by rw [hfK, List.length_append]; exact hL') (by omega) b2 hO1 (by rw [hfK]; exact hQ2) hFK hMK (Or.inl (by rw [List.length_append]; simp))
        simp only [List.length_cons] at c1
        refine ⟨s', r', ?_, ?_, fun i hi => (c3 i hi).trans (b3' i hi)⟩
        · simp only [jletE, nI_add, pk_mul]
          rw [pk_sub (show 1 ≤ 8 * (y + h) + x + h by omega), pk_sub (show 1 ≤ 8 * (y + h - 1) + x + h by omega)]
          rw [q3, ob, d1, ob, q2, ob, d4, ob, q1, ob, d7, ob, q0, ob, d10, ob, ob]
          exact c1
        · have e5 : T ++ flt ((x, y, z, p) :: K) = T ++ [midq x y h p] ++ (qsx N x y h p 4 ++ flt K) := by
            rw [flt]
            dsimp only
            rw [e1, List.append_assoc]
            rfl
          rw [e5, ← hfK]
          exact c2
end MH
