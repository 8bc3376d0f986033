/-! ===== the reference's count of ways is the same number ===== -/
def win (W x i : Nat) : Nat := i % 2 ^ (W - x) + i / 2 ^ (W - x) * 2 ^ (8 - x)
def xn (W x : Nat) : Nat := if x + 1 < W then x + 1 else 0
def ee (W x : Nat) : Nat := if x + 1 < W then 0 else 8 - W
theorem winA : ∀ W, W < 9 → 2 ≤ W → ∀ x, x < W → ∀ i, i < 2 ^ (W + 1) → win W x i < 512 ∧ win W x i % 2 = i % 2 ∧ win W (xn W x) (i / 2) = win W x i / 2 / 2 ^ (ee W x) := by decide +kernel
def wbb (W x i t : Nat) : Bool := !((t == 0 && decide (1 ≤ x)) || (t != 0 && decide (x + 2 ≤ W))) || ((((cov W t &&& i) == 0) == ((offs t &&& win W x i) == 0)) && (!((cov W t &&& i) == 0) || (decide ((i ||| cov W t) / 2 < 2 ^ (W + 1)) && (win W (xn W x) ((i ||| cov W t) / 2) == sc t (win W x i) / 2 ^ (ee W x)))))
theorem winC : ∀ W, W < 9 → 2 ≤ W → ∀ x, x < W → ∀ i, i < 2 ^ (W + 1) → ∀ t, t < 4 → wbb W x i t = true := by decide +kernel
theorem winB : ∀ W, W < 9 → 2 ≤ W → ∀ x, x < W → ∀ i, i < 2 ^ (W + 1) → ∀ t, t < 4 → (t = 0 ∧ 1 ≤ x ∨ t ≠ 0 ∧ x + 2 ≤ W) → ((cov W t &&& i) == 0) = ((offs t &&& win W x i) == 0) ∧ ((cov W t &&& i) = 0 → (i ||| cov W t) / 2 < 2 ^ (W + 1) ∧ win W (xn W x) ((i ||| cov W t) / 2) = sc t (win W x i) / 2 ^ (ee W x)) := by
  intro W h1 h2 x hx i hi t ht hg
  have h := winC W h1 h2 x hx i hi t ht
  unfold wbb at h
  rw [show ((t == 0 && decide (1 ≤ x)) || (t != 0 && decide (x + 2 ≤ W))) = true by
    rcases hg with ⟨a, b⟩ | ⟨a, b⟩
    · simp [a, b]
    · simp [a, b]] at h
  rw [Bool.not_true, Bool.false_or, Bool.and_eq_true] at h
  refine ⟨eq_of_beq h.1, fun z => ?_⟩
  have h3 := h.2
  rw [z] at h3
  have h4 : (decide ((i ||| cov W t) / 2 < 2 ^ (W + 1)) && (win W (xn W x) ((i ||| cov W t) / 2) == sc t (win W x i) / 2 ^ (ee W x))) = true := h3
  rw [Bool.and_eq_true] at h4
  exact ⟨of_decide_eq_true h4.1, eq_of_beq h4.2⟩
def PN (N φ : Nat → Nat) : Nat := fb_sm (fun i => N i * φ i) 1024
theorem pn_upd (N φ : Nat → Nat) (c : Nat) {i : Nat} (hi : i < 1024) : PN (fun k => if k = i then N i + c else N k) φ = PN N φ + c * φ i := by
  show fb_sm (fun k => (if k = i then N i + c else N k) * φ k) 1024 = fb_sm (fun k => N k * φ k) 1024 + c * φ i
  have h := fb_sm_upd (fun k => N k * φ k) ((N i + c) * φ i) hi
  have e : fb_sm (fun k => if k = i then (N i + c) * φ i else N k * φ k) 1024 = fb_sm (fun k => (if k = i then N i + c else N k) * φ k) 1024 := fb_sm_cong (fun k _ => by
    by_cases g : k = i
    · subst g; rw [if_pos rfl, if_pos rfl]
    · rw [if_neg g, if_neg g])
  rw [e, Nat.add_mul] at h
  omega
theorem fb_sm_zeros (n : Nat) : fb_sm (fun _ => 0) n = 0 := by rw [fb_sm_const, Nat.mul_zero]
def ss (m k W : Nat) (φ : Nat → Nat) (i : Nat) : Nat := if m.testBit k && i % 2 == 0 then fb_sm (fun t => if fit m k t && ((cov W t &&& i) == 0) then φ ((i ||| cov W t) / 2) else 0) 4 else φ (i / 2)
theorem CW_skip {m : Nat} : ∀ e k w, k + e ≤ 64 → (∀ j, k ≤ j → j < k + e → m.testBit j = false) → CW m (64 - k) w = CW m (64 - (k + e)) (w / 2 ^ e) := by
  intro e
  induction e with
  | zero => intro k w _ _; rw [Nat.pow_zero, Nat.div_one, Nat.add_zero]
  | succ e ih =>
    intro k w hk h
    rw [ih k w (by omega) (fun j h1 h2 => h j h1 (by omega)), CW_succ (show k + e < 64 by omega), h (k + e) (by omega) (by omega)]
    simp only [Bool.false_and, Bool.false_eq_true, if_false]
    rw [Nat.div_div_eq_div_mul, ← Nat.pow_succ, show 64 - (k + (e + 1)) = 63 - (k + e) by omega]
theorem UW_skip : ∀ e k w, k + e ≤ 64 → w < 512 → UW (64 - (k + e)) (w / 2 ^ e) ≤ UW (64 - k) w := by
  intro e
  induction e with
  | zero => intro k w _ _; rw [Nat.pow_zero, Nat.div_one, Nat.add_zero]; exact Nat.le_refl _
  | succ e ih =>
    intro k w hk hw
    have h1 := ih k w (by omega) hw
    have h2 : w / 2 ^ e < 512 := Nat.lt_of_le_of_lt (Nat.div_le_self _ _) hw
    have h3 := (UW_step (d := 63 - (k + e)) (w := w / 2 ^ e) (by omega) h2).1
    rw [Nat.div_div_eq_div_mul, ← Nat.pow_succ, show 63 - (k + e) + 1 = 64 - (k + e) by omega] at h3
    rw [show 64 - (k + (e + 1)) = 63 - (k + e) by omega]
    exact Nat.le_trans h3 h1
theorem subw_shift {m k w : Nat} (e : Nat) (h : subw m k w) : subw m (k + e) (w / 2 ^ e) := fun i hi => by
  rw [Nat.testBit_div_two_pow] at hi
  have := h _ hi
  rwa [show k + e + i = k + (i + e) by omega]
def kp (W p : Nat) : Nat := 8 * (p / W) + p % W
def VL_ (m W p i : Nat) : Prop := i < 2 ^ (W + 1) ∧ subw m (kp W p) (win W (p % W) i)
def PI (m W p : Nat) (N : Nat → Nat) : Prop := (∀ i, i < 1024 → N i ≠ 0 → VL_ m W p i) ∧ PN N (fun i => CW m (64 - kp W p) (win W (p % W) i)) = CW m 64 0 ∧ PN N (fun i => UW (64 - kp W p) (win W (p % W) i)) ≤ UW 64 0
theorem next_place {W p : Nat} (hW : 2 ≤ W) (hW8 : W ≤ 8) : (p + 1) % W = xn W (p % W) ∧ kp W (p + 1) = kp W p + 1 + ee W (p % W) := by
  have h1 := Nat.div_add_mod p W
  have h2 := Nat.mod_lt p (show W > 0 by omega)
  have e : p + 1 = W * (p / W) + (p % W + 1) := by omega
  have e1 : (p + 1) / W = p / W + (p % W + 1) / W := by
    rw [e, Nat.mul_add_div (by omega)]
  have e2 : (p + 1) % W = (p % W + 1) % W := by
    rw [e, Nat.mul_add_mod]
  unfold kp xn ee
  rw [e1, e2]
  by_cases c : p % W + 1 < W
  · rw [if_pos c, if_pos c, Nat.mod_eq_of_lt c, Nat.div_eq_of_lt c]
    omega
  · rw [if_neg c, if_neg c, show p % W + 1 = W by omega, Nat.mod_self, Nat.div_self (by omega)]
    omega
section PLACE
variable {m W H p : Nat} {N N' : Nat → Nat}
theorem placeStep (hW2 : 2 ≤ W) (hW : W ≤ 8) (hH : H ≤ 8) (hg : ∀ j, m.testBit j = true → j % 8 < W ∧ j / 8 < H) (hp : p < W * H) (hF : ∀ t, t < 4 → fit m (kp W p) t = true → (t = 0 ∧ 1 ≤ p % W ∨ t ≠ 0 ∧ p % W + 2 ≤ W)) (hI : PI m W p N) (hN : ∀ φ, PN N' φ = fb_sm (fun i => N i * ss m (kp W p) W φ i) 1024) : PI m W (p + 1) N' := by
  obtain ⟨hV, hC, hU⟩ := hI
  have hx : p % W < W := Nat.mod_lt p (by omega)
  have hy : p / W < H := Nat.div_lt_of_lt_mul hp
  obtain ⟨n1, n2⟩ := next_place (p := p) hW2 hW
  have hkv : kp W p = 8 * (p / W) + p % W := rfl
  unfold PI VL_
  rw [n1, n2]
  generalize hxx : p % W = x at *
  generalize hkk : kp W p = k at *
  have hk : k < 64 := by omega
  have hk' : k + 1 + ee W x ≤ 64 := by
    unfold ee
    split <;> omega
  have hgap : ∀ j, k + 1 ≤ j → j < k + 1 + ee W x → m.testBit j = false := fun j h1 h2 => by
    cases g : m.testBit j with
    | false => rfl
    | true =>
      have h3 := hg j g
      unfold ee at h2
      split at h2
      · omega
      · omega
  have skC : ∀ w, CW m (64 - (k + 1 + ee W x)) (w / 2 ^ ee W x) = CW m (63 - k) w := fun w => by
    rw [← CW_skip (ee W x) (k + 1) w hk' hgap, show 64 - (k + 1) = 63 - k by omega]
  have skU : ∀ w, w < 512 → UW (64 - (k + 1 + ee W x)) (w / 2 ^ ee W x) ≤ UW (63 - k) w := fun w hw => by
    have := UW_skip (ee W x) (k + 1) w hk' hw
    rwa [show 64 - (k + 1) = 63 - k by omega] at this
  -- successors of a mask that holds
  have ssC : ∀ i, VL_ m W p i → ss m k W (fun j => CW m (64 - (k + 1 + ee W x)) (win W (xn W x) j)) i = CW m (64 - k) (win W x i) := fun i hi => by
    obtain ⟨hi1, hi2⟩ := hi
    rw [hxx, hkk] at hi2
    obtain ⟨a1, a2, a3⟩ := winA W (by omega) hW2 x hx i hi1
    rw [CW_succ hk, a2]
    unfold ss
    by_cases c : (m.testBit k && i % 2 == 0) = true
    · rw [if_pos c, if_pos c]
      apply fb_sm_cong
      intro t ht
      unfold opn
      by_cases f : fit m k t = true
      · obtain ⟨b1, b2⟩ := winB W (by omega) hW2 x hx i hi1 t ht (hF t ht f)
        rw [f, Bool.true_and, Bool.true_and, b1]
        by_cases g : ((offs t &&& win W x i) == 0) = true
        · rw [if_pos g, if_pos g]
          rw [← b1] at g
          dsimp only
          rw [(b2 (beq_iff_eq.mp g)).2, skC]
        · rw [if_neg g, if_neg g]
      · rw [show fit m k t = false by cases h : fit m k t <;> simp_all]
        rfl
    · rw [if_neg c, if_neg c]
      dsimp only
      rw [a3, skC]
  have ssU : ∀ i, VL_ m W p i → ss m k W (fun j => UW (64 - (k + 1 + ee W x)) (win W (xn W x) j)) i ≤ UW (64 - k) (win W x i) := fun i hi => by
    obtain ⟨hi1, hi2⟩ := hi
    obtain ⟨a1, a2, a3⟩ := winA W (by omega) hW2 x hx i hi1
    have st := UW_step (d := 63 - k) (w := win W x i) (by omega) a1
    rw [show 63 - k + 1 = 64 - k by omega, show 63 - (63 - k) = k by omega] at st
    unfold ss
    by_cases c : (m.testBit k && i % 2 == 0) = true
    · rw [if_pos c]
      have c2 : i % 2 = 0 := beq_iff_eq.mp ((Bool.and_eq_true _ _).mp c).2
      refine Nat.le_trans (fb_sm_le (fun t ht => ?_)) (st.2 (by omega))
      by_cases f : fit m k t = true
      · obtain ⟨b1, b2⟩ := winB W (by omega) hW2 x hx i hi1 t ht (hF t ht f)
        have f2 : okt k t = true := by unfold fit at f; exact ((Bool.and_eq_true _ _).mp f).1
        rw [f, f2, Bool.true_and, Bool.true_and, b1]
        by_cases g : ((offs t &&& win W x i) == 0) = true
        · rw [if_pos g, if_pos g]
          rw [← b1] at g
          dsimp only
          rw [(b2 (beq_iff_eq.mp g)).2]
          exact skU _ (sc_lt _ _)
        · rw [if_neg g, if_neg g]
          exact Nat.le_refl _
      · rw [show fit m k t = false by cases h : fit m k t <;> simp_all]
        exact Nat.zero_le _
    · rw [if_neg c]
      dsimp only
      rw [a3]
      exact Nat.le_trans (skU _ (by omega)) st.1
  have ssV : ∀ i, VL_ m W p i → ∀ φ : Nat → Nat, (∀ j, (j < 2 ^ (W + 1) ∧ subw m (k + 1 + ee W x) (win W (xn W x) j)) → φ j = 0) → ss m k W φ i = 0 := fun i hi φ hφ => by
    obtain ⟨hi1, hi2⟩ := hi
    rw [hxx, hkk] at hi2
    obtain ⟨a1, a2, a3⟩ := winA W (by omega) hW2 x hx i hi1
    unfold ss
    by_cases c : (m.testBit k && i % 2 == 0) = true
    · rw [if_pos c]
      refine Eq.trans (fb_sm_cong (g := fun _ => 0) (fun t ht => ?_)) (fb_sm_zeros 4)
      by_cases f : fit m k t = true
      · obtain ⟨b1, b2⟩ := winB W (by omega) hW2 x hx i hi1 t ht (hF t ht f)
        rw [f, Bool.true_and]
        by_cases g : ((cov W t &&& i) == 0) = true
        · rw [if_pos g]
          obtain ⟨b3, b4⟩ := b2 (beq_iff_eq.mp g)
          exact hφ _ ⟨b3, by rw [b4]; exact subw_shift _ (subw_sc hk ht hi2 f)⟩
        · rw [if_neg g]
      · rw [show fit m k t = false by cases h : fit m k t <;> simp_all]
        rfl
    · rw [if_neg c]
      exact hφ _ ⟨by omega, by rw [a3]; exact subw_shift _ (subw_half hi2)⟩
  refine ⟨fun i hi hn => ?_, ?_, ?_⟩
  · apply Classical.byContradiction
    intro hno
    have h1 := hN (fun j => if j = i then 1 else 0)
    have h2 : fb_sm (fun i_1 => N i_1 * ss m k W (fun j => if j = i then 1 else 0) i_1) 1024 = fb_sm (fun _ => 0) 1024 := fb_sm_cong (fun j hj => by
      by_cases z : N j = 0
      · rw [z, Nat.zero_mul]
      · rw [ssV j (hV j hj z) _ (fun q hq => show (if q = i then 1 else 0) = 0 from if_neg (fun e => hno (by rw [← e]; exact hq))), Nat.mul_zero])
    rw [h2, fb_sm_zeros] at h1
    have h3 : N' i * (if i = i then 1 else 0) = 0 := fb_sm_zero h1 i hi
    rw [if_pos rfl, Nat.mul_one] at h3
    exact hn h3
  · rw [hN, ← hC]
    unfold PN
    apply fb_sm_cong
    intro i hi
    by_cases z : N i = 0
    · rw [z, Nat.zero_mul, Nat.zero_mul]
    · rw [ssC i (hV i hi z)]
  · rw [hN]
    refine Nat.le_trans ?_ hU
    unfold PN
    apply fb_sm_le
    intro i hi
    by_cases z : N i = 0
    · rw [z, Nat.zero_mul, Nat.zero_mul]
      exact Nat.le_refl _
    · exact Nat.mul_le_mul_left _ (ssU i (hV i hi z))
theorem place_bound (hW2 : 2 ≤ W) (hW : W ≤ 8) (hI : PI m W p N) : ∀ i, i < 1024 → N i < 2 ^ 31 := fun i hi => by
  by_cases z : N i = 0
  · rw [z]; decide
  · have h1 := hI.1 i hi z
    have h2 := (winA W (by omega) hW2 (p % W) (Nat.mod_lt p (by omega)) i h1.1).1
    have h3 := (UW_le (64 - kp W p) (by omega)).2 _ h2
    have h4 : fb_sm (fun i => N i * UW (64 - kp W p) (win W (p % W) i)) i + N i * UW (64 - kp W p) (win W (p % W) i) ≤ fb_sm (fun i => N i * UW (64 - kp W p) (win W (p % W) i)) 1024 := fb_sm_part (fun i => N i * UW (64 - kp W p) (win W (p % W) i)) hi
    have h5 : fb_sm (fun i => N i * UW (64 - kp W p) (win W (p % W) i)) 1024 ≤ UW 64 0 := hI.2.2
    have h6 := UW_top
    have h7 : N i * 1 ≤ N i * UW (64 - kp W p) (win W (p % W) i) := Nat.mul_le_mul_left _ h3
    omega
theorem place_first (hW2 : 2 ≤ W) : PI m W 0 (fun i => if i = 0 then 1 else 0) := by
  have hP : ∀ φ : Nat → Nat, PN (fun i => if i = 0 then 1 else 0) φ = φ 0 := fun φ => by
    have h : PN (fun i => if i = 0 then 1 else 0) φ = PN (fun _ => 0) φ + 1 * φ 0 := pn_upd (fun _ => 0) φ 1 (show 0 < 1024 by decide)
    have h0 : PN (fun _ => 0) φ = 0 := by
      unfold PN
      rw [fb_sm_cong (g := fun _ => 0) (fun k _ => Nat.zero_mul _), fb_sm_zeros]
    rw [h0, Nat.zero_add, Nat.one_mul] at h
    exact h
  have e0 : kp W 0 = 0 := by unfold kp; rw [Nat.zero_div, Nat.zero_mod]
  have e1 : win W (0 % W) 0 = 0 := by unfold win; rw [Nat.zero_mod, Nat.zero_div]; simp
  refine ⟨fun i _ hn => ?_, ?_, ?_⟩
  · by_cases z : i = 0
    · subst z
      refine ⟨Nat.two_pow_pos _, ?_⟩
      rw [e1]
      exact fun i hi => by rw [Nat.zero_testBit] at hi; cases hi
    · exact absurd (if_neg z) hn
  · rw [hP, e0, e1]
  · rw [hP, e0, e1]
    exact Nat.le_refl _
theorem place_last (hW2 : 2 ≤ W) (hW : W ≤ 8) (hH : H ≤ 8) (hg : ∀ j, m.testBit j = true → j % 8 < W ∧ j / 8 < H) (hI : PI m W (W * H) N) : N 0 = CW m 64 0 := by
  have e0 : kp W (W * H) = 8 * H := by unfold kp; rw [Nat.mul_div_cancel_left _ (by omega), Nat.mul_mod_right]; rfl
  have e1 : W * H % W = 0 := Nat.mul_mod_right _ _
  have hm : m < 2 ^ (8 * H) := Nat.lt_pow_two_of_testBit m (fun i hi => by
    cases g : m.testBit i with
    | false => rfl
    | true => have := hg i g; omega)
  obtain ⟨hV, hC, -⟩ := hI
  rw [e0, e1] at hC
  have h0 : ∀ i, i < 1024 → i ≠ 0 → N i = 0 := fun i hi hn => by
    apply Classical.byContradiction
    intro z
    have h1 := (hV i hi z).2
    rw [e0, e1] at h1
    have h2 := subw_end hm h1
    unfold win at h2
    have h3 : i % 2 ^ (W - 0) = 0 := by omega
    have h4 : i / 2 ^ (W - 0) * 2 ^ (8 - 0) = 0 := by omega
    have h5 : i / 2 ^ (W - 0) = 0 := by
      rcases Nat.mul_eq_zero.mp h4 with h | h
      · exact h
      · exact absurd h (by decide)
    have h6 := Nat.div_add_mod i (2 ^ (W - 0))
    rw [h5, h3] at h6
    exact hn (by omega)
  rw [← hC]
  unfold PN
  rw [show (1024 : Nat) = 1 + 1023 from rfl, fb_sm_split, fb_sm_cong (n := 1023) (g := fun _ => 0) (fun k hk => by rw [h0 (1 + k) (by omega) (by omega), Nat.zero_mul]), fb_sm_zeros, Nat.add_zero]
  show _ = 0 + N 0 * CW m (64 - 8 * H) (win W 0 0)
  rw [show win W 0 0 = 0 by unfold win; simp, CW_end 0 (by omega) (by rwa [show 64 - (64 - 8 * H) = 8 * H by omega]), Nat.zero_add, Nat.mul_one]
end PLACE
