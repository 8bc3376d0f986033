/-! ===== the first cell ===== -/
theorem fa_xor (a b : Nat) : nI a ^^^ nI b = nI (a ^^^ b) := by
  apply Int32.toBitVec_inj.1
  show BitVec.ofNat 32 a ^^^ BitVec.ofNat 32 b = BitVec.ofNat 32 (a ^^^ b)
  apply BitVec.eq_of_getLsbD_eq
  intro i hi
  simp [Nat.testBit_xor, hi]
theorem nI_mod32 (n : Nat) : nI n = nI (n % 2 ^ 32) := by
  apply Int32.toBitVec_inj.1
  show BitVec.ofNat 32 n = BitVec.ofNat 32 (n % 2 ^ 32)
  apply BitVec.eq_of_toNat_eq
  simp
theorem odd_part : ∀ n : Nat, n ≠ 0 → ∃ t j, n = 2 ^ t * (2 * j + 1) := by
  intro n
  induction n using Nat.strongRecOn with
  | _ n ih =>
    intro h
    by_cases c : n % 2 = 1
    · exact ⟨0, n / 2, by omega⟩
    · obtain ⟨t, j, e⟩ := ih (n / 2) (by omega) (by omega)
      refine ⟨t + 1, j, ?_⟩
      rw [Nat.pow_succ, Nat.mul_comm (2 ^ t) 2, Nat.mul_assoc, ← e]
      omega
def ntzT (x1 : Int32) : Option Int32 :=
(if 0 < x1 then
(Option.bind (if x1 ≤ (65536 : Int32) then
some (x1, (1 : Int32))
else
(jlet ((1 : Int32) + (16)) fun x5 =>
(jlet ((x1.toUInt32 >>> ((16 : Int32).toUInt32 &&& Int32.toUInt32 31)).toInt32) fun x6 =>
some (x6, x5)))) fun o4 =>
(Option.bind (if o4.1 ≤ (256 : Int32) then
some (o4.1, o4.2)
else
(jlet (o4.2 + (8)) fun x10 =>
(jlet ((o4.1.toUInt32 >>> ((8 : Int32).toUInt32 &&& Int32.toUInt32 31)).toInt32) fun x11 =>
some (x11, x10)))) fun o9 =>
(Option.bind (if o9.1 ≤ (16 : Int32) then
some (o9.1, o9.2)
else
(jlet (o9.2 + (4)) fun x15 =>
(jlet ((o9.1.toUInt32 >>> ((4 : Int32).toUInt32 &&& Int32.toUInt32 31)).toInt32) fun x16 =>
some (x16, x15)))) fun o14 =>
(Option.bind (if o14.1 ≤ (4 : Int32) then
some (o14.1, o14.2)
else
(jlet (o14.2 + (2)) fun x20 =>
(jlet ((o14.1.toUInt32 >>> ((2 : Int32).toUInt32 &&& Int32.toUInt32 31)).toInt32) fun x21 =>
some (x21, x20)))) fun o19 =>
some (o19.2 + ((o19.1.toUInt32 >>> ((1 : Int32).toUInt32 &&& Int32.toUInt32 31)).toInt32))))))
else
some (x1 &&& (32 : Int32)))
theorem ntz_T : ∀ t, t < 32 → ntzT (nI (2 ^ t - 1)) = some (nI t) := by decide +kernel
theorem ntz32 {n : Nat} (h0 : n ≠ 0) (hn : n < 2 ^ 32) : ∃ t, t < 32 ∧ f_J6_numberOfTrailingZeros_0f7a4 (nI n) = some (nI t) ∧ ∀ i, i < t → n.testBit i = false := by
  obtain ⟨t, j, e⟩ := odd_part n h0
  have hp := Nat.two_pow_pos t
  have ht : t < 32 := by
    apply Classical.byContradiction
    intro z
    have h1 : 2 ^ 32 ≤ 2 ^ t := Nat.pow_le_pow_right (by decide) (by omega)
    have h2 : 2 ^ t * 1 ≤ 2 ^ t * (2 * j + 1) := Nat.mul_le_mul_left _ (by omega)
    omega
  have b1 : ∀ i, n.testBit i = if i < t then false else (2 * j + 1).testBit (i - t) := fun i => by
    have := Nat.testBit_two_pow_mul_add (2 * j + 1) (b := 0) (i := t) hp i
    rw [Nat.add_zero, ← e, Nat.zero_testBit] at this
    exact this
  have b2 : ∀ i, (n - 1).testBit i = if i < t then true else (2 * j).testBit (i - t) := fun i => by
    have e2 : n - 1 = 2 ^ t * (2 * j) + (2 ^ t - 1) := by
      rw [e, Nat.mul_add, Nat.mul_one]
      omega
    rw [e2, Nat.testBit_two_pow_mul_add (2 * j) (show 2 ^ t - 1 < 2 ^ t by omega) i]
    by_cases c : i < t
    · rw [if_pos c, if_pos c, Nat.testBit_two_pow_sub_one]
      simp [c]
    · rw [if_neg c, if_neg c]
  refine ⟨t, ht, ?_, fun i hi => by rw [b1, if_pos hi]⟩
  have hx : (nI n ^^^ (-1 : Int32)) &&& (nI n - (1 : Int32)) = nI (2 ^ t - 1) := by
    rw [show (-1 : Int32) = nI (2 ^ 32 - 1) by decide +kernel, fa_xor, show (1 : Int32) = nI 1 from rfl, pk_sub (by omega), fa_and]
    congr 1
    apply Nat.eq_of_testBit_eq
    intro i
    rw [Nat.testBit_and, Nat.testBit_xor, Nat.testBit_two_pow_sub_one, Nat.testBit_two_pow_sub_one, b1, b2]
    by_cases c : i < t
    · rw [if_pos c, if_pos c]
      simp [c]
      omega
    · rw [if_neg c, if_neg c]
      by_cases c3 : i < 32
      · obtain ⟨d, hd⟩ : ∃ d, i = t + d := ⟨i - t, by omega⟩
        rw [show i - t = d by omega]
        cases d with
        | zero => simp [c]
        | succ d =>
          rw [Nat.testBit_succ, Nat.testBit_succ, show (2 * j + 1) / 2 = j by omega, show 2 * j / 2 = j by omega]
          cases j.testBit d <;> simp [c, c3]
      · have h2 : n.testBit i = false := Nat.testBit_lt_two_pow (Nat.lt_of_lt_of_le hn (Nat.pow_le_pow_right (by decide) (by omega)))
        rw [b1, if_neg c] at h2
        rw [h2]
        simp [c, c3]
  show ntzT ((nI n ^^^ (-1 : Int32)) &&& (nI n - (1 : Int32))) = _
  rw [hx]
  exact ntz_T t ht
theorem ntzE {m : Nat} (hm : m < 2 ^ 64) : ∃ p, p ≤ 64 ∧ f_J13_numberOfTrailingZeros_95d88 (lN m) = some (nI p) ∧ ∀ i, i < p → m.testBit i = false := by
  unfold f_J13_numberOfTrailingZeros_95d88
  simp only [LIT]
  rw [wb_shr hm (by decide), lN_i, lN_i, nI_mod32 m]
  have hl : m % 2 ^ 32 < 2 ^ 32 := Nat.mod_lt _ (by decide)
  have hb : ∀ i, i < 32 → m.testBit i = (m % 2 ^ 32).testBit i := fun i hi => by
    rw [Nat.testBit_mod_two_pow]
    simp [hi]
  by_cases c : m % 2 ^ 32 = 0
  · have hlow : ∀ i, i < 32 → m.testBit i = false := fun i hi => by rw [hb i hi, c, Nat.zero_testBit]
    rw [if_pos (by rw [nI_eq0 hl]; exact c)]
    by_cases z : m / 2 ^ 32 = 0
    · rw [z]
      refine ⟨64, by decide, by decide +kernel, fun i hi => ?_⟩
      have hz : m = 0 := by omega
      rw [hz, Nat.zero_testBit]
    · obtain ⟨t, h1, h2, h3⟩ := ntz32 z (by omega)
      refine ⟨32 + t, by omega, by rw [h2, ob, nI_add], fun i hi => ?_⟩
      by_cases d : i < 32
      · exact hlow i d
      · have := h3 (i - 32) (by omega)
        rw [Nat.testBit_div_two_pow] at this
        rwa [show i - 32 + 32 = i by omega] at this
  · obtain ⟨t, h1, h2, h3⟩ := ntz32 c hl
    refine ⟨t, by omega, ?_, fun i hi => by rw [hb i (by omega)]; exact h3 i hi⟩
    rw [if_neg (by rw [nI_eq0 hl]; exact c), h2, ob]
