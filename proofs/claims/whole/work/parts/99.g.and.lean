/-! ===== the law's loop: which operation ===== -/
theorem and31 (v : Int32) : ∃ n, n < 32 ∧ v &&& 31 = nI n := by
  refine ⟨(v &&& 31).toBitVec.toNat, ?_, ?_⟩
  · rw [Int32.toBitVec_and, BitVec.toNat_and]
    have h : (31 : Int32).toBitVec.toNat = 31 := by decide
    rw [h]
    exact Nat.lt_of_le_of_lt Nat.and_le_right (by decide)
  · apply Int32.toBitVec_inj.mp
    apply BitVec.eq_of_toNat_eq
    unfold nI
    simp
