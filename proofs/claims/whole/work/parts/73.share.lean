/-! shares -/
def chkS (p q : Nat) : Bool := match dfin (FP.ddiv (FP.i2d (nI p)) (FP.i2d (nI q))) with
  | some d => (f_X4_shareBits d).isSome && (f_X4_shareBits d == f_Jxe99ae_doubleToLongBits_ccdee d)
  | none => false
theorem share_ok : ∀ n, n < 22 → ∀ f, f < 64 → 0 < 3 * n + f → 3 * n + f < 64 → chkS (3 * n) (3 * n + f) = true := by decide +kernel
theorem share_one : f_X4_shareBits FP.dconst1 = f_Jxe99ae_doubleToLongBits_ccdee FP.dconst1 ∧ (f_X4_shareBits FP.dconst1).isSome = true := by decide +kernel
