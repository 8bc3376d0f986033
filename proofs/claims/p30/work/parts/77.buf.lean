/-! the buffer -/
def buf (cd : Nat → Nat) (n : Nat) (f : Nat → Int32) : Prop := ∀ i, i < n → f i = nI (cd i) ∧ cd i < 1000
