section PAVES2
variable {W H P wm b : Nat} {T : List TR} {fl rf : Int32} {μ : MS}
theorem fm_grid {W H P wm pm : Nat} (hW : W ≤ 8) (hH : H ≤ 8) : ∀ j, (fm W H P wm pm).testBit j = true → j % 8 < W ∧ j / 8 < H := fun j h => by
  by_cases c : j < 64
  · rw [fm_bit hW hH c] at h
    simp only [Bool.and_eq_true, decide_eq_true_iff] at h
    exact ⟨h.1.1.1.1, h.1.1.1.2⟩
  · rw [big_bit (fm_lt hW hH) (by omega)] at h
    cases h
theorem isFreeG (hS : SR W H P wm T fl rf (m_s μ) b) (hT : T.length < 1000) (hb : b + 197 ≤ 1970) (hP : P < 64) (hW : W ≤ 8) (hH : H ≤ 8) {x y : Nat} (hx : x < W) (hy : y < H) : f_X5_isFree μ (nI b) (nI (8 * y + x)) = some (nI (if (fm W H P wm (pv T)).testBit (8 * y + x) then 1 else 0)) := by
  rw [isFreeE hS hT hb hP (by omega), fm_bit hW hH (by omega), show (8 * y + x) % 8 = x by omega, show (8 * y + x) / 8 = y by omega]
  have e : (!decide (8 * y + x = P) && !wm.testBit (8 * y + x) && !(pv T).testBit (8 * y + x)) = (decide (x < W) && decide (y < H) && !wm.testBit (8 * y + x) && !(pv T).testBit (8 * y + x) && !decide (8 * y + x = P)) := by
    simp only [hx, hy, decide_true, Bool.true_and]
    cases decide (8 * y + x = P) <;> cases wm.testBit (8 * y + x) <;> cases (pv T).testBit (8 * y + x) <;> rfl
  rw [e]
theorem pavesE (hS : SR W H P wm T fl rf (m_s μ) b) (hT : T.length < 1000) (hb : b + 197 ≤ 1970) (hP : P < 64) (hW2 : 2 ≤ W) (hH2 : 2 ≤ H) (hW : W ≤ 8) (hH : H ≤ 8) : ∃ wy nx, f_X5_paves μ (nI b) = some (nI (CW (fm W H P wm (pv T)) 64 0), wy, nx) := by
  have hg := fm_grid (P := P) (wm := wm) (pm := pv T) hW hH
  have hWH : W * H ≤ 64 := Nat.mul_le_mul hW hH
  have hS0 := hS.1
  have hS1 := hS.2.1
  obtain ⟨g1, c1, c2⟩ := clearsE μ
  obtain ⟨g2, t1, t2⟩ := takesE (m_next' μ (va_up g1 0 (nI 1)))
  obtain ⟨⟨wy, nx⟩, h1, h2⟩ := loopQ (L := fun n j (s : (Nat → Int32) × (Nat → Int32)) => f_X5_paves_L24 (nI b) μ (nI W) n j s.1 s.2) (N := W * H) (I := fun p s => ∃ N, (∀ q, q < 1024 → s.1 q = nI (N q)) ∧ PI (fm W H P wm (pv T)) W p N) (Q := fun s => s.1 0 = nI (CW (fm W H P wm (pv T)) 64 0)) (fun n p s hp hI => by
    obtain ⟨N, g3, g4⟩ := hI
    simp only [f_X5_paves_L24, f_X5_paves_L24_b]
    simp only [LIT]
    rw [nI_add, jldE (by omega) (by decide), ob, hS1, pk_mul]
    by_cases e : p = W * H
    · subst e
      refine Or.inl ⟨s, by rw [if_pos (nI_le (Nat.le_refl _) (by omega))], ?_⟩
      rw [g3 0 (by decide), place_last hW2 hW hH hg g4]
    · right
      have hx : p % W < W := Nat.mod_lt p (by omega)
      have hy : p / W < H := Nat.div_lt_of_lt_mul (by omega)
      have hw0 : ¬ nI W = nI 0 := by rw [nI_eq (by omega) (by decide)]; omega
      refine ⟨by omega, ?_⟩
      rw [if_neg (nI_ge (by omega) (by omega)), if_neg hw0, jletE, if_neg hw0, jletE, pk_rem (by omega) (by omega) (by omega), pk_div (by omega) (by omega) (by omega), pk_mul, nI_add, isFreeG (μ := m_next' (m_ways' μ s.1) s.2) hS hT hb hP hW hH hx hy, ob]
      obtain ⟨z, z1, z2⟩ := clearsE (m_next' (m_ways' μ s.1) s.2)
      obtain ⟨nx', N', r1, r2, r3⟩ := rowE hS hT hb hP hW2 hH2 hW hH hx hy s.1 z N g3 (place_bound hW2 hW g4) z2
      obtain ⟨wy', k1, k2⟩ := takesE (m_next' (m_ways' μ s.1) nx')
      refine ⟨(wy', nx'), ⟨N', fun q hq => (k2 q hq).trans (r2 q hq), ?_⟩, ?_⟩
      · refine placeStep hW2 hW hH hg (by omega) (fun t ht hf => ?_) g4 (fun φ => ?_)
        · have := (fit_iff hW hH hx hy ht).mp hf
          by_cases z : t = 0
          · rw [if_pos z] at this
            exact Or.inl ⟨z, this.1⟩
          · rw [if_neg z] at this
            exact Or.inr ⟨z, this.1⟩
        · rw [r3 φ]
          have hp : 4 * 2 ^ W ≤ 1024 := by
            have : (2 : Nat) ^ W ≤ 2 ^ 8 := Nat.pow_le_pow_right (by decide) hW
            omega
          obtain ⟨d, hd⟩ : ∃ d, 1024 = 4 * 2 ^ W + d := ⟨1024 - 4 * 2 ^ W, by omega⟩
          have hz : fb_sm (fun k => N (4 * 2 ^ W + k) * ss (fm W H P wm (pv T)) (8 * (p / W) + p % W) W φ (4 * 2 ^ W + k)) d = 0 := by
            rw [← fb_sm_zeros d]
            apply fb_sm_cong
            intro k hk
            have : N (4 * 2 ^ W + k) = 0 := by
              apply Classical.byContradiction
              intro y
              have h5 := (g4.1 (4 * 2 ^ W + k) (by omega) y).1
              rw [Nat.pow_succ] at h5
              omega
            rw [this, Nat.zero_mul]
          show _ = fb_sm (fun i => N i * ss (fm W H P wm (pv T)) (8 * (p / W) + p % W) W φ i) 1024
          rw [hd, fb_sm_split, hz, Nat.add_zero]
      · rw [z1, ob, show f_X5_paves_L70 (nI b) μ (nI W) s.1 (nI (p % W)) (nI (p / W)) (nI (if (fm W H P wm (pv T)).testBit (8 * (p / W) + p % W) then 1 else 0)) 4096 (nI 0) z = some nx' from r1, ob, k1, ob, jletE, nI_add]) (W * H) 4096 0 (g2, va_up g1 0 (nI 1)) (by omega) (by omega) ⟨fun i => if i = 0 then 1 else 0, fun q hq => by
      show g2 q = nI (if q = 0 then 1 else 0)
      rw [t2 q hq]
      show va_up g1 0 (nI 1) q = _
      by_cases z : q = 0
      · subst z; rw [up_s]; rfl
      · rw [up_n z, if_neg z]
        exact c2 q hq, place_first hW2⟩
  refine ⟨wy, nx, ?_⟩
  unfold f_X5_paves
  rw [jldE (by omega) (by decide), ob, hS0, c1, ob, show jst 1024 g1 (0 : Int32) (1 : Int32) = some (va_up g1 0 (nI 1)) from jstE (i := 0) (by decide) (by decide), ob, t1, ob, show f_X5_paves_L24 (nI b) μ (nI W) 4096 0 g2 (va_up g1 0 (nI 1)) = some (wy, nx) from h1, ob, show jld 1024 (wy, nx).1 (0 : Int32) = some (wy 0) from jldE (i := 0) (by decide) (by decide), ob, show wy 0 = _ from h2]
end PAVES2
