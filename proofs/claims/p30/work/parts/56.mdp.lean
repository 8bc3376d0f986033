/-! ===== the reference's count: masks of the garden's own width ===== -/
theorem hit_f {m x y t : Nat} : hit m x y t = false ↔ ∀ k, k < 4 → k ≠ t → m.testBit (cb x y k) = false := by
  unfold hit
  constructor
  · intro h k hk hn
    rcases (show k = 0 ∨ k = 1 ∨ k = 2 ∨ k = 3 by omega) with rfl | rfl | rfl | rfl
    · cases g : m.testBit (cb x y 0) <;> simp_all
    · cases g : m.testBit (cb x y 1) <;> simp_all
    · cases g : m.testBit (cb x y 2) <;> simp_all
    · cases g : m.testBit (cb x y 3) <;> simp_all
  · intro h
    have h0 := h 0 (by decide)
    have h1 := h 1 (by decide)
    have h2 := h 2 (by decide)
    have h3 := h 3 (by decide)
    rcases (show t = 0 ∨ t = 1 ∨ t = 2 ∨ t = 3 ∨ 4 ≤ t by omega) with rfl | rfl | rfl | rfl | h4
    · simp at h0 h1 h2 h3 ⊢; simp [h1, h2, h3]
    · simp at h0 h1 h2 h3 ⊢; simp [h0, h2, h3]
    · simp at h0 h1 h2 h3 ⊢; simp [h0, h1, h3]
    · simp at h0 h1 h2 h3 ⊢; simp [h0, h1, h2]
    · rw [h0 (by omega), h1 (by omega), h2 (by omega), h3 (by omega)]; simp
theorem wn_0 {P wm pm x y t : Nat} : wn P wm pm x y t = 0 ↔ hit (2 ^ P) x y t = false ∧ hit wm x y t = false ∧ hit pm x y t = false := by
  unfold wn
  cases hit (2 ^ P) x y t <;> cases hit wm x y t <;> cases hit pm x y t <;> simp
/-- a triple that could be laid, told by its cells -/
theorem wn_free {W H P wm pm x y t : Nat} (hW : W ≤ 8) (hH : H ≤ 8) (hx : x + 2 ≤ W) (hy : y + 2 ≤ H) : wn P wm pm x y t = 0 ↔ ∀ k, k < 4 → k ≠ t → (fm W H P wm pm).testBit (cb x y k) = true := by
  rw [wn_0, hit_f, hit_f, hit_f]
  have key : ∀ k, k < 4 → (fm W H P wm pm).testBit (cb x y k) = (!wm.testBit (cb x y k) && !pm.testBit (cb x y k) && !(2 ^ P).testBit (cb x y k)) := fun k hk => by
    have h := cb_lt (show x < 7 by omega) (show y < 7 by omega) hk
    have e1 : cb x y k % 8 < W ∧ cb x y k / 8 < H := by
      unfold cb
      rcases (show k = 0 ∨ k = 1 ∨ k = 2 ∨ k = 3 by omega) with rfl | rfl | rfl | rfl <;> simp <;> omega
    rw [fm_bit hW hH h, pw_bit]
    simp [e1.1, e1.2]
  constructor
  · rintro ⟨h1, h2, h3⟩ k hk hn
    rw [key k hk, h1 k hk hn, h2 k hk hn, h3 k hk hn]
    rfl
  · intro h
    refine ⟨fun k hk hn => ?_, fun k hk hn => ?_, fun k hk hn => ?_⟩ <;>
      · have := h k hk hn
        rw [key k hk] at this
        cases g1 : wm.testBit (cb x y k) <;> cases g2 : pm.testBit (cb x y k) <;> cases g3 : (2 ^ P).testBit (cb x y k) <;> simp_all
theorem tm_in {m x y t : Nat} (hm : m < 2 ^ 64) (hx : x < 7) (hy : y < 7) (ht : t < 4) : tm x y t &&& (m ^^^ (2 ^ 64 - 1)) = 0 ↔ ∀ k, k < 4 → k ≠ t → m.testBit (cb x y k) = true := by
  rw [tm_hit hx hy ht, hit_f]
  constructor
  · intro h k hk hn
    have := h k hk hn
    rw [not_bit _ (cb_lt hx hy hk)] at this
    simpa using this
  · intro h k hk hn
    rw [not_bit _ (cb_lt hx hy hk), h k hk hn]
    rfl
theorem fit_iff {W H P wm pm x y t : Nat} (hW : W ≤ 8) (hH : H ≤ 8) (hx : x < W) (hy : y < H) (ht : t < 4) : fit (fm W H P wm pm) (8 * y + x) t = true ↔ (if t = 0 then 1 ≤ x else x + 2 ≤ W) ∧ y + 2 ≤ H ∧ wn P wm pm (if t = 0 then x - 1 else x) y t = 0 := by
  have hm : fm W H P wm pm < 2 ^ 64 := fm_lt hW hH
  have e1 : (8 * y + x) / 8 = y := by omega
  have e2 : (8 * y + x) % 8 = x := by omega
  have e3 : bxk (8 * y + x) t = if t = 0 then x - 1 else x := by unfold bxk; rw [e2]
  unfold fit
  rw [Bool.and_eq_true, beq_iff_eq]
  constructor
  · rintro ⟨h1, h2⟩
    unfold cl at h2
    rw [if_pos h1, e1, e3] at h2
    unfold okt at h1
    rw [e1, e2, Bool.and_eq_true, decide_eq_true_iff] at h1
    obtain ⟨h3, h4⟩ := h1
    have h5 : (if t = 0 then x - 1 else x) < 7 ∧ (t = 0 → 1 ≤ x) := by
      by_cases z : t = 0
      · rw [if_pos z] at h4 ⊢
        rw [decide_eq_true_iff] at h4
        exact ⟨by omega, fun _ => h4⟩
      · rw [if_neg z] at h4 ⊢
        rw [decide_eq_true_iff] at h4
        exact ⟨by omega, fun e => absurd e z⟩
    generalize hX : (if t = 0 then x - 1 else x) = X at *
    rw [tm_in hm h5.1 (by omega) ht] at h2
    have in_ : ∀ k, k < 4 → k ≠ t → cb X y k % 8 < W ∧ cb X y k / 8 < H := fun k hk hn => by
      have := h2 k hk hn
      rw [fm_bit hW hH (cb_lt h5.1 (by omega) hk)] at this
      simp only [Bool.and_eq_true, decide_eq_true_iff] at this
      exact ⟨this.1.1.1.1, this.1.1.1.2⟩
    have h51 := h5.1
    obtain ⟨c0, c1, c2, c3⟩ := cb_v X y
    have hy2 : y + 2 ≤ H := by
      by_cases z : t = 2
      · have := in_ 3 (by decide) (by omega)
        rw [c3] at this
        omega
      · have := in_ 2 (by decide) (by omega)
        rw [c2] at this
        omega
    have hX2 : X + 2 ≤ W := by
      by_cases z1 : t = 1
      · have := in_ 2 (by decide) (by omega)
        rw [c2] at this
        omega
      · have := in_ 1 (by decide) (by omega)
        rw [c1] at this
        omega
    have hx2 : (if t = 0 then 1 ≤ x else x + 2 ≤ W) := by
      by_cases z : t = 0
      · rw [if_pos z]; exact h5.2 z
      · rw [if_neg z]
        rw [if_neg z] at hX
        omega
    exact ⟨hx2, hy2, (wn_free hW hH hX2 hy2).mpr h2⟩
  · rintro ⟨h1, h2, h3⟩
    have h4 : okt (8 * y + x) t = true := by
      unfold okt
      rw [e1, e2, Bool.and_eq_true, decide_eq_true_iff]
      refine ⟨by omega, ?_⟩
      by_cases z : t = 0
      · rw [if_pos z] at h1 ⊢; exact decide_eq_true h1
      · rw [if_neg z] at h1 ⊢; exact decide_eq_true (by omega)
    refine ⟨h4, ?_⟩
    unfold cl
    rw [if_pos h4, e1, e3, tm_in hm (by by_cases z : t = 0 <;> simp only [z, if_true, if_false] at h1 ⊢ <;> omega) (by omega) ht]
    rwa [wn_free hW hH (by by_cases z : t = 0 <;> simp only [z, if_true, if_false] at h1 ⊢ <;> omega) h2] at h3
/-- what a triple covers of the next cells, in the garden's own places -/
def cov (W t : Nat) : Nat := if t = 0 then 1 + 2 ^ (W - 1) + 2 ^ W else if t = 1 then 1 + 2 ^ W + 2 ^ (W + 1) else if t = 2 then 3 + 2 ^ W else 3 + 2 ^ (W + 1)
theorem cov_a : ∀ W, W < 9 → 2 ≤ W → ∀ t, t < 4 → 0 < cov W t ∧ cov W t < 2 ^ (W + 2) := by decide +kernel
theorem cov_b : ∀ W, W < 9 → 2 ≤ W → (((1 : Int32) ||| ((1 : Int32) <<< ((nI W - (1 : Int32)) &&& 31))) ||| ((1 : Int32) <<< (nI W &&& 31))) = nI (cov W 0) := by decide +kernel
theorem cov_c : ∀ W, W < 9 → 2 ≤ W → (((1 : Int32) ||| ((1 : Int32) <<< (nI W &&& 31))) ||| ((1 : Int32) <<< ((nI W + (1 : Int32)) &&& 31))) = nI (cov W 1) := by decide +kernel
theorem cov_d : ∀ W, W < 9 → 2 ≤ W → ((3 : Int32) ||| ((1 : Int32) <<< (nI W &&& 31))) = nI (cov W 2) := by decide +kernel
theorem cov_e : ∀ W, W < 9 → 2 ≤ W → ((3 : Int32) ||| ((1 : Int32) <<< ((nI W + (1 : Int32)) &&& 31))) = nI (cov W 3) := by decide +kernel
section SLOT2
variable {W H P wm b : Nat} {T : List TR} {fl rf : Int32} {μ : MS}
theorem coversE (hS : SR W H P wm T fl rf (m_s μ) b) (hT : T.length < 1000) (hb : b + 197 ≤ 1970) (hP : P < 64) (hW2 : 2 ≤ W) (hH2 : 2 ≤ H) (hW : W ≤ 8) (hH : H ≤ 8) {x y t : Nat} (hx : x < W) (hy : y < H) (ht : t < 4) : f_X5_covers μ (nI b) (nI x) (nI y) (nI t) = some (nI (if fit (fm W H P wm (pv T)) (8 * y + x) t then cov W t else 0)) := by
  have hS0 := hS.1
  have hr : ∃ r, f_X5_wrong μ (nI b) (if t = 0 then nI x - nI 1 else nI x) (nI y) (nI t) = some (nI r) ∧ r < 10 ∧ (r = 0 ↔ fit (fm W H P wm (pv T)) (8 * y + x) t = true) := by
    rw [fit_iff hW hH hx hy ht]
    by_cases g : (if t = 0 then 1 ≤ x else x + 2 ≤ W) ∧ y + 2 ≤ H
    · have hx' : (if t = 0 then nI x - nI 1 else nI x) = nI (if t = 0 then x - 1 else x) := by
        by_cases z : t = 0
        · rw [if_pos z, if_pos z]
          rw [if_pos z] at g
          exact pk_sub g.1
        · rw [if_neg z, if_neg z]
      have h2 : (if t = 0 then x - 1 else x) + 2 ≤ W := by
        have g1 := g.1
        by_cases z : t = 0 <;> simp only [z, if_true, if_false] at g1 ⊢ <;> omega
      rw [hx', wrongIn hS hT hb hP hW hH h2 g.2 ht]
      have hle : wn P wm (pv T) (if t = 0 then x - 1 else x) y t ≤ 4 := by
        rw [← wl_wn _ _ _ _ _ ht]
        exact wl_le _ _ _ _ _ _ _
      exact ⟨_, rfl, by omega, fun z => ⟨g.1, g.2, z⟩, fun z => z.2.2⟩
    · refine ⟨1, ?_, by decide, fun z => absurd z (by decide), fun z => absurd ⟨z.1, z.2.1⟩ g⟩
      apply wrongOut hS hb hW2 hH2 hW hH
      by_cases z : t = 0
      · rw [if_pos z] at g ⊢
        by_cases x0 : x = 0
        · subst x0
          exact Or.inl (Or.inl (by decide))
        · refine Or.inr (Or.inr (nI_lt ?_ (by omega)))
          omega
      · rw [if_neg z] at g ⊢
        by_cases x0 : x + 2 ≤ W
        · refine Or.inr (Or.inr (nI_lt ?_ (by omega)))
          omega
        · exact Or.inl (Or.inr (nI_lt (by omega) (by omega)))
  obtain ⟨r, h1, h2, h3⟩ := hr
  have ho : (if nI t = (0 : Int32) then some (nI x - (1 : Int32)) else some (nI x)) = some (if t = 0 then nI x - nI 1 else nI x) := by
    rw [show (0 : Int32) = nI 0 from rfl]
    simp only [nI_eq (show t < 2 ^ 31 by omega) (show 0 < 2 ^ 31 by decide)]
    split <;> rfl
  unfold f_X5_covers
  rw [ho, ob, h1, ob]
  by_cases z : r = 0
  · rw [if_pos (h3.mp z), z, if_pos (by decide), jldE (by omega) (by decide), ob, hS0]
    rcases (show t = 0 ∨ t = 1 ∨ t = 2 ∨ t = 3 by omega) with rfl | rfl | rfl | rfl
    · rw [if_pos (by decide), cov_b W (by omega) hW2]
    · rw [if_neg (by decide), if_pos (by decide), cov_c W (by omega) hW2]
    · rw [if_neg (by decide), if_neg (by decide), if_pos (by decide), cov_d W (by omega) hW2]
    · rw [if_neg (by decide), if_neg (by decide), if_neg (by decide), cov_e W (by omega) hW2]
  · rw [if_neg (fun y => z (h3.mpr y)), if_neg (nI_nle (by omega) (by omega))]
    rfl
end SLOT2
