/-! ===== p30: acts ===== -/
theorem LIT2 : (13 : Int32) = nI 13 ∧ (14 : Int32) = nI 14 ∧ (15 : Int32) = nI 15 ∧ (20 : Int32) = nI 20 := ⟨rfl, rfl, rfl, rfl⟩
theorem ne16 : ∀ a, a < 16 → ∀ b, b < 16 → a ≠ b → ¬ nI a = nI b := by decide +kernel
def zok (k : Nat) (α : AS) : Prop := zOK α ∧ ∃ j, j ≤ k ∧ zF α = nI j
def ZOK (k : Nat) (σ : ZT) : Prop := zok k (zs_g σ) ∧ (∀ α, α ∈ zs_L σ → zok k α) ∧ (∀ α, zs_a σ = some α → zok k α) ∧ (∀ α, zs_b σ = some α → zok k α) ∧ (zs_L σ).length ≤ 6
theorem zok_mono {k k' : Nat} {α : AS} (h : zok k α) (hk : k ≤ k') : zok k' α := by
  obtain ⟨h1, j, h2, h3⟩ := h
  exact ⟨h1, j, by omega, h3⟩
theorem ZOK_mono {k k' : Nat} {σ : ZT} (h : ZOK k σ) (hk : k ≤ k') : ZOK k' σ := ⟨zok_mono h.1 hk, fun α ha => zok_mono (h.2.1 α ha) hk, fun α ha => zok_mono (h.2.2.1 α ha) hk, fun α ha => zok_mono (h.2.2.2.1 α ha) hk, h.2.2.2.2⟩
theorem svA_len {A : List AS} (h : A.length ≤ 6) (α : AS) : (svA A α).length = if A.length = 6 then 6 else A.length + 1 := by
  unfold svA
  by_cases c : A.length < 6
  · rw [if_pos c, if_neg (by omega), List.length_append]; rfl
  · rw [if_neg c, if_pos (by omega), List.length_append, List.length_tail]
    simp
    omega
theorem svA_mem {A : List AS} {α β : AS} (h : β ∈ svA A α) : β ∈ A ∨ β = α := by
  unfold svA at h
  split at h
  · rcases List.mem_append.mp h with h | h
    · exact Or.inl h
    · exact Or.inr (List.mem_singleton.mp h)
  · rcases List.mem_append.mp h with h | h
    · exact Or.inl (List.mem_of_mem_tail h)
    · exact Or.inr (List.mem_singleton.mp h)
theorem svA_last (A : List AS) (α : AS) : (svA A α).getLast? = some α := by
  unfold svA
  split
  · rw [List.getLast?_append]; rfl
  · rw [List.getLast?_append]; rfl
theorem ZOK_sav {k k' : Nat} {σ : ZT} {α : AS} (h : ZOK k σ) (ha : zok k' α) (hk : k ≤ k') : ZOK k' (zsav σ α) := by
  refine ⟨ha, fun β hb => ?_, fun β hb => zok_mono (h.2.2.1 β hb) hk, fun β hb => zok_mono (h.2.2.2.1 β hb) hk, ?_⟩
  · rcases svA_mem hb with hb | rfl
    · exact zok_mono (h.2.1 β hb) hk
    · exact zok_mono h.1 hk
  · show (svA (zs_L σ) (zs_g σ)).length ≤ 6
    have := h.2.2.2.2
    rw [svA_len this]
    split <;> omega
/-! a block that was flipped: the same cells, and it can be flipped again -/
def fchk2 (hb : Bool) (x y t : Nat) : Bool := (qm (x, y, tnf hb t)).testBit (8 * y + x) && (qm (x2f hb x, y2f hb y, (tnf hb t + 2) % 4)).testBit (c2f hb x y) && patt hb x y (x, y, tnf hb t) (x2f hb x, y2f hb y, (tnf hb t + 2) % 4)
theorem fchk2_t : ∀ x, x < 7 → ∀ y, y < 6 → fchk2 true x y 2 = true ∧ fchk2 true x y 3 = true := by decide +kernel
theorem fchk2_f : ∀ x, x < 6 → ∀ y, y < 7 → fchk2 false x y 2 = true ∧ fchk2 false x y 1 = true := by decide +kernel
section FLZ
variable {W H P wm : Nat} {T : List TR} {hb : Bool} {x y : Nat}
theorem flip_ok (hO : OK W H P wm T) (hx : x + bw_ hb ≤ W) (hy : y + bh_ hb ≤ H) (hf : FLb hb T x y = true) : OK W H P wm (TF hb T x y) := by
  obtain ⟨d1, d2, d3, d4, d5, d6, d7, d8, d9, d10, d11, d12, d13, d14, d15, d16⟩ := flipData hO hx hy hf
  exact (OK_app (OK_app (OK_erase (OK_erase hO)) d13 d14 d10 d15).1 d11 d12 (Nat.mod_lt _ (by decide)) d16).1
theorem flip_same (hO : OK W H P wm T) (hx : x + bw_ hb ≤ W) (hy : y + bh_ hb ≤ H) (hf : FLb hb T x y = true) : pv (TF hb T x y) = pv T := by
  have hW := hO.2.1
  have hH := hO.2.2.2.1
  have hT := hO.2.2.2.2.2.2.2.2
  have hOF := flip_ok hO hx hy hf
  obtain ⟨d1, d2, d3, d4, d5, d6, d7, d8, d9, -⟩ := flipData hO hx hy hf
  have hf2 := hf
  unfold FLb at hf2
  rw [Bool.and_eq_true, Bool.and_eq_true] at hf2
  obtain ⟨⟨g1, g2⟩, g3⟩ := hf2
  obtain ⟨q2, e3, e4⟩ := ow_spec g2
  rw [getD_of d9, getD_of e3] at g3
  unfold patt at g3
  simp only [Bool.and_eq_true, beq_iff_eq, Bool.or_eq_true] at g3
  obtain ⟨⟨⟨⟨⟨-, -⟩, -⟩, p4⟩, p5⟩, p6⟩ := g3
  have hq2 : q2 = (x2f hb x, y2f hb y, if trf hb T x y == 2 then 0 else if hb then 1 else 3) := by
    obtain ⟨a, b, c⟩ := q2
    dsimp only at p4 p5 p6
    rw [p4, p5, p6]
    simp only [beq_iff_eq]
  have h4 : fl4 hb x y (trf hb T x y) = true := by
    cases hb
    · simp only [bw_, bh_, Bool.false_eq_true, if_false] at hx hy d4
      have := fl4_f x (by omega) y (by omega)
      rcases d4 with d | d
      · rw [d]; exact this.1
      · rw [d]; exact this.2
    · simp only [bw_, bh_, if_true] at hx hy d4
      have := fl4_t x (by omega) y (by omega)
      rcases d4 with d | d
      · rw [d]; exact this.1
      · rw [d]; exact this.2
  unfold fl4 at h4
  rw [← hq2] at h4
  have h5 := eq_of_beq ((Bool.and_eq_true _ _).mp h4).1
  have hq : ∀ c, (pv (T2f hb T x y)).testBit c = (((pv T).testBit c && !(qm (x, y, trf hb T x y)).testBit c) && !(qm q2).testBit c) := fun c => by
    unfold T2f
    have e5 : (T.eraseIdx (ow T (8 * y + x)))[jf (ow T (8 * y + x)) (ow T (c2f hb x y))]? = some q2 := by
      rw [List.getElem?_eraseIdx]
      unfold jf
      by_cases z : ow T (c2f hb x y) < ow T (8 * y + x)
      · rw [if_pos z, if_pos z]; exact e3
      · rw [if_neg z, if_neg (by omega), show ow T (c2f hb x y) - 1 + 1 = ow T (c2f hb x y) by omega]
        exact e3
    rw [pv_erase (TO_erase hT) e5, pv_erase hT d9]
  refine ext64 (OK_pv hOF).1 (OK_pv hO).1 (fun c _ => ?_)
  have h6 : ((qm (x, y, tnf hb (trf hb T x y))).testBit c || (qm (x2f hb x, y2f hb y, (tnf hb (trf hb T x y) + 2) % 4)).testBit c) = ((qm (x, y, trf hb T x y)).testBit c || (qm q2).testBit c) := by
    rw [← Nat.testBit_or, ← Nat.testBit_or, h5]
  have i1 : (qm (x, y, trf hb T x y)).testBit c = true → (pv T).testBit c = true := pv_at d9
  have i2 : (qm q2).testBit c = true → (pv T).testBit c = true := pv_at e3
  unfold TF
  rw [pv_app, pv_app, Nat.testBit_or, Nat.testBit_or, hq c, Bool.or_assoc, h6]
  cases a1 : (qm (x, y, trf hb T x y)).testBit c with
  | true => rw [i1 a1]; simp
  | false =>
    cases a2 : (qm q2).testBit c with
    | true => rw [i2 a2]; simp
    | false => simp
theorem flip_again (hO : OK W H P wm T) (hx : x + bw_ hb ≤ W) (hy : y + bh_ hb ≤ H) (hf : FLb hb T x y = true) : FLb hb (TF hb T x y) x y = true := by
  have hW := hO.2.1
  have hH := hO.2.2.2.1
  have hOF := flip_ok hO hx hy hf
  have hTF := hOF.2.2.2.2.2.2.2.2
  obtain ⟨d1, d2, d3, d4, d5, d6, d7, d8, d9, -⟩ := flipData hO hx hy hf
  have h4 : fchk2 hb x y (trf hb T x y) = true := by
    cases hb
    · simp only [bw_, bh_, Bool.false_eq_true, if_false] at hx hy d4
      have := fchk2_f x (by omega) y (by omega)
      rcases d4 with d | d
      · rw [d]; exact this.1
      · rw [d]; exact this.2
    · simp only [bw_, bh_, if_true] at hx hy d4
      have := fchk2_t x (by omega) y (by omega)
      rcases d4 with d | d
      · rw [d]; exact this.1
      · rw [d]; exact this.2
  unfold fchk2 at h4
  rw [Bool.and_eq_true, Bool.and_eq_true] at h4
  obtain ⟨⟨k1, k2⟩, k3⟩ := h4
  have n1 : (TF hb T x y)[(T2f hb T x y).length]? = some (x, y, tnf hb (trf hb T x y)) := by
    unfold TF
    rw [List.append_assoc, List.getElem?_append_right (Nat.le_refl _), Nat.sub_self]
    rfl
  have n2 : (TF hb T x y)[(T2f hb T x y).length + 1]? = some (x2f hb x, y2f hb y, (tnf hb (trf hb T x y) + 2) % 4) := by
    unfold TF
    rw [List.append_assoc, List.getElem?_append_right (Nat.le_add_right _ 1), Nat.add_sub_cancel_left]
    rfl
  unfold FLb
  rw [pv_at n1 k1, pv_at n2 k2, ow_uniq hTF n1 k1, ow_uniq hTF n2 k2, getD_of n1, getD_of n2, k3]
  rfl
end FLZ
/-! what a move comes to -/
def MVP (k : Nat) (σ : ZT) (v : Int32) (σ' : ZT) : Prop := ((v = -2000001 ∨ v = -2000002) ∧ σ' = σ) ∨ ∃ m α, m < 2 ^ 31 ∧ v = nI m ∧ σ' = zsav σ α ∧ zok k α
def sqn (W P : Nat) : Bool := !decide (P % 8 < W) || !decide (P / 8 < W) || ((sq 4 0 0 W P).length * 3 + 1 == W * W)
theorem sqn_ok : ∀ P, P < 64 → sqn 2 P = true ∧ sqn 4 P = true ∧ sqn 8 P = true := by decide +kernel
theorem sq_num {W P : Nat} (hW : W = 2 ∨ W = 4 ∨ W = 8) (h1 : P % 8 < W) (h2 : P / 8 < W) : (sq 4 0 0 W P).length * 3 + 1 = W * W := by
  have hP : P < 64 := by omega
  have : sqn W P = true := by
    obtain ⟨a, b, c⟩ := sqn_ok P hP
    rcases hW with rfl | rfl | rfl <;> assumption
  unfold sqn at this
  rw [decide_eq_true h1, decide_eq_true h2] at this
  simpa using this
section ZA
variable {σ : ZT} {k : Nat}
theorem zo_garden (h : ZOK k σ) {A B : Nat} (hA : 2 ≤ A) (hA2 : A ≤ 8) (hB : 2 ≤ B) (hB2 : B ≤ 8) : ∃ v σ', mv_garden σ (nI A) (nI B) = some (v, σ') ∧ MVP k σ v σ' := by
  have hAB : A * B ≤ 64 := Nat.mul_le_mul hA2 hB2
  unfold mv_garden
  rw [jixE (by omega) (by decide), oelS, jixE (by omega) (by decide), oelS, if_pos ⟨hA, hB⟩]
  have hN : OK A B 0 0 [] := ⟨hA, hA2, hB, hB2, by omega, by omega, by decide, fun j hj => absurd hj (by rw [Nat.zero_testBit]; decide), trivial⟩
  exact ⟨_, _, rfl, Or.inr ⟨A * B, _, by omega, rfl, rfl, hN, h.1.2⟩⟩
theorem zo_pond (h : ZOK k σ) {a b : Nat} (ha : a < zW (zs_g σ)) (hb : b < zH (zs_g σ)) : ∃ v σ', mv_pond σ (nI a) (nI b) = some (v, σ') ∧ MVP k σ v σ' := by
  have hO := h.1.1
  have hW := hO.2.1
  have hH := hO.2.2.2.1
  have hP := OK_P hO
  unfold mv_pond
  rw [jixE ha (by omega), oelS, jixE hb (by omega), oelS]
  by_cases c : (zM (zs_g σ)).testBit (8 * b + a) = false ∧ (pv (zT (zs_g σ))).testBit (8 * b + a) = false
  · rw [if_pos c]
    have hN := OK_pond hO (c := 8 * b + a) (by omega) (by omega) c.1 c.2
    exact ⟨_, _, rfl, Or.inr ⟨zP (zs_g σ) % 8 + 10 * (zP (zs_g σ) / 8), _, by omega, rfl, rfl, hN, h.1.2⟩⟩
  · rw [if_neg c]
    exact ⟨_, _, rfl, Or.inl ⟨Or.inr rfl, rfl⟩⟩
theorem zo_wall (h : ZOK k σ) {a b : Nat} (ha : a < zW (zs_g σ)) (hb : b < zH (zs_g σ)) : ∃ v σ', mv_wall σ (nI a) (nI b) = some (v, σ') ∧ MVP k σ v σ' := by
  have hO := h.1.1
  have hW := hO.2.1
  have hH := hO.2.2.2.1
  unfold mv_wall
  rw [jixE ha (by omega), oelS, jixE hb (by omega), oelS]
  by_cases c : 8 * b + a ≠ zP (zs_g σ) ∧ (pv (zT (zs_g σ))).testBit (8 * b + a) = false
  · rw [if_pos c]
    have hN := OK_wall hO (c := 8 * b + a) (by omega) (by omega) c.1 c.2
    have hp := pc_le (zM (zs_g σ) ^^^ 2 ^ (8 * b + a))
    exact ⟨_, _, rfl, Or.inr ⟨_, _, by omega, rfl, rfl, hN, h.1.2⟩⟩
  · rw [if_neg c]
    exact ⟨_, _, rfl, Or.inl ⟨Or.inr rfl, rfl⟩⟩
theorem zo_lift (h : ZOK k σ) {a b : Nat} (ha : a < zW (zs_g σ)) (hb : b < zH (zs_g σ)) : ∃ v σ', mv_lift σ (nI a) (nI b) = some (v, σ') ∧ MVP k σ v σ' := by
  have hO := h.1.1
  have hW := hO.2.1
  have hH := hO.2.2.2.1
  have hl := OK_len hO
  unfold mv_lift
  rw [jixE ha (by omega), oelS, jixE hb (by omega), oelS]
  by_cases c : (pv (zT (zs_g σ))).testBit (8 * b + a) = true
  · rw [if_pos c]
    have hi := ow_lt c
    have hN : OK (zW (zs_g σ)) (zH (zs_g σ)) (zP (zs_g σ)) (zM (zs_g σ)) ((zT (zs_g σ)).eraseIdx (ow (zT (zs_g σ)) (8 * b + a))) := OK_erase hO
    exact ⟨_, _, rfl, Or.inr ⟨_, _, by omega, rfl, rfl, hN, h.1.2⟩⟩
  · rw [if_neg c]
    exact ⟨_, _, rfl, Or.inl ⟨Or.inr rfl, rfl⟩⟩
theorem zo_lay (h : ZOK k σ) (a b : Int32) {t : Nat} (ht : t < 4) : ∃ α, mv_lay σ a b (nI t) = some (nI (zwhy (zs_g σ) a b t), zsav σ α) ∧ zok k α ∧ zwhy (zs_g σ) a b t ≤ 4 ∧ zR α = zR (zs_g σ) + nI (if zwhy (zs_g σ) a b t = 0 then 0 else 1) ∧ pc (zFr α) + (if zwhy (zs_g σ) a b t = 0 then 3 else 0) = pc (zFr (zs_g σ)) := by
  have hO := h.1.1
  have hW := hO.2.1
  have hH := hO.2.2.2.1
  unfold mv_lay zwhy
  rw [jixE ht (by decide), oelS]
  cases e1 : jix (zW (zs_g σ) + 1 - 2) a with
  | none => exact ⟨_, rfl, h.1, (show (1 : Nat) ≤ 4 by decide), rfl, rfl⟩
  | some X =>
    rw [oelS, oelS]
    cases e2 : jix (zH (zs_g σ) + 1 - 2) b with
    | none => exact ⟨_, rfl, h.1, (show (1 : Nat) ≤ 4 by decide), rfl, rfl⟩
    | some Y =>
      rw [oelS, oelS]
      have hX := (jxS e1).1
      have hY := (jxS e2).1
      have hle := wn_le (zP (zs_g σ)) (zM (zs_g σ)) (pv (zT (zs_g σ))) X Y t
      by_cases z : wn (zP (zs_g σ)) (zM (zs_g σ)) (pv (zT (zs_g σ))) X Y t = 0
      · rw [if_pos z, z]
        have hN := (OK_app hO (show X + 2 ≤ _ by omega) (show Y + 2 ≤ _ by omega) ht z).1
        refine ⟨zlaid (zs_g σ) X Y t, rfl, ⟨hN, h.1.2⟩, by decide, ?_, ?_⟩
        · rw [if_pos rfl]
          exact (Int32.add_zero _).symm
        · rw [if_pos rfl]
          have p1 := pc_all hO
          have p2 := pc_all hN
          rw [List.length_append] at p2
          simp only [List.length_cons, List.length_nil] at p2
          show pc (fm (zW (zs_g σ)) (zH (zs_g σ)) (zP (zs_g σ)) (zM (zs_g σ)) (pv (zT (zs_g σ) ++ [(X, Y, t)]))) + 3 = pc (fm (zW (zs_g σ)) (zH (zs_g σ)) (zP (zs_g σ)) (zM (zs_g σ)) (pv (zT (zs_g σ))))
          omega
      · rw [if_neg z]
        refine ⟨zref (zs_g σ), rfl, h.1, hle, ?_, ?_⟩
        · rw [if_neg z]
        · rw [if_neg z]
          rfl
theorem zo_flip (h : ZOK k σ) (hk : k < 1000) {a b e : Nat} (ha : a < zW (zs_g σ)) (hb : b < zH (zs_g σ)) (he : e < 2) : ∃ v σ', mv_flip σ (nI a) (nI b) (nI e) = some (v, σ') ∧ (((v = -2000001 ∨ v = -2000002) ∧ σ' = σ) ∨ ∃ m α β, m < 2 ^ 31 ∧ v = nI m ∧ σ' = zsav σ α ∧ zok (k + 1) α ∧ v = zF (zs_g σ) + nI 1 ∧ zFr α = zFr (zs_g σ) ∧ zok (k + 2) β ∧ mv_flip σ' (nI a) (nI b) (nI e) = some (v + nI 1, zsav σ' β)) := by
  have hO := h.1.1
  obtain ⟨j, hj, hF⟩ := h.1.2
  have hW := hO.2.1
  have hH := hO.2.2.2.1
  obtain ⟨f, hf⟩ : ∃ f, f = (e == 1) := ⟨_, rfl⟩
  unfold mv_flip
  rw [jixE he (by decide), ob, ← hf]
  by_cases c1 : a + bw_ f ≤ zW (zs_g σ)
  · rw [jixE (by omega) (by omega), oelS]
    by_cases c2 : b + bh_ f ≤ zH (zs_g σ)
    · rw [jixE (by omega) (by omega), oelS]
      by_cases c : FLb f (zT (zs_g σ)) a b = true
      · rw [if_pos c]
        have h1 := flip_ok hO c1 c2 c
        have h2 := flip_same hO c1 c2 c
        have h3 := flip_again hO c1 c2 c
        have h4 := flip_ok h1 c1 c2 h3
        have f1 : zF (zs_g σ) + nI 1 = nI (j + 1) := by rw [hF, nI_add]
        have f2 : zF (zs_g σ) + nI 1 + nI 1 = nI (j + 2) := by rw [f1, nI_add]
        refine ⟨_, _, rfl, Or.inr ⟨j + 1, zflip (zs_g σ) f a b, zflip (zflip (zs_g σ) f a b) f a b, by omega, f1, rfl, ⟨h1, j + 1, by omega, f1⟩, rfl, ?_, ⟨h4, j + 2, by omega, f2⟩, ?_⟩⟩
        · show fm (zW (zs_g σ)) (zH (zs_g σ)) (zP (zs_g σ)) (zM (zs_g σ)) (pv (TF f (zT (zs_g σ)) a b)) = _
          rw [h2]
        · rw [ob, ← hf]
          show oel (jix (zW (zs_g σ) + 1 - bw_ f) (nI a)) _ _ = _
          rw [jixE (by omega) (by omega), oelS]
          show oel (jix (zH (zs_g σ) + 1 - bh_ f) (nI b)) _ _ = _
          rw [jixE (by omega) (by omega), oelS]
          show (if FLb f (TF f (zT (zs_g σ)) a b) a b = true then _ else _) = _
          rw [if_pos h3]
      · rw [if_neg c]
        exact ⟨_, _, rfl, Or.inl ⟨Or.inr rfl, rfl⟩⟩
    · rw [jxO (by omega) (by omega), oelN]
      exact ⟨_, _, rfl, Or.inl ⟨Or.inl rfl, rfl⟩⟩
  · rw [jxO (by omega) (by omega), oelN]
    exact ⟨_, _, rfl, Or.inl ⟨Or.inl rfl, rfl⟩⟩
theorem zo_fill (h : ZOK k σ) : ∃ v σ', mv_fill σ = some (v, σ') ∧ (((v = -2000001 ∨ v = -2000002) ∧ σ' = σ ∧ CW (zFr (zs_g σ)) 64 0 = 0) ∨ ∃ m α, m < 2 ^ 31 ∧ v = nI m ∧ σ' = zsav σ α ∧ zok k α ∧ CW (zFr (zs_g σ)) 64 0 ≠ 0 ∧ m * 3 = pc (zFr (zs_g σ)) ∧ zFr α = 0) := by
  have hO := h.1.1
  have hl := OK_len hO
  unfold mv_fill
  by_cases z : CW (zFr (zs_g σ)) 64 0 = 0
  · rw [if_pos z]
    exact ⟨_, _, rfl, Or.inl ⟨Or.inl rfl, rfl, z⟩⟩
  · rw [if_neg z]
    obtain ⟨U, e1, hN, h0⟩ := GRD_all hO z
    have hl2 := OK_len hN
    have p1 := pc_all hO
    have p2 := pc_all hN
    rw [h0, show pc 0 = 0 from fb_ct_zero.mpr (fun k _ => Nat.zero_testBit k)] at p2
    rw [List.length_append] at p2 hl2
    refine ⟨_, _, rfl, Or.inr ⟨U.length, zwT (zs_g σ) (zT (zs_g σ) ++ U), by omega, ?_, ?_, ⟨hN, h.1.2⟩, z, ?_, h0⟩⟩
    · rw [e1, List.length_append, pk_sub (by omega), Nat.add_sub_cancel_left]
    · rw [e1]
    · show _ = pc (fm (zW (zs_g σ)) (zH (zs_g σ)) (zP (zs_g σ)) (zM (zs_g σ)) (pv (zT (zs_g σ))))
      omega
theorem zo_halve (h : ZOK k σ) : ∃ v σ', mv_halve σ = some (v, σ') ∧ (((v = -2000001 ∨ v = -2000002) ∧ σ' = σ) ∨ ∃ m α, m < 2 ^ 31 ∧ v = nI m ∧ σ' = zsav σ α ∧ zok k α ∧ zFr α = 0 ∧ m * 3 + 1 = zW α * zW α) := by
  have hO := h.1.1
  unfold mv_halve
  by_cases c : hvb (zW (zs_g σ)) (zH (zs_g σ)) (zM (zs_g σ)) (zT (zs_g σ)).length = true
  · rw [if_pos c]
    have c2 := c
    unfold hvb at c2
    simp only [Bool.and_eq_true, Bool.or_eq_true, decide_eq_true_eq] at c2
    obtain ⟨⟨⟨d1, d2⟩, d4⟩, d3⟩ := c2
    have dT := List.eq_nil_of_length_eq_zero d3
    have hWs : zW (zs_g σ) = 2 ∨ zW (zs_g σ) = 4 ∨ zW (zs_g σ) = 8 := by rcases d1 with (d | d) | d <;> omega
    have hO2 : OK (zW (zs_g σ)) (zH (zs_g σ)) (zP (zs_g σ)) 0 [] := by
      have := hO
      unfold zOK at this
      rw [d4, dT] at this
      exact this
    have hP1 := hO2.2.2.2.2.1
    have hP2 := hO2.2.2.2.2.2.1
    rw [← d2] at hP2 hO2
    obtain ⟨q1, -⟩ := sq_ok hWs hP1 hP2
    have hOL := LSq_OK hO2 q1
    rw [List.nil_append] at hOL
    have hl := OK_len hOL
    have p2 := pc_all hOL
    rw [show pc 0 = 0 from fb_ct_zero.mpr (fun k _ => Nat.zero_testBit k)] at p2
    have hsq := sq_num hWs hP1 hP2
    have hfz : fm (zW (zs_g σ)) (zW (zs_g σ)) (zP (zs_g σ)) 0 (pv (sq 4 0 0 (zW (zs_g σ)) (zP (zs_g σ)))) = 0 := (pc_zero (fm_lt hO2.2.1 hO2.2.1)).mp (by omega)
    refine ⟨_, _, rfl, Or.inr ⟨_, zwT (zs_g σ) (sq 4 0 0 (zW (zs_g σ)) (zP (zs_g σ))), by omega, rfl, rfl, ⟨?_, h.1.2⟩, ?_, ?_⟩⟩
    · show OK (zW (zs_g σ)) (zH (zs_g σ)) (zP (zs_g σ)) (zM (zs_g σ)) _
      rw [← d2, d4]
      exact hOL
    · show fm (zW (zs_g σ)) (zH (zs_g σ)) (zP (zs_g σ)) (zM (zs_g σ)) (pv (sq 4 0 0 (zW (zs_g σ)) (zP (zs_g σ)))) = 0
      rw [← d2, d4]
      exact hfz
    · show _ = zW (zs_g σ) * zW (zs_g σ)
      omega
  · rw [if_neg c]
    exact ⟨_, _, rfl, Or.inl ⟨Or.inl rfl, rfl⟩⟩
theorem zo_goBack (h : ZOK k σ) {a : Nat} (ha : a < 2) : ∃ v σ', mv_goBack σ (nI a) = some (v, σ') ∧ MVP k σ v σ' := by
  unfold mv_goBack
  rw [jixE ha (by decide), oelS]
  have hs : ∀ α, zslot σ a = some α → zok k α := fun α e => by
    unfold zslot at e
    split at e
    · exact h.2.2.1 α e
    · exact h.2.2.2.1 α e
  cases e : zslot σ a with
  | none => exact ⟨_, _, rfl, Or.inl ⟨Or.inr rfl, rfl⟩⟩
  | some α =>
    have hl := OK_len (hs α e).1
    exact ⟨_, _, rfl, Or.inr ⟨_, α, by omega, rfl, rfl, hs α e⟩⟩
theorem zo_keep (h : ZOK k σ) {a : Nat} (ha : a < 2) : ∃ v σ' m, mv_keep σ (nI a) = some (v, σ') ∧ m < 2 ^ 31 ∧ v = nI m ∧ zs_g σ' = zs_g σ ∧ zs_L σ' = zs_L σ ∧ ZOK k σ' := by
  have hl := OK_len h.1.1
  unfold mv_keep
  rw [jixE ha (by decide), oelS]
  refine ⟨_, _, _, rfl, by omega, rfl, rfl, rfl, h.1, h.2.1, fun α e => ?_, fun α e => ?_, h.2.2.2.2⟩
  · have e : (if a = 0 then some (zs_g σ) else zs_a σ) = some α := e
    split at e
    · cases e; exact h.1
    · exact h.2.2.1 α e
  · have e : (if a = 0 then zs_b σ else some (zs_g σ)) = some α := e
    split at e
    · exact h.2.2.2.1 α e
    · cases e; exact h.1
/-- what acts comes to: it throws, it saves, or it keeps -/
def ACTF (k d z a b : Nat) (σ : ZT) (v : Int32) (σ' : ZT) : Prop :=
  ((v = -2000001 ∨ v = -2000002) ∧ σ' = σ ∧ (d ≤ 3 ∨ 9 ≤ d) ∧ (d = 12 ∨ d = 13 → CW (zFr (zs_g σ)) 64 0 = 0)) ∨
  (∃ m α, m < 2 ^ 31 ∧ v = nI m ∧ σ' = zsav σ α ∧ zok (k + 1) α ∧ (d = 15 → z % 2 = 0) ∧
    (4 ≤ d ∧ d ≤ 8 → m = zwhy (zs_g σ) (nI a) (nI b) (z / 64 % 4) ∧ zR α = zR (zs_g σ) + nI (if m = 0 then 0 else 1) ∧ pc (zFr α) + (if m = 0 then 3 else 0) = pc (zFr (zs_g σ))) ∧
    (d = 10 ∨ d = 11 → v = zF (zs_g σ) + nI 1 ∧ zFr α = zFr (zs_g σ) ∧ ∃ β, zok (k + 2) β ∧ mv_flip σ' (nI a) (nI b) (nI (if z / 64 % 2 = 0 then 1 else 0)) = some (v + nI 1, zsav σ' β)) ∧
    (d = 12 ∨ d = 13 → CW (zFr (zs_g σ)) 64 0 ≠ 0 ∧ m * 3 = pc (zFr (zs_g σ)) ∧ zFr α = 0) ∧
    (d = 14 → zFr α = 0 ∧ m * 3 + 1 = zW α * zW α)) ∨
  (∃ m, m < 2 ^ 31 ∧ v = nI m ∧ d = 15 ∧ z % 2 = 1 ∧ zs_g σ' = zs_g σ ∧ zs_L σ' = zs_L σ ∧ ZOK k σ')
theorem act_pl {d z a b : Nat} {v : Int32} {σ' : ZT} (hd : d ≤ 3 ∨ d = 9 ∨ (d = 15 ∧ z % 2 = 0)) (h : MVP k σ v σ') : ACTF k d z a b σ v σ' := by
  rcases h with ⟨h1, h2⟩ | ⟨m, α, h1, h2, h3, h4⟩
  · exact Or.inl ⟨h1, h2, by omega, fun e => by omega⟩
  · exact Or.inr (Or.inl ⟨m, α, h1, h2, h3, zok_mono h4 (Nat.le_succ k), fun e => by omega, fun e => by omega, fun e => by omega, fun e => by omega, fun e => by omega⟩)
theorem bo {α β : Type} {o : Option (α × β)} {v : α} {w : β} (h : o = some (v, w)) : (Option.bind o fun r => some (r.1, r.2)) = some (v, w) := by rw [h]; rfl
set_option maxHeartbeats 4000000 in
theorem acts_E (h : ZOK k σ) (hk : k < 1000) {n : Nat} (hn : n < 2 ^ 31) : ∃ v σ', f_L_acts σ (nI n) = some (v, σ') ∧ ACTF k (n % 16) (n / 16) (n / 16 % zW (zs_g σ)) (n / 16 / 8 % zH (zs_g σ)) σ v σ' := by
  have hO := h.1.1
  have hW2 := hO.1
  have hW := hO.2.1
  have hH2 := hO.2.2.1
  have hH := hO.2.2.2.1
  have hnz1 : ¬ nI (zW (zs_g σ)) = nI 0 := by rw [nI_eq (by omega) (by decide)]; omega
  have hnz2 : ¬ nI (zH (zs_g σ)) = nI 0 := by rw [nI_eq (by omega) (by decide)]; omega
  obtain ⟨z, hz⟩ : ∃ z, z = n / 16 := ⟨_, rfl⟩
  obtain ⟨d, hd⟩ : ∃ d, d = n % 16 := ⟨_, rfl⟩
  have hd16 : d < 16 := by omega
  have hz31 : z < 2 ^ 31 := by omega
  have ha : z % zW (zs_g σ) < zW (zs_g σ) := Nat.mod_lt _ (by omega)
  have hb : z / 8 % zH (zs_g σ) < zH (zs_g σ) := Nat.mod_lt _ (by omega)
  have hfl : (if nI (z / 64 % 2) = nI 0 then some (nI 1) else some (nI 0)) = some (nI (if z / 64 % 2 = 0 then 1 else 0)) := by
    rcases (show z / 64 % 2 = 0 ∨ z / 64 % 2 = 1 by omega) with e | e <;> rw [e] <;> rfl
  unfold f_L_acts
  simp only [LIT, LIT2]
  rw [pk_div hn (by decide) (by decide), ← hz, jletE, qc0, ob, if_neg hnz1, pk_rem hz31 (by omega) (by omega), jletE, qc1, ob, if_neg hnz2, pk_div hz31 (by decide) (by decide), pk_rem (show z / 8 < 2 ^ 31 by omega) (by omega) (by omega), jletE, ← hd]
  have hrem : nI n - nI z * nI 16 = nI d := by
    have := pk_rem hn (show 0 < 16 by decide) (by decide)
    rw [pk_div hn (by decide) (by decide), ← hz, ← hd] at this
    exact this
  simp only [hrem]
  rw [pk_rem hz31 (by decide) (by decide), pk_rem (show z / 8 < 2 ^ 31 by omega) (by decide) (by decide), nI_add, nI_add]
  have e64 : nI z / nI 64 = nI (z / 64) := pk_div hz31 (by decide) (by decide)
  have e4 : nI (z / 64) - nI (z / 64) / nI 4 * nI 4 = nI (z / 64 % 4) := pk_rem (by omega) (by decide) (by decide)
  have e2 : nI (z / 64) - nI (z / 64) / nI 2 * nI 2 = nI (z / 64 % 2) := pk_rem (by omega) (by decide) (by decide)
  have ez2 : nI z - nI z / nI 2 * nI 2 = nI (z % 2) := pk_rem hz31 (by decide) (by decide)
  have eh : nI z / nI 2 = nI (z / 2) := pk_div hz31 (by decide) (by decide)
  have eh2 : nI (z / 2) - nI (z / 2) / nI 2 * nI 2 = nI (z / 2 % 2) := pk_rem (by omega) (by decide) (by decide)
  simp only [e64, e4, e2, hfl, ob]
  rcases (show d = 0 ∨ d = 1 ∨ d = 2 ∨ d = 3 ∨ d = 4 ∨ d = 5 ∨ d = 6 ∨ d = 7 ∨ d = 8 ∨ d = 9 ∨ d = 10 ∨ d = 11 ∨ d = 12 ∨ d = 13 ∨ d = 14 ∨ d = 15 by omega) with e | e | e | e | e | e | e | e | e | e | e | e | e | e | e | e
  · rw [e]
    rw [if_pos rfl]
    obtain ⟨v, σ', e1, hp⟩ := zo_garden h (A := 2 + z % 4) (B := 2 + z / 8 % 4) (by omega) (by omega) (by omega) (by omega)
    exact ⟨v, σ', bo e1, act_pl (by omega) hp⟩
  · rw [e]
    rw [if_neg (ne16 1 (by decide) 0 (by decide) (by decide)), if_pos rfl]
    obtain ⟨v, σ', e1, hp⟩ := zo_pond h ha hb
    exact ⟨v, σ', bo e1, act_pl (by omega) hp⟩
  · rw [e]
    rw [if_neg (ne16 2 (by decide) 0 (by decide) (by decide)), if_neg (ne16 2 (by decide) 1 (by decide) (by decide)), if_pos rfl]
    obtain ⟨v, σ', e1, hp⟩ := zo_pond h ha hb
    exact ⟨v, σ', bo e1, act_pl (by omega) hp⟩
  · rw [e]
    rw [if_neg (ne16 3 (by decide) 0 (by decide) (by decide)), if_neg (ne16 3 (by decide) 1 (by decide) (by decide)), if_neg (ne16 3 (by decide) 2 (by decide) (by decide)), if_pos rfl]
    obtain ⟨v, σ', e1, hp⟩ := zo_wall h ha hb
    exact ⟨v, σ', bo e1, act_pl (by omega) hp⟩
  · rw [e]
    rw [if_neg (ne16 4 (by decide) 0 (by decide) (by decide)), if_neg (ne16 4 (by decide) 1 (by decide) (by decide)), if_neg (ne16 4 (by decide) 2 (by decide) (by decide)), if_neg (ne16 4 (by decide) 3 (by decide) (by decide)), if_pos rfl]
    obtain ⟨α, e1, h1, h2, h3, h4⟩ := zo_lay h (nI (z % zW (zs_g σ))) (nI (z / 8 % zH (zs_g σ))) (t := z / 64 % 4) (by omega)
    exact ⟨_, _, bo e1, Or.inr (Or.inl ⟨_, α, by omega, rfl, rfl, zok_mono h1 (Nat.le_succ k), fun e => by omega, fun _ => ⟨rfl, h3, h4⟩, fun e => by omega, fun e => by omega, fun e => by omega⟩)⟩
  · rw [e]
    rw [if_neg (ne16 5 (by decide) 0 (by decide) (by decide)), if_neg (ne16 5 (by decide) 1 (by decide) (by decide)), if_neg (ne16 5 (by decide) 2 (by decide) (by decide)), if_neg (ne16 5 (by decide) 3 (by decide) (by decide)), if_neg (ne16 5 (by decide) 4 (by decide) (by decide)), if_pos rfl]
    obtain ⟨α, e1, h1, h2, h3, h4⟩ := zo_lay h (nI (z % zW (zs_g σ))) (nI (z / 8 % zH (zs_g σ))) (t := z / 64 % 4) (by omega)
    exact ⟨_, _, bo e1, Or.inr (Or.inl ⟨_, α, by omega, rfl, rfl, zok_mono h1 (Nat.le_succ k), fun e => by omega, fun _ => ⟨rfl, h3, h4⟩, fun e => by omega, fun e => by omega, fun e => by omega⟩)⟩
  · rw [e]
    rw [if_neg (ne16 6 (by decide) 0 (by decide) (by decide)), if_neg (ne16 6 (by decide) 1 (by decide) (by decide)), if_neg (ne16 6 (by decide) 2 (by decide) (by decide)), if_neg (ne16 6 (by decide) 3 (by decide) (by decide)), if_neg (ne16 6 (by decide) 4 (by decide) (by decide)), if_neg (ne16 6 (by decide) 5 (by decide) (by decide)), if_pos rfl]
    obtain ⟨α, e1, h1, h2, h3, h4⟩ := zo_lay h (nI (z % zW (zs_g σ))) (nI (z / 8 % zH (zs_g σ))) (t := z / 64 % 4) (by omega)
    exact ⟨_, _, bo e1, Or.inr (Or.inl ⟨_, α, by omega, rfl, rfl, zok_mono h1 (Nat.le_succ k), fun e => by omega, fun _ => ⟨rfl, h3, h4⟩, fun e => by omega, fun e => by omega, fun e => by omega⟩)⟩
  · rw [e]
    rw [if_neg (ne16 7 (by decide) 0 (by decide) (by decide)), if_neg (ne16 7 (by decide) 1 (by decide) (by decide)), if_neg (ne16 7 (by decide) 2 (by decide) (by decide)), if_neg (ne16 7 (by decide) 3 (by decide) (by decide)), if_neg (ne16 7 (by decide) 4 (by decide) (by decide)), if_neg (ne16 7 (by decide) 5 (by decide) (by decide)), if_neg (ne16 7 (by decide) 6 (by decide) (by decide)), if_pos rfl]
    obtain ⟨α, e1, h1, h2, h3, h4⟩ := zo_lay h (nI (z % zW (zs_g σ))) (nI (z / 8 % zH (zs_g σ))) (t := z / 64 % 4) (by omega)
    exact ⟨_, _, bo e1, Or.inr (Or.inl ⟨_, α, by omega, rfl, rfl, zok_mono h1 (Nat.le_succ k), fun e => by omega, fun _ => ⟨rfl, h3, h4⟩, fun e => by omega, fun e => by omega, fun e => by omega⟩)⟩
  · rw [e]
    rw [if_neg (ne16 8 (by decide) 0 (by decide) (by decide)), if_neg (ne16 8 (by decide) 1 (by decide) (by decide)), if_neg (ne16 8 (by decide) 2 (by decide) (by decide)), if_neg (ne16 8 (by decide) 3 (by decide) (by decide)), if_neg (ne16 8 (by decide) 4 (by decide) (by decide)), if_neg (ne16 8 (by decide) 5 (by decide) (by decide)), if_neg (ne16 8 (by decide) 6 (by decide) (by decide)), if_neg (ne16 8 (by decide) 7 (by decide) (by decide)), if_pos rfl]
    obtain ⟨α, e1, h1, h2, h3, h4⟩ := zo_lay h (nI (z % zW (zs_g σ))) (nI (z / 8 % zH (zs_g σ))) (t := z / 64 % 4) (by omega)
    exact ⟨_, _, bo e1, Or.inr (Or.inl ⟨_, α, by omega, rfl, rfl, zok_mono h1 (Nat.le_succ k), fun e => by omega, fun _ => ⟨rfl, h3, h4⟩, fun e => by omega, fun e => by omega, fun e => by omega⟩)⟩
  · rw [e]
    rw [if_neg (ne16 9 (by decide) 0 (by decide) (by decide)), if_neg (ne16 9 (by decide) 1 (by decide) (by decide)), if_neg (ne16 9 (by decide) 2 (by decide) (by decide)), if_neg (ne16 9 (by decide) 3 (by decide) (by decide)), if_neg (ne16 9 (by decide) 4 (by decide) (by decide)), if_neg (ne16 9 (by decide) 5 (by decide) (by decide)), if_neg (ne16 9 (by decide) 6 (by decide) (by decide)), if_neg (ne16 9 (by decide) 7 (by decide) (by decide)), if_neg (ne16 9 (by decide) 8 (by decide) (by decide)), if_pos rfl]
    obtain ⟨v, σ', e1, hp⟩ := zo_lift h ha hb
    exact ⟨v, σ', bo e1, act_pl (by omega) hp⟩
  · rw [e]
    rw [if_neg (ne16 10 (by decide) 0 (by decide) (by decide)), if_neg (ne16 10 (by decide) 1 (by decide) (by decide)), if_neg (ne16 10 (by decide) 2 (by decide) (by decide)), if_neg (ne16 10 (by decide) 3 (by decide) (by decide)), if_neg (ne16 10 (by decide) 4 (by decide) (by decide)), if_neg (ne16 10 (by decide) 5 (by decide) (by decide)), if_neg (ne16 10 (by decide) 6 (by decide) (by decide)), if_neg (ne16 10 (by decide) 7 (by decide) (by decide)), if_neg (ne16 10 (by decide) 8 (by decide) (by decide)), if_neg (ne16 10 (by decide) 9 (by decide) (by decide)), if_pos rfl]
    obtain ⟨v, σ', e1, hp⟩ := zo_flip h hk ha hb (e := if z / 64 % 2 = 0 then 1 else 0) (by split <;> decide)
    refine ⟨v, σ', bo e1, ?_⟩
    rcases hp with ⟨h1, h2⟩ | ⟨m, α, β, h1, h2, h3, h4, h5, h6, h7, h8⟩
    · exact Or.inl ⟨h1, h2, by omega, fun e => by omega⟩
    · exact Or.inr (Or.inl ⟨m, α, h1, h2, h3, h4, fun e => by omega, fun e => by omega, fun _ => ⟨h5, h6, β, h7, h8⟩, fun e => by omega, fun e => by omega⟩)
  · rw [e]
    rw [if_neg (ne16 11 (by decide) 0 (by decide) (by decide)), if_neg (ne16 11 (by decide) 1 (by decide) (by decide)), if_neg (ne16 11 (by decide) 2 (by decide) (by decide)), if_neg (ne16 11 (by decide) 3 (by decide) (by decide)), if_neg (ne16 11 (by decide) 4 (by decide) (by decide)), if_neg (ne16 11 (by decide) 5 (by decide) (by decide)), if_neg (ne16 11 (by decide) 6 (by decide) (by decide)), if_neg (ne16 11 (by decide) 7 (by decide) (by decide)), if_neg (ne16 11 (by decide) 8 (by decide) (by decide)), if_neg (ne16 11 (by decide) 9 (by decide) (by decide)), if_neg (ne16 11 (by decide) 10 (by decide) (by decide)), if_pos rfl]
    obtain ⟨v, σ', e1, hp⟩ := zo_flip h hk ha hb (e := if z / 64 % 2 = 0 then 1 else 0) (by split <;> decide)
    refine ⟨v, σ', bo e1, ?_⟩
    rcases hp with ⟨h1, h2⟩ | ⟨m, α, β, h1, h2, h3, h4, h5, h6, h7, h8⟩
    · exact Or.inl ⟨h1, h2, by omega, fun e => by omega⟩
    · exact Or.inr (Or.inl ⟨m, α, h1, h2, h3, h4, fun e => by omega, fun e => by omega, fun _ => ⟨h5, h6, β, h7, h8⟩, fun e => by omega, fun e => by omega⟩)
  · rw [e]
    rw [if_neg (ne16 12 (by decide) 0 (by decide) (by decide)), if_neg (ne16 12 (by decide) 1 (by decide) (by decide)), if_neg (ne16 12 (by decide) 2 (by decide) (by decide)), if_neg (ne16 12 (by decide) 3 (by decide) (by decide)), if_neg (ne16 12 (by decide) 4 (by decide) (by decide)), if_neg (ne16 12 (by decide) 5 (by decide) (by decide)), if_neg (ne16 12 (by decide) 6 (by decide) (by decide)), if_neg (ne16 12 (by decide) 7 (by decide) (by decide)), if_neg (ne16 12 (by decide) 8 (by decide) (by decide)), if_neg (ne16 12 (by decide) 9 (by decide) (by decide)), if_neg (ne16 12 (by decide) 10 (by decide) (by decide)), if_neg (ne16 12 (by decide) 11 (by decide) (by decide)), if_pos rfl]
    obtain ⟨v, σ', e1, hp⟩ := zo_fill h
    refine ⟨v, σ', bo e1, ?_⟩
    rcases hp with ⟨h1, h2, h3⟩ | ⟨m, α, h1, h2, h3, h4, h5, h6, h7⟩
    · exact Or.inl ⟨h1, h2, by omega, fun _ => h3⟩
    · exact Or.inr (Or.inl ⟨m, α, h1, h2, h3, zok_mono h4 (Nat.le_succ k), fun e => by omega, fun e => by omega, fun e => by omega, fun _ => ⟨h5, h6, h7⟩, fun e => by omega⟩)
  · rw [e]
    rw [if_neg (ne16 13 (by decide) 0 (by decide) (by decide)), if_neg (ne16 13 (by decide) 1 (by decide) (by decide)), if_neg (ne16 13 (by decide) 2 (by decide) (by decide)), if_neg (ne16 13 (by decide) 3 (by decide) (by decide)), if_neg (ne16 13 (by decide) 4 (by decide) (by decide)), if_neg (ne16 13 (by decide) 5 (by decide) (by decide)), if_neg (ne16 13 (by decide) 6 (by decide) (by decide)), if_neg (ne16 13 (by decide) 7 (by decide) (by decide)), if_neg (ne16 13 (by decide) 8 (by decide) (by decide)), if_neg (ne16 13 (by decide) 9 (by decide) (by decide)), if_neg (ne16 13 (by decide) 10 (by decide) (by decide)), if_neg (ne16 13 (by decide) 11 (by decide) (by decide)), if_neg (ne16 13 (by decide) 12 (by decide) (by decide)), if_pos rfl]
    obtain ⟨v, σ', e1, hp⟩ := zo_fill h
    refine ⟨v, σ', bo e1, ?_⟩
    rcases hp with ⟨h1, h2, h3⟩ | ⟨m, α, h1, h2, h3, h4, h5, h6, h7⟩
    · exact Or.inl ⟨h1, h2, by omega, fun _ => h3⟩
    · exact Or.inr (Or.inl ⟨m, α, h1, h2, h3, zok_mono h4 (Nat.le_succ k), fun e => by omega, fun e => by omega, fun e => by omega, fun _ => ⟨h5, h6, h7⟩, fun e => by omega⟩)
  · rw [e]
    rw [if_neg (ne16 14 (by decide) 0 (by decide) (by decide)), if_neg (ne16 14 (by decide) 1 (by decide) (by decide)), if_neg (ne16 14 (by decide) 2 (by decide) (by decide)), if_neg (ne16 14 (by decide) 3 (by decide) (by decide)), if_neg (ne16 14 (by decide) 4 (by decide) (by decide)), if_neg (ne16 14 (by decide) 5 (by decide) (by decide)), if_neg (ne16 14 (by decide) 6 (by decide) (by decide)), if_neg (ne16 14 (by decide) 7 (by decide) (by decide)), if_neg (ne16 14 (by decide) 8 (by decide) (by decide)), if_neg (ne16 14 (by decide) 9 (by decide) (by decide)), if_neg (ne16 14 (by decide) 10 (by decide) (by decide)), if_neg (ne16 14 (by decide) 11 (by decide) (by decide)), if_neg (ne16 14 (by decide) 12 (by decide) (by decide)), if_neg (ne16 14 (by decide) 13 (by decide) (by decide)), if_pos rfl]
    obtain ⟨v, σ', e1, hp⟩ := zo_halve h
    refine ⟨v, σ', bo e1, ?_⟩
    rcases hp with ⟨h1, h2⟩ | ⟨m, α, h1, h2, h3, h4, h5, h6⟩
    · exact Or.inl ⟨h1, h2, by omega, fun e => by omega⟩
    · exact Or.inr (Or.inl ⟨m, α, h1, h2, h3, zok_mono h4 (Nat.le_succ k), fun e => by omega, fun e => by omega, fun e => by omega, fun e => by omega, fun _ => ⟨h5, h6⟩⟩)
  · rw [e]
    rw [if_neg (ne16 15 (by decide) 0 (by decide) (by decide)), if_neg (ne16 15 (by decide) 1 (by decide) (by decide)), if_neg (ne16 15 (by decide) 2 (by decide) (by decide)), if_neg (ne16 15 (by decide) 3 (by decide) (by decide)), if_neg (ne16 15 (by decide) 4 (by decide) (by decide)), if_neg (ne16 15 (by decide) 5 (by decide) (by decide)), if_neg (ne16 15 (by decide) 6 (by decide) (by decide)), if_neg (ne16 15 (by decide) 7 (by decide) (by decide)), if_neg (ne16 15 (by decide) 8 (by decide) (by decide)), if_neg (ne16 15 (by decide) 9 (by decide) (by decide)), if_neg (ne16 15 (by decide) 10 (by decide) (by decide)), if_neg (ne16 15 (by decide) 11 (by decide) (by decide)), if_neg (ne16 15 (by decide) 12 (by decide) (by decide)), if_neg (ne16 15 (by decide) 13 (by decide) (by decide)), if_neg (ne16 15 (by decide) 14 (by decide) (by decide))]
    rw [eh] at ez2
    simp only [eh, ez2, eh2]
    rcases (show z % 2 = 0 ∨ z % 2 = 1 by omega) with e9 | e9
    · rw [e9, if_pos rfl]
      obtain ⟨v, σ', e1, hp⟩ := zo_goBack h (a := z / 2 % 2) (by omega)
      exact ⟨v, σ', bo e1, act_pl (by omega) hp⟩
    · rw [e9, if_neg n10]
      obtain ⟨v, σ', m, e1, h1, h2, h3, h4, h5⟩ := zo_keep h (a := z / 2 % 2) (by omega)
      exact ⟨v, σ', bo e1, Or.inr (Or.inr ⟨m, h1, h2, rfl, e9, h3, h4, h5⟩)⟩
end ZA
