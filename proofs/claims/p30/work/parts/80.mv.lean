/-! ===== moves, answered alike by both: what is saved ===== -/
theorem svL_len {L : List GS} (h : L.length ≤ 6) (γ : GS) : (svL L γ).length = if L.length < 6 then L.length + 1 else 6 := by
  unfold svL
  split
  · rw [List.length_append]; rfl
  · rw [List.length_append, List.length_tail]
    simp
    omega
theorem svL_le {L : List GS} (h : L.length ≤ 6) (γ : GS) : (svL L γ).length ≤ 6 := by
  rw [svL_len h]; split <;> omega
theorem svX_len {x : XS} {L : List GS} (h : L.length ≤ 6) (e : x_lsize x = nI L.length) : x_lsize (svX x) = nI (svL L (gsX x)).length := by
  rw [svL_len h]
  unfold svX
  by_cases c : L.length < 6
  · rw [if_pos c, if_pos (show x_lsize x < 6 by rw [e]; exact nI_lt (b := 6) c (by decide))]
    show x_lsize x + 1 = _
    rw [e]
    exact nI_add _ 1
  · rw [if_neg c, if_neg (show ¬ x_lsize x < 6 by rw [e]; exact nI_nlt (b := 6) (by omega) (by omega))]
    rfl
theorem svL_get {L : List GS} {γ δ : GS} (h : L.length ≤ 6) {i : Nat} (hi : (svL L γ)[i]? = some δ) : (i + 1 = (svL L γ).length ∧ δ = γ) ∨ (L.length < 6 ∧ i < L.length ∧ L[i]? = some δ) ∨ (L.length = 6 ∧ i < 5 ∧ L[i + 1]? = some δ) := by
  unfold svL at hi ⊢
  by_cases c : L.length < 6
  · rw [if_pos c] at hi ⊢
    by_cases z : i < L.length
    · rw [List.getElem?_append_left z] at hi
      exact Or.inr (Or.inl ⟨c, z, hi⟩)
    · rw [List.getElem?_append_right (by omega)] at hi
      have z2 := (List.getElem?_eq_some_iff.mp hi).1
      simp at z2
      have z3 : i = L.length := by omega
      subst z3
      rw [Nat.sub_self] at hi
      left
      rw [List.length_append]
      exact ⟨rfl, (Option.some.inj hi).symm⟩
  · rw [if_neg c] at hi ⊢
    have hl : L.tail.length = 5 := by rw [List.length_tail]; omega
    by_cases z : i < 5
    · rw [List.getElem?_append_left (by omega)] at hi
      rw [List.getElem?_tail] at hi
      exact Or.inr (Or.inr ⟨by omega, z, hi⟩)
    · rw [List.getElem?_append_right (by omega)] at hi
      have z2 := (List.getElem?_eq_some_iff.mp hi).1
      simp at z2
      have z3 : i = 5 := by omega
      subst z3
      rw [hl] at hi
      left
      rw [List.length_append, hl]
      exact ⟨rfl, (Option.some.inj hi).symm⟩
def SVD (x : XS) (L' : List GS) (S0 S1 : Option GS) (m : MS) (s' : Nat → Int32) : Prop := ∀ f : Nat → Int32, (∀ i, 197 ≤ i → i < 1773 → f i = s' i) → SVr L' S0 S1 (x_sl x) (m_kept m) f
section MV
variable {x : XS} {L : List GS} {S0 S1 : Option GS} {m : MS}
theorem svs (h : RR x L S0 S1 m) (m' : MS) (e : m_s m' = m_s m) (e1 : m_states m' = m_states m) : ∃ s', f_X5_saves m' = some (s', nI (svL L (gsX x)).length) ∧ (∀ k, k < 197 → s' k = m_s m k) ∧ SVD x (svL L (gsX x)) S0 S1 m s' := by
  obtain ⟨h1, ⟨h2, h3, h4⟩, hl, h5, h6, h7⟩ := h
  obtain ⟨s', a0, a1, a2, a3, a4, a5⟩ := savesE m' hl (by rw [e1]; exact h6)
  rw [e] at a1 a2 a3 a4 a5
  refine ⟨s', by rw [a0, svL_len hl], a1, fun f hf => ⟨fun i γ hi => ?_, SLr_cong (fun i hi => by rw [hf _ (by omega) (by omega), a2 _ (by omega)]) h3, SLr_cong (fun i hi => by rw [hf _ (by omega) (by omega), a2 _ (by omega)]) h4⟩⟩
  have hle := svL_le hl (gsX x)
  rcases svL_get hl hi with ⟨z1, rfl⟩ | ⟨z1, z2, z3⟩ | ⟨z1, z2, z3⟩
  · rw [z1, svL_len hl]
    rw [svL_len hl] at z1 hle
    refine LNK_cong (b := 0) (fun k hk => ?_) h1
    rw [hf _ (by omega) (by omega), a3 k hk, Nat.zero_add]
  · refine LNK_cong (b := 197 * (i + 1)) (fun k hk => ?_) (h2 i γ z3)
    rw [hf _ (by omega) (by omega), a4 z1 _ (by omega)]
  · refine LNK_cong (b := 197 * (i + 1 + 1)) (fun k hk => ?_) (h2 (i + 1) γ z3)
    rw [hf _ (by omega) (by omega), a5 z1 (i + 1) (by omega) (by omega) k hk]
theorem RR_mv (h : RR x L S0 S1 m) {s' f : Nat → Int32} {L' : List GS} {x' : XS} {m' : MS} (hv : SVD x L' S0 S1 m s') (hl : L'.length ≤ 6) (hf : m_s m' = f) (ho : ∀ i, 197 ≤ i → i < 1773 → f i = s' i) {γ : GS} {k : Int32} (hx : gsX x' = γ ∧ x_sl x' = x_sl x ∧ x_lsize x' = k ∧ x_length x' = x_length x ∧ x_codes x' = x_codes x) (hg : LNK γ f 0) (e2 : k = nI L'.length) (e3 : m_states m' = nI L'.length) (e4 : m_kept m' = m_kept m) (e7 : m_typed m' = m_typed m) (e8 : m_text m' = m_text m) : RR x' L' S0 S1 m' := by
  obtain ⟨-, -, -, -, -, cd, n, b1, b2, b3, b4, b5⟩ := h
  obtain ⟨rfl, e1, rfl, e5, e6⟩ := hx
  refine ⟨by rw [hf]; exact hg, by rw [e1, e4, hf]; exact hv f ho, hl, e2, e3, cd, n, b1, by rw [e5]; exact b2, by rw [e7]; exact b3, by rw [e6]; exact b4, by rw [e8]; exact b5⟩
theorem RR_t (h : RR x L S0 S1 m) (m' : MS) (e : m_s m' = m_s m) (e1 : m_states m' = m_states m) (e2 : m_kept m' = m_kept m) (e3 : m_text m' = m_text m) (e4 : m_typed m' = m_typed m) : RR x L S0 S1 m' := RR_s h (s' := m_s m) (fun _ _ => rfl) m' e e1 e2 e3 e4
end MV
abbrev pM (m : MS) (r : Int32 × (Nat → Int32) × Int32 × Int32) : MS := m_thrown' (m_states' (m_s' m r.2.1) r.2.2.1) r.2.2.2
section SRM
variable {W H P wm : Nat} {T : List TR} {fl rf : Int32} {s : Nat → Int32} {b : Nat}
theorem SR_rf (h : SR W H P wm T fl rf s b) (hl : T.length ≤ 21) (v : Int32) : SR W H P wm T fl v (va_up s (b + 196) v) b := by
  obtain ⟨h0, h1, h2, h3, h4, h5, h6, h7, h8⟩ := h
  refine ⟨?_, ?_, ?_, fun k hk => ?_, fun k hk => ?_, ?_, fun i q hq => ?_, ?_, up_s⟩
  · rw [up_n (by omega)]; exact h0
  · rw [up_n (by omega)]; exact h1
  · rw [up_n (by omega)]; exact h2
  · rw [up_n (by omega)]; exact h3 k hk
  · rw [up_n (by omega)]; exact h4 k hk
  · rw [up_n (by omega)]; exact h5
  · have := (List.getElem?_eq_some_iff.mp hq).1
    rw [up_n (by omega), up_n (by omega), up_n (by omega)]; exact h6 i q hq
  · rw [up_n (by omega)]; exact h7
theorem SR_fl (h : SR W H P wm T fl rf s b) (hl : T.length ≤ 21) (v : Int32) : SR W H P wm T v rf (va_up s (b + 195) v) b := by
  obtain ⟨h0, h1, h2, h3, h4, h5, h6, h7, h8⟩ := h
  refine ⟨?_, ?_, ?_, fun k hk => ?_, fun k hk => ?_, ?_, fun i q hq => ?_, up_s, ?_⟩
  · rw [up_n (by omega)]; exact h0
  · rw [up_n (by omega)]; exact h1
  · rw [up_n (by omega)]; exact h2
  · rw [up_n (by omega)]; exact h3 k hk
  · rw [up_n (by omega)]; exact h4 k hk
  · rw [up_n (by omega)]; exact h5
  · have := (List.getElem?_eq_some_iff.mp hq).1
    rw [up_n (by omega), up_n (by omega), up_n (by omega)]; exact h6 i q hq
  · rw [up_n (by omega)]; exact h8
theorem SR_wall (h : SR W H P wm T fl rf s b) (hl : T.length ≤ 21) {c : Nat} (hc : c < 64) : SR W H P (wm ^^^ 2 ^ c) T fl rf (va_up s (b + 3 + c) (nI 1 - s (b + 3 + c))) b := by
  obtain ⟨h0, h1, h2, h3, h4, h5, h6, h7, h8⟩ := h
  refine ⟨?_, ?_, ?_, fun k hk => ?_, fun k hk => ?_, ?_, fun i q hq => ?_, ?_, ?_⟩
  · rw [up_n (by omega)]; exact h0
  · rw [up_n (by omega)]; exact h1
  · rw [up_n (by omega)]; exact h2
  · rw [Nat.testBit_xor, pw_bit]
    by_cases z : k = c
    · subst z
      rw [up_s, h3 k hk, decide_eq_true (rfl : k = k)]
      cases wm.testBit k <;> decide +kernel
    · rw [up_n (by omega), h3 k hk, decide_eq_false z, Bool.xor_false]
  · rw [up_n (by omega)]; exact h4 k hk
  · rw [up_n (by omega)]; exact h5
  · rw [up_n (by omega), up_n (by omega), up_n (by omega)]; exact h6 i q hq
  · rw [up_n (by omega)]; exact h7
  · rw [up_n (by omega)]; exact h8
theorem OK_pond (hO : OK W H P wm T) {c : Nat} (h1 : c % 8 < W) (h2 : c / 8 < H) (h3 : wm.testBit c = false) (h4 : (pv T).testBit c = false) : OK W H c wm T := by
  obtain ⟨a, a1, a2, a3, a4, a5, a6, a7, a8⟩ := hO
  refine ⟨a, a1, a2, a3, h1, h2, a6, fun j hj => ⟨(a7 j hj).1, (a7 j hj).2.1, fun z => by subst z; rw [h3] at hj; cases hj⟩, ?_⟩
  clear a a1 a2 a3 a4 a5 a6 a7
  induction T with
  | nil => trivial
  | cons q T ih =>
    rw [pv, Nat.testBit_or, Bool.or_eq_false_iff] at h4
    obtain ⟨⟨b1, b2, b3, b4, b5, b6⟩, b7⟩ := a8
    exact ⟨⟨b1, b2, b3, b4, (fb_bit_nat _ _).mpr h4.1, b6⟩, ih h4.2 b7⟩
theorem OK_wall (hO : OK W H P wm T) {c : Nat} (h1 : c % 8 < W) (h2 : c / 8 < H) (h3 : c ≠ P) (h4 : (pv T).testBit c = false) : OK W H P (wm ^^^ 2 ^ c) T := by
  obtain ⟨a, a1, a2, a3, a4, a5, a6, a7, a8⟩ := hO
  have hc : c < 64 := by omega
  refine ⟨a, a1, a2, a3, a4, a5, Nat.xor_lt_two_pow a6 (pw_lt hc), fun j hj => ?_, ?_⟩
  · rw [Nat.testBit_xor, pw_bit] at hj
    by_cases z : j = c
    · subst z
      exact ⟨h1, h2, h3⟩
    · rw [decide_eq_false z, Bool.xor_false] at hj
      exact a7 j hj
  · clear a a1 a2 a3 a4 a5 a6 a7
    induction T with
    | nil => trivial
    | cons q T ih =>
      rw [pv, Nat.testBit_or, Bool.or_eq_false_iff] at h4
      obtain ⟨⟨b1, b2, b3, b4, b5, b6⟩, b7⟩ := a8
      refine ⟨⟨b1, b2, b3, ?_, b5, b6⟩, ih h4.2 b7⟩
      rw [andz] at b4 ⊢
      intro j
      rw [Nat.testBit_xor, pw_bit]
      by_cases z : j = c
      · subst z; rw [h4.1]; rfl
      · rw [decide_eq_false z, Bool.xor_false]; exact b4 j
end SRM
section MV2
variable {x : XS} {L : List GS} {S0 S1 : Option GS} {m : MS}
abbrev xGarden (μ : XS) (res : Int32 × (Int32) × (Int32) × (Int32) × (Int64) × (Int64) × (Int32) × (Int32) × (Int32)) : XS := (x_lsize' (x_lmod' (x_tc' (x_paved' (x_walls' (x_pond' (x_high' (x_wide' μ res.2.1) res.2.2.1) res.2.2.2.1) res.2.2.2.2.1) res.2.2.2.2.2.1) res.2.2.2.2.2.2.1) res.2.2.2.2.2.2.2.1) res.2.2.2.2.2.2.2.2)
theorem gX_Garden (μ : XS) (res : Int32 × (Int32) × (Int32) × (Int32) × (Int64) × (Int64) × (Int32) × (Int32) × (Int32)) : gsX (xGarden μ res) = (res.2.1, res.2.2.1, res.2.2.2.1, res.2.2.2.2.1, res.2.2.2.2.2.1, res.2.2.2.2.2.2.1, x_flips μ, x_refused μ, x_names μ) ∧ x_sl (xGarden μ res) = x_sl μ ∧ x_lsize (xGarden μ res) = res.2.2.2.2.2.2.2.2 ∧ x_length (xGarden μ res) = x_length μ ∧ x_codes (xGarden μ res) = x_codes μ := ⟨rfl, rfl, rfl, rfl, rfl⟩
theorem pr_garden (h : RR x L S0 S1 m) (a b : Int32) : (∃ res r, f_X4_garden x a b = some (.inl res) ∧ f_X5_garden m a b = some r ∧ r.1 = res.1 ∧ r.2.2.2 = nI 0 ∧ RR (xGarden x res) (svL L (gsX x)) S0 S1 (pM m r)) ∨ (f_X4_garden x a b = some (.inr IAE) ∧ f_X5_garden m a b = some (nI 0, m_s m, m_states m, nI 1)) := by
  have hC0 : ∀ o, f_X4_isSide a = some (nI 0) → f_X4_garden x a b = o → o = some (.inr IAE) := fun o e z => by
    subst z
    unfold f_X4_garden
    simp only [LIT]
    rw [e, ob, if_pos rfl]
  rcases sideArg a with ⟨A, hA1, hA2, rfl, e1, e2⟩ | ⟨e1, e2⟩
  · rcases sideArg b with ⟨B, hB1, hB2, rfl, e3, e4⟩ | ⟨e3, e4⟩
    · obtain ⟨s', v1, v2, v3⟩ := svs h (m_thrown' m (nI 0)) rfl rfl
      obtain ⟨W, H, P, wm, T, fl, rf, hO, hG, hS⟩ := h.1
      obtain ⟨s2, l1, l2, l3⟩ := laysOutE (m_thrown' (m_states' (m_s' m s') (nI (svL L (gsX x)).length)) (nI 0)) (W := A) (H := B) (fl := fl) (rf := rf) (by show s' 195 = fl; rw [v2 _ (by decide)]; exact hS.2.2.2.2.2.2.2.1) (by show s' 196 = rf; rw [v2 _ (by decide)]; exact hS.2.2.2.2.2.2.2.2)
      refine Or.inl ⟨(nI A * nI B, nI A, nI B, nI 0, 0, 0, nI 0, x_lmod (svX x), x_lsize (svX x)), (nI A * nI B, s2, nI (svL L (gsX x)).length, nI 0), ?_, ?_, rfl, rfl, ?_⟩
      · unfold f_X4_garden f_X4_saveState f_X1_layOut
        simp only [LIT]
        rw [e1, ob, if_neg n10, e3, ob, if_neg n10, ob, ob]
      · unfold f_X5_garden
        simp only [LIT]
        rw [e2, ob, if_neg n10, e4, ob, if_neg n10, ob, show f_X5_goes m (nI 1) (nI 1) = some (nI 1, nI 0) from goes1 m true, ob, if_neg n10, v1, ob, l1, ob]
      · refine RR_mv h v3 (svL_le h.2.2.1 _) (f := s2) rfl (fun i h1 h2 => l3 i h1) (gX_Garden _ _) ⟨A, B, 0, 0, [], fl, rf, ⟨hA1, hA2, hB1, hB2, by omega, by omega, by decide, fun j hj => absurd hj (by rw [Nat.zero_testBit]; decide), trivial⟩, ⟨rfl, rfl, rfl, rfl, rfl, rfl, hG.2.2.2.2.2.2.1, hG.2.2.2.2.2.2.2.1, fun i q hq => by simp at hq⟩, l2⟩ (svX_len h.2.2.1 h.2.2.2.1) rfl rfl rfl rfl
    · refine Or.inr ⟨?_, ?_⟩
      · unfold f_X4_garden
        simp only [LIT]
        rw [e1, ob, if_neg n10, e3, ob, if_pos rfl]
      · unfold f_X5_garden
        simp only [LIT]
        rw [e2, ob, if_neg n10, e4, ob, if_pos rfl, ob, show f_X5_goes m (nI 0) (nI 1) = some (nI 0, nI 1) from goes1 m false, ob, if_pos rfl]
  · refine Or.inr ⟨hC0 _ e1 rfl, ?_⟩
    unfold f_X5_garden
    simp only [LIT]
    rw [e2, ob, if_pos rfl, ob, show f_X5_goes m (nI 0) (nI 1) = some (nI 0, nI 1) from goes1 m false, ob, if_pos rfl]
abbrev xPond (μ : XS) (res : Int32 × (Int32) × (Int32) × (Int32)) : XS := (x_lsize' (x_lmod' (x_pond' μ res.2.1) res.2.2.1) res.2.2.2)
theorem gX_Pond (μ : XS) (res : Int32 × (Int32) × (Int32) × (Int32)) : gsX (xPond μ res) = (x_wide μ, x_high μ, res.2.1, x_walls μ, x_paved μ, x_tc μ, x_flips μ, x_refused μ, x_names μ) ∧ x_sl (xPond μ res) = x_sl μ ∧ x_lsize (xPond μ res) = res.2.2.2 ∧ x_length (xPond μ res) = x_length μ ∧ x_codes (xPond μ res) = x_codes μ := ⟨rfl, rfl, rfl, rfl, rfl⟩
theorem pr_pond (h : RR x L S0 S1 m) (a b : Int32) : (∃ res r, f_X4_pond x a b = some (.inl res) ∧ f_X5_pond m a b = some r ∧ r.1 = res.1 ∧ r.2.2.2 = nI 0 ∧ RR (xPond x res) (svL L (gsX x)) S0 S1 (pM m r)) ∨ (f_X4_pond x a b = some (.inr IOE) ∧ f_X5_pond m a b = some (nI 0, m_s m, m_states m, nI 1)) ∨ (f_X4_pond x a b = some (.inr ISE) ∧ f_X5_pond m a b = some (nI 0, m_s m, m_states m, nI 2)) := by
  obtain ⟨W, H, P, wm, T, fl, rf, hO, hG, hS⟩ := h.1
  have hW := hO.2.1
  have hH := hO.2.2.2.1
  have hl := OK_len hO
  have hP := OK_P hO
  rcases cellArg hG hS hO a b with ⟨X, Y, hX, hY, rfl, rfl, e1, e2⟩ | ⟨e1, e2⟩
  · have hc : 8 * Y + X < 64 := by omega
    have hwp : x_walls x ||| x_paved x = lN (wm ||| pv T) := by
      rw [show x_walls x = lN wm from hG.2.2.2.1, show x_paved x = lN (pv T) from hG.2.2.2.2.1, fb_orL]
    have hcmp : lg_cmp (lN (2 ^ (8 * Y + X)) &&& (x_walls x ||| x_paved x)) (0 : Int64) = nI 0 ↔ (wm.testBit (8 * Y + X) = false ∧ (pv T).testBit (8 * Y + X) = false) := by
      rw [hwp, cmpZ (pw_lt hc), Nat.and_comm, fb_bit_nat, Nat.testBit_or, Bool.or_eq_false_iff]
    have s3 : m_s m (3 + (8 * Y + X)) = nI (if wm.testBit (8 * Y + X) then 1 else 0) := by
      have := hS.2.2.2.1 _ hc
      rwa [Nat.zero_add] at this
    have s67 : m_s m (67 + (8 * Y + X)) = owI T (8 * Y + X) := by
      have := hS.2.2.2.2.1 _ hc
      rwa [Nat.zero_add] at this
    have hM : f_X5_pond m (nI X) (nI Y) = Option.bind (some (nI (bn (!wm.testBit (8 * Y + X) && !(pv T).testBit (8 * Y + X))))) fun o5 => Option.bind (f_X5_goes m (nI 1) o5) fun r8 => if r8.1 = nI 0 then some (nI 0, m_s m, m_states m, r8.2) else Option.bind (f_X5_saves (m_thrown' m r8.2)) fun r9 => Option.bind (jld 1970 r9.1 (nI 2)) fun v10 => Option.bind (jst 1970 r9.1 (nI 2) (nI (8 * Y + X))) fun f11 => some ((v10 - v10 / nI 8 * nI 8) + (nI 10 * (v10 / nI 8)), f11, r9.2, r8.2) := by
      unfold f_X5_pond
      simp only [LIT]
      rw [e2, ob, if_neg n10, ob, if_neg n10, pk_mul, nI_add, nI_add, jldE (by omega) (by decide), ob, s3, nI_add, jldE (by omega) (by decide), ob, s67]
      congr 1
      cases z1 : wm.testBit (8 * Y + X)
      · rw [if_pos (by rfl)]
        have hz := owI_neg (T := T) (by omega) (8 * Y + X)
        cases z2 : (pv T).testBit (8 * Y + X)
        · rw [if_neg (by rw [le_not_lt]; exact fun q => q (hz.mpr z2))]; rfl
        · rw [if_pos (by rw [le_not_lt]; exact fun q => by rw [hz.mp q] at z2; cases z2)]; rfl
      · rw [if_neg (by decide +kernel)]; rfl
    by_cases c : wm.testBit (8 * Y + X) = false ∧ (pv T).testBit (8 * Y + X) = false
    · obtain ⟨s', v1, v2, v3⟩ := svs h (m_thrown' m (nI 0)) rfl rfl
      refine Or.inl ⟨(nI (P % 8 + 10 * (P / 8)), nI (8 * Y + X), x_lmod (svX x), x_lsize (svX x)), (nI (P % 8 + 10 * (P / 8)), va_up s' 2 (nI (8 * Y + X)), nI (svL L (gsX x)).length, nI 0), ?_, ?_, rfl, rfl, ?_⟩
      · unfold f_X4_pond f_X4_saveState
        simp only [LIT]
        rw [e1, obl, cellAtE hc, ob, if_pos (hcmp.mpr c), ob, jletE, placeOfE, ob, show x_pond x = nI P from hG.2.2.1, (toldE hP).2, ob]
      · rw [hM, ob, c.1, c.2, show f_X5_goes m (nI 1) (nI (bn (!false && !false))) = some (nI 1, nI 0) from goesE m true true, ob, if_neg n10, v1, ob]
        dsimp only
        rw [jldE (by decide) (by decide), ob, v2 _ (by decide), show m_s m 2 = nI P from hS.2.2.1, jstE (by decide) (by decide), ob, pk_div (by omega) (by decide) (by decide), pk_mul, pk_mul, pk_sub (by omega), nI_add]
        congr 3
        omega
      · refine RR_mv h v3 (svL_le h.2.2.1 _) (f := va_up s' 2 (nI (8 * Y + X))) rfl (fun i h1 h2 => up_n (by omega)) (gX_Pond _ _) ⟨W, H, 8 * Y + X, wm, T, fl, rf, OK_pond hO (by omega) (by omega) c.1 c.2, ⟨hG.1, hG.2.1, rfl, hG.2.2.2.1, hG.2.2.2.2.1, hG.2.2.2.2.2.1, hG.2.2.2.2.2.2.1, hG.2.2.2.2.2.2.2.1, hG.2.2.2.2.2.2.2.2⟩, ?_⟩ (svX_len h.2.2.1 h.2.2.2.1) rfl rfl rfl rfl
        have := SR_pond (b := 0) (SR_cong (s' := s') (b' := 0) (fun k hk => by rw [Nat.zero_add]; exact v2 k hk) hl hS) hl (8 * Y + X)
        rwa [Nat.zero_add] at this
    · have hb : (!wm.testBit (8 * Y + X) && !(pv T).testBit (8 * Y + X)) = false := by
        cases z1 : wm.testBit (8 * Y + X) <;> cases z2 : (pv T).testBit (8 * Y + X) <;> simp [z1, z2] at c ⊢
      refine Or.inr (Or.inr ⟨?_, ?_⟩)
      · unfold f_X4_pond
        simp only [LIT]
        rw [e1, obl, cellAtE hc, ob, if_neg (fun z => c (hcmp.mp z))]
      · rw [hM, ob, hb, show f_X5_goes m (nI 1) (nI (bn false)) = some (nI 0, nI 2) from goesE m true false, ob, if_pos rfl]
  · refine Or.inr (Or.inl ⟨?_, ?_⟩)
    · unfold f_X4_pond
      rw [e1, obr]
    · unfold f_X5_pond
      simp only [LIT]
      rw [e2, ob, if_pos rfl, ob, if_pos rfl, ob, show f_X5_goes m (nI 0) (nI 0) = some (nI 0, nI 1) from goesE m false false, ob, if_pos rfl]
abbrev xWall (μ : XS) (res : Int32 × (Int64) × (Int32) × (Int32)) : XS := (x_lsize' (x_lmod' (x_walls' μ res.2.1) res.2.2.1) res.2.2.2)
theorem gX_Wall (μ : XS) (res : Int32 × (Int64) × (Int32) × (Int32)) : gsX (xWall μ res) = (x_wide μ, x_high μ, x_pond μ, res.2.1, x_paved μ, x_tc μ, x_flips μ, x_refused μ, x_names μ) ∧ x_sl (xWall μ res) = x_sl μ ∧ x_lsize (xWall μ res) = res.2.2.2 ∧ x_length (xWall μ res) = x_length μ ∧ x_codes (xWall μ res) = x_codes μ := ⟨rfl, rfl, rfl, rfl, rfl⟩
theorem pr_wall (h : RR x L S0 S1 m) (a b : Int32) : (∃ res r, f_X4_wall x a b = some (.inl res) ∧ f_X5_wall m a b = some r ∧ r.1 = res.1 ∧ r.2.2.2 = nI 0 ∧ RR (xWall x res) (svL L (gsX x)) S0 S1 (pM m r)) ∨ (f_X4_wall x a b = some (.inr IOE) ∧ f_X5_wall m a b = some (nI 0, m_s m, m_states m, nI 1)) ∨ (f_X4_wall x a b = some (.inr ISE) ∧ f_X5_wall m a b = some (nI 0, m_s m, m_states m, nI 2)) := by
  obtain ⟨W, H, P, wm, T, fl, rf, hO, hG, hS⟩ := h.1
  have hW := hO.2.1
  have hH := hO.2.2.2.1
  have hl := OK_len hO
  have hP := OK_P hO
  rcases cellArg hG hS hO a b with ⟨X, Y, hX, hY, rfl, rfl, e1, e2⟩ | ⟨e1, e2⟩
  · have hc : 8 * Y + X < 64 := by omega
    have hwp : lN (2 ^ P) ||| x_paved x = lN (2 ^ P ||| pv T) := by
      rw [show x_paved x = lN (pv T) from hG.2.2.2.2.1, fb_orL]
    have hcmp : lg_cmp (lN (2 ^ (8 * Y + X)) &&& (lN (2 ^ P) ||| x_paved x)) (0 : Int64) = nI 0 ↔ (8 * Y + X ≠ P ∧ (pv T).testBit (8 * Y + X) = false) := by
      rw [hwp, cmpZ (pw_lt hc), Nat.and_comm, fb_bit_nat, Nat.testBit_or, Bool.or_eq_false_iff, pw_bit, decide_eq_false_iff_not]
    have s67 : m_s m (67 + (8 * Y + X)) = owI T (8 * Y + X) := by
      have := hS.2.2.2.2.1 _ hc
      rwa [Nat.zero_add] at this
    have hM : f_X5_wall m (nI X) (nI Y) = Option.bind (some (nI (bn (!decide (P = 8 * Y + X) && !(pv T).testBit (8 * Y + X))))) fun o5 => Option.bind (f_X5_goes m (nI 1) o5) fun r8 => if r8.1 = nI 0 then some (nI 0, m_s m, m_states m, r8.2) else Option.bind (f_X5_saves (m_thrown' m r8.2)) fun r9 => Option.bind (jld 1970 r9.1 (nI (3 + (8 * Y + X)))) fun v10 => Option.bind (jst 1970 r9.1 (nI (3 + (8 * Y + X))) (nI 1 - v10)) fun f11 => Option.bind (f_X5_walls (m_thrown' (m_states' (m_s' m f11) r9.2) r8.2)) fun r12 => some (r12, f11, r9.2, r8.2) := by
      unfold f_X5_wall
      simp only [LIT]
      rw [e2, ob, if_neg n10, ob, if_neg n10, pk_mul, nI_add, jldE (by omega) (by decide), ob, show m_s m 2 = nI P from hS.2.2.1, nI_add, nI_add, jldE (by omega) (by decide), ob, s67]
      congr 1
      by_cases z1 : P = 8 * Y + X
      · rw [if_pos (by rw [z1]), decide_eq_true z1]; rfl
      · rw [if_neg (by rw [nI_eq (by omega) (by omega)]; exact z1), decide_eq_false z1]
        have hz := owI_neg (T := T) (by omega) (8 * Y + X)
        cases z2 : (pv T).testBit (8 * Y + X)
        · rw [if_neg (by rw [le_not_lt]; exact fun q => q (hz.mpr z2))]; rfl
        · rw [if_pos (by rw [le_not_lt]; exact fun q => by rw [hz.mp q] at z2; cases z2)]; rfl
    by_cases c : 8 * Y + X ≠ P ∧ (pv T).testBit (8 * Y + X) = false
    · obtain ⟨s', v1, v2, v3⟩ := svs h (m_thrown' m (nI 0)) rfl rfl
      have hS' := SR_wall (b := 0) (SR_cong (s' := s') (b' := 0) (fun k hk => by rw [Nat.zero_add]; exact v2 k hk) hl hS) hl hc
      rw [Nat.zero_add] at hS'
      have hOw := OK_wall hO (c := 8 * Y + X) (by omega) (by omega) c.1 c.2
      refine Or.inl ⟨(nI (pc (wm ^^^ 2 ^ (8 * Y + X))), lN (wm ^^^ 2 ^ (8 * Y + X)), x_lmod (svX x), x_lsize (svX x)), (nI (pc (wm ^^^ 2 ^ (8 * Y + X))), va_up s' (3 + (8 * Y + X)) (nI 1 - s' (3 + (8 * Y + X))), nI (svL L (gsX x)).length, nI 0), ?_, ?_, rfl, rfl, ?_⟩
      · unfold f_X4_wall f_X4_saveState
        simp only [LIT]
        rw [e1, obl, cellAtE hc, ob, show f_X1_pondCell (x_wide x, x_high x, x_pond x, x_walls x, x_paved x, x_tc x, x_flips x, x_refused x, x_names x) = _ from pondCellG hG hO, ob, if_pos (hcmp.mpr c), ob, show x_walls x = lN wm from hG.2.2.2.1, fb_xorL, jletE, bitCountE hOw.2.2.2.2.2.2.1, ob]
      · rw [hM, ob, c.2, decide_eq_false (fun z => c.1 z.symm), show f_X5_goes m (nI 1) (nI (bn (!false && !false))) = some (nI 1, nI 0) from goesE m true true, ob, if_neg n10, v1, ob]
        dsimp only
        rw [jldE (by omega) (by decide), ob, jstE (by omega) (by decide), ob, wallsE (μ := m_thrown' (m_states' (m_s' m (va_up s' (3 + (8 * Y + X)) (nI 1 - s' (3 + (8 * Y + X))))) (nI (svL L (gsX x)).length)) (nI 0)) hS', ob]
      · refine RR_mv h v3 (svL_le h.2.2.1 _) (f := va_up s' (3 + (8 * Y + X)) (nI 1 - s' (3 + (8 * Y + X)))) rfl (fun i h1 h2 => up_n (by omega)) (gX_Wall _ _) ⟨W, H, P, wm ^^^ 2 ^ (8 * Y + X), T, fl, rf, hOw, ⟨hG.1, hG.2.1, hG.2.2.1, rfl, hG.2.2.2.2.1, hG.2.2.2.2.2.1, hG.2.2.2.2.2.2.1, hG.2.2.2.2.2.2.2.1, hG.2.2.2.2.2.2.2.2⟩, hS'⟩ (svX_len h.2.2.1 h.2.2.2.1) rfl rfl rfl rfl
    · have hb : (!decide (P = 8 * Y + X) && !(pv T).testBit (8 * Y + X)) = false := by
        by_cases z1 : P = 8 * Y + X
        · rw [decide_eq_true z1]; rfl
        · cases z2 : (pv T).testBit (8 * Y + X)
          · exact absurd ⟨fun z => z1 z.symm, z2⟩ c
          · exact Bool.and_false _
      refine Or.inr (Or.inr ⟨?_, ?_⟩)
      · unfold f_X4_wall
        simp only [LIT]
        rw [e1, obl, cellAtE hc, ob, show f_X1_pondCell (x_wide x, x_high x, x_pond x, x_walls x, x_paved x, x_tc x, x_flips x, x_refused x, x_names x) = _ from pondCellG hG hO, ob, if_neg (fun z => c (hcmp.mp z))]
      · rw [hM, ob, hb, show f_X5_goes m (nI 1) (nI (bn false)) = some (nI 0, nI 2) from goesE m true false, ob, if_pos rfl]
  · refine Or.inr (Or.inl ⟨?_, ?_⟩)
    · unfold f_X4_wall
      rw [e1, obr]
    · unfold f_X5_wall
      simp only [LIT]
      rw [e2, ob, if_pos rfl, ob, if_pos rfl, ob, show f_X5_goes m (nI 0) (nI 0) = some (nI 0, nI 1) from goesE m false false, ob, if_pos rfl]
end MV2
