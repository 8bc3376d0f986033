/-! ===== the first way laid: the class, the reference ===== -/
theorem restFromE {m e j w : Nat} (μ : VS) (he : e ≤ 64) (hR : RO m e 0 (v_rest μ)) (hj : j ≤ e) (hw : w < 512) (hs : subw m j w) : f_X2_restFrom μ (nI j) (nI w) = some (nI (CW m (64 - j) w)) := by
  unfold f_X2_restFrom
  simp only [LIT]
  rw [if_neg (nI_nlt (Nat.zero_le _) (by omega)), if_neg (nI_ge hw (by decide)), restOfE _ (by omega), ob, jldE hw (by decide), ob, hR j (by omega) hj w hw hs]
theorem restAny (μ : VS) {j w : Nat} (hj : j ≤ 64) (hw : w < 512) : f_X2_restFrom μ (nI j) (nI w) = some (v_rest μ j w) := by
  unfold f_X2_restFrom
  simp only [LIT]
  rw [if_neg (nI_nlt (Nat.zero_le _) (by omega)), if_neg (nI_ge hw (by decide)), restOfE _ (by omega), ob, jldE hw (by decide), ob]
section F2
variable {W H P wm m k w e : Nat} {T T0 : List TR} {fl rf : Int32} {g : GS}
theorem CW_path (hI : FI W H P wm m T0 k w T) (hk : k < 64) (hc : (m.testBit k && w % 2 == 0) = true) {t : Nat} (ht : t < 4) (ho : opn m k t w = true) : CW m (63 - k) (sc t w) < 2 ^ 31 := by
  have h6 := hI.2.2.2.2.2.1
  have hs := CW_small m
  rw [CW_succ hk, if_pos hc] at h6
  have := fb_sm_part (fun t => if opn m k t w then CW m (63 - k) (sc t w) else 0) ht
  rw [if_pos ho] at this
  omega
theorem leastTurnE (μ : VS) (hT : ∀ t, t < 4 → v_takes μ t = nI (tk m k t)) (hR : RO m e 0 (v_rest μ)) (hI : FI W H P wm m T0 k w T) (hk : k < e) (he : e ≤ 64) (hc : (m.testBit k && w % 2 == 0) = true) : f_X2_leastTurn μ (nI k) (nI w) = some (nI (ft m k w)) := by
  have hw := hI.1
  have hb := hI.2.2.2.1
  obtain ⟨v, h1, h2⟩ := loopQ (L := fun n j (_ : Unit) => f_X2_leastTurn_L2 (nI k) (nI w) μ n j) (N := 4) (I := fun j _ => ∀ t, t < j → gd m k w t = false) (Q := fun r => ∃ t, t < 4 ∧ r = .inr (nI t) ∧ gd m k w t = true ∧ ∀ q, q < t → gd m k w q = false) (fun n j s hj hI2 => by
    simp only [f_X2_leastTurn_L2, f_X2_leastTurn_L2_b]
    simp only [LIT]
    by_cases z : j = 4
    · exfalso
      subst z
      have hlt := good_ex (show k < 64 by omega) hc hI.2.2.2.2.1
      have hy : gd m k w (ft m k w) = true := fa_first_yes (gd m k w) 4 hlt
      rw [hI2 _ hlt] at hy
      cases hy
    · have hj4 : j < 4 := by omega
      rw [if_neg (nI_ge hj4 (by decide)), isOpenE hT (fun t ht => tk_lt m k ht) hj4, ob]
      by_cases o : opn m k j w = true
      · have o2 := (tk_opn hj4 w).mpr o
        have o3 : tk m k j = offs j := by
          unfold tk
          rw [if_pos (opn_fit o)]
        have hsm := CW_path hI (by omega) hc hj4 o
        rw [if_pos o2, if_neg (by rw [nI_eq (by decide) (by decide)]; decide), windowAfterE hT (fun t ht => tk_lt m k ht) hj4 (by omega), ob, o3, show (offs j ||| w) / 2 % 512 = sc j w from rfl, nI_add, restFromE μ he hR (show k + 1 ≤ e by omega) (sc_lt _ _) (subw_sc (by omega) hj4 hb (opn_fit o)), ob, show 64 - (k + 1) = 63 - k by omega]
        by_cases y : CW m (63 - k) (sc j w) = 0
        · rw [y, if_pos rfl, jletE]
          refine Or.inr ⟨hj4, (), fun t ht => ?_, by rw [nI_add]⟩
          by_cases e2 : t = j
          · subst e2; unfold gd; rw [y]; simp
          · exact hI2 t (by omega)
        · rw [if_neg (by rw [nI_eq hsm (by decide)]; exact y)]
          exact Or.inl ⟨_, rfl, j, hj4, rfl, by unfold gd; rw [o]; simpa using y, hI2⟩
      · rw [if_neg (fun z => o ((tk_opn hj4 w).mp z)), if_pos rfl, jletE]
        refine Or.inr ⟨hj4, (), fun t ht => ?_, by rw [nI_add]⟩
        by_cases e2 : t = j
        · subst e2; unfold gd; rw [show opn m k t w = false by simpa using o]; rfl
        · exact hI2 t (by omega)) 4 4096 0 () (by omega) (by omega) (fun t ht => absurd ht (by omega))
  obtain ⟨t, ht, rfl, h3, h4⟩ := h2
  have hft : ft m k w = t := by
    have hlt := good_ex (show k < 64 by omega) hc hI.2.2.2.2.1
    have hy : gd m k w (ft m k w) = true := fa_first_yes (gd m k w) 4 hlt
    rcases Nat.lt_trichotomy (ft m k w) t with z | z | z
    · rw [h4 _ z] at hy; cases hy
    · exact z
    · have := fa_first_no (gd m k w) 4 t z
      rw [this] at h3; cases h3
  unfold f_X2_leastTurn
  rw [show f_X2_leastTurn_L2 (nI k) (nI w) μ 4096 0 = some (.inr (nI t)) from h1, ob, hft]
  rfl
theorem opn_none {t : Nat} (hk : k < 64) (ht : t < 4) (hc : (m.testBit k && w % 2 == 0) = false) : ¬ opn m k t w = true := by
  intro o
  have h := (opn_bits hk ht (opn_okt o)).mp o 0 (by
    rw [Nat.testBit_zero]
    simp [(offs_f t ht).2.1])
  rw [Nat.add_zero, Nat.testBit_zero] at h
  have h2 : w % 2 = 0 := by
    have := h.2.1
    simp at this
    omega
  rw [h.1, h2] at hc
  cases hc
theorem leastTurnNone (μ : VS) (hT : ∀ t, t < 4 → v_takes μ t = nI (tk m k t)) (hk : k < 64) (hc : (m.testBit k && w % 2 == 0) = false) : f_X2_leastTurn μ (nI k) (nI w) = some (-nI 1) := by
  unfold f_X2_leastTurn
  rw [show f_X2_leastTurn_L2 (nI k) (nI w) μ 4096 0 = some (.inl ()) from loopE (L := fun n j (_ : Unit) => f_X2_leastTurn_L2 (nI k) (nI w) μ n j) (N := 4) (fun _ => ()) (fun n => by
    simp only [f_X2_leastTurn_L2, f_X2_leastTurn_L2_b]
    simp only [LIT]
    rw [if_pos (nI_le (Nat.le_refl _) (by decide))]) (fun n j hj => by
    simp only [f_X2_leastTurn_L2, f_X2_leastTurn_L2_b]
    simp only [LIT]
    rw [if_neg (nI_ge hj (by decide)), isOpenE hT (fun t ht => tk_lt m k ht) hj, ob, if_neg (fun z => opn_none hk hj hc ((tk_opn hj w).mp z)), if_pos rfl, jletE, nI_add]) (k := 0) (n := 4096) (by omega) (by omega), ob]
  rfl
theorem blockColE {k t : Nat} (hk : k < 64) (ht : t < 4) (ho : okt k t = true) : f_X2_blockColumn (nI k) (nI t) = some (nI (bxk k t)) := by
  have : ∀ k, k < 64 → ∀ t, t < 4 → okt k t = true → f_X2_blockColumn (nI k) (nI t) = some (nI (bxk k t)) := by decide +kernel
  exact this k hk t ht ho
theorem paveE (μ : VGS) (hG : GR W H P wm T0 fl rf (vg_wide μ, vg_high μ, vg_pond μ, vg_walls μ, vg_paved μ, vg_tc μ, vg_flips μ, vg_refused μ, vg_names μ)) (hO : OK W H P wm T0) (hz : CW (fm W H P wm (pv T0)) 64 0 ≠ 0) :
    OK W H P wm (GRD (fm W H P wm (pv T0)) 64 0 T0) ∧ ∃ R tks nm, f_X2_paveFirstWay μ = some (R, tks, lN (pv (GRD (fm W H P wm (pv T0)) 64 0 T0)), nI (GRD (fm W H P wm (pv T0)) 64 0 T0).length, nm) ∧ ∀ i q, (GRD (fm W H P wm (pv T0)) 64 0 T0)[i]? = some q → nm i = nI (nam q) := by
  have hW := hO.2.1
  have hH := hO.2.2.2.1
  have hm64 := fm_lt (P := P) (wm := wm) (pm := pv T0) hW hH
  have hst := FI_start hO hz
  obtain ⟨m, hmd⟩ : ∃ m, m = fm W H P wm (pv T0) := ⟨_, rfl⟩
  rw [← hmd] at hz hm64 hst ⊢
  obtain ⟨e, R, T, he, hm, hend, hcr, hR⟩ := countRestE hm64 ((vg_rest μ), (vg_takes μ), (vg_u1 μ), (vg_u2 μ), (vg_hsz μ), (vg_hwin μ), (vg_hway μ), (vg_nsz μ), (vg_nwin μ), (vg_nway μ))
  obtain ⟨⟨tks, pa, tc, nm⟩, h1, h2⟩ := loopQ (L := fun n j (s : Int32 × (Nat → Int32) × Int64 × Int32 × (Nat → Int32)) => f_X2_paveFirstWay_L22 μ (lN m) (R, T) (nI e) n s.1 j s.2.1 s.2.2.1 s.2.2.2.1 s.2.2.2.2) (N := e) (I := fun j s => ∃ w T, s.1 = nI w ∧ s.2.2.1 = lN (pv T) ∧ s.2.2.2.1 = nI T.length ∧ (∀ i q, T[i]? = some q → s.2.2.2.2 i = nI (nam q)) ∧ FI W H P wm m T0 j w T) (Q := fun r => OK W H P wm (GRD m 64 0 T0) ∧ r.2.1 = lN (pv (GRD m 64 0 T0)) ∧ r.2.2.1 = nI (GRD m 64 0 T0).length ∧ ∀ i q, (GRD m 64 0 T0)[i]? = some q → r.2.2.2 i = nI (nam q)) (fun n j s hj hI => by
    obtain ⟨w, T, i1, i2, i3, i4, i5⟩ := hI
    simp only [f_X2_paveFirstWay_L22, f_X2_paveFirstWay_L22_b]
    simp only [LIT]
    by_cases z : j = e
    · subst z
      have hT := FI_end i5 (by omega) hm
      rw [← hT]
      exact Or.inl ⟨_, by rw [if_pos (nI_le (Nat.le_refl _) (by omega))], i5.2.1, i2, i3, i4⟩
    · rw [if_neg (nI_ge (show j < e by omega) (by omega))]
      obtain ⟨tk', t1, t2⟩ := findTakesE hm64 (show j < 64 by omega) (s.2.1, (vg_u1 μ), (vg_u2 μ))
      rw [t1, ob, i1]
      have hw := i5.1
      refine Or.inr ⟨by omega, ?_⟩
      by_cases c : (m.testBit j && w % 2 == 0) = true
      · obtain ⟨k1, k2, k3⟩ := FI_take i5 (by omega) c
        obtain ⟨a1, a2, a3, a4⟩ := FI_lay i5 (by omega) k1 k2
        have hlt := leastTurnE (R, tk', (vg_u1 μ), (vg_u2 μ), (vg_hsz μ), (vg_hwin μ), (vg_hway μ), (vg_nsz μ), (vg_nwin μ), (vg_nway μ)) t2 hR i5 (show j < e by omega) he c
        obtain ⟨nm', p1, p2⟩ := putE (g := (vg_wide μ, vg_high μ, vg_pond μ, vg_walls μ, s.2.2.1, s.2.2.2.1, vg_flips μ, vg_refused μ, s.2.2.2.2)) ⟨hG.1, hG.2.1, hG.2.2.1, hG.2.2.2.1, i2, i3, hG.2.2.2.2.2.2.1, hG.2.2.2.2.2.2.2.1, i4⟩ i5.2.1 a1 a2 k1 a3
        refine ⟨(nI (sc (ft m j w) w), tk', lN (pv (T ++ [qk j (ft m j w)])), nI (T ++ [qk j (ft m j w)]).length, nm'), ⟨_, _, rfl, rfl, rfl, p2, k3⟩, ?_⟩
        rw [hlt, ob, if_neg (m1_ne (by omega)), blockColE (by omega) k1 (opn_okt k2), ob, pk_div (by omega) (by decide) (by decide), p1, ob, windowAfterE t2 (fun t ht => tk_lt m j ht) k1 (by omega), ob, ob, jletE, nI_add]
        have o3 : tk m j (ft m j w) = offs (ft m j w) := by
          unfold tk
          rw [if_pos (opn_fit k2)]
        rw [o3]
        rfl
      · have cf : (m.testBit j && w % 2 == 0) = false := by simpa using c
        refine ⟨(nI (w / 2), tk', s.2.2.1, s.2.2.2.1, s.2.2.2.2), ⟨_, _, rfl, i2, i3, i4, FI_skip (by omega) cf i5⟩, ?_⟩
        rw [leastTurnNone (R, tk', (vg_u1 μ), (vg_u2 μ), (vg_hsz μ), (vg_hwin μ), (vg_hway μ), (vg_nsz μ), (vg_nwin μ), (vg_nway μ)) t2 (by omega) cf, ob, if_pos rfl, shrE (by omega) (by decide), jletE, ob, jletE, nI_add]) e 4096 0 (nI 0, T, vg_paved μ, vg_tc μ, vg_names μ) (by omega) (by omega) ⟨0, T0, rfl, hG.2.2.2.2.1, hG.2.2.2.2.2.1, hG.2.2.2.2.2.2.2.2, hst⟩
  obtain ⟨h3, h4, h5, h6⟩ := h2
  dsimp only at h4 h5 h6
  refine ⟨h3, R, tks, nm, ?_, h6⟩
  unfold f_X2_paveFirstWay
  rw [freeCellsG hG hO, ← hmd, ob, hcr, ob, hend, ob, show f_X2_paveFirstWay_L22 μ (lN m) (R, T) (nI e) 4096 0 0 (R, T).2 (vg_paved μ) (vg_tc μ) (vg_names μ) = some (tks, pa, tc, nm) from h1, ob, h4, h5]
end F2
section F3
variable {W H P wm m k w : Nat} {T T0 : List TR} {fl rf : Int32} {μ : MS}
theorem wrongFit (hS : SR W H P wm T fl rf (m_s μ) 0) (hO : OK W H P wm T) {x y t : Nat} (hx : x < W) (hy : y < H) (ht : t < 4) : ∃ r, f_X5_wrong μ (nI 0) (if t = 0 then nI x - nI 1 else nI x) (nI y) (nI t) = some (nI r) ∧ r < 10 ∧ (r = 0 ↔ fit (fm W H P wm (pv T)) (8 * y + x) t = true) := by
  have hW2 := hO.1
  have hW := hO.2.1
  have hH2 := hO.2.2.1
  have hH := hO.2.2.2.1
  have hT := OK_len hO
  rw [fit_iff hW hH hx hy ht]
  by_cases g : (if t = 0 then 1 ≤ x else x + 2 ≤ W) ∧ y + 2 ≤ H
  · have hx' : (if t = 0 then nI x - nI 1 else nI x) = nI (if t = 0 then x - 1 else x) := by
      by_cases z : t = 0
      · rw [if_pos z, if_pos z]
        rw [if_pos z] at g
        exact pk_sub g.1
      · rw [if_neg z, if_neg z]
    have h2 : (if t = 0 then x - 1 else x) + 2 ≤ W := by
      have g1 := g.1
      by_cases z : t = 0 <;> simp only [z, if_true, if_false] at g1 ⊢ <;> omega
    have hle := wn_le P wm (pv T) (if t = 0 then x - 1 else x) y t
    rw [hx', wrongIn hS (by omega) (by decide) (OK_P hO) hW hH h2 g.2 ht]
    exact ⟨_, rfl, by omega, fun z => ⟨g.1, g.2, z⟩, fun z => z.2.2⟩
  · refine ⟨1, ?_, by decide, fun z => absurd z (by decide), fun z => absurd ⟨z.1, z.2.1⟩ g⟩
    apply wrongOut hS (by decide) hW2 hH2 hW hH
    by_cases z : t = 0
    · rw [if_pos z] at g ⊢
      by_cases x0 : x = 0
      · subst x0
        exact Or.inl (Or.inl (by decide))
      · refine Or.inr (Or.inr (nI_lt ?_ (by omega)))
        omega
    · rw [if_neg z] at g ⊢
      by_cases x0 : x + 2 ≤ W
      · refine Or.inr (Or.inr (nI_lt ?_ (by omega)))
        omega
      · exact Or.inl (Or.inr (nI_lt (by omega) (by omega)))
theorem erase_last (T : List TR) (q : TR) : (T ++ [q]).eraseIdx ((T ++ [q]).length - 1) = T := by
  apply List.ext_getElem?
  intro k
  rw [List.getElem?_eraseIdx, List.length_append]
  simp only [List.length_cons, List.length_nil]
  by_cases c : k < T.length
  · rw [if_pos (by omega), List.getElem?_append_left c]
  · rw [if_neg (by omega), List.getElem?_eq_none (by simp; omega), List.getElem?_eq_none (by omega)]
/-- one free cell of the first way, as the reference tries its turns -/
theorem turnsE (hI : FI W H P wm m T0 k w T) {x y : Nat} (hk : k = 8 * y + x) (hx : x < W) (hy : y < H) (hc : (m.testBit k && w % 2 == 0) = true) (s wy nx : Nat → Int32) (hS : SR W H P wm T fl rf s 0) (ho : ∀ i, 197 ≤ i → s i = m_s μ i) :
    ∃ s' wy' nx', f_X5_fills_L64 (nI 0) μ (nI x) (nI y) 4096 (nI 0) (nI 0) s wy nx = some (s', wy', nx') ∧ SR W H P wm (T ++ [qk k (ft m k w)]) fl rf s' 0 ∧ ∀ i, 197 ≤ i → s' i = m_s μ i := by
  have hO := hI.2.1
  have hW2 := hO.1
  have hW := hO.2.1
  have hH2 := hO.2.2.1
  have hH := hO.2.2.2.1
  have hT := OK_len hO
  have hw := hI.1
  have hk64 : k < 64 := by omega
  obtain ⟨k1, k2, k3⟩ := FI_take hI hk64 hc
  obtain ⟨⟨s', wy', nx'⟩, h1, h2, h3⟩ := loopQ (L := fun n j (q : Int32 × (Nat → Int32) × (Nat → Int32) × (Nat → Int32)) => f_X5_fills_L64 (nI 0) μ (nI x) (nI y) n q.1 j q.2.1 q.2.2.1 q.2.2.2) (N := 4) (I := fun j q => (∀ i, 197 ≤ i → q.2.1 i = m_s μ i) ∧ ((q.1 = nI 0 ∧ SR W H P wm T fl rf q.2.1 0 ∧ ∀ t, t < j → gd m k w t = false) ∨ (q.1 = nI 1 ∧ SR W H P wm (T ++ [qk k (ft m k w)]) fl rf q.2.1 0))) (Q := fun r => SR W H P wm (T ++ [qk k (ft m k w)]) fl rf r.1 0 ∧ ∀ i, 197 ≤ i → r.1 i = m_s μ i) (fun n j q hj hQ => by
    obtain ⟨q1, q2⟩ := hQ
    simp only [f_X5_fills_L64, f_X5_fills_L64_b]
    simp only [LIT]
    by_cases z : j = 4
    · subst z
      rcases q2 with ⟨-, -, q4⟩ | ⟨-, q4⟩
      · exfalso
        have hy2 : gd m k w (ft m k w) = true := fa_first_yes (gd m k w) 4 k1
        rw [q4 _ k1] at hy2
        cases hy2
      · exact Or.inl ⟨_, by rw [if_pos (nI_le (Nat.le_refl _) (by decide))], q4, q1⟩
    · have hj4 : j < 4 := by omega
      rw [if_neg (nI_ge hj4 (by decide))]
      rcases q2 with ⟨q3, q4, q5⟩ | ⟨q3, q4⟩
      · rw [q3, if_pos rfl]
        refine Or.inr ⟨hj4, ?_⟩
        have h419 : (if nI j = nI 0 then some (nI x - nI 1) else some (nI x)) = some (if j = 0 then nI x - nI 1 else nI x) := by
          simp only [nI_eq (show j < 2 ^ 31 by omega) (show 0 < 2 ^ 31 by decide)]
          split <;> rfl
        obtain ⟨r, r1, r2, r3⟩ := wrongFit (μ := m_next' (m_ways' (m_s' μ q.2.1) q.2.2.1) q.2.2.2) q4 hO hx hy hj4
        rw [← hk, fit_opn hI.2.2.1 hk64 hj4] at r3
        rw [h419, ob, r1, ob]
        have nxt : gd m k w j = false → ∀ t, t < j + 1 → gd m k w t = false := fun hg t ht => by
          by_cases e : t = j
          · rw [e]; exact hg
          · exact q5 t (by omega)
        by_cases o : r = 0
        · have o2 := r3.mp o
          obtain ⟨a1, a2, a3, a4⟩ := FI_lay hI hk64 hj4 o2
          have ok := opn_okt o2
          have hcol : (if j = 0 then nI x - nI 1 else nI x) = nI (bxk k j) := by
            unfold bxk
            rw [show k % 8 = x by omega]
            by_cases e : j = 0
            · rw [if_pos e, if_pos e]
              unfold okt at ok
              rw [if_pos e, show k % 8 = x by omega, Bool.and_eq_true, decide_eq_true_iff, decide_eq_true_iff] at ok
              exact pk_sub ok.2
            · rw [if_neg e, if_neg e]
          have hky : k / 8 = y := by omega
          rw [hky] at a2 a3
          have hdis := (OK_app hO a1 a2 hj4 a3).2
          have hqk : qk k j = (bxk k j, y, j) := by unfold qk; rw [hky]
          have hlen := OK_len a4
          rw [List.length_append] at hlen
          simp at hlen
          obtain ⟨s1, b1, b2, b3⟩ := laysE (μ := m_next' (m_ways' (m_s' μ q.2.1) q.2.2.1) q.2.2.2) (b := 0) q4 (by decide) (by omega) (show bxk k j < 7 by omega) (show y < 7 by omega) hj4 hdis
          have b3' : ∀ i, 197 ≤ i → s1 i = m_s μ i := fun i hi => (b3 i (by omega)).trans (q1 i hi)
          rw [← hqk] at b2
          obtain ⟨wy1, nx1, c1⟩ := pavesE (μ := m_next' (m_ways' (m_s' μ s1) q.2.2.1) q.2.2.2) (b := 0) b2 (by rw [List.length_append]; simp; omega) (by decide) (OK_P hO) hW2 hH2 hW hH
          have hrel := REL_take hW hH hI.2.2.1 hw hk64 hj4 o2
          rw [CW_rel (by omega) (sc_lt _ _) hrel, show 64 - (k + 1) = 63 - k by omega] at c1
          have hsm := CW_path hI hk64 hc hj4 o2
          rw [o, if_pos rfl, hcol, b1, ob, c1, ob]
          by_cases zz : CW m (63 - k) (sc j w) = 0
          · dsimp only
            rw [zz, if_pos (nI_le (by decide) (by decide)), ob, if_pos rfl]
            have hn : s1 (0 + 131) = nI (T ++ [qk k j]).length := b2.2.2.2.2.2.1
            obtain ⟨s2, d1, d2, d3⟩ := liftsE (μ := m_next' (m_ways' (m_s' μ s1) wy1) nx1) (b := 0) b2 a4 (by decide) (i := (T ++ [qk k j]).length - 1) (by rw [List.length_append]; simp)
            rw [erase_last] at d2
            rw [nI_add, jldE (by decide) (by decide), ob, hn, pk_sub (by rw [List.length_append]; simp), d1, ob, ob, jletE, nI_add]
            refine ⟨(nI 0, s2, wy1, nx1), ⟨fun i hi => (d3 i (by omega)).trans (b3' i hi), Or.inl ⟨rfl, d2, nxt ?_⟩⟩, rfl⟩
            unfold gd
            rw [zz]
            simp
          · dsimp only
            rw [if_neg (nI_ge (Nat.pos_of_ne_zero zz) hsm), ob, if_neg (by rw [nI_eq (by decide) (by decide)]; decide), ob, jletE, nI_add]
            have hft : ft m k w = j := by
              have hy2 : gd m k w (ft m k w) = true := fa_first_yes (gd m k w) 4 k1
              have hgj : gd m k w j = true := by unfold gd; rw [o2]; simpa using zz
              rcases Nat.lt_trichotomy (ft m k w) j with y1 | y1 | y1
              · rw [q5 _ y1] at hy2; cases hy2
              · exact y1
              · have := fa_first_no (gd m k w) 4 j y1
                rw [this] at hgj; cases hgj
            exact ⟨(nI 1, s1, wy1, nx1), ⟨b3', Or.inr ⟨rfl, by rw [hft]; exact b2⟩⟩, rfl⟩
        · rw [if_neg (by rw [nI_eq (by omega) (by decide)]; exact o), ob, jletE, nI_add]
          refine ⟨(nI 0, q.2.1, q.2.2.1, q.2.2.2), ⟨q1, Or.inl ⟨rfl, q4, nxt ?_⟩⟩, rfl⟩
          have : opn m k j w = false := by
            cases oo : opn m k j w with
            | false => rfl
            | true => exact absurd (r3.mpr oo) o
          unfold gd
          rw [this]
          rfl
      · rw [q3, if_neg (by rw [nI_eq (by decide) (by decide)]; decide)]
        exact Or.inl ⟨_, rfl, q4, q1⟩) 4 4096 0 (nI 0, s, wy, nx) (by omega) (by omega) ⟨ho, Or.inl ⟨rfl, hS, fun t ht => absurd ht (by omega)⟩⟩
  exact ⟨s', wy', nx', h1, h2, h3⟩
theorem fillsE (hS : SR W H P wm T0 fl rf (m_s μ) 0) (hO : OK W H P wm T0) (hz : CW (fm W H P wm (pv T0)) 64 0 ≠ 0) : ∃ s' wy' nx', f_X5_fills μ (nI 0) = some (nI (GRD (fm W H P wm (pv T0)) 64 0 T0).length - nI T0.length, s', wy', nx') ∧ SR W H P wm (GRD (fm W H P wm (pv T0)) 64 0 T0) fl rf s' 0 ∧ ∀ i, 197 ≤ i → s' i = m_s μ i := by
  have hW := hO.2.1
  have hH := hO.2.2.2.1
  have hg := fm_grid (P := P) (wm := wm) (pm := pv T0) hW hH
  have hm64 := fm_lt (P := P) (wm := wm) (pm := pv T0) hW hH
  have hst := FI_start hO hz
  obtain ⟨m, hmd⟩ : ∃ m, m = fm W H P wm (pv T0) := ⟨_, rfl⟩
  rw [← hmd] at hg hm64 hst hz ⊢
  have hrow : ∀ y, y < H → ∀ (s wy nx : Nat → Int32) (w : Nat) (T : List TR), SR W H P wm T fl rf s 0 → (∀ i, 197 ≤ i → s i = m_s μ i) → FI W H P wm m T0 (8 * y) w T → ∃ r, f_X5_fills_L28 (nI 0) μ (nI y) 4096 (nI 0) s wy nx = some r ∧ (∀ i, 197 ≤ i → r.1 i = m_s μ i) ∧ ∃ w' T', SR W H P wm T' fl rf r.1 0 ∧ FI W H P wm m T0 (8 * (y + 1)) w' T' := fun y hy s wy nx w T a1 a2 a3 =>
    loopQ (L := fun n j (q : (Nat → Int32) × (Nat → Int32) × (Nat → Int32)) => f_X5_fills_L28 (nI 0) μ (nI y) n j q.1 q.2.1 q.2.2) (N := W) (I := fun j q => (∀ i, 197 ≤ i → q.1 i = m_s μ i) ∧ ∃ w' T', SR W H P wm T' fl rf q.1 0 ∧ FI W H P wm m T0 (8 * y + j) w' T') (Q := fun r => (∀ i, 197 ≤ i → r.1 i = m_s μ i) ∧ ∃ w' T', SR W H P wm T' fl rf r.1 0 ∧ FI W H P wm m T0 (8 * (y + 1)) w' T') (fun n j q hj hQ => by
      obtain ⟨q1, w', T', q2, q3⟩ := hQ
      have hS0 : q.1 0 = nI W := q2.1
      simp only [f_X5_fills_L28, f_X5_fills_L28_b]
      simp only [LIT]
      rw [jldE (by decide) (by decide), ob, hS0]
      by_cases z : j = W
      · subst z
        refine Or.inl ⟨_, by rw [if_pos (nI_le (Nat.le_refl _) (by omega))], q1, ?_⟩
        have key : ∀ d, j + d ≤ 8 → ∃ w'', FI j H P wm m T0 (8 * y + j + d) w'' T' := by
          intro d
          induction d with
          | zero => intro _; exact ⟨w', q3⟩
          | succ d ih =>
            intro hd
            obtain ⟨w'', h⟩ := ih (by omega)
            refine ⟨w'' / 2, FI_skip (k := 8 * y + j + d) (by omega) ?_ h⟩
            cases g : m.testBit (8 * y + j + d) with
            | false => rfl
            | true =>
              have := hg _ g
              omega
        obtain ⟨w'', h⟩ := key (8 - j) (by omega)
        rw [show 8 * y + j + (8 - j) = 8 * (y + 1) by omega] at h
        exact ⟨w'', T', q2, h⟩
      · have hT' := OK_len q3.2.1
        have hjW : j < W := by omega
        rw [if_neg (nI_ge hjW (by omega)), pk_mul, nI_add, show f_X5_isFree (m_next' (m_ways' (m_s' μ q.1) q.2.1) q.2.2) (nI 0) (nI (8 * y + j)) = _ from isFreeG (μ := m_next' (m_ways' (m_s' μ q.1) q.2.1) q.2.2) (b := 0) q2 (by omega) (by decide) (OK_P hO) hW hH hjW hy, ob]
        have hf : (fm W H P wm (pv T')).testBit (8 * y + j) = (m.testBit (8 * y + j) && w' % 2 == 0) := by
          rw [q3.2.2.1 _ (by omega), decide_eq_true (Nat.le_refl _), Nat.sub_self, Nat.testBit_zero, Bool.true_and]
          have : (!decide (w' % 2 = 1)) = (w' % 2 == 0) := by
            rcases (show w' % 2 = 0 ∨ w' % 2 = 1 by omega) with y | y <;> rw [y] <;> rfl
          rw [this]
        rw [hf]
        refine Or.inr ⟨hjW, ?_⟩
        cases c : (m.testBit (8 * y + j) && w' % 2 == 0) with
        | true =>
          obtain ⟨s1, wy1, nx1, b1, b2, b3⟩ := turnsE (μ := μ) q3 rfl hjW hy c q.1 q.2.1 q.2.2 q2 q1
          simp only [if_true]
          rw [if_neg (by rw [nI_eq (by decide) (by decide)]; decide), ob, b1, ob, jletE, nI_add]
          exact ⟨(s1, wy1, nx1), ⟨b3, _, _, b2, (FI_take q3 (by omega) c).2.2⟩, rfl⟩
        | false =>
          simp only [Bool.false_eq_true, if_false]
          rw [if_pos trivial, ob]
          have : f_X5_fills_L64 (nI 0) μ (nI j) (nI y) 4096 (nI 1) (nI 0) q.1 q.2.1 q.2.2 = some (q.1, q.2.1, q.2.2) := by
            have gen : ∀ n, f_X5_fills_L64 (nI 0) μ (nI j) (nI y) (n + 1) (nI 1) (nI 0) q.1 q.2.1 q.2.2 = some (q.1, q.2.1, q.2.2) := fun n => by
              simp only [f_X5_fills_L64, f_X5_fills_L64_b]
              simp only [LIT]
              rw [if_neg (nI_ge (by decide) (by decide)), if_neg (by rw [nI_eq (by decide) (by decide)]; decide)]
            exact gen 4095
          rw [this, ob, jletE, nI_add]
          exact ⟨q, ⟨q1, _, _, q2, FI_skip (k := 8 * y + j) (by omega) c q3⟩, rfl⟩) W 4096 0 (s, wy, nx) (by omega) (by omega) ⟨a2, w, T, a1, a3⟩
  obtain ⟨⟨s', wy', nx'⟩, h1, h2, w', T', h3, h4⟩ := loopQ (L := fun n j (q : (Nat → Int32) × (Nat → Int32) × (Nat → Int32)) => f_X5_fills_L13 (nI 0) μ n j q.1 q.2.1 q.2.2) (N := H) (I := fun j q => (∀ i, 197 ≤ i → q.1 i = m_s μ i) ∧ ∃ w' T', SR W H P wm T' fl rf q.1 0 ∧ FI W H P wm m T0 (8 * j) w' T') (Q := fun r => (∀ i, 197 ≤ i → r.1 i = m_s μ i) ∧ ∃ w' T', SR W H P wm T' fl rf r.1 0 ∧ FI W H P wm m T0 (8 * H) w' T') (fun n j q hj hQ => by
    obtain ⟨q1, w', T', q2, q3⟩ := hQ
    have hS1 : q.1 (0 + 1) = nI H := q2.2.1
    simp only [f_X5_fills_L13, f_X5_fills_L13_b]
    simp only [LIT]
    rw [nI_add, jldE (by decide) (by decide), ob, hS1]
    by_cases z : j = H
    · subst z
      exact Or.inl ⟨_, by rw [if_pos (nI_le (Nat.le_refl _) (by omega))], q1, w', T', q2, q3⟩
    · obtain ⟨r, r1, r2, w2, T2, r3, r4⟩ := hrow j (by omega) q.1 q.2.1 q.2.2 w' T' q2 q1 q3
      rw [if_neg (nI_ge (show j < H by omega) (by omega)), r1, ob, jletE, nI_add]
      exact Or.inr ⟨by omega, r, ⟨r2, w2, T2, r3, r4⟩, rfl⟩) H 4096 0 (m_s μ, m_ways μ, m_next μ) (by omega) (by omega) ⟨fun i _ => rfl, 0, T0, hS, hst⟩
  have hm8 : m < 2 ^ (8 * H) := Nat.lt_pow_two_of_testBit m (fun i hi => by
    cases g : m.testBit i with
    | false => rfl
    | true => have := hg i g; omega)
  have hT := FI_end h4 (by omega) hm8
  rw [← hT]
  refine ⟨s', wy', nx', ?_, h3, h2⟩
  have hn0 : m_s μ (0 + 131) = nI T0.length := hS.2.2.2.2.2.1
  have hn1 : s' (0 + 131) = nI T'.length := h3.2.2.2.2.2.1
  unfold f_X5_fills
  simp only [LIT]
  rw [nI_add, jldE (by decide) (by decide), ob, hn0, show f_X5_fills_L13 (nI 0) μ 4096 (nI 0) (m_s μ) (m_ways μ) (m_next μ) = some (s', wy', nx') from h1, ob, jldE (by decide) (by decide), ob]
  show some (s' (0 + 131) - _, s', wy', nx') = _
  rw [hn1]
end F3
