/-! ===== the digest: the ways with a triple, and the whole ===== -/
def wv (W H P wm : Nat) (T : List TR) (X Y t : Nat) : Int32 := if X + 2 ≤ W ∧ Y + 2 ≤ H ∧ wn P wm (pv T) X Y t = 0 then nI (CW (fm W H P wm (pv (T ++ [(X, Y, t)]))) 64 0) else -nI 1
section DW
variable {W H P wm : Nat} {T : List TR} {fl rf : Int32} {g : GS} {μ : MS}
theorem withV (hG : GR W H P wm T fl rf g) (hS : SR W H P wm T fl rf (m_s μ) 0) (hO : OK W H P wm T) (μ2 : VS) (hh : LC (v_hsz μ2) (v_hwin μ2) (v_hway μ2)) (hn : LC (v_nsz μ2) (v_nwin μ2) (v_nway μ2)) {X Y : Nat} (hX : X < 1000) (hY : Y < 1000) {t : Nat} (ht : t < 4) : ∃ p : PB, ∃ s' wy nx, (Option.bind (f_X1_whyRefused g (nI X) (nI Y) (nI t)) fun r2 => (if r2 = nI 0 then (Option.bind (f_X1_freeCells g) fun r3 => (Option.bind (f_X4_cellsOf (nI X) (nI Y) (nI t)) fun r4 => (Option.bind (f_X2_waysToPave μ2 (r3 &&& (r4 ^^^ (-1 : Int64)))) fun r5 => some (Sum.inl r5)))) else some (Sum.inl (-nI 1, (v_takes μ2, v_u1 μ2, v_u2 μ2, v_hsz μ2, v_hwin μ2, v_hway μ2, v_nsz μ2, v_nwin μ2, v_nway μ2))))) = (some (Sum.inl (wv W H P wm T X Y t, p)) : Option ((Int32 × PB) ⊕ String)) ∧ f_X5_with μ (nI X) (nI Y) (nI t) = some (wv W H P wm T X Y t, s', wy, nx) ∧ (∀ i, i < 1773 → s' i = m_s μ i) ∧ LB p := by
  have hW := hO.2.1
  have hH := hO.2.2.2.1
  obtain ⟨r, hr, r1, r2, r3⟩ := whyBoth hG hS hO (nI X) (nI Y) ht
  unfold f_X5_with
  simp only [LIT]
  by_cases z : r = 0
  · obtain ⟨X', Y', e1, e2, h1, h2, h3⟩ := r3 z
    rw [nI_eq (by omega) (by omega)] at e1 e2
    subst e1
    subst e2
    subst z
    have hv : wv W H P wm T X Y t = nI (CW (fm W H P wm (pv (T ++ [(X, Y, t)]))) 64 0) := by
      unfold wv
      rw [if_pos ⟨h1, h2, h3⟩]
    obtain ⟨hO1, hd⟩ := OK_app hO h1 h2 ht h3
    have hlen := OK_len hO1
    rw [List.length_append] at hlen
    simp at hlen
    obtain ⟨p, w1, w9⟩ := waysToPaveE (fm_lt (P := P) (wm := wm) (pm := pv (T ++ [(X, Y, t)])) hW hH) μ2 hh hn
    obtain ⟨s1, c1, c2, c3⟩ := copiesE μ (a := 0) (c := 9) (by decide) (by decide) (by decide)
    have hS1 : SR W H P wm T fl rf s1 1773 := SR_cong (b := 0) (fun k hk => by
      have := c2 k hk
      rwa [show 197 * 0 + k = 0 + k by omega] at this) (by omega) hS
    obtain ⟨s2, d1, d2, d3⟩ := laysE (μ := m_s' μ s1) (b := 1773) hS1 (by decide) (by omega) (show X < 7 by omega) (show Y < 7 by omega) ht hd
    obtain ⟨wy, nx, p1⟩ := pavesE (μ := m_s' μ s2) (b := 1773) d2 (by rw [List.length_append]; simp; omega) (by decide) (OK_P hO) hO.1 hO.2.2.1 hW hH
    rw [hv]
    refine ⟨p, s2, wy, nx, ?_, ?_, fun i hi => ?_, w9⟩
    · rw [r1, ob, if_pos rfl, freeCellsG hG hO, ob, cellsOfE (by omega) (by omega) ht, ob, xorM, fb_andL, fm_lay hO h1 h2 ht, w1, ob]
    · rw [r2, ob, if_pos (nI_le (by decide) (by decide)), c1, ob, d1, ob, p1, ob]
    · rw [d3 i (by omega)]
      exact c3 i (by omega)
  · have hv : wv W H P wm T X Y t = -nI 1 := by
      unfold wv
      rw [if_neg]
      rintro ⟨h1, h2, h3⟩
      have := whyIn hG hO h1 h2 ht
      rw [r1, h3] at this
      have := Option.some.inj this
      rw [nI_eq (by omega) (by decide)] at this
      exact z this
    rw [hv]
    refine ⟨(v_takes μ2, v_u1 μ2, v_u2 μ2, v_hsz μ2, v_hwin μ2, v_hway μ2, v_nsz μ2, v_nwin μ2, v_nway μ2), m_s μ, m_ways μ, m_next μ, ?_, ?_, fun i _ => rfl, hh, hn⟩
    · rw [r1, ob, if_neg (by rw [nI_eq (by omega) (by decide)]; exact z)]
    · rw [r2, ob, if_neg (nI_ge (by omega) (by omega))]
def qw (W H P wm : Nat) (T : List TR) (j : Nat) : Int32 := wv W H P wm T (j / 4) (j / 4 % 2) (j % 4)
end DW
section DW2
variable {W H P wm : Nat} {T : List TR} {fl rf : Int32} {x : XS} {m : MS}
theorem dgWithC (hG : GR W H P wm T fl rf (gsX x)) (hS : SR W H P wm T fl rf (m_s m) 0) (hO : OK W H P wm T) (h : Int64) (p0 : PB) (hp0 : LB p0) : ∃ p : PB, f_X4_digest_L55 x 4096 h (nI 0) p0.1 p0.2.1 p0.2.2.1 p0.2.2.2.1 p0.2.2.2.2.1 p0.2.2.2.2.2.1 p0.2.2.2.2.2.2.1 p0.2.2.2.2.2.2.2.1 p0.2.2.2.2.2.2.2.2 = some (.inl (fd (qw W H P wm T) h 12, p)) ∧ LB p := by
  have inner : ∀ i, i < 3 → ∀ p : PB, LB p → ∃ r, f_X4_digest_L63 x (nI i) 4096 (fd (qw W H P wm T) h (4 * i)) (nI 0) p.1 p.2.1 p.2.2.1 p.2.2.2.1 p.2.2.2.2.1 p.2.2.2.2.2.1 p.2.2.2.2.2.2.1 p.2.2.2.2.2.2.2.1 p.2.2.2.2.2.2.2.2 = some r ∧ ∃ p' : PB, r = .inl (fd (qw W H P wm T) h (4 * i + 4), p') ∧ LB p' := fun i hi p hp =>
    loopQ (L := fun n j (s : Int64 × PB) => f_X4_digest_L63 x (nI i) n s.1 j s.2.1 s.2.2.1 s.2.2.2.1 s.2.2.2.2.1 s.2.2.2.2.2.1 s.2.2.2.2.2.2.1 s.2.2.2.2.2.2.2.1 s.2.2.2.2.2.2.2.2.1 s.2.2.2.2.2.2.2.2.2) (N := 4) (I := fun t s => s.1 = fd (qw W H P wm T) h (4 * i + t) ∧ LB s.2) (Q := fun r => ∃ p' : PB, r = .inl (fd (qw W H P wm T) h (4 * i + 4), p') ∧ LB p') (fun n t s ht hI => by
      obtain ⟨hI, hL9⟩ := hI
      simp only [f_X4_digest_L63, f_X4_digest_L63_b]
      simp only [LIT]
      by_cases e : t = 4
      · subst e
        exact Or.inl ⟨.inl (s.1, s.2), by rw [if_pos (nI_le (by decide) (by decide))], s.2, by rw [hI], hL9⟩
      · have ht4 : t < 4 := by omega
        obtain ⟨p', s', wy, nx, w1, -, -, w9⟩ := withV (X := i) (Y := i % 2) (t := t) hG hS hO (vX (xP x (x_rest x) s.2)) hL9.1 hL9.2 (by omega) (by omega) ht4
        have hw : f_X4_waysWith (xP x (x_rest x) s.2) (nI i) (nI (i % 2)) (nI t) = some (.inl (wv W H P wm T i (i % 2) t, p')) := by
          unfold f_X4_waysWith
          rw [turnE t ht4, obl]
          exact w1
        right
        rw [if_neg (nI_ge ht4 (by decide)), pk_rem (by omega) (by decide) (by decide), hw, obl, mixE, ob, jletE, nI_add]
        refine ⟨ht4, ((31 : Int64) * s.1 + (wv W H P wm T i (i % 2) t).toInt64, p'), ⟨?_, w9⟩, rfl⟩
        show (31 : Int64) * s.1 + (wv W H P wm T i (i % 2) t).toInt64 = (31 : Int64) * fd (qw W H P wm T) h (4 * i + t) + (qw W H P wm T (4 * i + t)).toInt64
        unfold qw
        rw [hI, show (4 * i + t) / 4 = i by omega, show (4 * i + t) % 4 = t by omega]
        rfl) 4 4096 0 (fd (qw W H P wm T) h (4 * i), p) (by omega) (by omega) ⟨rfl, hp⟩
  obtain ⟨r, l1, p, rfl, hp⟩ := loopQ (L := fun n j (s : Int64 × PB) => f_X4_digest_L55 x n s.1 j s.2.1 s.2.2.1 s.2.2.2.1 s.2.2.2.2.1 s.2.2.2.2.2.1 s.2.2.2.2.2.2.1 s.2.2.2.2.2.2.2.1 s.2.2.2.2.2.2.2.2.1 s.2.2.2.2.2.2.2.2.2) (N := 3) (I := fun i s => s.1 = fd (qw W H P wm T) h (4 * i) ∧ LB s.2) (Q := fun r => ∃ p : PB, r = .inl (fd (qw W H P wm T) h 12, p) ∧ LB p) (fun n i s hi hI => by
      obtain ⟨hI, hL9⟩ := hI
      simp only [f_X4_digest_L55, f_X4_digest_L55_b]
      simp only [LIT]
      by_cases e : i = 3
      · subst e
        exact Or.inl ⟨.inl (s.1, s.2), by rw [if_pos (nI_le (by decide) (by decide))], s.2, by rw [hI], hL9⟩
      · have hi3 : i < 3 := by omega
        obtain ⟨r, a1, p', rfl, hp'⟩ := inner i hi3 s.2 hL9
        right
        rw [if_neg (nI_ge hi3 (by decide)), hI, a1, obl, jletE, nI_add]
        exact ⟨hi3, (fd (qw W H P wm T) h (4 * i + 4), p'), ⟨rfl, hp'⟩, rfl⟩) 3 4096 0 (h, p0) (by omega) (by omega) ⟨rfl, hp0⟩
  exact ⟨p, l1, hp⟩
theorem dgWithM (hG : GR W H P wm T fl rf (gsX x)) (hS : SR W H P wm T fl rf (m_s m) 0) (hO : OK W H P wm T) (h : Int64) (w0 n0 : Nat → Int32) : ∃ s' wy nx, f_X5_digest_L206 m 4096 h (nI 0) (m_s m) w0 n0 = some (fd (qw W H P wm T) h 12, s', wy, nx) ∧ ∀ i, i < 1773 → s' i = m_s m i := by
  obtain ⟨r, l1, s', wy, nx, rfl, l2⟩ := loopQ (L := fun n j (s : Int64 × (Nat → Int32) × (Nat → Int32) × (Nat → Int32)) => f_X5_digest_L206 m n s.1 j s.2.1 s.2.2.1 s.2.2.2) (N := 12) (I := fun j s => s.1 = fd (qw W H P wm T) h j ∧ ∀ i, i < 1773 → s.2.1 i = m_s m i) (Q := fun r => ∃ s' wy nx, r = (fd (qw W H P wm T) h 12, s', wy, nx) ∧ ∀ i, i < 1773 → s' i = m_s m i) (fun n j s hj hI => by
      obtain ⟨hI, hs⟩ := hI
      simp only [f_X5_digest_L206, f_X5_digest_L206_b]
      simp only [LIT]
      by_cases e : j = 12
      · subst e
        exact Or.inl ⟨(s.1, s.2.1, s.2.2.1, s.2.2.2), by rw [if_pos (nI_le (by decide) (by decide))], s.2.1, s.2.2.1, s.2.2.2, by rw [hI], hs⟩
      · have hj2 : j < 12 := by omega
        have hS' : SR W H P wm T fl rf (m_s (m_next' (m_ways' (m_thrown' (m_s' m s.2.1) (nI 0)) s.2.2.1) s.2.2.2)) 0 := SR_cong (b := 0) (fun k hk => hs _ (by omega)) (OK_len hO) hS
        obtain ⟨p9, s', wy, nx, -, w2, w3, -⟩ := withV (X := j / 4) (Y := j / 4 % 2) (t := j % 4) hG hS' hO (vX (x0S (fun _ => 0) (fun _ => 0))) (LST_0 (fun _ => 0) (fun _ => 0)).1 (LST_0 (fun _ => 0) (fun _ => 0)).2 (by omega) (by omega) (Nat.mod_lt j (by decide))
        have ho : (if nI (j / 4) = nI 1 then some (nI 1) else some (nI 0)) = some (nI (j / 4 % 2)) := by
          have : ∀ i, i < 3 → (if nI i = nI 1 then some (nI 1) else some (nI 0)) = some (nI (i % 2)) := by decide +kernel
          exact this _ (by omega)
        right
        rw [if_neg (nI_ge hj2 (by decide)), pk_rem (by omega) (by decide) (by decide), pk_div (by omega) (by decide) (by decide), ho, ob, w2, ob, jletE, jletE, nI_add]
        refine ⟨hj2, ((31 : Int64) * s.1 + (qw W H P wm T j).toInt64, s', wy, nx), ⟨?_, fun i hi => (w3 i hi).trans (hs i hi)⟩, rfl⟩
        rw [hI]
        rfl) 12 4096 0 (h, m_s m, w0, n0) (by omega) (by omega) ⟨rfl, fun _ _ => rfl⟩
  exact ⟨s', wy, nx, l1, l2⟩
end DW2
section DG3
variable {x : XS} {L : List GS} {S0 S1 : Option GS} {m : MS}
theorem RR_rt (h : RR x L S0 S1 m) (R : Nat → Nat → Int32) (p : PB) : RR (xP x R p) L S0 S1 m := h
theorem pr_digest (h : RR x L S0 S1 m) (hl9 : LST x) : ∃ v, ∃ p : PB, ∃ s' wy nx, f_X4_digest x = some (.inl (v, p)) ∧ f_X5_digest m = some (v, s', nI 0, wy, nx) ∧ RR x L S0 S1 (m_next' (m_ways' (m_thrown' (m_s' m s') (nI 0)) wy) nx) ∧ LB p := by
  obtain ⟨W, H, P, wm, T, fl, rf, hO, hG, hS⟩ := h.1
  have hl := OK_len hO
  obtain ⟨q, c1, c2⟩ := dgCounts h
  obtain ⟨v1, h1⟩ : ∃ v, v = fd q 3181 12 := ⟨_, rfl⟩
  obtain ⟨v2, h2⟩ : ∃ v, v = fd (qr W P wm T) v1 (3 * H) := ⟨_, rfl⟩
  obtain ⟨v3, h3⟩ : ∃ v, v = fd (qc W H P wm T) v2 (2 * (W * H)) := ⟨_, rfl⟩
  obtain ⟨v4, h4⟩ : ∃ v, v = fd (fun i => m_s m (132 + i)) v3 (3 * T.length) := ⟨_, rfl⟩
  obtain ⟨p0, w1, w9⟩ := waysToPaveE (fm_lt (P := P) (wm := wm) (pm := pv T) hO.2.1 hO.2.2.2.1) (vX x) hl9.1 hl9.2
  obtain ⟨wy0, nx0, w2⟩ := pavesE (μ := m_thrown' m (nI 0)) (b := 0) hS (by omega) (by decide) (OK_P hO) hO.1 hO.2.2.1 hO.2.1 hO.2.2.2.1
  have hways : f_X4_ways x = some (nI (CW (fm W H P wm (pv T)) 64 0), p0) := by
    unfold f_X4_ways
    rw [show f_X1_freeCells (x_wide x, x_high x, x_pond x, x_walls x, x_paved x, x_tc x, x_flips x, x_refused x, x_names x) = _ from freeCellsG hG hO, ob]
    exact (congrArg (fun o => Option.bind o _) w1).trans rfl
  obtain ⟨v5, h5⟩ : ∃ v, v = (31 : Int64) * v4 + (nI (CW (fm W H P wm (pv T)) 64 0)).toInt64 := ⟨_, rfl⟩
  obtain ⟨p, d1, d9⟩ := dgWithC hG hS hO v5 p0 w9
  obtain ⟨s', wy, nx, d2, d3⟩ := dgWithM hG hS hO v5 wy0 nx0
  obtain ⟨v6, h6⟩ : ∃ v, v = fd (qw W H P wm T) v5 12 := ⟨_, rfl⟩
  have hR : RR (xP x (x_rest x) p) L S0 S1 (m_next' (m_ways' (m_thrown' (m_s' m s') (nI 0)) wy) nx) := RR_s h d3 _ rfl rfl rfl rfl rfl
  obtain ⟨f0, a1, a2⟩ := pr_isForced hR (m_next' (m_ways' (m_thrown' (m_s' m s') (nI 0)) wy) nx) rfl (k := 0) (by decide)
  obtain ⟨f1, b1, b2⟩ := pr_isForced hR (m_next' (m_ways' (m_thrown' (m_s' m s') (nI 0)) wy) nx) rfl (k := 1) (by decide)
  obtain ⟨l0, e1, e2⟩ := pr_lonely0 hR (m_next' (m_ways' (m_thrown' (m_s' m s') (nI 0)) wy) nx) rfl
  obtain ⟨d, w, g1, g2, g3, g4⟩ := pr_share hR (m_next' (m_ways' (m_thrown' (m_s' m s') (nI 0)) wy) nx) rfl
  obtain ⟨v7, h7⟩ : ∃ v, v = (31 : Int64) * ((31 : Int64) * ((31 : Int64) * ((31 : Int64) * v6 + f0.toInt64) + f1.toInt64) + l0.toInt64) + w := ⟨_, rfl⟩
  obtain ⟨k1, k2, k3⟩ := dgSlotsC (x := xP x (x_rest x) p) (RR_rt h (x_rest x) p) v7
  obtain ⟨qb, n, p1, p2, p3⟩ := dgBuf (x := xP x (x_rest x) p) (RR_rt h (x_rest x) p)
  refine ⟨fd qb ((31 : Int64) * ((31 : Int64) * ((31 : Int64) * v7 + (m_kept m 0).toInt64) + (m_kept m 1).toInt64) + (nI n).toInt64) n, p, s', wy, nx, ?_, ?_, RR_s h d3 _ rfl rfl rfl rfl rfl, d9⟩
  · unfold f_X4_digest
    simp only [LIT]
    rw [c1, obl, ← h1, dgRowsC hG hO, obl, ← h2, dgCellsC hG hO, obl, ← h3, dgTripC hG hS hO, obl, ← h4, hways, ob, mixE, ob, ← h5, d1, obl, ← h6]
    dsimp only
    rw [a1, obl, mixE, ob, b1, obl, mixE, ob, e1, ob, mixE, ob, g1, ob, g3, ob, mixE, ob, ← h7, k1, ob, p1, ob]
  · unfold f_X5_digest
    simp only [LIT]
    rw [c2, ob, ← h1, dgRowsM hS hO, ob, ← h2, dgCellsM hS hO, ob, ← h3, dgTripM hS hO, ob, ← h4, w2, ob]
    dsimp only
    rw [jletE, ← h5, d2, ob, ← h6]
    dsimp only
    rw [a2, ob, jletE, b2, ob, jletE]
    cases z : f_X5_firstWith (m_next' (m_ways' (m_thrown' (m_s' m s') (nI 0)) wy) nx) (nI 0) with
    | none => rw [z] at e2; cases e2
    | some r =>
      rw [z, ob] at e2
      rw [ob, e2, ob, jletE, g2, ob, g4, ob, jletE, ← h7, jldE (by decide) (by decide), ob, k2, ob, jletE, jldE (by decide) (by decide), ob, k3, ob, jletE, p2, jletE, p3, ob]
end DG3
