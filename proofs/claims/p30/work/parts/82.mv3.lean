/-! ===== fill and halve, answered alike ===== -/
def lsqB (W P : Nat) : Nat → List TR → Bool
  | _, [] => true
  | pm, q :: L => decide (q.1 + 2 ≤ W) && decide (q.2.1 + 2 ≤ W) && decide (q.2.2 < 4) && (wn P 0 pm q.1 q.2.1 q.2.2 == 0) && lsqB W P (pm ||| qm q) L
theorem lsqB_ok {W P : Nat} : ∀ {L T : List TR}, lsqB W P (pv T) L = true → LSq W W P 0 T L := by
  intro L
  induction L with
  | nil => intro T _; trivial
  | cons q L ih =>
    intro T h
    unfold lsqB at h
    simp only [Bool.and_eq_true, decide_eq_true_eq, beq_iff_eq] at h
    obtain ⟨⟨⟨⟨a, b⟩, c⟩, d⟩, e⟩ := h
    refine ⟨⟨a, b, c, d⟩, ih ?_⟩
    rw [pv_app]
    exact e
def sqchk (W P : Nat) : Bool := !decide (P % 8 < W) || !decide (P / 8 < W) || (lsqB W P 0 (sq 4 0 0 W P) && (sq 4 0 0 W P == sq (Fs W) 0 0 W P))
theorem sqchk_ok : ∀ P, P < 64 → sqchk 2 P = true ∧ sqchk 4 P = true ∧ sqchk 8 P = true := by decide +kernel
theorem sq_ok {W P : Nat} (hW : W = 2 ∨ W = 4 ∨ W = 8) (h1 : P % 8 < W) (h2 : P / 8 < W) : LSq W W P 0 [] (sq 4 0 0 W P) ∧ sq 4 0 0 W P = sq (Fs W) 0 0 W P := by
  have hP : P < 64 := by omega
  have : sqchk W P = true := by
    obtain ⟨a, b, c⟩ := sqchk_ok P hP
    rcases hW with rfl | rfl | rfl <;> assumption
  unfold sqchk at this
  rw [decide_eq_true h1, decide_eq_true h2] at this
  rw [Bool.not_true, Bool.false_or, Bool.false_or, Bool.and_eq_true, beq_iff_eq] at this
  exact ⟨lsqB_ok (T := []) this.1, this.2⟩
theorem pc_zero {w : Nat} (hw : w < 2 ^ 64) : pc w = 0 ↔ w = 0 := by
  constructor
  · intro h
    refine ext64 hw (by decide) (fun j hj => ?_)
    rw [Nat.zero_testBit]
    exact fb_ct_zero.mp h j hj
  · rintro rfl
    exact fb_ct_zero.mpr (fun k _ => Nat.zero_testBit k)
def hvb (W H wm n : Nat) : Bool := (decide (W = 2) || decide (W = 4) || decide (W = 8)) && decide (W = H) && decide (wm = 0) && decide (n = 0)
section MV4
variable {W H P wm : Nat} {T : List TR} {fl rf : Int32} {g : GS} {μ : MS}
theorem isHalvableE (hG : GR W H P wm T fl rf g) (hO : OK W H P wm T) : f_X1_isHalvable g = some (nI (bn (hvb W H wm T.length))) := by
  have hW := hO.2.1
  have hH := hO.2.2.2.1
  have hl := OK_len hO
  have hw := hO.2.2.2.2.2.2.1
  unfold f_X1_isHalvable hvb
  simp only [LIT]
  rw [hG.1, hG.2.1, hG.2.2.2.1, hG.2.2.2.2.2.1]
  have h1 : (if nI W = nI 2 then some (nI 1) else (if nI W = nI 4 then some (nI 1) else (if nI W = nI 8 then some (nI 1) else some (nI 0)))) = some (nI (bn (decide (W = 2) || decide (W = 4) || decide (W = 8)))) := by
    have : ∀ W, W ≤ 8 → (if nI W = nI 2 then some (nI 1) else (if nI W = nI 4 then some (nI 1) else (if nI W = nI 8 then some (nI 1) else some (nI 0)))) = some (nI (bn (decide (W = 2) || decide (W = 4) || decide (W = 8)))) := by decide +kernel
    exact this W hW
  rw [h1, ob, bn_if]
  cases decide (W = 2) || decide (W = 4) || decide (W = 8)
  · rfl
  · rw [if_pos rfl, Bool.true_and]
    by_cases c1 : W = H
    · rw [if_pos (by rw [c1]), decide_eq_true c1, Bool.true_and]
      have hz : lg_cmp (lN wm) (0 : Int64) = nI 0 ↔ wm = 0 := cmpE hw (by decide : 0 < 2 ^ 64)
      by_cases c2 : wm = 0
      · rw [if_pos (hz.mpr c2), decide_eq_true c2, Bool.true_and]
        by_cases c3 : T.length = 0
        · rw [if_pos (by rw [c3]), decide_eq_true c3]; rfl
        · rw [if_neg (by rw [nI_eq (by omega) (by decide)]; exact c3), decide_eq_false c3]; rfl
      · rw [if_neg (fun z => c2 (hz.mp z)), decide_eq_false c2]; rfl
    · rw [if_neg (by rw [nI_eq (by omega) (by omega)]; exact c1), decide_eq_false c1]; rfl
theorem areSquaresE (hS : SR W H P wm T fl rf (m_s μ) 0) (hO : OK W H P wm T) : f_X5_areSquares μ = some (nI (bn (hvb W H wm T.length))) := by
  have hW := hO.2.1
  have hH := hO.2.2.2.1
  have hl := OK_len hO
  have hw := hO.2.2.2.2.2.2.1
  have s0 : m_s μ 0 = nI W := hS.1
  have s1 : m_s μ 1 = nI H := hS.2.1
  have s131 : m_s μ 131 = nI T.length := hS.2.2.2.2.2.1
  have hp := pc_le wm
  have h3 : (if nI (pc wm) = nI 0 then (if nI T.length = nI 0 then some (nI 1) else some (nI 0)) else some (nI 0)) = some (nI (bn (decide (wm = 0) && decide (T.length = 0)))) := by
    by_cases c2 : wm = 0
    · rw [if_pos (by rw [(pc_zero hw).mpr c2]), decide_eq_true c2, Bool.true_and]
      by_cases c3 : T.length = 0
      · rw [if_pos (by rw [c3]), decide_eq_true c3]; rfl
      · rw [if_neg (by rw [nI_eq (by omega) (by decide)]; exact c3), decide_eq_false c3]; rfl
    · rw [if_neg (by rw [nI_eq (by omega) (by decide), pc_zero hw]; exact c2), decide_eq_false c2]; rfl
  unfold f_X5_areSquares hvb
  simp only [LIT]
  rw [jldE (by decide) (by decide), ob, jldE (by decide) (by decide), ob, s0, s1]
  rw [wallsE hS, ob, jldE (by decide) (by decide), ob, s131, h3]
  by_cases c1 : W = H
  · rw [if_pos (by rw [c1]), decide_eq_true c1, Bool.and_true]
    by_cases d1 : W = 2
    · rw [if_pos (by rw [d1]), decide_eq_true d1]; simp
    · rw [if_neg (by rw [nI_eq (by omega) (by omega)]; exact d1), decide_eq_false d1]
      by_cases d2 : W = 4
      · rw [if_pos (by rw [d2]), decide_eq_true d2]; simp
      · rw [if_neg (by rw [nI_eq (by omega) (by omega)]; exact d2), decide_eq_false d2]
        by_cases d3 : W = 8
        · rw [if_pos (by rw [d3]), decide_eq_true d3]; simp
        · rw [if_neg (by rw [nI_eq (by omega) (by omega)]; exact d3), decide_eq_false d3]; rfl
  · rw [if_neg (by rw [nI_eq (by omega) (by omega)]; exact c1), decide_eq_false c1, Bool.and_false]; rfl
end MV4
section MV5
variable {x : XS} {L : List GS} {S0 S1 : Option GS} {m : MS}
abbrev xHalve (μ : XS) (res : Int32 × (Int64) × (Int32) × (Nat → Int32) × (Int32) × (Int32)) : XS := xLift μ res
abbrev pMH (m : MS) (r : Int32 × (Nat → Int32) × Int32 × Int32 × (Nat → Int32)) : MS := m_square' (m_thrown' (m_states' (m_s' m r.2.1) r.2.2.1) r.2.2.2.1) r.2.2.2.2
theorem pr_halve (h : RR x L S0 S1 m) : (∃ res r, f_X4_halve x = some (.inl res) ∧ f_X5_halve m = some r ∧ r.1 = res.1 ∧ r.2.2.2.1 = nI 0 ∧ RR (xHalve x res) (svL L (gsX x)) S0 S1 (pMH m r)) ∨ (f_X4_halve x = some (.inr ISE) ∧ f_X5_halve m = some (nI 0, m_s m, m_states m, nI 1, m_square m)) := by
  obtain ⟨W, H, P, wm, T, fl, rf, hO, hG, hS⟩ := h.1
  have hl := OK_len hO
  have hW := hO.2.1
  have hH := hO.2.2.2.1
  have hP := OK_P hO
  have hc := isHalvableE hG hO
  have hm := areSquaresE (μ := m) hS hO
  cases c : hvb W H wm T.length
  · rw [c] at hc hm
    refine Or.inr ⟨?_, ?_⟩
    · unfold f_X4_halve
      simp only [LIT]
      rw [show f_X1_isHalvable (x_wide x, x_high x, x_pond x, x_walls x, x_paved x, x_tc x, x_flips x, x_refused x, x_names x) = _ from hc, ob, if_pos (show nI (bn false) = nI 0 from rfl)]
    · unfold f_X5_halve
      simp only [LIT]
      rw [hm, ob, show f_X5_goes m (nI (bn false)) (nI 1) = some (nI 0, nI 1) from goes1 m false, ob, if_pos rfl]
  · left
    have c2 := c
    unfold hvb at c2
    simp only [Bool.and_eq_true, Bool.or_eq_true, decide_eq_true_eq] at c2
    obtain ⟨⟨⟨d1, rfl⟩, rfl⟩, d3⟩ := c2
    obtain rfl := List.eq_nil_of_length_eq_zero d3
    rw [c] at hc hm
    have hWs : W = 2 ∨ W = 4 ∨ W = 8 := by rcases d1 with (d | d) | d <;> omega
    obtain ⟨q1, q2⟩ := sq_ok hWs hO.2.2.2.2.1 hO.2.2.2.2.2.1
    obtain ⟨s', v1, v2, v3⟩ := svs h (m_thrown' m (nI 0)) rfl rfl
    have hS' : SR W W P 0 [] fl rf s' 0 := SR_cong (s' := s') (b' := 0) (fun k hk => by rw [Nat.zero_add]; exact v2 k hk) hl hS
    obtain ⟨nm, p1, p2⟩ := psq_4 (W := W) (H := W) (P := P) (wm := 0) (fl := fl) (rf := rf) [] (gsX x) 0 0 W P hG hO q1 (by omega) (by omega) hP (by omega)
    rw [List.nil_append] at p1 p2
    have hOL := LSq_OK hO q1
    rw [List.nil_append] at hOL
    obtain ⟨n, hn⟩ : ∃ n, n = nI (svL L (gsX x)).length := ⟨_, rfl⟩
    obtain ⟨r6, b1, b2, -⟩ := pushesE (m_thrown' (m_states' (m_s' m s') n) (nI 0)) (at' := 0) (x := 0) (y := 0) (s := W) (p := P) (by decide) hP
    have hfl : flt [((0, 0, W, P) : FR4)] = sq 4 0 0 W P := by
      show sq (Fs W) 0 0 W P ++ [] = _
      rw [List.append_nil, q2]
    have hlen := OK_len hOL
    obtain ⟨s2, r2', e1, e2, e3⟩ := halveLoop (W := W) (H := W) (P := P) (wm := 0) (fl := fl) (rf := rf) (μ := m) (r2 := (nI 1, nI 0)) (r3 := (s', n)) _ 4096 [((0, 0, W, P) : FR4)] [] s' r6 rfl (by rw [hfl]; omega) hS' hO (by rw [hfl]; exact q1) ⟨⟨hWs, by show 0 + W ≤ 8; omega, by show 0 + W ≤ 8; omega, hP⟩, trivial⟩ ⟨b2, trivial⟩ (Or.inr rfl)
    rw [hfl, List.nil_append] at e2
    have s131 : s2 131 = nI (sq 4 0 0 W P).length := e2.2.2.2.2.2.1
    have s0 : s' 0 = nI W := hS'.1
    have sP : s' 2 = nI P := hS'.2.2.1
    refine ⟨(nI (sq 4 0 0 W P).length, lN (pv (sq 4 0 0 W P)), nI (sq 4 0 0 W P).length, nm, x_lmod (svX x), x_lsize (svX x)), (nI (sq 4 0 0 W P).length, s2, n, nI 0, r2'), ?_, ?_, rfl, rfl, ?_⟩
    · unfold f_X4_halve f_X4_saveState
      simp only [LIT]
      rw [show f_X1_isHalvable (x_wide x, x_high x, x_pond x, x_walls x, x_paved x, x_tc x, x_flips x, x_refused x, x_names x) = _ from hc, ob, if_neg (show ¬ nI (bn true) = nI 0 from n10), ob]
      unfold f_X1_paveSquares
      simp only [LIT]
      have : f_X1_paveSquare_4 (x_wide x, x_high x, x_pond x, x_walls x, x_paved x, x_tc x, x_flips x, x_refused x, x_names x) (nI 0) (nI 0) (x_wide x) (x_pond x) = f_X1_paveSquare_4 (gsX x) (nI 0) (nI 0) (nI W) (nI P) := by
        rw [show x_wide x = nI W from hG.1, show x_pond x = nI P from hG.2.2.1]
        rw [show gsX x = (x_wide x, x_high x, x_pond x, x_walls x, x_paved x, x_tc x, x_flips x, x_refused x, x_names x) from rfl, show x_wide x = nI W from hG.1, show x_pond x = nI P from hG.2.2.1]
      rw [this, p1, ob, ob]
    · unfold f_X5_halve
      simp only [LIT]
      rw [hm, ob, show f_X5_goes m (nI (bn true)) (nI 1) = some (nI 1, nI 0) from goes1 m true, ob, if_neg n10, v1, ob, ← hn]
      dsimp only
      rw [jldE (by decide) (by decide), ob, jldE (by decide) (by decide), ob, s0, sP, b1, ob, show f_X5_halve_L39 m (nI 1, nI 0) (s', n) 4096 (nI 1) s' r6 = _ from e1, ob]
      dsimp only
      rw [jldE (by decide) (by decide), ob, s131]
    · refine RR_mv h v3 (svL_le h.2.2.1 _) (f := s2) rfl (fun i h1 h2 => e3 i h1) (gX_Lift _ _) ⟨W, W, P, 0, sq 4 0 0 W P, fl, rf, hOL, ⟨hG.1, hG.2.1, hG.2.2.1, hG.2.2.2.1, rfl, rfl, hG.2.2.2.2.2.2.1, hG.2.2.2.2.2.2.2.1, p2⟩, e2⟩ (svX_len h.2.2.1 h.2.2.2.1) hn rfl rfl rfl
abbrev xFill (μ : XS) (res : Int32 × (Nat → Nat → Int32) × (Nat → Int32) × (Nat → Nat) × (Nat → Nat) × (Int32) × (Nat → Int32) × (Nat → Int32) × (Int32) × (Nat → Int32) × (Nat → Int32) × (Int64) × (Int32) × (Nat → Int32) × (Int32) × (Int32)) : XS := (x_length μ, x_codes μ, res.2.1, res.2.2.1, res.2.2.2.1, res.2.2.2.2.1, res.2.2.2.2.2.1, res.2.2.2.2.2.2.1, res.2.2.2.2.2.2.2.1, res.2.2.2.2.2.2.2.2.1, res.2.2.2.2.2.2.2.2.2.1, res.2.2.2.2.2.2.2.2.2.2.1, x_wide μ, x_high μ, x_pond μ, x_walls μ, res.2.2.2.2.2.2.2.2.2.2.2.1, res.2.2.2.2.2.2.2.2.2.2.2.2.1, x_flips μ, x_refused μ, res.2.2.2.2.2.2.2.2.2.2.2.2.2.1, x_sl μ, res.2.2.2.2.2.2.2.2.2.2.2.2.2.2.1, res.2.2.2.2.2.2.2.2.2.2.2.2.2.2.2)
theorem gX_Fill (μ : XS) (res : Int32 × (Nat → Nat → Int32) × (Nat → Int32) × (Nat → Nat) × (Nat → Nat) × (Int32) × (Nat → Int32) × (Nat → Int32) × (Int32) × (Nat → Int32) × (Nat → Int32) × (Int64) × (Int32) × (Nat → Int32) × (Int32) × (Int32)) : gsX (xFill μ res) = (x_wide μ, x_high μ, x_pond μ, x_walls μ, res.2.2.2.2.2.2.2.2.2.2.2.1, res.2.2.2.2.2.2.2.2.2.2.2.2.1, x_flips μ, x_refused μ, res.2.2.2.2.2.2.2.2.2.2.2.2.2.1) ∧ x_sl (xFill μ res) = x_sl μ ∧ x_lsize (xFill μ res) = res.2.2.2.2.2.2.2.2.2.2.2.2.2.2.2 ∧ x_length (xFill μ res) = x_length μ ∧ x_codes (xFill μ res) = x_codes μ := ⟨rfl, rfl, rfl, rfl, rfl⟩
abbrev pMF (m : MS) (r : Int32 × (Nat → Int32) × Int32 × Int32 × (Nat → Int32) × (Nat → Int32)) : MS := m_next' (m_ways' (m_thrown' (m_states' (m_s' m r.2.1) r.2.2.1) r.2.2.2.1) r.2.2.2.2.1) r.2.2.2.2.2
theorem svX_rt (x : XS) (R : Nat → Nat → Int32) (p : PB) : x_lsize (svX (xP x R p)) = x_lsize (svX x) := by
  unfold svX
  by_cases c : x_lsize x < 6
  · rw [if_pos (show x_lsize (xP x R p) < 6 from c), if_pos c]
  · rw [if_neg (show ¬ x_lsize (xP x R p) < 6 from c), if_neg c]
theorem pr_fill (h : RR x L S0 S1 m) (hl9 : LST x) : (∃ res r, f_X4_fill x = some (.inl res) ∧ f_X5_fill m = some r ∧ r.1 = res.1 ∧ r.2.2.2.1 = nI 0 ∧ RR (xFill x res) (svL L (gsX x)) S0 S1 (pMF m r) ∧ LST (xFill x res)) ∨ (∃ p : PB, ∃ wy nx, f_X4_fill x = some (.inr (ISE, p)) ∧ f_X5_fill m = some (nI 0, m_s m, m_states m, nI 1, wy, nx) ∧ RR (xP x (x_rest x) p) L S0 S1 (pMF m (nI 0, m_s m, m_states m, nI 1, wy, nx)) ∧ LB p) := by
  obtain ⟨W, H, P, wm, T, fl, rf, hO, hG, hS⟩ := h.1
  have hl := OK_len hO
  obtain ⟨p, w1, w9⟩ := waysToPaveE (fm_lt (P := P) (wm := wm) (pm := pv T) hO.2.1 hO.2.2.2.1) (vX x) hl9.1 hl9.2
  obtain ⟨wy, nx, p1⟩ := pavesE (μ := m) (b := 0) hS (by omega) (by decide) (OK_P hO) hO.1 hO.2.2.1 hO.2.1 hO.2.2.2.1
  have hsm := CW_small (fm W H P wm (pv T))
  by_cases z : CW (fm W H P wm (pv T)) 64 0 = 0
  · right
    rw [z] at w1 p1
    refine ⟨p, wy, nx, ?_, ?_, ?_, w9⟩
    · unfold f_X4_fill
      simp only [LIT]
      rw [show f_X1_freeCells (x_wide x, x_high x, x_pond x, x_walls x, x_paved x, x_tc x, x_flips x, x_refused x, x_names x) = _ from freeCellsG hG hO, ob, w1, ob, if_pos rfl]
    · unfold f_X5_fill
      simp only [LIT]
      rw [p1, ob, if_pos (nI_le (by decide) (by decide)), ob, show f_X5_goes (m_next' (m_ways' m wy) nx) (nI 0) (nI 1) = some (nI 0, nI 1) from goes1 _ false, ob, if_pos rfl]
    · exact RR_t (x := xP x (x_rest x) p) h _ rfl rfl rfl rfl rfl
  · left
    obtain ⟨s', v1, v2, v3⟩ := svs h (m_next' (m_ways' (m_thrown' m (nI 0)) wy) nx) rfl rfl
    have hS' : SR W H P wm T fl rf s' 0 := SR_cong (s' := s') (b' := 0) (fun k hk => by rw [Nat.zero_add]; exact v2 k hk) hl hS
    obtain ⟨n, hn⟩ : ∃ n, n = nI (svL L (gsX x)).length := ⟨_, rfl⟩
    obtain ⟨hOG, R, tks, nm, g1, g2⟩ := paveE (x_rest x, p.1, p.2.1, p.2.2.1, p.2.2.2.1, p.2.2.2.2.1, p.2.2.2.2.2.1, p.2.2.2.2.2.2.1, p.2.2.2.2.2.2.2.1, p.2.2.2.2.2.2.2.2, x_wide x, x_high x, x_pond x, x_walls x, x_paved x, x_tc x, x_flips x, x_refused x, x_names x) hG hO z
    obtain ⟨s2, wy2, nx2, f1, f2, f3⟩ := fillsE (μ := m_next' (m_ways' (m_thrown' (m_states' (m_s' m s') n) (nI 0)) wy) nx) hS' hO z
    have htc : x_tc x = nI T.length := hG.2.2.2.2.2.1
    refine ⟨(nI (GRD (fm W H P wm (pv T)) 64 0 T).length - nI T.length, R, tks, p.2.1, p.2.2.1, p.2.2.2.1, p.2.2.2.2.1, p.2.2.2.2.2.1, p.2.2.2.2.2.2.1, p.2.2.2.2.2.2.2.1, p.2.2.2.2.2.2.2.2, lN (pv (GRD (fm W H P wm (pv T)) 64 0 T)), nI (GRD (fm W H P wm (pv T)) 64 0 T).length, nm, x_lmod (svX (xP x (x_rest x) p)), x_lsize (svX (xP x (x_rest x) p))), (nI (GRD (fm W H P wm (pv T)) 64 0 T).length - nI T.length, s2, n, nI 0, wy2, nx2), ?_, ?_, rfl, rfl, ?_, w9⟩
    · unfold f_X4_fill f_X4_saveState
      simp only [LIT]
      rw [show f_X1_freeCells (x_wide x, x_high x, x_pond x, x_walls x, x_paved x, x_tc x, x_flips x, x_refused x, x_names x) = _ from freeCellsG hG hO, ob, w1, ob, if_neg (by rw [nI_eq hsm (by decide)]; exact z), ob, jletE]
      dsimp only
      rw [g1, ob, ← htc]
    · unfold f_X5_fill
      simp only [LIT]
      rw [p1, ob, if_neg (nI_ge (by omega) hsm), ob, show f_X5_goes (m_next' (m_ways' m wy) nx) (nI 1) (nI 1) = some (nI 1, nI 0) from goes1 _ true, ob, if_neg n10, v1, ob, ← hn]
      dsimp only
      rw [f1, ob]
    · refine RR_mv h v3 (svL_le h.2.2.1 _) (f := s2) rfl (fun i h1 h2 => f3 i h1) (gX_Fill _ _) ⟨W, H, P, wm, GRD (fm W H P wm (pv T)) 64 0 T, fl, rf, hOG, ⟨hG.1, hG.2.1, hG.2.2.1, hG.2.2.2.1, rfl, rfl, hG.2.2.2.2.2.2.1, hG.2.2.2.2.2.2.2.1, g2⟩, f2⟩ ?_ hn rfl rfl rfl
      rw [svX_rt]
      exact svX_len h.2.2.1 h.2.2.2.1
end MV5
