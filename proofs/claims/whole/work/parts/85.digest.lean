/-! ===== the digest, answered alike ===== -/
def fd (q : Nat → Int32) (h : Int64) : Nat → Int64
  | 0 => h
  | n + 1 => (31 : Int64) * fd q h n + (q n).toInt64
theorem mixE (a b : Int64) : f_X4_mixed a b = some ((31 : Int64) * a + b) := rfl
theorem propE : ∀ t, t < 3 → f_X4_requireProperty (nI t) = some (.inl ()) := by decide +kernel
theorem turnE : ∀ t, t < 4 → f_X4_requireTurn (nI t) = some (.inl ()) := by decide +kernel
section DG
variable {W H P wm : Nat} {T : List TR} {fl rf : Int32} {x : XS} {m : MS}
theorem rowV (hG : GR W H P wm T fl rf (gsX x)) (hO : OK W H P wm T) {y t : Nat} (hy : y < H) (ht : t < 3) : f_X4_row x (nI y) (nI t) = some (.inl (nI (mkk (fun x => kd P wm (pv T) (8 * y + x) == if t = 0 then 0 else t + 1) W))) := by
  have hH := hO.2.2.2.1
  have c1 : ¬ nI y < nI 0 := nI_nlt (Nat.zero_le _) (by omega)
  have c2 : nI y < x_high x := by rw [show x_high x = nI H from hG.2.1]; exact nI_lt hy (by omega)
  unfold f_X4_row
  simp only [LIT]
  rw [if_neg c1, if_pos c2, propE t ht, obl]
  exact rowC hO hG hy ht
theorem reqCellE (hG : GR W H P wm T fl rf (gsX x)) (hO : OK W H P wm T) {X Y : Nat} (hX : X < W) (hY : Y < H) : f_X4_requireCell x (nI X) (nI Y) = some (.inl ()) := by
  have hW := hO.2.1
  have hH := hO.2.2.2.1
  unfold f_X4_requireCell
  simp only [LIT]
  rw [show f_X1_hasBlock (gsX x) (nI X) (nI Y) (nI 1) (nI 1) = some (nI 1) from hasBlockIn hG hW hH (by omega) (by omega), ob, if_neg n10]
theorem cellV1 (hG : GR W H P wm T fl rf (gsX x)) (hO : OK W H P wm T) {X Y : Nat} (hX : X < W) (hY : Y < H) : f_X4_cell x (nI X) (nI Y) (nI 1) = some (.inl (owI T (8 * Y + X))) := by
  have hW := hO.2.1
  have hH := hO.2.2.2.1
  have hc : 8 * Y + X < 64 := by omega
  unfold f_X4_cell
  simp only [LIT]
  rw [reqCellE hG hO hX hY, obl, propE 1 (by decide), obl, if_neg n10, if_pos trivial, cellAtE hc, ob, show f_X1_tripleOver (x_wide x, x_high x, x_pond x, x_walls x, x_paved x, x_tc x, x_flips x, x_refused x, x_names x) (lN (2 ^ (8 * Y + X))) = _ from tripleOverE hG hO hc, ob]
theorem cellV2 (hG : GR W H P wm T fl rf (gsX x)) (hO : OK W H P wm T) {X Y : Nat} (hX : X < W) (hY : Y < H) : f_X4_cell x (nI X) (nI Y) (nI 2) = some (.inl (nI (fb_ct (chz W H P wm (pv T) (8 * Y + X)) 16))) := by
  have hW := hO.2.1
  have hH := hO.2.2.2.1
  have hc : 8 * Y + X < 64 := by omega
  unfold f_X4_cell
  simp only [LIT]
  rw [reqCellE hG hO hX hY, obl, propE 2 (by decide), obl, if_neg n20, if_neg n21, placeOfE, ob, show f_X1_coverCount (x_wide x, x_high x, x_pond x, x_walls x, x_paved x, x_tc x, x_flips x, x_refused x, x_names x) (nI (8 * Y + X)) = _ from coverCountE hG hO hc, ob]
theorem tripV (hG : GR W H P wm T fl rf (gsX x)) (hS : SR W H P wm T fl rf (m_s m) 0) (hO : OK W H P wm T) {i t : Nat} (hi : i < T.length) (ht : t < 3) : f_X4_triple x (nI i) (nI t) = some (.inl (m_s m (132 + (3 * i + t)))) := by
  have hl := OK_len hO
  have hW := hO.2.1
  have hH := hO.2.2.2.1
  have htc : x_tc x = nI T.length := hG.2.2.2.2.2.1
  have hq : T[i]? = some T[i] := List.getElem?_eq_getElem hi
  have k1 := TO_get hO.2.2.2.2.2.2.2.2 hq
  have k2 := hS.2.2.2.2.2.2.1 i _ hq
  rw [Nat.zero_add] at k2
  obtain ⟨p1, p2, p3⟩ := nam_parts (q := T[i]) (by omega) (by omega) k1.2.2
  have c1 : ¬ nI i < nI 0 := nI_nlt (Nat.zero_le _) (by omega)
  have c2 : nI i < x_tc x := by rw [htc]; exact nI_lt hi (by omega)
  unfold f_X4_triple
  simp only [LIT]
  rw [if_neg c1, if_pos c2, propE t ht, obl, show f_X1_tripleName (x_wide x, x_high x, x_pond x, x_walls x, x_paved x, x_tc x, x_flips x, x_refused x, x_names x) (nI i) = _ from nameE hG hO hq, ob]
  rcases (show t = 0 ∨ t = 1 ∨ t = 2 by omega) with rfl | rfl | rfl
  · rw [if_pos rfl, p1, ob, ← k2.1]; rfl
  · rw [if_neg n10, if_pos rfl, p2, ob, ← k2.2.1]; rfl
  · rw [if_neg n20, if_neg n21, p3, ob, ← k2.2.2]; rfl
def qr (W P wm : Nat) (T : List TR) (i : Nat) : Int32 := nI (mkk (fun x => kd P wm (pv T) (8 * (i / 3) + x) == if i % 3 = 0 then 0 else i % 3 + 1) W)
theorem dgRowsC (hG : GR W H P wm T fl rf (gsX x)) (hO : OK W H P wm T) (h : Int64) : f_X4_mixedRows x h = some (.inl (fd (qr W P wm T) h (3 * H))) := by
  have hH := hO.2.2.2.1
  have inner : ∀ y, y < H → f_X4_mixedRows_L20 x (nI y) 4096 (fd (qr W P wm T) h (3 * y)) (nI 0) = some (.inl (fd (qr W P wm T) h (3 * y + 3))) := fun y hy =>
    loopE (L := fun n j s => f_X4_mixedRows_L20 x (nI y) n s j) (N := 3) (fun t => fd (qr W P wm T) h (3 * y + t)) (fun n => by
      simp only [f_X4_mixedRows_L20, f_X4_mixedRows_L20_b]
      simp only [LIT]
      rw [if_pos (nI_le (by decide) (by decide))]) (fun n t ht => by
      simp only [f_X4_mixedRows_L20, f_X4_mixedRows_L20_b]
      simp only [LIT]
      rw [if_neg (nI_ge ht (by decide)), rowV hG hO hy ht, obl, mixE, ob, jletE, nI_add]
      have e : qr W P wm T (3 * y + t) = nI (mkk (fun x => kd P wm (pv T) (8 * y + x) == if t = 0 then 0 else t + 1) W) := by
        unfold qr
        rw [show (3 * y + t) / 3 = y by omega, show (3 * y + t) % 3 = t by omega]
      rw [← e]
      rfl) (k := 0) (n := 4096) (by decide) (by decide)
  have outer : f_X4_mixedRows_L5 x 4096 h (nI 0) = some (.inl (fd (qr W P wm T) h (3 * H))) :=
    loopE (L := fun n j s => f_X4_mixedRows_L5 x n s j) (N := H) (fun y => fd (qr W P wm T) h (3 * y)) (fun n => by
      simp only [f_X4_mixedRows_L5, f_X4_mixedRows_L5_b]
      rw [show x_high x = nI H from hG.2.1, if_pos (nI_le (Nat.le_refl _) (by omega))]) (fun n y hy => by
      simp only [f_X4_mixedRows_L5, f_X4_mixedRows_L5_b]
      simp only [LIT]
      rw [show x_high x = nI H from hG.2.1, if_neg (nI_ge hy (by omega)), inner y hy, obl, jletE, nI_add]
      rfl) (k := 0) (n := 4096) (by omega) (by omega)
  unfold f_X4_mixedRows
  simp only [LIT]
  rw [outer, obl]
theorem dgRowsM (hS : SR W H P wm T fl rf (m_s m) 0) (hO : OK W H P wm T) (h : Int64) : f_X5_digest_L38 m 4096 h (nI 0) = some (fd (qr W P wm T) h (3 * H)) := by
  have hH := hO.2.2.2.1
  have s1 : m_s m 1 = nI H := hS.2.1
  exact loopE (L := fun n j s => f_X5_digest_L38 m n s j) (N := 3 * H) (fun i => fd (qr W P wm T) h i) (fun n => by
      simp only [f_X5_digest_L38, f_X5_digest_L38_b]
      simp only [LIT]
      rw [jldE (by decide) (by decide), ob, s1, pk_mul, if_pos (nI_le (Nat.le_refl _) (by omega))]) (fun n i hi => by
      simp only [f_X5_digest_L38, f_X5_digest_L38_b]
      simp only [LIT]
      rw [jldE (by decide) (by decide), ob, s1, pk_mul, if_neg (nI_ge hi (by omega)), pk_rem (by omega) (by decide) (by decide), pk_div (by omega) (by decide) (by decide), maskE (μ := m_thrown' m (nI 0)) hS hO (show i / 3 < H by omega) (Nat.mod_lt i (by decide)), ob, jletE, jletE, nI_add]
      rfl) (k := 0) (n := 4096) (by omega) (by omega)
def qc (W H P wm : Nat) (T : List TR) (i : Nat) : Int32 := if i % 2 = 0 then owI T (8 * (i / 2 / W) + i / 2 % W) else nI (fb_ct (chz W H P wm (pv T) (8 * (i / 2 / W) + i / 2 % W)) 16)
theorem qc_at {X Y : Nat} (hX : X < W) : qc W H P wm T (2 * (W * Y + X)) = owI T (8 * Y + X) ∧ qc W H P wm T (2 * (W * Y + X) + 1) = nI (fb_ct (chz W H P wm (pv T) (8 * Y + X)) 16) := by
  have d : (W * Y + X) / W = Y := by rw [Nat.mul_add_div (by omega), Nat.div_eq_of_lt hX, Nat.add_zero]
  have r : (W * Y + X) % W = X := by rw [Nat.mul_add_mod, Nat.mod_eq_of_lt hX]
  unfold qc
  refine ⟨?_, ?_⟩
  · rw [if_pos (by omega), show 2 * (W * Y + X) / 2 = W * Y + X by omega, d, r]
  · rw [if_neg (by omega), show (2 * (W * Y + X) + 1) / 2 = W * Y + X by omega, d, r]
theorem dgCellsC (hG : GR W H P wm T fl rf (gsX x)) (hO : OK W H P wm T) (h : Int64) : f_X4_mixedCells x h = some (.inl (fd (qc W H P wm T) h (2 * (W * H)))) := by
  have hW := hO.2.1
  have hH := hO.2.2.2.1
  have inner : ∀ y, y < H → f_X4_mixedCells_L20 x (nI y) 4096 (fd (qc W H P wm T) h (2 * (W * y))) (nI 0) = some (.inl (fd (qc W H P wm T) h (2 * (W * y + W)))) := fun y hy =>
    loopE (L := fun n j s => f_X4_mixedCells_L20 x (nI y) n s j) (N := W) (fun X => fd (qc W H P wm T) h (2 * (W * y + X))) (fun n => by
      simp only [f_X4_mixedCells_L20, f_X4_mixedCells_L20_b]
      rw [show x_wide x = nI W from hG.1, if_pos (nI_le (Nat.le_refl _) (by omega))]) (fun n X hX => by
      simp only [f_X4_mixedCells_L20, f_X4_mixedCells_L20_b]
      simp only [LIT]
      rw [show x_wide x = nI W from hG.1, if_neg (nI_ge hX (by omega)), cellV1 hG hO hX hy, obl, mixE, ob, cellV2 hG hO hX hy, obl, mixE, ob, jletE, nI_add]
      obtain ⟨e1, e2⟩ := qc_at (H := H) (P := P) (wm := wm) (T := T) (Y := y) hX
      rw [← e1, ← e2]
      rfl) (k := 0) (n := 4096) (by omega) (by omega)
  have outer : f_X4_mixedCells_L5 x 4096 h (nI 0) = some (.inl (fd (qc W H P wm T) h (2 * (W * H)))) :=
    loopE (L := fun n j s => f_X4_mixedCells_L5 x n s j) (N := H) (fun y => fd (qc W H P wm T) h (2 * (W * y))) (fun n => by
      simp only [f_X4_mixedCells_L5, f_X4_mixedCells_L5_b]
      rw [show x_high x = nI H from hG.2.1, if_pos (nI_le (Nat.le_refl _) (by omega))]) (fun n y hy => by
      simp only [f_X4_mixedCells_L5, f_X4_mixedCells_L5_b]
      simp only [LIT]
      rw [show x_high x = nI H from hG.2.1, if_neg (nI_ge hy (by omega)), inner y hy, obl, jletE, nI_add]
      rfl) (k := 0) (n := 4096) (by omega) (by omega)
  unfold f_X4_mixedCells
  simp only [LIT]
  rw [outer, obl]
theorem dgCellsM (hS : SR W H P wm T fl rf (m_s m) 0) (hO : OK W H P wm T) (h : Int64) : f_X5_digest_L76 m 4096 h (nI 0) = some (fd (qc W H P wm T) h (2 * (W * H))) := by
  have hW2 := hO.1
  have hW := hO.2.1
  have hH := hO.2.2.2.1
  have hWH : W * H ≤ 64 := Nat.mul_le_mul hW hH
  have s0 : m_s m 0 = nI W := hS.1
  have s1 : m_s m 1 = nI H := hS.2.1
  have hw0 : ¬ nI W = nI 0 := by rw [nI_eq (by omega) (by decide)]; omega
  exact loopE (L := fun n j s => f_X5_digest_L76 m n s j) (N := W * H) (fun k => fd (qc W H P wm T) h (2 * k)) (fun n => by
      simp only [f_X5_digest_L76, f_X5_digest_L76_b]
      simp only [LIT]
      rw [jldE (by decide) (by decide), ob, s0, jldE (by decide) (by decide), ob, s1, pk_mul, if_pos (nI_le (Nat.le_refl _) (by omega))]) (fun n k hk => by
      have hx : k % W < W := Nat.mod_lt k (by omega)
      have hy : k / W < H := Nat.div_lt_of_lt_mul (by omega)
      have hkk : k = W * (k / W) + k % W := (Nat.div_add_mod k W).symm
      simp only [f_X5_digest_L76, f_X5_digest_L76_b]
      simp only [LIT]
      rw [jldE (by decide) (by decide), ob, s0, jldE (by decide) (by decide), ob, s1, pk_mul, if_neg (nI_ge hk (by omega)), ob, if_neg hw0, ob, if_neg hw0, pk_rem (by omega) (by omega) (by omega), pk_div (by omega) (by omega) (by omega), pk_mul, nI_add, jletE, cells1 (μ := m_thrown' m (nI 0)) hS (show 8 * (k / W) + k % W < 64 by omega), ob, jletE, cells2 (μ := m_thrown' m (nI 0)) hS hO (show 8 * (k / W) + k % W < 64 by omega), ob, jletE, jletE, nI_add]
      obtain ⟨e1, e2⟩ := qc_at (H := H) (P := P) (wm := wm) (T := T) (Y := k / W) hx
      rw [← hkk] at e1 e2
      rw [← e1, ← e2]
      rfl) (k := 0) (n := 4096) (by omega) (by omega)
theorem dgTripC (hG : GR W H P wm T fl rf (gsX x)) (hS : SR W H P wm T fl rf (m_s m) 0) (hO : OK W H P wm T) (h : Int64) : f_X4_mixedTriples x h = some (.inl (fd (fun i => m_s m (132 + i)) h (3 * T.length))) := by
  have hl := OK_len hO
  have htc : x_tc x = nI T.length := hG.2.2.2.2.2.1
  have inner : ∀ y, y < T.length → f_X4_mixedTriples_L20 x (nI y) 4096 (fd (fun i => m_s m (132 + i)) h (3 * y)) (nI 0) = some (.inl (fd (fun i => m_s m (132 + i)) h (3 * y + 3))) := fun y hy =>
    loopE (L := fun n j s => f_X4_mixedTriples_L20 x (nI y) n s j) (N := 3) (fun t => fd (fun i => m_s m (132 + i)) h (3 * y + t)) (fun n => by
      simp only [f_X4_mixedTriples_L20, f_X4_mixedTriples_L20_b]
      simp only [LIT]
      rw [if_pos (nI_le (by decide) (by decide))]) (fun n t ht => by
      simp only [f_X4_mixedTriples_L20, f_X4_mixedTriples_L20_b]
      simp only [LIT]
      rw [if_neg (nI_ge ht (by decide)), tripV hG hS hO hy ht, obl, mixE, ob, jletE, nI_add]
      rfl) (k := 0) (n := 4096) (by decide) (by decide)
  have outer : f_X4_mixedTriples_L5 x 4096 h (nI 0) = some (.inl (fd (fun i => m_s m (132 + i)) h (3 * T.length))) :=
    loopE (L := fun n j s => f_X4_mixedTriples_L5 x n s j) (N := T.length) (fun y => fd (fun i => m_s m (132 + i)) h (3 * y)) (fun n => by
      simp only [f_X4_mixedTriples_L5, f_X4_mixedTriples_L5_b]
      rw [htc, if_pos (nI_le (Nat.le_refl _) (by omega))]) (fun n y hy => by
      simp only [f_X4_mixedTriples_L5, f_X4_mixedTriples_L5_b]
      simp only [LIT]
      rw [htc, if_neg (nI_ge hy (by omega)), inner y hy, obl, jletE, nI_add]
      rfl) (k := 0) (n := 4096) (by omega) (by omega)
  unfold f_X4_mixedTriples
  simp only [LIT]
  rw [outer, obl]
theorem dgTripM (hS : SR W H P wm T fl rf (m_s m) 0) (hO : OK W H P wm T) (h : Int64) : f_X5_digest_L153 m 4096 h (nI 0) = some (fd (fun i => m_s m (132 + i)) h (3 * T.length)) := by
  have hl := OK_len hO
  have s131 : m_s m 131 = nI T.length := hS.2.2.2.2.2.1
  exact loopE (L := fun n j s => f_X5_digest_L153 m n s j) (N := 3 * T.length) (fun i => fd (fun i => m_s m (132 + i)) h i) (fun n => by
      simp only [f_X5_digest_L153, f_X5_digest_L153_b]
      simp only [LIT]
      rw [jldE (by decide) (by decide), ob, s131, pk_mul, if_pos (nI_le (Nat.le_refl _) (by omega))]) (fun n i hi => by
      simp only [f_X5_digest_L153, f_X5_digest_L153_b]
      simp only [LIT]
      rw [jldE (by decide) (by decide), ob, s131, pk_mul, if_neg (nI_ge hi (by omega)), nI_add, jldE (by omega) (by decide), ob, jletE, jletE, nI_add]
      rfl) (k := 0) (n := 4096) (by omega) (by omega)
end DG
section DG2
variable {x : XS} {L : List GS} {S0 S1 : Option GS} {m : MS}
theorem dgCounts (h : RR x L S0 S1 m) : ∃ q, (∀ H, f_X4_digest_L6 x 4096 H (nI 0) = some (.inl (fd q H 12))) ∧ ∀ H, f_X5_digest_L11 m 4096 H (nI 0) = some (fd q H 12) := by
  have hc : ∀ k, ∃ v, k < 12 → f_X4_count x (nI k) = some (.inl v) ∧ f_X5_counted (m_thrown' m (nI 0)) (nI k) = some v := fun k => by
    by_cases c : k < 12
    · obtain ⟨v, v1, v2⟩ := pr_counted h c (m_thrown' m (nI 0)) rfl rfl
      exact ⟨v, fun _ => ⟨v1, v2⟩⟩
    · exact ⟨0, fun z => absurd z c⟩
  obtain ⟨q, hq⟩ := Classical.axiomOfChoice hc
  refine ⟨q, fun H => ?_, fun H => ?_⟩
  · exact loopE (L := fun n j s => f_X4_digest_L6 x n s j) (N := 12) (fun i => fd q H i) (fun n => by
      simp only [f_X4_digest_L6, f_X4_digest_L6_b]
      simp only [LIT]
      rw [if_pos (nI_le (Nat.le_refl _) (by omega))]) (fun n i hi => by
      simp only [f_X4_digest_L6, f_X4_digest_L6_b]
      simp only [LIT]
      rw [if_neg (nI_ge hi (by omega)), (hq i hi).1, obl, mixE, ob, jletE, nI_add]
      rfl) (k := 0) (n := 4096) (by omega) (by omega)
  · exact loopE (L := fun n j s => f_X5_digest_L11 m n s j) (N := 12) (fun i => fd q H i) (fun n => by
      simp only [f_X5_digest_L11, f_X5_digest_L11_b]
      simp only [LIT]
      rw [if_pos (nI_le (Nat.le_refl _) (by omega))]) (fun n i hi => by
      simp only [f_X5_digest_L11, f_X5_digest_L11_b]
      simp only [LIT]
      rw [if_neg (nI_ge hi (by omega)), (hq i hi).2, ob, jletE, jletE, nI_add]
      rfl) (k := 0) (n := 4096) (by omega) (by omega)
theorem dgSlotsC (h : RR x L S0 S1 m) (H : Int64) : f_X4_mixedSlots x H = some ((31 : Int64) * ((31 : Int64) * H + (m_kept m 0).toInt64) + (m_kept m 1).toInt64) ∧ (if m_kept m 0 = nI 0 then some (nI 0) else some (nI 1)) = some (m_kept m 0) ∧ (if m_kept m 1 = nI 0 then some (nI 0) else some (nI 1)) = some (m_kept m 1) := by
  obtain ⟨-, ⟨-, h3, h4⟩, -⟩ := h
  have one : ∀ {S : Option GS} {k : Nat} {s : Nat → Int32} {b : Nat}, k < 2 → SLr S (x_sl x k) (m_kept m k) s b → (∀ F : Int64 → Option Int64, ∀ J : Int64, (Option.bind (jld 2 (x_sl x) (nI k)) fun w12 => (if w12 = none then (Option.bind (f_X4_mixed J (0 : Int64)) F) else (Option.bind (f_X4_mixed J (1 : Int64)) F))) = F ((31 : Int64) * J + (m_kept m k).toInt64)) ∧ (if m_kept m k = nI 0 then some (nI 0) else some (nI 1)) = some (m_kept m k) := fun {S k s b} hk hs => by
    rcases hs with ⟨-, e1, e2⟩ | ⟨γ, q, -, e1, e2, -⟩
    · refine ⟨fun F J => ?_, by rw [e2, if_pos rfl]⟩
      rw [jldE hk (by decide), ob, e1, if_pos rfl, e2, mixE, ob]
      rfl
    · refine ⟨fun F J => ?_, by rw [e2, if_neg n10]⟩
      rw [jldE hk (by decide), ob, e1, if_neg (fun z => by cases z), e2, mixE, ob]
      rfl
  obtain ⟨a1, a2⟩ := one (k := 0) (by decide) h3
  obtain ⟨b1, b2⟩ := one (k := 1) (by decide) h4
  refine ⟨?_, a2, b2⟩
  have l : f_X4_mixedSlots_L5 x 4096 H (nI 0) = some ((31 : Int64) * ((31 : Int64) * H + (m_kept m 0).toInt64) + (m_kept m 1).toInt64) :=
    loopE (L := fun n j s => f_X4_mixedSlots_L5 x n s j) (N := 2) (fun i => fd (m_kept m) H i) (fun n => by
      simp only [f_X4_mixedSlots_L5, f_X4_mixedSlots_L5_b]
      simp only [LIT]
      rw [if_pos (nI_le (Nat.le_refl _) (by omega))]
      rfl) (fun n i hi => by
      simp only [f_X4_mixedSlots_L5, f_X4_mixedSlots_L5_b]
      simp only [LIT, jletE]
      rw [if_neg (nI_ge hi (by omega))]
      rcases (show i = 0 ∨ i = 1 by omega) with rfl | rfl
      · rw [a1]
        rfl
      · rw [b1]
        rfl) (k := 0) (n := 4096) (by omega) (by omega)
  unfold f_X4_mixedSlots
  simp only [LIT]
  rw [l, ob]
theorem dgBuf (h : RR x L S0 S1 m) : ∃ q n, (∀ H, f_X4_mixedBuffer x H = some (fd q ((31 : Int64) * H + (nI n).toInt64) n)) ∧ m_typed m = nI n ∧ ∀ H, f_X5_digest_L362 m 4096 H (nI 0) = some (fd q H n) := by
  obtain ⟨-, -, -, -, -, cd, n, hn, bx, bm, bc, bt⟩ := h
  refine ⟨fun i => nI (cd i), n, fun H => ?_, bm, fun H => ?_⟩
  · have l : f_X4_mixedBuffer_L16 x 4096 ((31 : Int64) * H + (nI n).toInt64) (nI 0) = some (fd (fun i => nI (cd i)) ((31 : Int64) * H + (nI n).toInt64) n) :=
      loopE (L := fun n j s => f_X4_mixedBuffer_L16 x n s j) (N := n) (fun i => fd (fun i => nI (cd i)) ((31 : Int64) * H + (nI n).toInt64) i) (fun n => by
        simp only [f_X4_mixedBuffer_L16, f_X4_mixedBuffer_L16_b]
        rw [bx, if_pos (nI_le (Nat.le_refl _) (by omega))]) (fun n i hi => by
        simp only [f_X4_mixedBuffer_L16, f_X4_mixedBuffer_L16_b]
        simp only [LIT]
        rw [bx, if_neg (nI_ge hi (by omega)), codeAtE hn bc hi, ob, mixE, ob, jletE, nI_add]
        rfl) (k := 0) (n := 4096) (by omega) (by omega)
    unfold f_X4_mixedBuffer
    simp only [LIT]
    rw [mixE, ob, bx, l, ob]
  · exact loopE (L := fun n j s => f_X5_digest_L362 m n s j) (N := n) (fun i => fd (fun i => nI (cd i)) H i) (fun n => by
        simp only [f_X5_digest_L362, f_X5_digest_L362_b]
        rw [bm, if_pos (nI_le (Nat.le_refl _) (by omega))]) (fun n i hi => by
        simp only [f_X5_digest_L362, f_X5_digest_L362_b]
        simp only [LIT]
        rw [bm, if_neg (nI_ge hi (by omega)), jldE (by omega) (by decide), ob, (bt i hi).1, jletE, jletE, nI_add]
        rfl) (k := 0) (n := 4096) (by omega) (by omega)
end DG2
