/-! ===== p30: each call of the law, told by the state of numbers ===== -/
theorem ZI_P {σ : ZT} {x : XS} {L : List GS} {S0 S1 : Option GS} (h : ZI σ x L S0 S1) {R : Nat → Nat → Int32} {p : PB} (hp : LB p) : ZI σ (xP x R p) L S0 S1 := by
  obtain ⟨h1, h2, h3, h4, h5, h6, h7, h8⟩ := h
  exact ⟨h1, h2, h3, h4, h5, h6, h7, hp⟩
theorem ld_throw {σ : ZT} {x : XS} {L : List GS} {S0 S1 : Option GS} (h : ZI σ x L S0 S1) : f_X4_load x = some (.inr IAE) := by
  have h7 : x_length x = nI 0 := h.2.2.2.2.2.2.1
  unfold f_X4_load
  rw [zm_load h, ob, h7, if_neg (nI_nlt (Nat.le_refl _) (by decide)), show f_X3_isWhole (nI 0, 8, 0, -1, 0, 0).2 = some 0 from by decide +kernel, ob, if_pos rfl]
set_option maxHeartbeats 4000000 in
theorem hq_cellOf (l : Launch) (hl9 : l.stackTraces = false) (z0 : Nat) (D : va_G) (t : Nat → ClassId) (x0 : Nat) (σ : ZT) (a1 : Int32) (a2 : Int32) (a3 : Int32) (r : Int32) (h : q_cellOf σ a1 a2 a3 = some r) (w : va_W) (hw : XG t x0 σ w) (sz : Nat) : Met l yL_cellOf (wh_ yL_cellOf cL_cellOf 5 (some .int) [(0, 7, 8, 21), (0, 7, 13, 15)]) rq_cellOf (PMH z0 D t [.ref x0, .int a1, .int a2, .int a3] w (w.map Prod.fst) sz) (QB (fun _ : va_W => some (.int r)) D (fun w9 => w9) (XG t x0 σ) (w.map Prod.fst) sz) 0 0 (OA (w.map Prod.fst) sz) := by
  have h0 := XG_h0 hw
  obtain ⟨μ, L, S0, S1, hI, s0, s1, e0, E, A, B, G, T, rfl, hR⟩ := hw
  have hn := hI.2.2.2.2.2.1
  exact gr_cellOf l z0 D t x0 a1 a2 a3 h0 (fun sz => um_R (c_X4_cell l z0 D t x0 s0 s1 e0 E A B G T μ a1 a2 a3 r (cq_cellOf hI h)) ⟨μ, L, S0, S1, hI, s0, s1, e0, E, A, B, G, T, rfl, hR⟩) sz
set_option maxHeartbeats 4000000 in
theorem hq_triple (l : Launch) (hl9 : l.stackTraces = false) (z0 : Nat) (D : va_G) (t : Nat → ClassId) (x0 : Nat) (σ : ZT) (a1 : Int32) (a2 : Int32) (r : Int32) (h : q_triple σ a1 a2 = some r) (w : va_W) (hw : XG t x0 σ w) (sz : Nat) : Met l yL_triple (wh_ yL_triple cL_triple 4 (some .int) [(0, 6, 7, 21), (0, 6, 11, 15)]) rq_triple (PMH z0 D t [.ref x0, .int a1, .int a2] w (w.map Prod.fst) sz) (QB (fun _ : va_W => some (.int r)) D (fun w9 => w9) (XG t x0 σ) (w.map Prod.fst) sz) 0 0 (OA (w.map Prod.fst) sz) := by
  have h0 := XG_h0 hw
  obtain ⟨μ, L, S0, S1, hI, s0, s1, e0, E, A, B, G, T, rfl, hR⟩ := hw
  have hn := hI.2.2.2.2.2.1
  exact gr_triple l z0 D t x0 a1 a2 h0 (fun sz => um_R (c_X4_triple l z0 D t x0 s0 s1 e0 E A B G T μ a1 a2 r (cq_triple hI h)) ⟨μ, L, S0, S1, hI, s0, s1, e0, E, A, B, G, T, rfl, hR⟩) sz
set_option maxHeartbeats 4000000 in
theorem hq_row (l : Launch) (hl9 : l.stackTraces = false) (z0 : Nat) (D : va_G) (t : Nat → ClassId) (x0 : Nat) (σ : ZT) (a1 : Int32) (a2 : Int32) (r : Int32) (h : q_row σ a1 a2 = some r) (w : va_W) (hw : XG t x0 σ w) (sz : Nat) : Met l yL_row (wh_ yL_row cL_row 4 (some .int) [(0, 6, 7, 21), (0, 6, 11, 15)]) rq_row (PMH z0 D t [.ref x0, .int a1, .int a2] w (w.map Prod.fst) sz) (QB (fun _ : va_W => some (.int r)) D (fun w9 => w9) (XG t x0 σ) (w.map Prod.fst) sz) 0 0 (OA (w.map Prod.fst) sz) := by
  have h0 := XG_h0 hw
  obtain ⟨μ, L, S0, S1, hI, s0, s1, e0, E, A, B, G, T, rfl, hR⟩ := hw
  have hn := hI.2.2.2.2.2.1
  exact gr_row l z0 D t x0 a1 a2 h0 (fun sz => um_R (c_X4_row l z0 D t x0 s0 s1 e0 E A B G T μ a1 a2 r (cq_row hI h)) ⟨μ, L, S0, S1, hI, s0, s1, e0, E, A, B, G, T, rfl, hR⟩) sz
set_option maxHeartbeats 4000000 in
theorem hq_count (l : Launch) (hl9 : l.stackTraces = false) (z0 : Nat) (D : va_G) (t : Nat → ClassId) (x0 : Nat) (σ : ZT) (a1 : Int32) (r : Int32) (h : q_count σ a1 = some r) (w : va_W) (hw : XG t x0 σ w) (sz : Nat) : Met l yL_count (wh_ yL_count cL_count 3 (some .int) [(0, 5, 6, 15)]) rq_count (PMH z0 D t [.ref x0, .int a1] w (w.map Prod.fst) sz) (QB (fun _ : va_W => some (.int r)) D (fun w9 => w9) (XG t x0 σ) (w.map Prod.fst) sz) 0 0 (OA (w.map Prod.fst) sz) := by
  have h0 := XG_h0 hw
  obtain ⟨μ, L, S0, S1, hI, s0, s1, e0, E, A, B, G, T, rfl, hR⟩ := hw
  have hn := hI.2.2.2.2.2.1
  exact gr_count l z0 D t x0 a1 h0 (fun sz => um_R (c_X4_count l z0 D t x0 s0 s1 e0 E A B G T μ a1 r (cq_count hI h)) ⟨μ, L, S0, S1, hI, s0, s1, e0, E, A, B, G, T, rfl, hR⟩) sz
set_option maxHeartbeats 4000000 in
theorem hq_whyNot (l : Launch) (hl9 : l.stackTraces = false) (z0 : Nat) (D : va_G) (t : Nat → ClassId) (x0 : Nat) (σ : ZT) (a1 : Int32) (a2 : Int32) (a3 : Int32) (r : Int32) (h : q_whyNot σ a1 a2 a3 = some r) (w : va_W) (hw : XG t x0 σ w) (sz : Nat) : Met l yL_whyNot (wh_ yL_whyNot cL_whyNot 5 (some .int) [(0, 7, 8, 15)]) rq_whyNot (PMH z0 D t [.ref x0, .int a1, .int a2, .int a3] w (w.map Prod.fst) sz) (QB (fun _ : va_W => some (.int r)) D (fun w9 => w9) (XG t x0 σ) (w.map Prod.fst) sz) 0 0 (OA (w.map Prod.fst) sz) := by
  have h0 := XG_h0 hw
  obtain ⟨μ, L, S0, S1, hI, s0, s1, e0, E, A, B, G, T, rfl, hR⟩ := hw
  have hn := hI.2.2.2.2.2.1
  exact gr_whyNot l z0 D t x0 a1 a2 a3 h0 (fun sz => um_R (c_X4_whyNot l z0 D t x0 s0 s1 e0 E A B G T μ a1 a2 a3 r (cq_whyNot hI h)) ⟨μ, L, S0, S1, hI, s0, s1, e0, E, A, B, G, T, rfl, hR⟩) sz
set_option maxHeartbeats 4000000 in
theorem hq_forced (l : Launch) (hl9 : l.stackTraces = false) (z0 : Nat) (D : va_G) (t : Nat → ClassId) (x0 : Nat) (σ : ZT) (a1 : Int32) (r : Int32) (h : q_forced σ a1 = some r) (w : va_W) (hw : XG t x0 σ w) (sz : Nat) : Met l yL_forced (wh_ yL_forced cL_forced 3 (some .int) [(0, 5, 6, 15)]) rq_forced (PMH z0 D t [.ref x0, .int a1] w (w.map Prod.fst) sz) (QB (fun _ : va_W => some (.int r)) D (fun w9 => w9) (XG t x0 σ) (w.map Prod.fst) sz) 0 0 (OA (w.map Prod.fst) sz) := by
  have h0 := XG_h0 hw
  obtain ⟨μ, L, S0, S1, hI, s0, s1, e0, E, A, B, G, T, rfl, hR⟩ := hw
  have hn := hI.2.2.2.2.2.1
  exact gr_forced l z0 D t x0 a1 h0 (fun sz => um_R (c_X4_forced l z0 D t x0 s0 s1 e0 E A B G T μ a1 r (cq_forced hI h)) ⟨μ, L, S0, S1, hI, s0, s1, e0, E, A, B, G, T, rfl, hR⟩) sz
set_option maxHeartbeats 4000000 in
theorem hq_waysWith (l : Launch) (hl9 : l.stackTraces = false) (z0 : Nat) (D : va_G) (t : Nat → ClassId) (x0 : Nat) (σ : ZT) (a1 : Int32) (a2 : Int32) (a3 : Int32) (r : Int32) (h : q_waysWith σ a1 a2 a3 = some r) (w : va_W) (hw : XG t x0 σ w) (sz : Nat) : Met l yL_waysWith (wh_ yL_waysWith cL_waysWith 5 (some .int) [(0, 7, 8, 15)]) rq_waysWith (PMH z0 D t [.ref x0, .int a1, .int a2, .int a3] w (w.map Prod.fst) sz) (QB (fun _ : va_W => some (.int r)) D (fun w9 => w9) (XG t x0 σ) (w.map Prod.fst) sz) 0 0 (OA (w.map Prod.fst) sz) := by
  have h0 := XG_h0 hw
  obtain ⟨μ, L, S0, S1, hI, s0, s1, e0, E, A, B, G, T, rfl, hR⟩ := hw
  have hn := hI.2.2.2.2.2.1
  obtain ⟨p, e1, e9⟩ := cq_waysWith hI h
  exact gr_waysWith l z0 D t x0 a1 a2 a3 h0 (fun sz => um_M (c_X4_waysWith l z0 D t x0 s0 s1 e0 E A B G T μ a1 a2 a3 (r, p) sz e1) XW_map ⟨xP μ (x_rest μ) p, L, S0, S1, ZI_P hI e9, s0, s1, e0, E, A, B, G, T, rfl, hR⟩) sz
set_option maxHeartbeats 4000000 in
theorem ht_cellOf (l : Launch) (hl9 : l.stackTraces = false) (z0 : Nat) (D : va_G) (t : Nat → ClassId) (x0 : Nat) (σ : ZT) (a1 : Int32) (a2 : Int32) (a3 : Int32) (r : Int32) (h : t_cellOf σ a1 a2 a3 = some r) (w : va_W) (hw : XG t x0 σ w) (sz : Nat) : Met l yL_cellOf (wh_ yL_cellOf cL_cellOf 5 (some .int) [(0, 7, 8, 21), (0, 7, 13, 15)]) rh_cellOf (PMH z0 D t [.ref x0, .int a1, .int a2, .int a3] w (w.map Prod.fst) sz) (QB (fun _ : va_W => some (.int r)) D (fun w9 => w9) (XG t x0 σ) (w.map Prod.fst) sz) 1 6 (OA (w.map Prod.fst) sz) := by
  have h0 := XG_h0 hw
  obtain ⟨μ, L, S0, S1, hI, s0, s1, e0, E, A, B, G, T, rfl, hR⟩ := hw
  have hn := hI.2.2.2.2.2.1
  rcases ct_cellOf hI h with ⟨rfl, e1⟩ | ⟨rfl, e1⟩
  · exact gx1_cellOf l z0 D t x0 a1 a2 a3 h0 (fun sz => ux_M (x_X4_cell l hl9 z0 D t x0 s0 s1 e0 E A B G T μ a1 a2 a3 IOE sz e1) XW_map ⟨μ, L, S0, S1, hI, s0, s1, e0, E, A, B, G, T, rfl, hR⟩) sz
  · exact gx2_cellOf l z0 D t x0 a1 a2 a3 h0 (fun sz => ux_M (x_X4_cell l hl9 z0 D t x0 s0 s1 e0 E A B G T μ a1 a2 a3 IAE sz e1) XW_map ⟨μ, L, S0, S1, hI, s0, s1, e0, E, A, B, G, T, rfl, hR⟩) sz
set_option maxHeartbeats 4000000 in
theorem ht_triple (l : Launch) (hl9 : l.stackTraces = false) (z0 : Nat) (D : va_G) (t : Nat → ClassId) (x0 : Nat) (σ : ZT) (a1 : Int32) (a2 : Int32) (r : Int32) (h : t_triple σ a1 a2 = some r) (w : va_W) (hw : XG t x0 σ w) (sz : Nat) : Met l yL_triple (wh_ yL_triple cL_triple 4 (some .int) [(0, 6, 7, 21), (0, 6, 11, 15)]) rh_triple (PMH z0 D t [.ref x0, .int a1, .int a2] w (w.map Prod.fst) sz) (QB (fun _ : va_W => some (.int r)) D (fun w9 => w9) (XG t x0 σ) (w.map Prod.fst) sz) 1 6 (OA (w.map Prod.fst) sz) := by
  have h0 := XG_h0 hw
  obtain ⟨μ, L, S0, S1, hI, s0, s1, e0, E, A, B, G, T, rfl, hR⟩ := hw
  have hn := hI.2.2.2.2.2.1
  rcases ct_triple hI h with ⟨rfl, e1⟩ | ⟨rfl, e1⟩
  · exact gx1_triple l z0 D t x0 a1 a2 h0 (fun sz => ux_M (x_X4_triple l hl9 z0 D t x0 s0 s1 e0 E A B G T μ a1 a2 IOE sz e1) XW_map ⟨μ, L, S0, S1, hI, s0, s1, e0, E, A, B, G, T, rfl, hR⟩) sz
  · exact gx2_triple l z0 D t x0 a1 a2 h0 (fun sz => ux_M (x_X4_triple l hl9 z0 D t x0 s0 s1 e0 E A B G T μ a1 a2 IAE sz e1) XW_map ⟨μ, L, S0, S1, hI, s0, s1, e0, E, A, B, G, T, rfl, hR⟩) sz
set_option maxHeartbeats 4000000 in
theorem ht_row (l : Launch) (hl9 : l.stackTraces = false) (z0 : Nat) (D : va_G) (t : Nat → ClassId) (x0 : Nat) (σ : ZT) (a1 : Int32) (a2 : Int32) (r : Int32) (h : t_row σ a1 a2 = some r) (w : va_W) (hw : XG t x0 σ w) (sz : Nat) : Met l yL_row (wh_ yL_row cL_row 4 (some .int) [(0, 6, 7, 21), (0, 6, 11, 15)]) rh_row (PMH z0 D t [.ref x0, .int a1, .int a2] w (w.map Prod.fst) sz) (QB (fun _ : va_W => some (.int r)) D (fun w9 => w9) (XG t x0 σ) (w.map Prod.fst) sz) 1 6 (OA (w.map Prod.fst) sz) := by
  have h0 := XG_h0 hw
  obtain ⟨μ, L, S0, S1, hI, s0, s1, e0, E, A, B, G, T, rfl, hR⟩ := hw
  have hn := hI.2.2.2.2.2.1
  rcases ct_row hI h with ⟨rfl, e1⟩ | ⟨rfl, e1⟩
  · exact gx1_row l z0 D t x0 a1 a2 h0 (fun sz => ux_M (x_X4_row l hl9 z0 D t x0 s0 s1 e0 E A B G T μ a1 a2 IOE sz e1) XW_map ⟨μ, L, S0, S1, hI, s0, s1, e0, E, A, B, G, T, rfl, hR⟩) sz
  · exact gx2_row l z0 D t x0 a1 a2 h0 (fun sz => ux_M (x_X4_row l hl9 z0 D t x0 s0 s1 e0 E A B G T μ a1 a2 IAE sz e1) XW_map ⟨μ, L, S0, S1, hI, s0, s1, e0, E, A, B, G, T, rfl, hR⟩) sz
set_option maxHeartbeats 4000000 in
theorem ht_count (l : Launch) (hl9 : l.stackTraces = false) (z0 : Nat) (D : va_G) (t : Nat → ClassId) (x0 : Nat) (σ : ZT) (a1 : Int32) (r : Int32) (h : t_count σ a1 = some r) (w : va_W) (hw : XG t x0 σ w) (sz : Nat) : Met l yL_count (wh_ yL_count cL_count 3 (some .int) [(0, 5, 6, 15)]) rh_count (PMH z0 D t [.ref x0, .int a1] w (w.map Prod.fst) sz) (QB (fun _ : va_W => some (.int r)) D (fun w9 => w9) (XG t x0 σ) (w.map Prod.fst) sz) 1 6 (OA (w.map Prod.fst) sz) := by
  have h0 := XG_h0 hw
  obtain ⟨μ, L, S0, S1, hI, s0, s1, e0, E, A, B, G, T, rfl, hR⟩ := hw
  have hn := hI.2.2.2.2.2.1
  obtain ⟨rfl, e1⟩ := ct_count (x := μ) h
  exact gx1_count l z0 D t x0 a1 h0 (fun sz => ux_M (x_X4_count l hl9 z0 D t x0 s0 s1 e0 E A B G T μ a1 IAE sz e1) XW_map ⟨μ, L, S0, S1, hI, s0, s1, e0, E, A, B, G, T, rfl, hR⟩) sz
set_option maxHeartbeats 4000000 in
theorem ht_waysWith (l : Launch) (hl9 : l.stackTraces = false) (z0 : Nat) (D : va_G) (t : Nat → ClassId) (x0 : Nat) (σ : ZT) (a1 : Int32) (a2 : Int32) (a3 : Int32) (r : Int32) (h : t_waysWith σ a1 a2 a3 = some r) (w : va_W) (hw : XG t x0 σ w) (sz : Nat) : Met l yL_waysWith (wh_ yL_waysWith cL_waysWith 5 (some .int) [(0, 7, 8, 15)]) rh_waysWith (PMH z0 D t [.ref x0, .int a1, .int a2, .int a3] w (w.map Prod.fst) sz) (QB (fun _ : va_W => some (.int r)) D (fun w9 => w9) (XG t x0 σ) (w.map Prod.fst) sz) 1 6 (OA (w.map Prod.fst) sz) := by
  have h0 := XG_h0 hw
  obtain ⟨μ, L, S0, S1, hI, s0, s1, e0, E, A, B, G, T, rfl, hR⟩ := hw
  have hn := hI.2.2.2.2.2.1
  obtain ⟨rfl, e1⟩ := ct_waysWith (x := μ) h
  exact gx1_waysWith l z0 D t x0 a1 a2 a3 h0 (fun sz => ux_M (x_X4_waysWith l hl9 z0 D t x0 s0 s1 e0 E A B G T μ a1 a2 a3 IAE sz e1) XW_map ⟨μ, L, S0, S1, hI, s0, s1, e0, E, A, B, G, T, rfl, hR⟩) sz
set_option maxHeartbeats 4000000 in
theorem ht_forced (l : Launch) (hl9 : l.stackTraces = false) (z0 : Nat) (D : va_G) (t : Nat → ClassId) (x0 : Nat) (σ : ZT) (a1 : Int32) (r : Int32) (h : t_forced σ a1 = some r) (w : va_W) (hw : XG t x0 σ w) (sz : Nat) : Met l yL_forced (wh_ yL_forced cL_forced 3 (some .int) [(0, 5, 6, 15)]) rh_forced (PMH z0 D t [.ref x0, .int a1] w (w.map Prod.fst) sz) (QB (fun _ : va_W => some (.int r)) D (fun w9 => w9) (XG t x0 σ) (w.map Prod.fst) sz) 1 6 (OA (w.map Prod.fst) sz) := by
  have h0 := XG_h0 hw
  obtain ⟨μ, L, S0, S1, hI, s0, s1, e0, E, A, B, G, T, rfl, hR⟩ := hw
  have hn := hI.2.2.2.2.2.1
  obtain ⟨rfl, e1⟩ := ct_forced (x := μ) h
  exact gx1_forced l z0 D t x0 a1 h0 (fun sz => ux_M (x_X4_forced l hl9 z0 D t x0 s0 s1 e0 E A B G T μ a1 IAE sz e1) XW_map ⟨μ, L, S0, S1, hI, s0, s1, e0, E, A, B, G, T, rfl, hR⟩) sz
set_option maxHeartbeats 4000000 in
theorem hm_garden (l : Launch) (hl9 : l.stackTraces = false) (z0 : Nat) (D : va_G) (t : Nat → ClassId) (x0 : Nat) (σ : ZT) (a1 : Int32) (a2 : Int32) (r : Int32 × ZT) (h : mv_garden σ a1 a2 = some r) (w : va_W) (hw : XG t x0 σ w) (sz : Nat) : Met l yL_garden (wh_ yL_garden cL_garden 4 (some .int) [(0, 6, 7, 15)]) rh_garden (PMH z0 D t [.ref x0, .int a1, .int a2] w (w.map Prod.fst) sz) (QB (fun _ : va_W => some (.int r.1)) D (fun w9 => w9) (XG t x0 r.2) (w.map Prod.fst) sz) 5 70 (OA (w.map Prod.fst) sz) := by
  have h0 := XG_h0 hw
  obtain ⟨μ, L, S0, S1, hI, s0, s1, e0, E, A, B, G, T, rfl, hR⟩ := hw
  have hn := hI.2.2.2.2.2.1
  obtain ⟨v, σ'⟩ := r
  rcases zm_garden hI h with ⟨res, e1, rfl, e5⟩ | ⟨rfl, rfl, e1⟩
  · exact gr_garden l z0 D t x0 a1 a2 h0 (fun sz => um_S (c_X4_garden l z0 D t x0 s0 s1 e0 E A B G T μ a1 a2 res sz L S0 S1 hR hn e1) XW_map (fun e T' hT => ⟨xGarden μ res, svL L (gsX μ), S0, S1, e5, s0, s1, e, E, A, B, G, T', rfl, by rw [(gX_Garden μ res).2.1]; exact hT⟩)) sz
  · exact gx1_garden l z0 D t x0 a1 a2 h0 (fun sz => ux_M (x_X4_garden l hl9 z0 D t x0 s0 s1 e0 E A B G T μ a1 a2 IAE sz L S0 S1 hR hn e1) XW_map ⟨μ, L, S0, S1, hI, s0, s1, e0, E, A, B, G, T, rfl, hR⟩) sz
set_option maxHeartbeats 4000000 in
theorem hm_pond (l : Launch) (hl9 : l.stackTraces = false) (z0 : Nat) (D : va_G) (t : Nat → ClassId) (x0 : Nat) (σ : ZT) (a1 : Int32) (a2 : Int32) (r : Int32 × ZT) (h : mv_pond σ a1 a2 = some r) (w : va_W) (hw : XG t x0 σ w) (sz : Nat) : Met l yL_pond (wh_ yL_pond cL_pond 4 (some .int) [(0, 6, 7, 21), (0, 6, 11, 23)]) rh_pond (PMH z0 D t [.ref x0, .int a1, .int a2] w (w.map Prod.fst) sz) (QB (fun _ : va_W => some (.int r.1)) D (fun w9 => w9) (XG t x0 r.2) (w.map Prod.fst) sz) 5 70 (OA (w.map Prod.fst) sz) := by
  have h0 := XG_h0 hw
  obtain ⟨μ, L, S0, S1, hI, s0, s1, e0, E, A, B, G, T, rfl, hR⟩ := hw
  have hn := hI.2.2.2.2.2.1
  obtain ⟨v, σ'⟩ := r
  rcases zm_pond hI h with ⟨res, e1, rfl, e5⟩ | ⟨rfl, rfl, e1⟩ | ⟨rfl, rfl, e1⟩
  · exact gr_pond l z0 D t x0 a1 a2 h0 (fun sz => um_S (c_X4_pond l z0 D t x0 s0 s1 e0 E A B G T μ a1 a2 res sz L S0 S1 hR hn e1) XW_map (fun e T' hT => ⟨xPond μ res, svL L (gsX μ), S0, S1, e5, s0, s1, e, E, A, B, G, T', rfl, by rw [(gX_Pond μ res).2.1]; exact hT⟩)) sz
  · exact gx1_pond l z0 D t x0 a1 a2 h0 (fun sz => ux_M (x_X4_pond l hl9 z0 D t x0 s0 s1 e0 E A B G T μ a1 a2 IOE sz L S0 S1 hR hn e1) XW_map ⟨μ, L, S0, S1, hI, s0, s1, e0, E, A, B, G, T, rfl, hR⟩) sz
  · exact gx2_pond l z0 D t x0 a1 a2 h0 (fun sz => ux_M (x_X4_pond l hl9 z0 D t x0 s0 s1 e0 E A B G T μ a1 a2 ISE sz L S0 S1 hR hn e1) XW_map ⟨μ, L, S0, S1, hI, s0, s1, e0, E, A, B, G, T, rfl, hR⟩) sz
set_option maxHeartbeats 4000000 in
theorem hm_wall (l : Launch) (hl9 : l.stackTraces = false) (z0 : Nat) (D : va_G) (t : Nat → ClassId) (x0 : Nat) (σ : ZT) (a1 : Int32) (a2 : Int32) (r : Int32 × ZT) (h : mv_wall σ a1 a2 = some r) (w : va_W) (hw : XG t x0 σ w) (sz : Nat) : Met l yL_wall (wh_ yL_wall cL_wall 4 (some .int) [(0, 6, 7, 21), (0, 6, 11, 23)]) rh_wall (PMH z0 D t [.ref x0, .int a1, .int a2] w (w.map Prod.fst) sz) (QB (fun _ : va_W => some (.int r.1)) D (fun w9 => w9) (XG t x0 r.2) (w.map Prod.fst) sz) 5 70 (OA (w.map Prod.fst) sz) := by
  have h0 := XG_h0 hw
  obtain ⟨μ, L, S0, S1, hI, s0, s1, e0, E, A, B, G, T, rfl, hR⟩ := hw
  have hn := hI.2.2.2.2.2.1
  obtain ⟨v, σ'⟩ := r
  rcases zm_wall hI h with ⟨res, e1, rfl, e5⟩ | ⟨rfl, rfl, e1⟩ | ⟨rfl, rfl, e1⟩
  · exact gr_wall l z0 D t x0 a1 a2 h0 (fun sz => um_S (c_X4_wall l z0 D t x0 s0 s1 e0 E A B G T μ a1 a2 res sz L S0 S1 hR hn e1) XW_map (fun e T' hT => ⟨xWall μ res, svL L (gsX μ), S0, S1, e5, s0, s1, e, E, A, B, G, T', rfl, by rw [(gX_Wall μ res).2.1]; exact hT⟩)) sz
  · exact gx1_wall l z0 D t x0 a1 a2 h0 (fun sz => ux_M (x_X4_wall l hl9 z0 D t x0 s0 s1 e0 E A B G T μ a1 a2 IOE sz L S0 S1 hR hn e1) XW_map ⟨μ, L, S0, S1, hI, s0, s1, e0, E, A, B, G, T, rfl, hR⟩) sz
  · exact gx2_wall l z0 D t x0 a1 a2 h0 (fun sz => ux_M (x_X4_wall l hl9 z0 D t x0 s0 s1 e0 E A B G T μ a1 a2 ISE sz L S0 S1 hR hn e1) XW_map ⟨μ, L, S0, S1, hI, s0, s1, e0, E, A, B, G, T, rfl, hR⟩) sz
set_option maxHeartbeats 4000000 in
theorem hm_lay (l : Launch) (hl9 : l.stackTraces = false) (z0 : Nat) (D : va_G) (t : Nat → ClassId) (x0 : Nat) (σ : ZT) (a1 : Int32) (a2 : Int32) (a3 : Int32) (r : Int32 × ZT) (h : mv_lay σ a1 a2 a3 = some r) (w : va_W) (hw : XG t x0 σ w) (sz : Nat) : Met l yL_lay (wh_ yL_lay cL_lay 5 (some .int) [(0, 7, 8, 15)]) rh_lay (PMH z0 D t [.ref x0, .int a1, .int a2, .int a3] w (w.map Prod.fst) sz) (QB (fun _ : va_W => some (.int r.1)) D (fun w9 => w9) (XG t x0 r.2) (w.map Prod.fst) sz) 5 70 (OA (w.map Prod.fst) sz) := by
  have h0 := XG_h0 hw
  obtain ⟨μ, L, S0, S1, hI, s0, s1, e0, E, A, B, G, T, rfl, hR⟩ := hw
  have hn := hI.2.2.2.2.2.1
  obtain ⟨v, σ'⟩ := r
  rcases zm_lay hI h with ⟨res, e1, rfl, e5⟩ | ⟨rfl, rfl, e1⟩
  · exact gr_lay l z0 D t x0 a1 a2 a3 h0 (fun sz => um_S (c_X4_lay l z0 D t x0 s0 s1 e0 E A B G T μ a1 a2 a3 res sz L S0 S1 hR hn e1) XW_map (fun e T' hT => ⟨xLay μ res, svL L (gsX μ), S0, S1, e5, s0, s1, e, E, A, B, G, T', rfl, by rw [(gX_Lay μ res).2.1]; exact hT⟩)) sz
  · exact gx1_lay l z0 D t x0 a1 a2 a3 h0 (fun sz => ux_M (x_X4_lay l hl9 z0 D t x0 s0 s1 e0 E A B G T μ a1 a2 a3 IAE sz L S0 S1 hR hn e1) XW_map ⟨μ, L, S0, S1, hI, s0, s1, e0, E, A, B, G, T, rfl, hR⟩) sz
set_option maxHeartbeats 4000000 in
theorem hm_lift (l : Launch) (hl9 : l.stackTraces = false) (z0 : Nat) (D : va_G) (t : Nat → ClassId) (x0 : Nat) (σ : ZT) (a1 : Int32) (a2 : Int32) (r : Int32 × ZT) (h : mv_lift σ a1 a2 = some r) (w : va_W) (hw : XG t x0 σ w) (sz : Nat) : Met l yL_lift (wh_ yL_lift cL_lift 4 (some .int) [(0, 6, 7, 21), (0, 6, 11, 23)]) rh_lift (PMH z0 D t [.ref x0, .int a1, .int a2] w (w.map Prod.fst) sz) (QB (fun _ : va_W => some (.int r.1)) D (fun w9 => w9) (XG t x0 r.2) (w.map Prod.fst) sz) 5 70 (OA (w.map Prod.fst) sz) := by
  have h0 := XG_h0 hw
  obtain ⟨μ, L, S0, S1, hI, s0, s1, e0, E, A, B, G, T, rfl, hR⟩ := hw
  have hn := hI.2.2.2.2.2.1
  obtain ⟨v, σ'⟩ := r
  rcases zm_lift hI h with ⟨res, e1, rfl, e5⟩ | ⟨rfl, rfl, e1⟩ | ⟨rfl, rfl, e1⟩
  · exact gr_lift l z0 D t x0 a1 a2 h0 (fun sz => um_S (c_X4_lift l z0 D t x0 s0 s1 e0 E A B G T μ a1 a2 res sz L S0 S1 hR hn e1) XW_map (fun e T' hT => ⟨xLift μ res, svL L (gsX μ), S0, S1, e5, s0, s1, e, E, A, B, G, T', rfl, by rw [(gX_Lift μ res).2.1]; exact hT⟩)) sz
  · exact gx1_lift l z0 D t x0 a1 a2 h0 (fun sz => ux_M (x_X4_lift l hl9 z0 D t x0 s0 s1 e0 E A B G T μ a1 a2 IOE sz L S0 S1 hR hn e1) XW_map ⟨μ, L, S0, S1, hI, s0, s1, e0, E, A, B, G, T, rfl, hR⟩) sz
  · exact gx2_lift l z0 D t x0 a1 a2 h0 (fun sz => ux_M (x_X4_lift l hl9 z0 D t x0 s0 s1 e0 E A B G T μ a1 a2 ISE sz L S0 S1 hR hn e1) XW_map ⟨μ, L, S0, S1, hI, s0, s1, e0, E, A, B, G, T, rfl, hR⟩) sz
set_option maxHeartbeats 4000000 in
theorem hm_halve (l : Launch) (hl9 : l.stackTraces = false) (z0 : Nat) (D : va_G) (t : Nat → ClassId) (x0 : Nat) (σ : ZT) (r : Int32 × ZT) (h : mv_halve σ = some r) (w : va_W) (hw : XG t x0 σ w) (sz : Nat) : Met l yL_halve (wh_ yL_halve cL_halve 2 (some .int) [(0, 4, 5, 23)]) rh_halve (PMH z0 D t [.ref x0] w (w.map Prod.fst) sz) (QB (fun _ : va_W => some (.int r.1)) D (fun w9 => w9) (XG t x0 r.2) (w.map Prod.fst) sz) 5 70 (OA (w.map Prod.fst) sz) := by
  have h0 := XG_h0 hw
  obtain ⟨μ, L, S0, S1, hI, s0, s1, e0, E, A, B, G, T, rfl, hR⟩ := hw
  have hn := hI.2.2.2.2.2.1
  obtain ⟨v, σ'⟩ := r
  rcases zm_halve hI h with ⟨res, e1, rfl, e5⟩ | ⟨rfl, rfl, e1⟩
  · exact gr_halve l z0 D t x0 h0 (fun sz => um_S (c_X4_halve l z0 D t x0 s0 s1 e0 E A B G T μ res sz L S0 S1 hR hn e1) XW_map (fun e T' hT => ⟨xHalve μ res, svL L (gsX μ), S0, S1, e5, s0, s1, e, E, A, B, G, T', rfl, by rw [(gX_Lift μ res).2.1]; exact hT⟩)) sz
  · exact gx1_halve l z0 D t x0 h0 (fun sz => ux_M (x_X4_halve l hl9 z0 D t x0 s0 s1 e0 E A B G T μ ISE sz L S0 S1 hR hn e1) XW_map ⟨μ, L, S0, S1, hI, s0, s1, e0, E, A, B, G, T, rfl, hR⟩) sz
set_option maxHeartbeats 4000000 in
theorem hm_flip (l : Launch) (hl9 : l.stackTraces = false) (z0 : Nat) (D : va_G) (t : Nat → ClassId) (x0 : Nat) (σ : ZT) (a1 : Int32) (a2 : Int32) (a3 : Int32) (r : Int32 × ZT) (h : mv_flip σ a1 a2 a3 = some r) (w : va_W) (hw : XG t x0 σ w) (sz : Nat) : Met l yL_flip (wh_ yL_flip cL_flip 5 (some .int) [(0, 7, 8, 21), (0, 7, 13, 23)]) rh_flip (PMH z0 D t [.ref x0, .int a1, .int a2, .int a3] w (w.map Prod.fst) sz) (QB (fun _ : va_W => some (.int r.1)) D (fun w9 => w9) (XG t x0 r.2) (w.map Prod.fst) sz) 5 70 (OA (w.map Prod.fst) sz) := by
  have h0 := XG_h0 hw
  obtain ⟨μ, L, S0, S1, hI, s0, s1, e0, E, A, B, G, T, rfl, hR⟩ := hw
  have hn := hI.2.2.2.2.2.1
  obtain ⟨v, σ'⟩ := r
  obtain ⟨hb, rfl, hc⟩ := zm_flip hI h
  rcases hc with ⟨res, e1, rfl, e5⟩ | ⟨rfl, rfl, e1⟩ | ⟨rfl, rfl, e1⟩
  · exact gr_flip l z0 D t x0 a1 a2 (nI (bn hb)) h0 (fun sz => um_S (c_X4_flip l z0 D t x0 s0 s1 e0 E A B G T μ a1 a2 (nI (bn hb)) res sz L S0 S1 hR hn e1) XW_map (fun e T' hT => ⟨xFlip μ res, svL L (gsX μ), S0, S1, e5, s0, s1, e, E, A, B, G, T', rfl, by rw [(gX_Flip μ res).2.1]; exact hT⟩)) sz
  · exact gx1_flip l z0 D t x0 a1 a2 (nI (bn hb)) h0 (fun sz => ux_M (x_X4_flip l hl9 z0 D t x0 s0 s1 e0 E A B G T μ a1 a2 (nI (bn hb)) IOE sz L S0 S1 hR hn e1) XW_map ⟨μ, L, S0, S1, hI, s0, s1, e0, E, A, B, G, T, rfl, hR⟩) sz
  · exact gx2_flip l z0 D t x0 a1 a2 (nI (bn hb)) h0 (fun sz => ux_M (x_X4_flip l hl9 z0 D t x0 s0 s1 e0 E A B G T μ a1 a2 (nI (bn hb)) ISE sz L S0 S1 hR hn e1) XW_map ⟨μ, L, S0, S1, hI, s0, s1, e0, E, A, B, G, T, rfl, hR⟩) sz
set_option maxHeartbeats 4000000 in
theorem hm_fill (l : Launch) (hl9 : l.stackTraces = false) (z0 : Nat) (D : va_G) (t : Nat → ClassId) (x0 : Nat) (σ : ZT) (r : Int32 × ZT) (h : mv_fill σ = some r) (w : va_W) (hw : XG t x0 σ w) (sz : Nat) : Met l yL_fill (wh_ yL_fill cL_fill 2 (some .int) [(0, 4, 5, 23)]) rh_fill (PMH z0 D t [.ref x0] w (w.map Prod.fst) sz) (QB (fun _ : va_W => some (.int r.1)) D (fun w9 => w9) (XG t x0 r.2) (w.map Prod.fst) sz) 5 70 (OA (w.map Prod.fst) sz) := by
  have h0 := XG_h0 hw
  obtain ⟨μ, L, S0, S1, hI, s0, s1, e0, E, A, B, G, T, rfl, hR⟩ := hw
  have hn := hI.2.2.2.2.2.1
  obtain ⟨v, σ'⟩ := r
  rcases zm_fill hI h with ⟨res, e1, rfl, e5⟩ | ⟨rfl, rfl, p, e1, e5⟩
  · exact gr_fill l z0 D t x0 h0 (fun sz => um_S (c_X4_fill l z0 D t x0 s0 s1 e0 E A B G T μ res sz L S0 S1 hR hn e1) XW_map (fun e T' hT => ⟨xFill μ res, svL L (gsX μ), S0, S1, e5, s0, s1, e, E, A, B, G, T', rfl, by rw [(gX_Fill μ res).2.1]; exact hT⟩)) sz
  · exact gx1_fill l z0 D t x0 h0 (fun sz => ux_M (x_X4_fill l hl9 z0 D t x0 s0 s1 e0 E A B G T μ (ISE, p) sz L S0 S1 hR hn e1) XW_map ⟨xP μ (x_rest μ) p, L, S0, S1, e5, s0, s1, e0, E, A, B, G, T, rfl, hR⟩) sz
set_option maxHeartbeats 4000000 in
theorem hm_keep (l : Launch) (hl9 : l.stackTraces = false) (z0 : Nat) (D : va_G) (t : Nat → ClassId) (x0 : Nat) (σ : ZT) (a1 : Int32) (r : Int32 × ZT) (h : mv_keep σ a1 = some r) (w : va_W) (hw : XG t x0 σ w) (sz : Nat) : Met l yL_keep (wh_ yL_keep cL_keep 3 (some .int) [(0, 5, 6, 15)]) rh_keep (PMH z0 D t [.ref x0, .int a1] w (w.map Prod.fst) sz) (QB (fun _ : va_W => some (.int r.1)) D (fun w9 => w9) (XG t x0 r.2) (w.map Prod.fst) sz) 5 70 (OA (w.map Prod.fst) sz) := by
  have h0 := XG_h0 hw
  obtain ⟨μ, L, S0, S1, hI, s0, s1, e0, E, A, B, G, T, rfl, hR⟩ := hw
  have hn := hI.2.2.2.2.2.1
  obtain ⟨v, σ'⟩ := r
  rcases zm_keep hI h with ⟨k, hk, rfl, rfl, e5⟩ | ⟨rfl, rfl, e1⟩
  · exact gr_keep l z0 D t x0 (nI k) h0 (fun sz => um_B (c_X4_keep l z0 D t x0 s0 s1 e0 E A B G T μ L S0 S1 k sz hk (slotS hk) hR) XW_map (fun b hb => ⟨x_sl' μ b.2, L, _, _, e5 b.2, s0, s1, e0, E, A, B, G, b.1, rfl, hb⟩)) sz
  · exact gx1_keep l z0 D t x0 a1 h0 (fun sz => ux_M (x_X4_keep l hl9 z0 D t x0 s0 s1 e0 E A B G T μ a1 IAE sz e1) XW_map ⟨μ, L, S0, S1, hI, s0, s1, e0, E, A, B, G, T, rfl, hR⟩) sz
set_option maxHeartbeats 4000000 in
theorem hm_goBack (l : Launch) (hl9 : l.stackTraces = false) (z0 : Nat) (D : va_G) (t : Nat → ClassId) (x0 : Nat) (σ : ZT) (a1 : Int32) (r : Int32 × ZT) (h : mv_goBack σ a1 = some r) (w : va_W) (hw : XG t x0 σ w) (sz : Nat) : Met l yL_goBack (wh_ yL_goBack cL_goBack 3 (some .int) [(0, 5, 6, 15), (0, 5, 10, 23)]) rh_goBack (PMH z0 D t [.ref x0, .int a1] w (w.map Prod.fst) sz) (QB (fun _ : va_W => some (.int r.1)) D (fun w9 => w9) (XG t x0 r.2) (w.map Prod.fst) sz) 5 70 (OA (w.map Prod.fst) sz) := by
  have h0 := XG_h0 hw
  obtain ⟨μ, L, S0, S1, hI, s0, s1, e0, E, A, B, G, T, rfl, hR⟩ := hw
  have hn := hI.2.2.2.2.2.1
  obtain ⟨v, σ'⟩ := r
  rcases zm_goBack hI (rep_slk hR).1 (rep_slk hR).2 h with ⟨k, γ, hk, rfl, g1, rfl, e5⟩ | ⟨rfl, rfl, e1⟩ | ⟨rfl, rfl, e1⟩
  · exact gr_goBack l z0 D t x0 (nI k) h0 (fun sz => um_B (c_X4_goBack l z0 D t x0 s0 s1 e0 E A B G T μ L S0 S1 k γ sz hk (slotS hk) hR hn g1) XW_map (fun b hb => ⟨gdX (svX μ) γ, svL L (gsX μ), S0, S1, e5, s0, s1, b.2.1, E, A, B, gA b.1.1 b.1.2, b.2.2, rfl, by rw [(gX_gd (svX μ) γ).2.1, (svX_sl μ).1]; exact hb⟩)) sz
  · exact gx1_goBack l z0 D t x0 a1 h0 (fun sz => ux_M (x_X4_goBack l hl9 z0 D t x0 s0 s1 e0 E A B G T μ a1 IAE sz e1) XW_map ⟨μ, L, S0, S1, hI, s0, s1, e0, E, A, B, G, T, rfl, hR⟩) sz
  · exact gx2_goBack l z0 D t x0 a1 h0 (fun sz => ux_M (x_X4_goBack l hl9 z0 D t x0 s0 s1 e0 E A B G T μ a1 ISE sz e1) XW_map ⟨μ, L, S0, S1, hI, s0, s1, e0, E, A, B, G, T, rfl, hR⟩) sz
set_option maxHeartbeats 4000000 in
theorem hm_undo (l : Launch) (hl9 : l.stackTraces = false) (z0 : Nat) (D : va_G) (t : Nat → ClassId) (x0 : Nat) (σ : ZT) (r : Int32 × ZT) (h : mv_undo σ = some r) (w : va_W) (hw : XG t x0 σ w) (sz : Nat) : Met l yL_undo (wh_ yL_undo cL_undo 2 (some .int) [(0, 4, 5, 23)]) rh_undo (PMH z0 D t [.ref x0] w (w.map Prod.fst) sz) (QB (fun _ : va_W => some (.int r.1)) D (fun w9 => w9) (XG t x0 r.2) (w.map Prod.fst) sz) 5 70 (OA (w.map Prod.fst) sz) := by
  have h0 := XG_h0 hw
  obtain ⟨μ, L, S0, S1, hI, s0, s1, e0, E, A, B, G, T, rfl, hR⟩ := hw
  have hn := hI.2.2.2.2.2.1
  obtain ⟨v, σ'⟩ := r
  rcases zm_undo hI h with ⟨rfl, rfl, rfl⟩ | ⟨L1, γ, rfl, rfl, e5⟩
  · exact gx1_undo l z0 D t x0 h0 (fun sz => ux_M (x_X4_undo l hl9 z0 D t x0 s0 s1 e0 E A B G T μ ISE sz (by
      have hs : f_Jx4a65c_size_8abf5 (x_lmod μ, x_lsize μ) = some (x_lsize μ) := rfl
      unfold f_X4_undo
      rw [hs, ob, hn]
      decide +kernel)) XW_map ⟨μ, [], S0, S1, hI, s0, s1, e0, E, A, B, G, T, rfl, hR⟩) sz
  · rw [List.length_append] at hn
    exact gr_undo l z0 D t x0 h0 (fun sz => um_B (c_X4_undo l z0 D t x0 s0 s1 e0 E A B G T μ L1 S0 S1 γ sz hR hn) XW_map (fun b hb => ⟨unX μ γ L1.length, L1, S0, S1, e5, s0, s1, e0, E, A, B, gA b.1.1 b.1.2, b.2, rfl, by rw [(gX_un μ γ L1.length).2.1]; exact hb⟩)) sz
set_option maxHeartbeats 4000000 in
theorem hm_append (l : Launch) (hl9 : l.stackTraces = false) (z0 : Nat) (D : va_G) (t : Nat → ClassId) (x0 : Nat) (σ : ZT) (a1 : Int32) (r : Int32 × ZT) (h : mv_append σ a1 = some r) (w : va_W) (hw : XG t x0 σ w) (sz : Nat) : Met l yL_append (wh_ yL_append cL_append 3 (some .int) [(0, 5, 6, 15), (0, 5, 10, 23)]) rh_append (PMH z0 D t [.ref x0, .int a1] w (w.map Prod.fst) sz) (QB (fun _ : va_W => some (.int r.1)) D (fun w9 => w9) (XG t x0 r.2) (w.map Prod.fst) sz) 5 70 (OA (w.map Prod.fst) sz) := by
  have h0 := XG_h0 hw
  obtain ⟨μ, L, S0, S1, hI, s0, s1, e0, E, A, B, G, T, rfl, hR⟩ := hw
  have hn := hI.2.2.2.2.2.1
  obtain ⟨v, σ'⟩ := r
  obtain ⟨rfl, rfl, e1⟩ := zm_append (x := μ) h
  exact gx1_append l z0 D t x0 a1 h0 (fun sz => ux_M (x_X4_append l hl9 z0 D t x0 s0 s1 e0 E A B G T μ a1 IAE sz e1) XW_map ⟨μ, L, S0, S1, hI, s0, s1, e0, E, A, B, G, T, rfl, hR⟩) sz
set_option maxHeartbeats 4000000 in
theorem hm_load (l : Launch) (hl9 : l.stackTraces = false) (z0 : Nat) (D : va_G) (t : Nat → ClassId) (x0 : Nat) (σ : ZT) (r : Int32 × ZT) (h : mv_load σ = some r) (w : va_W) (hw : XG t x0 σ w) (sz : Nat) : Met l yL_load (wh_ yL_load cL_load 2 (some .int) [(0, 4, 5, 15)]) rh_load (PMH z0 D t [.ref x0] w (w.map Prod.fst) sz) (QB (fun _ : va_W => some (.int r.1)) D (fun w9 => w9) (XG t x0 r.2) (w.map Prod.fst) sz) 5 70 (OA (w.map Prod.fst) sz) := by
  have h0 := XG_h0 hw
  obtain ⟨μ, L, S0, S1, hI, s0, s1, e0, E, A, B, G, T, rfl, hR⟩ := hw
  have hn := hI.2.2.2.2.2.1
  obtain ⟨v, σ'⟩ := r
  obtain ⟨rfl, rfl⟩ := Prod.mk.inj (Option.some.inj h)
  exact gx1_load l z0 D t x0 h0 (fun sz => ux_M (x_X4_load l hl9 z0 D t x0 s0 s1 e0 E A B G T μ IAE sz L S0 S1 hR hn (ld_throw hI)) XW_map ⟨μ, L, S0, S1, hI, s0, s1, e0, E, A, B, G, T, rfl, hR⟩) sz
set_option maxHeartbeats 4000000 in
theorem hd_ways (l : Launch) (hl9 : l.stackTraces = false) (z0 : Nat) (D : va_G) (t : Nat → ClassId) (x0 : Nat) (σ : ZT) (r : Int32) (h : q_ways σ = some r) (w : va_W) (hw : XG t x0 σ w) (sz : Nat) : Met l yX4_ways (ws_ yX4_ways cX4_ways 1 (some .int)) rm_X4_ways (PM z0 D t [.ref x0] w (w.map Prod.fst) sz) (QB (fun _ : va_W => some (.int r)) D (fun w9 => w9) (XG t x0 σ) (w.map Prod.fst) sz) 0 0 (OA (w.map Prod.fst) sz) := by
  have h0 := XG_h0 hw
  obtain ⟨μ, L, S0, S1, hI, s0, s1, e0, E, A, B, G, T, rfl, hR⟩ := hw
  have hn := hI.2.2.2.2.2.1
  obtain ⟨p, e1, e9⟩ := cq_ways hI h
  exact um_M (c_X4_ways l z0 D t x0 s0 s1 e0 E A B G T μ (r, p) sz e1) XW_map ⟨xP μ (x_rest μ) p, L, S0, S1, ZI_P hI e9, s0, s1, e0, E, A, B, G, T, rfl, hR⟩
set_option maxHeartbeats 4000000 in
theorem hd_lonely (l : Launch) (hl9 : l.stackTraces = false) (z0 : Nat) (D : va_G) (t : Nat → ClassId) (x0 : Nat) (σ : ZT) (r : Int32) (h : q_lonely σ = some r) (w : va_W) (hw : XG t x0 σ w) (sz : Nat) : Met l yX4_lonely (ws_ yX4_lonely cX4_lonely 2 (some .int)) rm_X4_lonely (PM z0 D t [.ref x0] w (w.map Prod.fst) sz) (QB (fun _ : va_W => some (.int r)) D (fun w9 => w9) (XG t x0 σ) (w.map Prod.fst) sz) 0 0 (OA (w.map Prod.fst) sz) := by
  have h0 := XG_h0 hw
  obtain ⟨μ, L, S0, S1, hI, s0, s1, e0, E, A, B, G, T, rfl, hR⟩ := hw
  have hn := hI.2.2.2.2.2.1
  exact um_R (c_X4_lonely l z0 D t x0 s0 s1 e0 E A B G T μ r (cq_lonely hI h)) ⟨μ, L, S0, S1, hI, s0, s1, e0, E, A, B, G, T, rfl, hR⟩
set_option maxHeartbeats 4000000 in
theorem hd_bestPond (l : Launch) (hl9 : l.stackTraces = false) (z0 : Nat) (D : va_G) (t : Nat → ClassId) (x0 : Nat) (σ : ZT) (r : Int32) (h : q_bestPond σ = some r) (w : va_W) (hw : XG t x0 σ w) (sz : Nat) : Met l yX4_bestPond (ws_ yX4_bestPond cX4_bestPond 2 (some .int)) rm_X4_bestPond (PM z0 D t [.ref x0] w (w.map Prod.fst) sz) (QB (fun _ : va_W => some (.int r)) D (fun w9 => w9) (XG t x0 σ) (w.map Prod.fst) sz) 0 0 (OA (w.map Prod.fst) sz) := by
  have h0 := XG_h0 hw
  obtain ⟨μ, L, S0, S1, hI, s0, s1, e0, E, A, B, G, T, rfl, hR⟩ := hw
  have hn := hI.2.2.2.2.2.1
  obtain ⟨R, p, e1, e9⟩ := cq_bestPond hI h
  exact um_M (c_X4_bestPond l z0 D t x0 s0 s1 e0 E A B G T μ (r, R, p) sz e1) XW_map ⟨xP μ R p, L, S0, S1, ZI_P hI e9, s0, s1, e0, E, A, B, G, T, rfl, hR⟩
set_option maxHeartbeats 4000000 in
theorem hd_firstError (l : Launch) (hl9 : l.stackTraces = false) (z0 : Nat) (D : va_G) (t : Nat → ClassId) (x0 : Nat) (σ : ZT) (r : Int32) (h : q_firstError σ = some r) (w : va_W) (hw : XG t x0 σ w) (sz : Nat) : Met l yX4_firstError (ws_ yX4_firstError cX4_firstError 1 (some .int)) rm_X4_firstError (PM z0 D t [.ref x0] w (w.map Prod.fst) sz) (QB (fun _ : va_W => some (.int r)) D (fun w9 => w9) (XG t x0 σ) (w.map Prod.fst) sz) 1 5 (OA (w.map Prod.fst) sz) := by
  have h0 := XG_h0 hw
  obtain ⟨μ, L, S0, S1, hI, s0, s1, e0, E, A, B, G, T, rfl, hR⟩ := hw
  have hn := hI.2.2.2.2.2.1
  obtain ⟨c, e1⟩ := cq_firstError hI h
  exact um_M (c_X4_firstError l z0 D t x0 s0 s1 e0 E A B G T μ (r, c) sz e1) XW_map ⟨μ, L, S0, S1, hI, s0, s1, e0, E, A, B, G, T, rfl, hR⟩
