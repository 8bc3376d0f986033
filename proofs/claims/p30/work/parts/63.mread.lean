/-! ===== what the reference reads ===== -/
def LPz (W H : Nat) (G : Nat → Nat → Nat → Bool) (n : Nat) (l : Int32) : Prop := 0 < n → ∃ x y t, x + 2 ≤ W ∧ y + 2 ≤ H ∧ t < 4 ∧ G x y t = true ∧ l = nI (nam (x, y, t))
def wt (W H P wm pm : Nat) (a1 : Int32) (G : Nat → Nat → Nat → Bool) : Prop := (a1 = -nI 1 ∧ ∀ x y t, G x y t = lay' W H P wm pm x y t) ∨ ∃ c, c < 64 ∧ a1 = nI c ∧ ∀ x y t, G x y t = GG W H P wm pm c x y t
section MR
variable {W H P wm : Nat} {T : List TR} {fl rf : Int32} {μ : MS}
theorem couldT (hS : SR W H P wm T fl rf (m_s μ) 0) (hO : OK W H P wm T) {a1 : Int32} {G : Nat → Nat → Nat → Bool} (hA : wt W H P wm (pv T) a1 G) {x y : Nat} (hx : x + 2 ≤ W) (hy : y + 2 ≤ H) (N : Nat) (l : Int32) (hl : LPz W H G N l) :
    ∃ r, f_X5_could_L40 a1 μ (nI x) (nI y) 4096 (nI N) l 0 = some r ∧ r.1 = nI (N + fb_sm (fun t => bn (G x y t)) 4) ∧ LPz W H G (N + fb_sm (fun t => bn (G x y t)) 4) r.2 := by
  have hW := hO.2.1
  have hH := hO.2.2.2.1
  have hT := OK_len hO
  exact loopQ (L := fun n j (s : Int32 × Int32) => f_X5_could_L40 a1 μ (nI x) (nI y) n s.1 s.2 j) (N := 4) (I := fun j s => s.1 = nI (N + fb_sm (fun t => bn (G x y t)) j) ∧ LPz W H G (N + fb_sm (fun t => bn (G x y t)) j) s.2) (Q := fun r => r.1 = nI (N + fb_sm (fun t => bn (G x y t)) 4) ∧ LPz W H G (N + fb_sm (fun t => bn (G x y t)) 4) r.2) (fun n j s hj hI => by
    simp only [f_X5_could_L40, f_X5_could_L40_b]
    by_cases e : j = 4
    · subst e
      exact Or.inl ⟨_, by simp (disch := omega) only [LIT, nI_leI, if_pos], hI⟩
    · have hj4 : j < 4 := by omega
      simp only [LIT]
      rw [if_neg (nI_ge hj4 (by decide)), show f_X5_wrong μ (nI 0) (nI x) (nI y) (nI j) = _ from wrongIn hS (by omega) (by decide) (OK_P hO) hW hH hx hy hj4, ob]
      have hwn := wn_le P wm (pv T) x y j
      right
      have key : (if nI (wn P wm (pv T) x y j) = nI 0 then (if a1 < nI 0 then (jlet (s.1 + nI 1) fun x381 => jlet ((nI x + (nI 10 * nI y)) + (nI 100 * nI j)) fun x382 => some (x381, x382)) else (Option.bind (f_X5_isOfTriple (nI x) (nI y) (nI j) a1) fun r383 => (if r383 = nI 0 then some (s.1, s.2) else (jlet (s.1 + nI 1) fun x384 => jlet ((nI x + (nI 10 * nI y)) + (nI 100 * nI j)) fun x385 => some (x384, x385))))) else some (s.1, s.2)) = some (if G x y j then (s.1 + nI 1, nI (nam (x, y, j))) else s) := by
        have en : (nI x + (nI 10 * nI y)) + (nI 100 * nI j) = nI (nam (x, y, j)) := by
          rw [pk_mul, pk_mul, nI_add, nI_add]
          rfl
        by_cases z : wn P wm (pv T) x y j = 0
        · rw [z, if_pos rfl]
          have hlay : lay' W H P wm (pv T) x y j = true := by rw [lay_wn hx hy, z]; rfl
          rcases hA with ⟨rfl, hG⟩ | ⟨c, hc, rfl, hG⟩
          · rw [if_pos (m1_lt (by decide)), hG, hlay, jletE, jletE, en]
            rfl
          · rw [if_neg (nI_nlt (Nat.zero_le _) (by omega)), ofTripleE (by omega) (by omega) hj4 hc, ob, bn_if, hG]
            unfold GG
            rw [hlay, Bool.true_and]
            cases (tm x y j).testBit c
            · rfl
            · simp only [if_true]
              rw [jletE, jletE, en]
        · rw [if_neg (by rw [nI_eq (by omega) (by decide)]; exact z)]
          have hlay : lay' W H P wm (pv T) x y j = false := by rw [lay_wn hx hy]; simpa using z
          have : G x y j = false := by
            rcases hA with ⟨-, hG⟩ | ⟨c, -, -, hG⟩
            · rw [hG, hlay]
            · rw [hG]; unfold GG; rw [hlay]; rfl
          rw [this]
          rfl
      rw [key, ob]
      refine ⟨hj4, if G x y j then (s.1 + nI 1, nI (nam (x, y, j))) else s, ⟨?_, ?_⟩, by rw [jletE, nI_add]⟩
      · rw [fb_sm_succ]
        cases G x y j
        · exact hI.1
        · show s.1 + nI 1 = _
          rw [hI.1, nI_add]
          rfl
      · rw [fb_sm_succ]
        cases g : G x y j
        · exact hI.2
        · exact fun _ => ⟨x, y, j, hx, hy, hj4, g, rfl⟩) 4 4096 0 (nI N, l) (by omega) (by omega) ⟨rfl, hl⟩
theorem couldX (hS : SR W H P wm T fl rf (m_s μ) 0) (hO : OK W H P wm T) {a1 : Int32} {G : Nat → Nat → Nat → Bool} (hA : wt W H P wm (pv T) a1 G) {y : Nat} (hy : y + 2 ≤ H) (N : Nat) (l : Int32) (hl : LPz W H G N l) :
    ∃ r, f_X5_could_L24 a1 μ (nI y) 4096 (nI N) l 0 = some r ∧ r.1 = nI (N + fb_sm (fun x => fb_sm (fun t => bn (G x y t)) 4) (W - 1)) ∧ LPz W H G (N + fb_sm (fun x => fb_sm (fun t => bn (G x y t)) 4) (W - 1)) r.2 := by
  have hW2 := hO.1
  have hW := hO.2.1
  have hS0 : m_s μ 0 = nI W := hS.1
  exact loopQ (L := fun n j (s : Int32 × Int32) => f_X5_could_L24 a1 μ (nI y) n s.1 s.2 j) (N := W - 1) (I := fun j s => s.1 = nI (N + fb_sm (fun x => fb_sm (fun t => bn (G x y t)) 4) j) ∧ LPz W H G (N + fb_sm (fun x => fb_sm (fun t => bn (G x y t)) 4) j) s.2) (Q := fun r => r.1 = nI (N + fb_sm (fun x => fb_sm (fun t => bn (G x y t)) 4) (W - 1)) ∧ LPz W H G (N + fb_sm (fun x => fb_sm (fun t => bn (G x y t)) 4) (W - 1)) r.2) (fun n j s hj hI => by
    simp only [f_X5_could_L24, f_X5_could_L24_b]
    simp only [LIT]
    rw [jldE (by decide) (by decide), ob, hS0, pk_sub (by omega)]
    by_cases e : j = W - 1
    · subst e
      exact Or.inl ⟨_, by rw [if_pos (nI_le (Nat.le_refl _) (by omega))], hI⟩
    · rw [if_neg (nI_ge (by omega) (by omega))]
      obtain ⟨i1, i2⟩ := hI
      obtain ⟨r, r1, r2, r3⟩ := couldT hS hO hA (show j + 2 ≤ W by omega) hy _ s.2 i2
      rw [i1, show f_X5_could_L40 a1 μ (nI j) (nI y) 4096 _ s.2 (nI 0) = some r from r1, ob, jletE, nI_add]
      refine Or.inr ⟨by omega, r, ⟨?_, ?_⟩, rfl⟩
      · rw [r2]
        exact congrArg nI (Nat.add_assoc _ _ _)
      · show LPz W H G (N + (_ + _)) r.2
        rw [← Nat.add_assoc]
        exact r3) (W - 1) 4096 0 (nI N, l) (by omega) (by omega) ⟨rfl, hl⟩
theorem couldE (hS : SR W H P wm T fl rf (m_s μ) 0) (hO : OK W H P wm T) {a1 : Int32} {G : Nat → Nat → Nat → Bool} (hA : wt W H P wm (pv T) a1 G) :
    ∃ l, (∀ a2 : Int32, f_X5_could μ a1 a2 = some (if a2 = 0 then nI (fb_sm (fun y => fb_sm (fun x => fb_sm (fun t => bn (G x y t)) 4) (W - 1)) (H - 1)) else l)) ∧ LPz W H G (fb_sm (fun y => fb_sm (fun x => fb_sm (fun t => bn (G x y t)) 4) (W - 1)) (H - 1)) l := by
  have hH2 := hO.2.2.1
  have hH := hO.2.2.2.1
  have hS1 : m_s μ 1 = nI H := hS.2.1
  obtain ⟨r, h1, h2, h3⟩ := loopQ (L := fun n j (s : Int32 × Int32) => f_X5_could_L8 a1 μ n s.1 s.2 j) (N := H - 1) (I := fun j s => s.1 = nI (fb_sm (fun y => fb_sm (fun x => fb_sm (fun t => bn (G x y t)) 4) (W - 1)) j) ∧ LPz W H G (fb_sm (fun y => fb_sm (fun x => fb_sm (fun t => bn (G x y t)) 4) (W - 1)) j) s.2) (Q := fun r => r.1 = nI (fb_sm (fun y => fb_sm (fun x => fb_sm (fun t => bn (G x y t)) 4) (W - 1)) (H - 1)) ∧ LPz W H G (fb_sm (fun y => fb_sm (fun x => fb_sm (fun t => bn (G x y t)) 4) (W - 1)) (H - 1)) r.2) (fun n j s hj hI => by
    simp only [f_X5_could_L8, f_X5_could_L8_b]
    simp only [LIT]
    rw [jldE (by decide) (by decide), ob, hS1, pk_sub (by omega)]
    by_cases e : j = H - 1
    · subst e
      exact Or.inl ⟨_, by rw [if_pos (nI_le (Nat.le_refl _) (by omega))], hI⟩
    · rw [if_neg (nI_ge (by omega) (by omega))]
      obtain ⟨i1, i2⟩ := hI
      obtain ⟨r, r1, r2, r3⟩ := couldX hS hO hA (show j + 2 ≤ H by omega) _ s.2 i2
      rw [i1, show f_X5_could_L24 a1 μ (nI j) 4096 _ s.2 (nI 0) = some r from r1, ob, jletE, nI_add]
      exact Or.inr ⟨by omega, r, ⟨r2, r3⟩, rfl⟩) (H - 1) 4096 0 (nI 0, -nI 1) (by omega) (by omega) ⟨rfl, fun z => absurd z (Nat.lt_irrefl 0)⟩
  refine ⟨r.2, fun a2 => ?_, h3⟩
  unfold f_X5_could
  rw [show f_X5_could_L8 a1 μ 4096 0 (-1) 0 = some r from h1, ob, h2]
  split <;> rfl
theorem couldC (hS : SR W H P wm T fl rf (m_s μ) 0) (hO : OK W H P wm T) {c : Nat} (hc : c < 64) :
    ∃ l, (∀ a2 : Int32, f_X5_could μ (nI c) a2 = some (if a2 = 0 then nI (fb_ct (chz W H P wm (pv T) c) 16) else l)) ∧ (fb_ct (chz W H P wm (pv T) c) 16 = 1 → ∃ h, h < 16 ∧ chz W H P wm (pv T) c h = true ∧ l = nI (nam (c % 8 - h % 2, c / 8 - h / 2 % 2, h / 4))) := by
  obtain ⟨l, h1, h2⟩ := couldE hS hO (a1 := nI c) (G := GG W H P wm (pv T) c) (Or.inr ⟨c, hc, rfl, fun _ _ _ => rfl⟩)
  rw [cnt_eq hO.2.1 hO.2.2.2.1 hc] at h1 h2
  refine ⟨l, h1, fun h3 => ?_⟩
  obtain ⟨x, y, t, hx, hy, ht, hg, hl⟩ := h2 (by omega)
  obtain ⟨n1, n2, -, -⟩ := GG_near hO.2.1 hO.2.2.2.1 hc ht hg
  refine ⟨4 * t + 2 * (c / 8 - y) + (c % 8 - x), by omega, ?_, ?_⟩
  · unfold chz
    rw [show (4 * t + 2 * (c / 8 - y) + (c % 8 - x)) % 2 = c % 8 - x by omega, show (4 * t + 2 * (c / 8 - y) + (c % 8 - x)) / 2 % 2 = c / 8 - y by omega, show (4 * t + 2 * (c / 8 - y) + (c % 8 - x)) / 4 = t by omega, show c % 8 - (c % 8 - x) = x by omega, show c / 8 - (c / 8 - y) = y by omega, hg, decide_eq_true (by omega : c % 8 - x ≤ c % 8), decide_eq_true (by omega : c / 8 - y ≤ c / 8)]
    rfl
  · rw [show (4 * t + 2 * (c / 8 - y) + (c % 8 - x)) % 2 = c % 8 - x by omega, show (4 * t + 2 * (c / 8 - y) + (c % 8 - x)) / 2 % 2 = c / 8 - y by omega, show (4 * t + 2 * (c / 8 - y) + (c % 8 - x)) / 4 = t by omega, show c % 8 - (c % 8 - x) = x by omega, show c / 8 - (c / 8 - y) = y by omega]
    exact hl
theorem firstWithE (hS : SR W H P wm T fl rf (m_s μ) 0) (hO : OK W H P wm T) {a : Nat} (ha : a < 100) : ∃ r, f_X5_firstWith μ (nI a) = some r ∧ FFW (pw W H P wm (pv T) a) r := by
  have hW2 := hO.1
  have hW := hO.2.1
  have hH := hO.2.2.2.1
  have hT := OK_len hO
  have hS0 : m_s μ 0 = nI W := hS.1
  have hS1 : m_s μ 1 = nI H := hS.2.1
  have hrow : ∀ y, y < H → (∀ c, c < 8 * y → pw W H P wm (pv T) a c = false) → ∃ r, f_X5_firstWith_L14 (nI a) μ (nI y) 4096 0 = some r ∧ ((r = .inl () ∧ ∀ c, c < 8 * (y + 1) → pw W H P wm (pv T) a c = false) ∨ ∃ c, c < 64 ∧ r = .inr (nI c) ∧ pw W H P wm (pv T) a c = true ∧ ∀ k, k < c → pw W H P wm (pv T) a k = false) := fun y hy hlo =>
    loopQ (L := fun n j (_ : Unit) => f_X5_firstWith_L14 (nI a) μ (nI y) n j) (N := W) (I := fun j _ => ∀ c, c < 8 * y + j → pw W H P wm (pv T) a c = false) (Q := fun r => (r = .inl () ∧ ∀ c, c < 8 * (y + 1) → pw W H P wm (pv T) a c = false) ∨ ∃ c, c < 64 ∧ r = .inr (nI c) ∧ pw W H P wm (pv T) a c = true ∧ ∀ k, k < c → pw W H P wm (pv T) a k = false) (fun n j s hj hI => by
      simp only [f_X5_firstWith_L14, f_X5_firstWith_L14_b]
      simp only [LIT]
      rw [jldE (by decide) (by decide), ob, hS0]
      by_cases e : j = W
      · subst e
        refine Or.inl ⟨_, by rw [if_pos (nI_le (Nat.le_refl _) (by omega))], Or.inl ⟨rfl, fun c hc => ?_⟩⟩
        by_cases q : c < 8 * y + j
        · exact hI c q
        · unfold pw
          rw [fm_bit hW hH (by omega), decide_eq_false (show ¬ c % 8 < j by omega)]
          rfl
      · rw [if_neg (nI_ge (show j < W by omega) (by omega)), pk_mul, nI_add, show f_X5_isFree μ (nI 0) (nI (8 * y + j)) = _ from isFreeG hS (by omega) (by decide) (OK_P hO) hW hH (by omega) hy, ob, show (if (fm W H P wm (pv T)).testBit (8 * y + j) = true then 1 else 0) = bn ((fm W H P wm (pv T)).testBit (8 * y + j)) from rfl, bn_if]
        have hct : fb_ct (chz W H P wm (pv T) (8 * y + j)) 16 ≤ 16 := fb_ct_le _ _
        have nxt : pw W H P wm (pv T) a (8 * y + j) = false → ∀ c, c < 8 * y + (j + 1) → pw W H P wm (pv T) a c = false := fun z c hc => by
          by_cases e2 : c = 8 * y + j
          · rw [e2]; exact z
          · exact hI c (by omega)
        cases z : (fm W H P wm (pv T)).testBit (8 * y + j) with
        | false => exact Or.inr ⟨by omega, (), nxt (by unfold pw; rw [z]; rfl), by simp only [Bool.false_eq_true, if_false]; rw [jletE, nI_add]⟩
        | true =>
          simp only [if_true]
          obtain ⟨l, k1, -⟩ := couldC hS hO (show 8 * y + j < 64 by omega)
          rw [k1, show (if nI 0 = (0 : Int32) then nI (fb_ct (chz W H P wm (pv T) (8 * y + j)) 16) else l) = nI (fb_ct (chz W H P wm (pv T) (8 * y + j)) 16) from if_pos rfl, ob]
          by_cases q : fb_ct (chz W H P wm (pv T) (8 * y + j)) 16 = a
          · exact Or.inl ⟨_, by rw [if_pos (by rw [q])], Or.inr ⟨8 * y + j, by omega, rfl, by unfold pw; rw [z, q]; simp, hI⟩⟩
          · exact Or.inr ⟨by omega, (), nxt (by unfold pw; rw [z]; simpa using q), by rw [if_neg (by rw [nI_eq (by omega) (by omega)]; exact q), jletE, nI_add]⟩) W 4096 0 () (by omega) (by omega) (fun c hc => hlo c hc)
  obtain ⟨v, h1, h2⟩ := loopQ (L := fun n j (_ : Unit) => f_X5_firstWith_L2 (nI a) μ n j) (N := H) (I := fun j _ => ∀ c, c < 8 * j → pw W H P wm (pv T) a c = false) (Q := fun r => (r = .inl () ∧ ∀ c, c < 64 → pw W H P wm (pv T) a c = false) ∨ ∃ c, c < 64 ∧ r = .inr (nI c) ∧ pw W H P wm (pv T) a c = true ∧ ∀ k, k < c → pw W H P wm (pv T) a k = false) (fun n j s hj hI => by
    simp only [f_X5_firstWith_L2, f_X5_firstWith_L2_b]
    simp only [LIT]
    rw [jldE (by decide) (by decide), ob, hS1]
    by_cases e : j = H
    · subst e
      refine Or.inl ⟨_, by rw [if_pos (nI_le (Nat.le_refl _) (by omega))], Or.inl ⟨rfl, fun c hc => ?_⟩⟩
      by_cases q : c < 8 * j
      · exact hI c q
      · unfold pw
        rw [fm_bit hW hH hc, decide_eq_false (show ¬ c / 8 < j by omega), Bool.and_false]
        rfl
    · rw [if_neg (nI_ge (show j < H by omega) (by omega))]
      obtain ⟨r, r1, r2⟩ := hrow j (by omega) hI
      rw [show f_X5_firstWith_L14 (nI a) μ (nI j) 4096 (nI 0) = some r from r1, ob]
      rcases r2 with ⟨rfl, r2⟩ | ⟨c, hc, rfl, r2, r3⟩
      · exact Or.inr ⟨by omega, (), r2, by rw [nI_add]; rfl⟩
      · exact Or.inl ⟨_, rfl, Or.inr ⟨c, hc, rfl, r2, r3⟩⟩) H 4096 0 () (by omega) (by omega) (fun c hc => absurd hc (by omega))
  unfold f_X5_firstWith
  rw [show f_X5_firstWith_L2 (nI a) μ 4096 0 = some v from h1, ob]
  rcases h2 with ⟨rfl, h3⟩ | ⟨c, hc, rfl, h3, h4⟩
  · exact ⟨_, rfl, Or.inl ⟨rfl, h3⟩⟩
  · exact ⟨_, rfl, Or.inr ⟨c, hc, rfl, h3, h4⟩⟩
end MR
