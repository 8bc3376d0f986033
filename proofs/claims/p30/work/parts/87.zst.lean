/-! ===== p30: the class's state as gardens of numbers; what each call answers and does, told of these numbers ===== -/
abbrev AS : Type := Nat × Nat × Nat × Nat × List TR × Int32 × Int32
abbrev zW (α : AS) : Nat := α.1
abbrev zH (α : AS) : Nat := α.2.1
abbrev zP (α : AS) : Nat := α.2.2.1
abbrev zM (α : AS) : Nat := α.2.2.2.1
abbrev zT (α : AS) : List TR := α.2.2.2.2.1
abbrev zF (α : AS) : Int32 := α.2.2.2.2.2.1
abbrev zR (α : AS) : Int32 := α.2.2.2.2.2.2
abbrev zOK (α : AS) : Prop := OK (zW α) (zH α) (zP α) (zM α) (zT α)
def LK (α : AS) (γ : GS) : Prop := zOK α ∧ GR (zW α) (zH α) (zP α) (zM α) (zT α) (zF α) (zR α) γ
abbrev zFr (α : AS) : Nat := fm (zW α) (zH α) (zP α) (zM α) (pv (zT α))
def LKL : List AS → List GS → Prop
  | [], [] => True
  | a :: A, g :: L => LK a g ∧ LKL A L
  | _, _ => False
def LKO (a : Option AS) (S : Option GS) : Prop := (a = none ∧ S = none) ∨ ∃ α γ, a = some α ∧ S = some γ ∧ LK α γ
/-- the garden, the saved ones, the two slots -/
abbrev ZT : Type := AS × List AS × Option AS × Option AS
abbrev zs_g (σ : ZT) : AS := σ.1
abbrev zs_L (σ : ZT) : List AS := σ.2.1
abbrev zs_a (σ : ZT) : Option AS := σ.2.2.1
abbrev zs_b (σ : ZT) : Option AS := σ.2.2.2
def svA (A : List AS) (α : AS) : List AS := if A.length < 6 then A ++ [α] else A.tail ++ [α]
abbrev zsav (σ : ZT) (α : AS) : ZT := (α, svA (zs_L σ) (zs_g σ), σ.2.2)
def ZI (σ : ZT) (x : XS) (L : List GS) (S0 S1 : Option GS) : Prop := LK (zs_g σ) (gsX x) ∧ LKL (zs_L σ) L ∧ LKO (zs_a σ) S0 ∧ LKO (zs_b σ) S1 ∧ L.length ≤ 6 ∧ x_lsize x = nI L.length ∧ x_length x = nI 0 ∧ LST x
/-! arguments -/
def oel {β : Type} (o : Option Nat) (n : β) (f : Nat → β) : β := match o with
  | none => n
  | some k => f k
theorem oelN {β : Type} (n : β) (f : Nat → β) : oel none n f = n := rfl
theorem oelS {β : Type} (k : Nat) (n : β) (f : Nat → β) : oel (some k) n f = f k := rfl
theorem jxS {n k : Nat} {a : Int32} (h : jix n a = some k) : k < n ∧ a = nI k := by
  obtain ⟨h1, h2⟩ := jix_some h
  have h0 : ¬ a < 0 := fun z => h1 (Or.inl z)
  obtain ⟨j, hj, rfl⟩ := nI_of h0
  rw [nI_clamp hj] at h2
  subst h2
  exact ⟨jix_lt h, rfl⟩
theorem jxN {n : Nat} {a : Int32} (hn : n < 2 ^ 31) (h : jix n a = none) : ∀ k, k < n → a ≠ nI k := fun k hk e => by
  rw [e, jixE hk hn] at h
  cases h
theorem jxL {n : Nat} {a : Int32} (hn : n < 2 ^ 31) (h : jix n a = none) : a < nI 0 ∨ ¬ a < nI n := by
  by_cases c : a < nI 0
  · exact Or.inl c
  · obtain ⟨j, hj, rfl⟩ := nI_of c
    refine Or.inr ?_
    rw [nI_ltI hj hn]
    exact fun z => jxN hn h j z rfl
theorem jxB {W H bw bh : Nat} {a b : Int32} (hW : W ≤ 8) (hH : H ≤ 8) (hb : bw ≤ 8) (hc : bh ≤ 8) (h : jix (W + 1 - bw) a = none ∨ jix (H + 1 - bh) b = none) : ¬ InB W H bw bh a b := by
  rintro ⟨X, Y, rfl, rfl, h1, h2⟩
  rcases h with h | h
  · exact jxN (by omega) h X (by omega) rfl
  · exact jxN (by omega) h Y (by omega) rfl
/-! reads: q_ where they answer, t_ where they throw -/
def znm (r : Int32) : Int32 := if r = -nI 1 then -nI 1 else nI (r.toNatClampNeg % 8 + 10 * (r.toNatClampNeg / 8))
def zfst (p : Nat → Bool) : Int32 := if fa_first p 64 < 64 then nI (fa_first p 64 % 8 + 10 * (fa_first p 64 / 8)) else -nI 1
def zlays (α : AS) : Nat := fb_sm (fun y => fb_sm (fun x => fb_sm (fun t => bn (lay' (zW α) (zH α) (zP α) (zM α) (pv (zT α)) x y t)) 4) (zW α)) (zH α)
def zcnt (σ : ZT) (k : Nat) : Option Int32 := if k = 0 then some (nI (zW (zs_g σ))) else if k = 1 then some (nI (zH (zs_g σ))) else if k = 2 then some (nI (zP (zs_g σ) % 8)) else if k = 3 then some (nI (zP (zs_g σ) / 8)) else if k = 4 then some (nI (pc (zM (zs_g σ)))) else if k = 5 then some (nI (zT (zs_g σ)).length) else if k = 6 then some (nI (pc (zFr (zs_g σ)))) else if k = 7 then some (nI (zlays (zs_g σ))) else if k = 8 then none else if k = 9 then some (zF (zs_g σ)) else if k = 10 then some (zR (zs_g σ)) else some (nI (zs_L σ).length)
def q_count (σ : ZT) (a : Int32) : Option Int32 := Option.bind (jix 12 a) (zcnt σ)
def t_count (_ : ZT) (a : Int32) : Option Int32 := oel (jix 12 a) (some (-2000001)) fun _ => none
def zcell (α : AS) (c t : Nat) : Int32 := if t = 0 then nI (kd (zP α) (zM α) (pv (zT α)) c) else if t = 1 then owI (zT α) c else nI (fb_ct (chz (zW α) (zH α) (zP α) (zM α) (pv (zT α)) c) 16)
def q_cellOf (σ : ZT) (a b c : Int32) : Option Int32 := Option.bind (jix (zW (zs_g σ)) a) fun X => Option.bind (jix (zH (zs_g σ)) b) fun Y => Option.bind (jix 3 c) fun t => some (zcell (zs_g σ) (8 * Y + X) t)
def t_cellOf (σ : ZT) (a b c : Int32) : Option Int32 := oel (jix (zW (zs_g σ)) a) (some (-2000001)) fun _ => oel (jix (zH (zs_g σ)) b) (some (-2000001)) fun _ => oel (jix 3 c) (some (-2000002)) fun _ => none
def ztri (q : TR) (t : Nat) : Nat := if t = 0 then q.1 else if t = 1 then q.2.1 else q.2.2
def q_triple (σ : ZT) (a b : Int32) : Option Int32 := Option.bind (jix (zT (zs_g σ)).length a) fun i => Option.bind ((zT (zs_g σ))[i]?) fun q => Option.bind (jix 3 b) fun t => some (nI (ztri q t))
def t_triple (σ : ZT) (a b : Int32) : Option Int32 := oel (jix (zT (zs_g σ)).length a) (some (-2000001)) fun _ => oel (jix 3 b) (some (-2000002)) fun _ => none
def zrow (α : AS) (y t : Nat) : Nat := mkk (fun x => kd (zP α) (zM α) (pv (zT α)) (8 * y + x) == if t = 0 then 0 else t + 1) (zW α)
def q_row (σ : ZT) (a b : Int32) : Option Int32 := Option.bind (jix (zH (zs_g σ)) a) fun y => Option.bind (jix 3 b) fun t => some (nI (zrow (zs_g σ) y t))
def t_row (σ : ZT) (a b : Int32) : Option Int32 := oel (jix (zH (zs_g σ)) a) (some (-2000001)) fun _ => oel (jix 3 b) (some (-2000002)) fun _ => none
def zwhy (α : AS) (a b : Int32) (t : Nat) : Nat := oel (jix (zW α + 1 - 2) a) 1 fun X => oel (jix (zH α + 1 - 2) b) 1 fun Y => wn (zP α) (zM α) (pv (zT α)) X Y t
def q_whyNot (σ : ZT) (a b c : Int32) : Option Int32 := Option.bind (jix 4 c) fun t => some (nI (zwhy (zs_g σ) a b t))
def q_ways (σ : ZT) : Option Int32 := some (nI (CW (zFr (zs_g σ)) 64 0))
abbrev zlaid (α : AS) (X Y t : Nat) : AS := (zW α, zH α, zP α, zM α, zT α ++ [(X, Y, t)], zF α, zR α)
def zwith (α : AS) (a b : Int32) (t : Nat) : Int32 := oel (jix (zW α + 1 - 2) a) (-nI 1) fun X => oel (jix (zH α + 1 - 2) b) (-nI 1) fun Y => if wn (zP α) (zM α) (pv (zT α)) X Y t = 0 then nI (CW (zFr (zlaid α X Y t)) 64 0) else -nI 1
def q_waysWith (σ : ZT) (a b c : Int32) : Option Int32 := Option.bind (jix 4 c) fun t => some (zwith (zs_g σ) a b t)
def t_waysWith (_ : ZT) (_ _ c : Int32) : Option Int32 := oel (jix 4 c) (some (-2000001)) fun _ => none
abbrev zpw (α : AS) (n : Nat) : Nat → Bool := pw (zW α) (zH α) (zP α) (zM α) (pv (zT α)) n
def zforce (α : AS) (k : Nat) : Int32 := if k = 0 then zfst (zpw α 1) else if fa_first (zpw α 1) 64 < 64 then nI (nam (cvq (fa_first (zpw α 1) 64) (fa_first (chz (zW α) (zH α) (zP α) (zM α) (pv (zT α)) (fa_first (zpw α 1) 64)) 16))) else -nI 1
def q_forced (σ : ZT) (a : Int32) : Option Int32 := Option.bind (jix 2 a) fun k => some (zforce (zs_g σ) k)
def t_forced (_ : ZT) (a : Int32) : Option Int32 := oel (jix 2 a) (some (-2000001)) fun _ => none
def q_lonely (σ : ZT) : Option Int32 := some (zfst (zpw (zs_g σ) 0))
def q_bestPond (σ : ZT) : Option Int32 := some (znm (BP (mgap (zW (zs_g σ)) (zH (zs_g σ)) (zP (zs_g σ)) (zM (zs_g σ)) (pv (zT (zs_g σ)))) 64).1)
def q_firstError (_ : ZT) : Option Int32 := some (nI 0)
def q_scr (L : Nat) (xs : Nat → Int32) (i : Int32) : Option Int32 := if i < 0 then none else some ((if nI L ≤ i then (44017 : Int32) * (i - i / (4096 : Int32) * (4096 : Int32)) + (241 : Int32) else xs i.toNatClampNeg) &&& (2147483647 : Int32))
/-! moves: what is answered (or thrown), and the state behind -/
abbrev zth1 (σ : ZT) : Option (Int32 × ZT) := some (-2000001, σ)
abbrev zth2 (σ : ZT) : Option (Int32 × ZT) := some (-2000002, σ)
def mv_garden (σ : ZT) (a b : Int32) : Option (Int32 × ZT) := oel (jix 9 a) (zth1 σ) fun A => oel (jix 9 b) (zth1 σ) fun B => if 2 ≤ A ∧ 2 ≤ B then some (nI (A * B), zsav σ (A, B, 0, 0, [], zF (zs_g σ), zR (zs_g σ))) else zth1 σ
def mv_pond (σ : ZT) (a b : Int32) : Option (Int32 × ZT) := oel (jix (zW (zs_g σ)) a) (zth1 σ) fun X => oel (jix (zH (zs_g σ)) b) (zth1 σ) fun Y => if (zM (zs_g σ)).testBit (8 * Y + X) = false ∧ (pv (zT (zs_g σ))).testBit (8 * Y + X) = false then some (nI (zP (zs_g σ) % 8 + 10 * (zP (zs_g σ) / 8)), zsav σ (zW (zs_g σ), zH (zs_g σ), 8 * Y + X, (zs_g σ).2.2.2)) else zth2 σ
def mv_wall (σ : ZT) (a b : Int32) : Option (Int32 × ZT) := oel (jix (zW (zs_g σ)) a) (zth1 σ) fun X => oel (jix (zH (zs_g σ)) b) (zth1 σ) fun Y => if 8 * Y + X ≠ zP (zs_g σ) ∧ (pv (zT (zs_g σ))).testBit (8 * Y + X) = false then some (nI (pc (zM (zs_g σ) ^^^ 2 ^ (8 * Y + X))), zsav σ (zW (zs_g σ), zH (zs_g σ), zP (zs_g σ), zM (zs_g σ) ^^^ 2 ^ (8 * Y + X), (zs_g σ).2.2.2.2)) else zth2 σ
abbrev zref (α : AS) : AS := (zW α, zH α, zP α, zM α, zT α, zF α, zR α + nI 1)
def mv_lay (σ : ZT) (a b c : Int32) : Option (Int32 × ZT) := oel (jix 4 c) (zth1 σ) fun t => oel (jix (zW (zs_g σ) + 1 - 2) a) (some (nI 1, zsav σ (zref (zs_g σ)))) fun X => oel (jix (zH (zs_g σ) + 1 - 2) b) (some (nI 1, zsav σ (zref (zs_g σ)))) fun Y => if wn (zP (zs_g σ)) (zM (zs_g σ)) (pv (zT (zs_g σ))) X Y t = 0 then some (nI 0, zsav σ (zlaid (zs_g σ) X Y t)) else some (nI (wn (zP (zs_g σ)) (zM (zs_g σ)) (pv (zT (zs_g σ))) X Y t), zsav σ (zref (zs_g σ)))
abbrev zwT (α : AS) (T : List TR) : AS := (zW α, zH α, zP α, zM α, T, zF α, zR α)
def mv_lift (σ : ZT) (a b : Int32) : Option (Int32 × ZT) := oel (jix (zW (zs_g σ)) a) (zth1 σ) fun X => oel (jix (zH (zs_g σ)) b) (zth1 σ) fun Y => if (pv (zT (zs_g σ))).testBit (8 * Y + X) = true then some (nI (ow (zT (zs_g σ)) (8 * Y + X)), zsav σ (zwT (zs_g σ) ((zT (zs_g σ)).eraseIdx (ow (zT (zs_g σ)) (8 * Y + X))))) else zth2 σ
abbrev zflip (α : AS) (hb : Bool) (X Y : Nat) : AS := (zW α, zH α, zP α, zM α, TF hb (zT α) X Y, zF α + nI 1, zR α)
def mv_flip (σ : ZT) (a b c : Int32) : Option (Int32 × ZT) := Option.bind (jix 2 c) fun k => oel (jix (zW (zs_g σ) + 1 - bw_ (k == 1)) a) (zth1 σ) fun X => oel (jix (zH (zs_g σ) + 1 - bh_ (k == 1)) b) (zth1 σ) fun Y => if FLb (k == 1) (zT (zs_g σ)) X Y = true then some (zF (zs_g σ) + nI 1, zsav σ (zflip (zs_g σ) (k == 1) X Y)) else zth2 σ
def mv_fill (σ : ZT) : Option (Int32 × ZT) := if CW (zFr (zs_g σ)) 64 0 = 0 then zth1 σ else some (nI (GRD (zFr (zs_g σ)) 64 0 (zT (zs_g σ))).length - nI (zT (zs_g σ)).length, zsav σ (zwT (zs_g σ) (GRD (zFr (zs_g σ)) 64 0 (zT (zs_g σ)))))
def mv_halve (σ : ZT) : Option (Int32 × ZT) := if hvb (zW (zs_g σ)) (zH (zs_g σ)) (zM (zs_g σ)) (zT (zs_g σ)).length = true then some (nI (sq 4 0 0 (zW (zs_g σ)) (zP (zs_g σ))).length, zsav σ (zwT (zs_g σ) (sq 4 0 0 (zW (zs_g σ)) (zP (zs_g σ))))) else zth1 σ
def zslot (σ : ZT) (k : Nat) : Option AS := if k = 0 then zs_a σ else zs_b σ
def oelA {β : Type} (o : Option AS) (n : β) (f : AS → β) : β := match o with
  | none => n
  | some k => f k
theorem oelAN {β : Type} (n : β) (f : AS → β) : oelA none n f = n := rfl
theorem oelAS {β : Type} (k : AS) (n : β) (f : AS → β) : oelA (some k) n f = f k := rfl
def mv_goBack (σ : ZT) (a : Int32) : Option (Int32 × ZT) := oel (jix 2 a) (zth1 σ) fun k => oelA (zslot σ k) (zth2 σ) fun α => some (nI (zT α).length, zsav σ α)
def mv_keep (σ : ZT) (a : Int32) : Option (Int32 × ZT) := oel (jix 2 a) (zth1 σ) fun k => some (nI (zT (zs_g σ)).length, (zs_g σ, zs_L σ, if k = 0 then some (zs_g σ) else zs_a σ, if k = 0 then zs_b σ else some (zs_g σ)))
def mv_undo (σ : ZT) : Option (Int32 × ZT) := oelA (zs_L σ).getLast? (zth1 σ) fun α => some (nI ((zs_L σ).length - 1), (α, (zs_L σ).dropLast, σ.2.2))
def mv_append (σ : ZT) (a : Int32) : Option (Int32 × ZT) := if a < nI 33 ∨ ¬ a ≤ nI 126 then zth1 σ else none
def mv_load (σ : ZT) : Option (Int32 × ZT) := zth1 σ
/-! lists of gardens, side by side -/
theorem LKL_len : ∀ {A : List AS} {L : List GS}, LKL A L → A.length = L.length := by
  intro A
  induction A with
  | nil => intro L h; cases L with
    | nil => rfl
    | cons g L => exact h.elim
  | cons a A ih => intro L h; cases L with
    | nil => exact h.elim
    | cons g L => rw [List.length_cons, List.length_cons, ih h.2]
theorem LKL_app : ∀ {A : List AS} {L : List GS} {a : AS} {g : GS}, LKL A L → LK a g → LKL (A ++ [a]) (L ++ [g]) := by
  intro A
  induction A with
  | nil => intro L a g h h2; cases L with
    | nil => exact ⟨h2, trivial⟩
    | cons g' L => exact h.elim
  | cons a' A ih => intro L a g h h2; cases L with
    | nil => exact h.elim
    | cons g' L => exact ⟨h.1, ih h.2 h2⟩
theorem LKL_tail : ∀ {A : List AS} {L : List GS}, LKL A L → LKL A.tail L.tail := by
  intro A L h
  cases A with
  | nil => cases L with
    | nil => trivial
    | cons g L => exact h.elim
  | cons a A => cases L with
    | nil => exact h.elim
    | cons g L => exact h.2
theorem LKL_sv {A : List AS} {L : List GS} {a : AS} {g : GS} (h : LKL A L) (h2 : LK a g) : LKL (svA A a) (svL L g) := by
  unfold svA svL
  rw [LKL_len h]
  split
  · exact LKL_app h h2
  · exact LKL_app (LKL_tail h) h2
theorem LKL_last : ∀ {A : List AS} {L : List GS} {g : GS}, LKL A (L ++ [g]) → ∃ a, A.getLast? = some a ∧ LK a g ∧ LKL A.dropLast L := by
  intro A
  induction A with
  | nil => intro L g h; cases L <;> exact h.elim
  | cons a A ih => intro L g h; cases L with
    | nil =>
      obtain ⟨h1, h2⟩ := h
      cases A with
      | nil => exact ⟨a, rfl, h1, trivial⟩
      | cons b A => exact h2.elim
    | cons g' L =>
      obtain ⟨h1, h2⟩ := h
      obtain ⟨b, e1, e2, e3⟩ := ih h2
      cases A with
      | nil => cases e1
      | cons c A => exact ⟨b, by rw [List.getLast?_cons_cons]; exact e1, e2, h1, e3⟩
theorem ZI_len {σ : ZT} {x : XS} {L : List GS} {S0 S1 : Option GS} (h : ZI σ x L S0 S1) : (zs_L σ).length = L.length := LKL_len h.2.1
theorem ZI_mv {σ : ZT} {x x' : XS} {L : List GS} {S0 S1 : Option GS} (h : ZI σ x L S0 S1) {α : AS} {γ : GS} {k : Int32} (hx : gsX x' = γ ∧ x_sl x' = x_sl x ∧ x_lsize x' = k ∧ x_length x' = x_length x ∧ x_codes x' = x_codes x) (hg : LK α γ) (hk : k = x_lsize (svX x)) (hl : LST x') : ZI (zsav σ α) x' (svL L (gsX x)) S0 S1 := by
  obtain ⟨h1, h2, h3, h4, h5, h6, h7, h8⟩ := h
  obtain ⟨rfl, e1, rfl, e3, e4⟩ := hx
  exact ⟨hg, LKL_sv h2 h1, h3, h4, svL_le h5 _, by rw [hk]; exact svX_len h5 h6, by rw [e3]; exact h7, hl⟩
