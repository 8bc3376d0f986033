/-! what the methods of BentGardensModel do, as functions (by program) -/
theorem sw_out2 {x : Int32} {lo hi : Int} {n : Nat} (hlo : lo = 0) (hhi : hi + 1 = (n : Int)) (hn : n ≤ 64) (h : ∀ k : Nat, k < n → ¬ x = Int32.ofNat k) : x.toInt < lo ∨ hi < x.toInt := by
  have h1 := sw_out (x := x) (lo := lo) (n := n) hlo hn h
  rw [hlo] at h1 ⊢
  rcases h1 with h1 | h1
  · exact Or.inl h1
  · exact Or.inr (by omega)
abbrev MS : Type := (Nat → Int32) × (Int32) × (Nat → Int32) × (Int32) × (Nat → Int32) × (Int32) × (Int32) × (Nat → Int32) × (Nat → Int32) × (Nat → Int32)
abbrev m_s (μ : MS) : Nat → Int32 := μ.1
abbrev m_s' (μ : MS) (v : Nat → Int32) : MS := (v, μ.2)
abbrev m_states (μ : MS) : Int32 := μ.2.1
abbrev m_states' (μ : MS) (v : Int32) : MS := (μ.1, v, μ.2.2)
abbrev m_kept (μ : MS) : Nat → Int32 := μ.2.2.1
abbrev m_kept' (μ : MS) (v : Nat → Int32) : MS := (μ.1, μ.2.1, v, μ.2.2.2)
abbrev m_thrown (μ : MS) : Int32 := μ.2.2.2.1
abbrev m_thrown' (μ : MS) (v : Int32) : MS := (μ.1, μ.2.1, μ.2.2.1, v, μ.2.2.2.2)
abbrev m_text (μ : MS) : Nat → Int32 := μ.2.2.2.2.1
abbrev m_text' (μ : MS) (v : Nat → Int32) : MS := (μ.1, μ.2.1, μ.2.2.1, μ.2.2.2.1, v, μ.2.2.2.2.2)
abbrev m_typed (μ : MS) : Int32 := μ.2.2.2.2.2.1
abbrev m_typed' (μ : MS) (v : Int32) : MS := (μ.1, μ.2.1, μ.2.2.1, μ.2.2.2.1, μ.2.2.2.2.1, v, μ.2.2.2.2.2.2)
abbrev m_told (μ : MS) : Int32 := μ.2.2.2.2.2.2.1
abbrev m_told' (μ : MS) (v : Int32) : MS := (μ.1, μ.2.1, μ.2.2.1, μ.2.2.2.1, μ.2.2.2.2.1, μ.2.2.2.2.2.1, v, μ.2.2.2.2.2.2.2)
abbrev m_ways (μ : MS) : Nat → Int32 := μ.2.2.2.2.2.2.2.1
abbrev m_ways' (μ : MS) (v : Nat → Int32) : MS := (μ.1, μ.2.1, μ.2.2.1, μ.2.2.2.1, μ.2.2.2.2.1, μ.2.2.2.2.2.1, μ.2.2.2.2.2.2.1, v, μ.2.2.2.2.2.2.2.2)
abbrev m_next (μ : MS) : Nat → Int32 := μ.2.2.2.2.2.2.2.2.1
abbrev m_next' (μ : MS) (v : Nat → Int32) : MS := (μ.1, μ.2.1, μ.2.2.1, μ.2.2.2.1, μ.2.2.2.2.1, μ.2.2.2.2.2.1, μ.2.2.2.2.2.2.1, μ.2.2.2.2.2.2.2.1, v, μ.2.2.2.2.2.2.2.2.2)
abbrev m_square (μ : MS) : Nat → Int32 := μ.2.2.2.2.2.2.2.2.2
abbrev m_square' (μ : MS) (v : Nat → Int32) : MS := (μ.1, μ.2.1, μ.2.2.1, μ.2.2.2.1, μ.2.2.2.2.1, μ.2.2.2.2.2.1, μ.2.2.2.2.2.2.1, μ.2.2.2.2.2.2.2.1, μ.2.2.2.2.2.2.2.2.1, v)
abbrev MW (A : Nat → Nat) (t : Nat → ClassId) (μ : MS) : va_W := [(A 0, .inr (6, [.ref (A 1), .int (m_states μ), .ref (A 2), .int (m_thrown μ), .ref (A 3), .int (m_typed μ), .int (m_told μ), .ref (A 4), .ref (A 5), .ref (A 6)])), (A 1, .inl (t 0, (1970, .inl (m_s μ)))), (A 2, .inl (t 1, (2, .inl (m_kept μ)))), (A 3, .inl (t 2, (71, .inl (m_text μ)))), (A 4, .inl (t 0, (1024, .inl (m_ways μ)))), (A 5, .inl (t 0, (1024, .inl (m_next μ)))), (A 6, .inl (t 0, (100, .inl (m_square μ))))]
abbrev ML (A : Nat → Nat) : List Nat := [A 0, A 1, A 2, A 3, A 4, A 5, A 6]
def f_X5_laysOut_L39_b (a1 : Int32) (rec39 : (Int32) → (Nat → Int32) → Option ((Nat → Int32))) (y4_39 : Int32) (s_39 : Nat → Int32) : Option ((Nat → Int32)) :=
(if (64 : Int32) ≤ y4_39 then
some s_39
else
(Option.bind (jst 1970 s_39 ((a1 + (3 : Int32)) + y4_39) (0 : Int32)) fun f12 =>
(Option.bind (jst 1970 f12 ((a1 + (67 : Int32)) + y4_39) (-1 : Int32)) fun f13 =>
(jlet (y4_39 + (1)) fun x14 =>
rec39 x14 f13))))
def f_X5_laysOut_L39 (a1 : Int32) : Nat → (Int32) → (Nat → Int32) → Option ((Nat → Int32))
  | 0, _, _ => none
  | n + 1, y4_39, s_39 => f_X5_laysOut_L39_b a1 (f_X5_laysOut_L39 a1 n) y4_39 s_39
def f_X5_laysOut (μ : MS) (a1 : Int32) (a2 : Int32) (a3 : Int32) : Option ((Nat → Int32)) :=
(Option.bind (jst 1970 (m_s μ) a1 a2) fun f1 =>
(Option.bind (jst 1970 f1 (a1 + (1 : Int32)) a3) fun f2 =>
(Option.bind (jst 1970 f2 (a1 + (2 : Int32)) (0 : Int32)) fun f3 =>
(Option.bind (jst 1970 f3 (a1 + (131 : Int32)) (0 : Int32)) fun f4 =>
(Option.bind (f_X5_laysOut_L39 a1 4096 (0 : Int32) f4) fun o11 =>
some o11)))))

def f_X5_thrown (μ : MS) : Option (Int32) :=
some (m_thrown μ)

def f_X5_in (a1 : Int32) (a2 : Int32) (a3 : Int32) : Option (Int32) :=
(if a1 < a2 then
some (0 : Int32)
else
(if a3 < a1 then
some (0 : Int32)
else
some (1 : Int32)))

def f_X5_goes (μ : MS) (a1 : Int32) (a2 : Int32) : Option (Int32 × (Int32)) :=
(Option.bind (if a1 = 0 then
some (1 : Int32)
else
(if a2 = 0 then
some (2 : Int32)
else
some (0 : Int32))) fun o1 =>
(if o1 = 0 then
some ((1 : Int32), o1)
else
some ((0 : Int32), o1)))

def f_X5_copies_L2_b (a1 : Int32) (a2 : Int32) (rec2 : (Int32) → (Nat → Int32) → Option ((Nat → Int32))) (y3_2 : Int32) (s_2 : Nat → Int32) : Option ((Nat → Int32)) :=
(if (197 : Int32) ≤ y3_2 then
some s_2
else
(Option.bind (jld 1970 s_2 (((197 : Int32) * a1) + y3_2)) fun v8 =>
(Option.bind (jst 1970 s_2 (((197 : Int32) * a2) + y3_2) v8) fun f9 =>
(jlet (y3_2 + (1)) fun x10 =>
rec2 x10 f9))))
def f_X5_copies_L2 (a1 : Int32) (a2 : Int32) : Nat → (Int32) → (Nat → Int32) → Option ((Nat → Int32))
  | 0, _, _ => none
  | n + 1, y3_2, s_2 => f_X5_copies_L2_b a1 a2 (f_X5_copies_L2 a1 a2 n) y3_2 s_2
def f_X5_copies (μ : MS) (a1 : Int32) (a2 : Int32) : Option ((Nat → Int32)) :=
(Option.bind (f_X5_copies_L2 a1 a2 4096 (0 : Int32) (m_s μ)) fun o7 =>
some o7)

def f_X5_saves_L11_b (μ : MS) (rec11 : (Int32) → (Nat → Int32) → Option ((Nat → Int32))) (y1_11 : Int32) (s_11 : Nat → Int32) : Option ((Nat → Int32)) :=
(if (6 : Int32) ≤ y1_11 then
some s_11
else
(Option.bind (f_X5_copies (m_s' μ s_11) (y1_11 + (1 : Int32)) y1_11) fun r15 =>
(jlet (y1_11 + (1)) fun x16 =>
rec11 x16 r15)))
def f_X5_saves_L11 (μ : MS) : Nat → (Int32) → (Nat → Int32) → Option ((Nat → Int32))
  | 0, _, _ => none
  | n + 1, y1_11, s_11 => f_X5_saves_L11_b μ (f_X5_saves_L11 μ n) y1_11 s_11
def f_X5_saves (μ : MS) : Option ((Nat → Int32) × (Int32)) :=
(Option.bind (if (m_states μ) = (6 : Int32) then
(Option.bind (f_X5_saves_L11 μ 4096 (1 : Int32) (m_s μ)) fun o14 =>
(jlet ((m_states μ) - (1 : Int32)) fun x17 =>
some (o14, x17)))
else
some ((m_s μ), (m_states μ))) fun o9 =>
(jlet (o9.2 + (1 : Int32)) fun x18 =>
(Option.bind (f_X5_copies (m_states' (m_s' μ o9.1) x18) (0 : Int32) x18) fun r19 =>
some (r19, x18))))

def f_X5_garden (μ : MS) (a1 : Int32) (a2 : Int32) : Option (Int32 × (Nat → Int32) × (Int32) × (Int32)) :=
(Option.bind (f_X5_in a1 (2 : Int32) (8 : Int32)) fun r1 =>
(Option.bind (if r1 = 0 then
some (0 : Int32)
else
(Option.bind (f_X5_in a2 (2 : Int32) (8 : Int32)) fun r4 =>
(if r4 = 0 then
some (0 : Int32)
else
some (1 : Int32)))) fun o3 =>
(Option.bind (f_X5_goes μ o3 (1 : Int32)) fun r5 =>
(if r5.1 = 0 then
some ((0 : Int32), (m_s μ), (m_states μ), r5.2)
else
(Option.bind (f_X5_saves (m_thrown' μ r5.2)) fun r6 =>
(Option.bind (f_X5_laysOut (m_thrown' (m_states' (m_s' μ r6.1) r6.2) r5.2) (0 : Int32) a1 a2) fun r7 =>
some (a1 * a2, r7, r6.2, r5.2)))))))

def f_X5_isIn (μ : MS) (a1 : Int32) (a2 : Int32) : Option (Int32) :=
(Option.bind (jld 1970 (m_s μ) (0 : Int32)) fun v1 =>
(Option.bind (f_X5_in a1 (0 : Int32) (v1 - (1 : Int32))) fun r2 =>
(if r2 = 0 then
some (0 : Int32)
else
(Option.bind (jld 1970 (m_s μ) (1 : Int32)) fun v3 =>
(Option.bind (f_X5_in a2 (0 : Int32) (v3 - (1 : Int32))) fun r4 =>
(if r4 = 0 then
some (0 : Int32)
else
some (1 : Int32)))))))

def f_X5_pond (μ : MS) (a1 : Int32) (a2 : Int32) : Option (Int32 × (Nat → Int32) × (Int32) × (Int32)) :=
(Option.bind (f_X5_isIn μ a1 a2) fun r1 =>
(Option.bind (if r1 = 0 then
some (0 : Int32)
else
some (((8 : Int32) * a2) + a1)) fun o2 =>
(Option.bind (if r1 = 0 then
some (0 : Int32)
else
(Option.bind (jld 1970 (m_s μ) ((3 : Int32) + o2)) fun v6 =>
(if v6 = 0 then
(Option.bind (jld 1970 (m_s μ) ((67 : Int32) + o2)) fun v7 =>
(if 0 ≤ v7 then
some (0 : Int32)
else
some (1 : Int32)))
else
some (0 : Int32)))) fun o5 =>
(Option.bind (f_X5_goes μ r1 o5) fun r8 =>
(if r8.1 = 0 then
some ((0 : Int32), (m_s μ), (m_states μ), r8.2)
else
(Option.bind (f_X5_saves (m_thrown' μ r8.2)) fun r9 =>
(Option.bind (jld 1970 r9.1 (2 : Int32)) fun v10 =>
(Option.bind (jst 1970 r9.1 (2 : Int32) o2) fun f11 =>
some ((v10 - v10 / (8 : Int32) * (8 : Int32)) + ((10 : Int32) * (v10 / (8 : Int32))), f11, r9.2, r8.2)))))))))

def f_X5_walls_L4_b (μ : MS) (rec4 : (Int32) → (Int32) → Option (Int32)) (y1_4 : Int32) (y2_4 : Int32) : Option (Int32) :=
(if (64 : Int32) ≤ y2_4 then
some y1_4
else
(Option.bind (jld 1970 (m_s μ) ((3 : Int32) + y2_4)) fun v8 =>
(jlet (y1_4 + v8) fun x9 =>
(jlet (y2_4 + (1)) fun x10 =>
rec4 x9 x10))))
def f_X5_walls_L4 (μ : MS) : Nat → (Int32) → (Int32) → Option (Int32)
  | 0, _, _ => none
  | n + 1, y1_4, y2_4 => f_X5_walls_L4_b μ (f_X5_walls_L4 μ n) y1_4 y2_4
def f_X5_walls (μ : MS) : Option (Int32) :=
(Option.bind (f_X5_walls_L4 μ 4096 (0 : Int32) (0 : Int32)) fun o7 =>
some o7)

def f_X5_wall (μ : MS) (a1 : Int32) (a2 : Int32) : Option (Int32 × (Nat → Int32) × (Int32) × (Int32)) :=
(Option.bind (f_X5_isIn μ a1 a2) fun r1 =>
(Option.bind (if r1 = 0 then
some (0 : Int32)
else
some (((8 : Int32) * a2) + a1)) fun o2 =>
(Option.bind (if r1 = 0 then
some (0 : Int32)
else
(Option.bind (jld 1970 (m_s μ) (2 : Int32)) fun v6 =>
(if v6 = o2 then
some (0 : Int32)
else
(Option.bind (jld 1970 (m_s μ) ((67 : Int32) + o2)) fun v7 =>
(if 0 ≤ v7 then
some (0 : Int32)
else
some (1 : Int32)))))) fun o5 =>
(Option.bind (f_X5_goes μ r1 o5) fun r8 =>
(if r8.1 = 0 then
some ((0 : Int32), (m_s μ), (m_states μ), r8.2)
else
(Option.bind (f_X5_saves (m_thrown' μ r8.2)) fun r9 =>
(Option.bind (jld 1970 r9.1 ((3 : Int32) + o2)) fun v10 =>
(Option.bind (jst 1970 r9.1 ((3 : Int32) + o2) ((1 : Int32) - v10)) fun f11 =>
(Option.bind (f_X5_walls (m_thrown' (m_states' (m_s' μ f11) r9.2) r8.2)) fun r12 =>
some (r12, f11, r9.2, r8.2))))))))))

def f_X5_ofBlock (a1 : Int32) (a2 : Int32) (a3 : Int32) : Option (Int32) :=
(if a3 = (1 : Int32) then
some ((((8 : Int32) * (a2 + (a3 / (2 : Int32)))) + a1) + (1 : Int32))
else
(if a3 = (2 : Int32) then
some ((((8 : Int32) * (a2 + (a3 / (2 : Int32)))) + a1) + (1 : Int32))
else
some ((((8 : Int32) * (a2 + (a3 / (2 : Int32)))) + a1) + (0 : Int32))))

def f_X5_wrong_L42_b (a1 : Int32) (a2 : Int32) (a3 : Int32) (a4 : Int32) (μ : MS) (rec42 : (Int32) → (Int32) → Option (Int32)) (y5_42 : Int32) (y6_42 : Int32) : Option (Int32) :=
(if (4 : Int32) ≤ y6_42 then
some y5_42
else
(Option.bind (if y6_42 = a4 then
some y5_42
else
(Option.bind (f_X5_ofBlock a2 a3 y6_42) fun r51 =>
(Option.bind (jld 1970 (m_s μ) (a1 + (2 : Int32))) fun v52 =>
(Option.bind (if r51 = v52 then
some (2 : Int32)
else
(Option.bind (jld 1970 (m_s μ) ((a1 + (3 : Int32)) + r51)) fun v56 =>
(if v56 = (1 : Int32) then
some (3 : Int32)
else
(Option.bind (jld 1970 (m_s μ) ((a1 + (67 : Int32)) + r51)) fun v57 =>
(if v57 < 0 then
some (0 : Int32)
else
some (4 : Int32)))))) fun o55 =>
(Option.bind (if o55 ≤ 0 then
some y5_42
else
(if y5_42 = 0 then
some o55
else
(if y5_42 ≤ o55 then
some y5_42
else
some o55))) fun o58 =>
some o58))))) fun o50 =>
(jlet (y6_42 + (1)) fun x59 =>
rec42 o50 x59)))
def f_X5_wrong_L42 (a1 : Int32) (a2 : Int32) (a3 : Int32) (a4 : Int32) (μ : MS) : Nat → (Int32) → (Int32) → Option (Int32)
  | 0, _, _ => none
  | n + 1, y5_42, y6_42 => f_X5_wrong_L42_b a1 a2 a3 a4 μ (f_X5_wrong_L42 a1 a2 a3 a4 μ n) y5_42 y6_42
def f_X5_wrong (μ : MS) (a1 : Int32) (a2 : Int32) (a3 : Int32) (a4 : Int32) : Option (Int32) :=
(Option.bind (jld 1970 (m_s μ) a1) fun v1 =>
(Option.bind (f_X5_in a2 (0 : Int32) (v1 - (2 : Int32))) fun r2 =>
(if r2 = 0 then
some (1 : Int32)
else
(Option.bind (jld 1970 (m_s μ) (a1 + (1 : Int32))) fun v3 =>
(Option.bind (f_X5_in a3 (0 : Int32) (v3 - (2 : Int32))) fun r4 =>
(if r4 = 0 then
some (1 : Int32)
else
(Option.bind (f_X5_wrong_L42 a1 a2 a3 a4 μ 4096 (0 : Int32) (0 : Int32)) fun o41 =>
some o41)))))))

def f_X5_lays_L68_b (a1 : Int32) (a2 : Int32) (a3 : Int32) (a4 : Int32) (v1 : Int32) (rec68 : (Int32) → (Nat → Int32) → Option ((Nat → Int32))) (y6_68 : Int32) (s_68 : Nat → Int32) : Option ((Nat → Int32)) :=
(if (4 : Int32) ≤ y6_68 then
some s_68
else
(Option.bind (if y6_68 = a4 then
some s_68
else
(Option.bind (f_X5_ofBlock a2 a3 y6_68) fun r21 =>
(Option.bind (jst 1970 s_68 ((a1 + (67 : Int32)) + r21) v1) fun f22 =>
some f22))) fun o20 =>
(jlet (y6_68 + (1)) fun x23 =>
rec68 x23 o20)))
def f_X5_lays_L68 (a1 : Int32) (a2 : Int32) (a3 : Int32) (a4 : Int32) (v1 : Int32) : Nat → (Int32) → (Nat → Int32) → Option ((Nat → Int32))
  | 0, _, _ => none
  | n + 1, y6_68, s_68 => f_X5_lays_L68_b a1 a2 a3 a4 v1 (f_X5_lays_L68 a1 a2 a3 a4 v1 n) y6_68 s_68
def f_X5_lays (μ : MS) (a1 : Int32) (a2 : Int32) (a3 : Int32) (a4 : Int32) : Option ((Nat → Int32)) :=
(Option.bind (jld 1970 (m_s μ) (a1 + (131 : Int32))) fun v1 =>
(Option.bind (jst 1970 (m_s μ) ((a1 + (132 : Int32)) + ((3 : Int32) * v1)) a2) fun f2 =>
(Option.bind (jst 1970 f2 (((a1 + (132 : Int32)) + ((3 : Int32) * v1)) + (1 : Int32)) a3) fun f3 =>
(Option.bind (jst 1970 f3 (((a1 + (132 : Int32)) + ((3 : Int32) * v1)) + (2 : Int32)) a4) fun f4 =>
(Option.bind (f_X5_lays_L68 a1 a2 a3 a4 v1 4096 (0 : Int32) f4) fun o17 =>
(Option.bind (jld 1970 o17 (a1 + (131 : Int32))) fun v24 =>
(Option.bind (jst 1970 o17 (a1 + (131 : Int32)) (v24 + (1 : Int32))) fun f25 =>
some f25)))))))

def f_X5_lay (μ : MS) (a1 : Int32) (a2 : Int32) (a3 : Int32) : Option (Int32 × (Nat → Int32) × (Int32) × (Int32)) :=
(Option.bind (f_X5_in a3 (0 : Int32) (3 : Int32)) fun r1 =>
(Option.bind (f_X5_goes μ r1 (1 : Int32)) fun r2 =>
(if r2.1 = 0 then
some ((0 : Int32), (m_s μ), (m_states μ), r2.2)
else
(Option.bind (f_X5_saves (m_thrown' μ r2.2)) fun r3 =>
(Option.bind (f_X5_wrong (m_thrown' (m_states' (m_s' μ r3.1) r3.2) r2.2) (0 : Int32) a1 a2 a3) fun r4 =>
(if r4 ≤ 0 then
(Option.bind (f_X5_lays (m_thrown' (m_states' (m_s' μ r3.1) r3.2) r2.2) (0 : Int32) a1 a2 a3) fun r5 =>
some (r4, r5, r3.2, r2.2))
else
(Option.bind (jld 1970 r3.1 (196 : Int32)) fun v6 =>
(Option.bind (jst 1970 r3.1 (196 : Int32) (v6 + (1 : Int32))) fun f7 =>
some (r4, f7, r3.2, r2.2)))))))))

def f_X5_lifts_L2_b (a1 : Int32) (a2 : Int32) (rec2 : (Int32) → (Nat → Int32) → Option ((Nat → Int32))) (y3_2 : Int32) (s_2 : Nat → Int32) : Option ((Nat → Int32)) :=
(if (64 : Int32) ≤ y3_2 then
some s_2
else
(Option.bind (jld 1970 s_2 ((a1 + (67 : Int32)) + y3_2)) fun v10 =>
(Option.bind (if v10 = a2 then
some (-1 : Int32)
else
(if v10 ≤ a2 then
some v10
else
some (v10 - (1 : Int32)))) fun o11 =>
(Option.bind (jst 1970 s_2 ((a1 + (67 : Int32)) + y3_2) o11) fun f12 =>
(jlet (y3_2 + (1)) fun x13 =>
rec2 x13 f12)))))
def f_X5_lifts_L2 (a1 : Int32) (a2 : Int32) : Nat → (Int32) → (Nat → Int32) → Option ((Nat → Int32))
  | 0, _, _ => none
  | n + 1, y3_2, s_2 => f_X5_lifts_L2_b a1 a2 (f_X5_lifts_L2 a1 a2 n) y3_2 s_2
def f_X5_lifts_L67_b (a1 : Int32) (rec67 : (Int32) → (Nat → Int32) → Option ((Nat → Int32))) (y3_67 : Int32) (s_67 : Nat → Int32) : Option ((Nat → Int32)) :=
(Option.bind (jld 1970 s_67 (a1 + (131 : Int32))) fun v24 =>
(if ((3 : Int32) * v24) ≤ (y3_67 + (3 : Int32)) then
some s_67
else
(Option.bind (jld 1970 s_67 (((a1 + (132 : Int32)) + y3_67) + (3 : Int32))) fun v25 =>
(Option.bind (jst 1970 s_67 ((a1 + (132 : Int32)) + y3_67) v25) fun f26 =>
(jlet (y3_67 + (1)) fun x27 =>
rec67 x27 f26)))))
def f_X5_lifts_L67 (a1 : Int32) : Nat → (Int32) → (Nat → Int32) → Option ((Nat → Int32))
  | 0, _, _ => none
  | n + 1, y3_67, s_67 => f_X5_lifts_L67_b a1 (f_X5_lifts_L67 a1 n) y3_67 s_67
def f_X5_lifts (μ : MS) (a1 : Int32) (a2 : Int32) : Option ((Nat → Int32)) :=
(Option.bind (f_X5_lifts_L2 a1 a2 4096 (0 : Int32) (m_s μ)) fun o9 =>
(jlet ((3 : Int32) * a2) fun x14 =>
(Option.bind (f_X5_lifts_L67 a1 4096 x14 o9) fun o23 =>
(Option.bind (jld 1970 o23 (a1 + (131 : Int32))) fun v28 =>
(Option.bind (jst 1970 o23 (a1 + (131 : Int32)) (v28 - (1 : Int32))) fun f29 =>
some f29)))))

def f_X5_lift (μ : MS) (a1 : Int32) (a2 : Int32) : Option (Int32 × (Nat → Int32) × (Int32) × (Int32)) :=
(Option.bind (f_X5_isIn μ a1 a2) fun r1 =>
(Option.bind (if r1 = 0 then
some (-1 : Int32)
else
(Option.bind (jld 1970 (m_s μ) (((67 : Int32) + ((8 : Int32) * a2)) + a1)) fun v4 =>
some v4)) fun o3 =>
(Option.bind (if o3 < 0 then
some (0 : Int32)
else
some (1 : Int32)) fun o5 =>
(Option.bind (f_X5_goes μ r1 o5) fun r6 =>
(if r6.1 = 0 then
some ((0 : Int32), (m_s μ), (m_states μ), r6.2)
else
(Option.bind (f_X5_saves (m_thrown' μ r6.2)) fun r7 =>
(Option.bind (f_X5_lifts (m_thrown' (m_states' (m_s' μ r7.1) r7.2) r6.2) (0 : Int32) o3) fun r8 =>
some (o3, r8, r7.2, r6.2))))))))

def f_X5_isBlock (μ : MS) (a1 : Int32) (a2 : Int32) (a3 : Int32) : Option (Int32) :=
(Option.bind (jld 1970 (m_s μ) (0 : Int32)) fun v1 =>
(Option.bind (if a3 = 0 then
some (3 : Int32)
else
some (2 : Int32)) fun o2 =>
(Option.bind (f_X5_in a1 (0 : Int32) (v1 - o2)) fun r3 =>
(if r3 = 0 then
some (0 : Int32)
else
(Option.bind (jld 1970 (m_s μ) (1 : Int32)) fun v4 =>
(Option.bind (if a3 = 0 then
some (2 : Int32)
else
some (3 : Int32)) fun o5 =>
(Option.bind (f_X5_in a2 (0 : Int32) (v4 - o5)) fun r6 =>
(if r6 = 0 then
some (0 : Int32)
else
some (1 : Int32)))))))))

def f_X5_turnOf (μ : MS) (a1 : Int32) (a2 : Int32) (a3 : Int32) : Option (Int32) :=
(Option.bind (jld 1970 (m_s μ) (((67 : Int32) + ((8 : Int32) * a2)) + a1)) fun v1 =>
(Option.bind (if a3 = 0 then
some (1 : Int32)
else
some (2 : Int32)) fun o2 =>
(Option.bind (if a3 = 0 then
some (2 : Int32)
else
some (1 : Int32)) fun o3 =>
(Option.bind (jld 1970 (m_s μ) ((((67 : Int32) + ((8 : Int32) * (a2 + o2))) + a1) + o3)) fun v4 =>
(if v1 < 0 then
some (-1 : Int32)
else
(if v4 < 0 then
some (-1 : Int32)
else
(if v1 = v4 then
some (-1 : Int32)
else
(Option.bind (jld 1970 (m_s μ) (((132 : Int32) + ((3 : Int32) * v1)) + (2 : Int32))) fun v5 =>
(Option.bind (jld 1970 (m_s μ) ((132 : Int32) + ((3 : Int32) * v1))) fun v6 =>
(Option.bind (if v6 = a1 then
(Option.bind (jld 1970 (m_s μ) (((132 : Int32) + ((3 : Int32) * v1)) + (1 : Int32))) fun v10 =>
(if v10 = a2 then
(if v5 = (2 : Int32) then
some (1 : Int32)
else
(Option.bind (if a3 = 0 then
some (1 : Int32)
else
some (3 : Int32)) fun o11 =>
(if v5 = o11 then
some (1 : Int32)
else
some (0 : Int32))))
else
some (0 : Int32)))
else
some (0 : Int32)) fun o9 =>
(Option.bind (if a3 = 0 then
some (a1 + (1 : Int32))
else
some a1) fun o12 =>
(Option.bind (if a3 = 0 then
some a2
else
some (a2 + (1 : Int32))) fun o13 =>
(Option.bind (if v5 = (2 : Int32) then
some (0 : Int32)
else
(if a3 = 0 then
some (3 : Int32)
else
some (1 : Int32))) fun o14 =>
(Option.bind (if o9 = 0 then
some (0 : Int32)
else
(Option.bind (jld 1970 (m_s μ) ((132 : Int32) + ((3 : Int32) * v4))) fun v19 =>
(if v19 = o12 then
(Option.bind (jld 1970 (m_s μ) (((132 : Int32) + ((3 : Int32) * v4)) + (1 : Int32))) fun v20 =>
(if v20 = o13 then
(Option.bind (jld 1970 (m_s μ) (((132 : Int32) + ((3 : Int32) * v4)) + (2 : Int32))) fun v21 =>
(if v21 = o14 then
some (1 : Int32)
else
some (0 : Int32)))
else
some (0 : Int32)))
else
some (0 : Int32)))) fun o18 =>
(if o18 = 0 then
some (-1 : Int32)
else
some v5)))))))))))))))

def f_X5_flip (μ : MS) (a1 : Int32) (a2 : Int32) (a3 : Int32) : Option (Int32 × (Nat → Int32) × (Int32) × (Int32)) :=
(Option.bind (f_X5_isBlock μ a1 a2 a3) fun r1 =>
(Option.bind (if r1 = 0 then
some (-1 : Int32)
else
(Option.bind (f_X5_turnOf μ a1 a2 a3) fun r4 =>
some r4)) fun o3 =>
(Option.bind (if o3 < 0 then
some (0 : Int32)
else
some (1 : Int32)) fun o5 =>
(Option.bind (f_X5_goes μ r1 o5) fun r6 =>
(if r6.1 = 0 then
some ((0 : Int32), (m_s μ), (m_states μ), r6.2)
else
(Option.bind (f_X5_saves (m_thrown' μ r6.2)) fun r7 =>
(Option.bind (jld 1970 r7.1 (((67 : Int32) + ((8 : Int32) * a2)) + a1)) fun v8 =>
(Option.bind (f_X5_lifts (m_thrown' (m_states' (m_s' μ r7.1) r7.2) r6.2) (0 : Int32) v8) fun r9 =>
(Option.bind (if a3 = 0 then
some (1 : Int32)
else
some (2 : Int32)) fun o10 =>
(Option.bind (if a3 = 0 then
some (2 : Int32)
else
some (1 : Int32)) fun o11 =>
(Option.bind (jld 1970 r9 ((((67 : Int32) + ((8 : Int32) * (a2 + o10))) + a1) + o11)) fun v12 =>
(Option.bind (f_X5_lifts (m_thrown' (m_states' (m_s' μ r9) r7.2) r6.2) (0 : Int32) v12) fun r13 =>
(Option.bind (if o3 = (2 : Int32) then
(if a3 = 0 then
some (1 : Int32)
else
some (3 : Int32))
else
some (2 : Int32)) fun o14 =>
(Option.bind (f_X5_lays (m_thrown' (m_states' (m_s' μ r13) r7.2) r6.2) (0 : Int32) a1 a2 o14) fun r15 =>
(Option.bind (if a3 = 0 then
some (a1 + (1 : Int32))
else
some a1) fun o16 =>
(Option.bind (if a3 = 0 then
some a2
else
some (a2 + (1 : Int32))) fun o17 =>
(Option.bind (if o14 = (2 : Int32) then
some (0 : Int32)
else
(if a3 = 0 then
some (3 : Int32)
else
some (1 : Int32))) fun o18 =>
(Option.bind (f_X5_lays (m_thrown' (m_states' (m_s' μ r15) r7.2) r6.2) (0 : Int32) o16 o17 o18) fun r19 =>
(Option.bind (jld 1970 r19 (195 : Int32)) fun v20 =>
(Option.bind (jst 1970 r19 (195 : Int32) (v20 + (1 : Int32))) fun f21 =>
(Option.bind (jld 1970 f21 (195 : Int32)) fun v22 =>
some (v22, f21, r7.2, r6.2))))))))))))))))))))))

def f_X5_clears_L2_b (rec2 : (Int32) → (Nat → Int32) → Option ((Nat → Int32))) (y1_2 : Int32) (next_2 : Nat → Int32) : Option ((Nat → Int32)) :=
(if (1024 : Int32) ≤ y1_2 then
some next_2
else
(Option.bind (jst 1024 next_2 y1_2 (0 : Int32)) fun f6 =>
(jlet (y1_2 + (1)) fun x7 =>
rec2 x7 f6)))
def f_X5_clears_L2 : Nat → (Int32) → (Nat → Int32) → Option ((Nat → Int32))
  | 0, _, _ => none
  | n + 1, y1_2, next_2 => f_X5_clears_L2_b (f_X5_clears_L2 n) y1_2 next_2
def f_X5_clears (μ : MS) : Option ((Nat → Int32)) :=
(Option.bind (f_X5_clears_L2 4096 (0 : Int32) (m_next μ)) fun o5 =>
some o5)

def f_X5_takes_L2_b (μ : MS) (rec2 : (Int32) → (Nat → Int32) → Option ((Nat → Int32))) (y1_2 : Int32) (ways_2 : Nat → Int32) : Option ((Nat → Int32)) :=
(if (1024 : Int32) ≤ y1_2 then
some ways_2
else
(Option.bind (jld 1024 (m_next μ) y1_2) fun v8 =>
(Option.bind (jst 1024 ways_2 y1_2 v8) fun f9 =>
(jlet (y1_2 + (1)) fun x10 =>
rec2 x10 f9))))
def f_X5_takes_L2 (μ : MS) : Nat → (Int32) → (Nat → Int32) → Option ((Nat → Int32))
  | 0, _, _ => none
  | n + 1, y1_2, ways_2 => f_X5_takes_L2_b μ (f_X5_takes_L2 μ n) y1_2 ways_2
def f_X5_takes (μ : MS) : Option ((Nat → Int32)) :=
(Option.bind (f_X5_takes_L2 μ 4096 (0 : Int32) (m_ways μ)) fun o7 =>
some o7)

def f_X5_isFree (μ : MS) (a1 : Int32) (a2 : Int32) : Option (Int32) :=
(Option.bind (jld 1970 (m_s μ) (a1 + (2 : Int32))) fun v1 =>
(if a2 = v1 then
some (0 : Int32)
else
(Option.bind (jld 1970 (m_s μ) ((a1 + (3 : Int32)) + a2)) fun v2 =>
(if v2 = 0 then
(Option.bind (jld 1970 (m_s μ) ((a1 + (67 : Int32)) + a2)) fun v3 =>
(if 0 ≤ v3 then
some (0 : Int32)
else
some (1 : Int32)))
else
some (0 : Int32)))))

def f_X5_covers (μ : MS) (a1 : Int32) (a2 : Int32) (a3 : Int32) (a4 : Int32) : Option (Int32) :=
(Option.bind (if a4 = 0 then
some (a2 - (1 : Int32))
else
some a2) fun o1 =>
(Option.bind (f_X5_wrong μ a1 o1 a3 a4) fun r2 =>
(if r2 ≤ 0 then
(Option.bind (jld 1970 (m_s μ) a1) fun v3 =>
(if a4 = 0 then
some (((1 : Int32) ||| ((1 : Int32) <<< ((v3 - (1 : Int32)) &&& 31))) ||| ((1 : Int32) <<< (v3 &&& 31)))
else
(if a4 = (1 : Int32) then
some (((1 : Int32) ||| ((1 : Int32) <<< (v3 &&& 31))) ||| ((1 : Int32) <<< ((v3 + (1 : Int32)) &&& 31)))
else
(if a4 = (2 : Int32) then
some ((3 : Int32) ||| ((1 : Int32) <<< (v3 &&& 31)))
else
some ((3 : Int32) ||| ((1 : Int32) <<< ((v3 + (1 : Int32)) &&& 31)))))))
else
some (0 : Int32))))

def f_X5_paves_L136_b (a1 : Int32) (μ : MS) (y7_70 : Int32) (ways_24 : Nat → Int32) (x814 : Int32) (x816 : Int32) (rec136 : (Int32) → (Nat → Int32) → Option ((Nat → Int32))) (y8_136 : Int32) (next_136 : Nat → Int32) : Option ((Nat → Int32)) :=
(if (4 : Int32) ≤ y8_136 then
some next_136
else
(Option.bind (f_X5_covers (m_next' (m_ways' μ ways_24) next_136) a1 x814 x816 y8_136) fun r1168 =>
(Option.bind (if r1168 ≤ 0 then
some next_136
else
(if (r1168 &&& y7_70) = 0 then
(Option.bind (jld 1024 next_136 ((y7_70 ||| r1168) >>> ((1 : Int32) &&& 31))) fun v1173 =>
(Option.bind (jld 1024 ways_24 y7_70) fun v1174 =>
(Option.bind (jst 1024 next_136 ((y7_70 ||| r1168) >>> ((1 : Int32) &&& 31)) (v1173 + v1174)) fun f1175 =>
some f1175)))
else
some next_136)) fun o1172 =>
(jlet (y8_136 + (1)) fun x1176 =>
rec136 x1176 o1172))))
def f_X5_paves_L136 (a1 : Int32) (μ : MS) (y7_70 : Int32) (ways_24 : Nat → Int32) (x814 : Int32) (x816 : Int32) : Nat → (Int32) → (Nat → Int32) → Option ((Nat → Int32))
  | 0, _, _ => none
  | n + 1, y8_136, next_136 => f_X5_paves_L136_b a1 μ y7_70 ways_24 x814 x816 (f_X5_paves_L136 a1 μ y7_70 ways_24 x814 x816 n) y8_136 next_136
def f_X5_paves_L136v_b (a1 : Int32) (μ : MS) (y7_70 : Int32) (ways_24 : Nat → Int32) (x814 : Int32) (x816 : Int32) (rec136 : (Int32) → (Nat → Int32) → Option ((Nat → Int32))) (y8_136 : Int32) (next_136 : Nat → Int32) : Option ((Nat → Int32)) :=
(if (4 : Int32) ≤ y8_136 then
some next_136
else
(Option.bind (f_X5_covers (m_next' (m_ways' μ ways_24) next_136) a1 x814 x816 y8_136) fun r1200 =>
(Option.bind (if r1200 ≤ 0 then
some next_136
else
(if (r1200 &&& y7_70) = 0 then
(Option.bind (jld 1024 next_136 ((y7_70 ||| r1200) >>> ((1 : Int32) &&& 31))) fun v1205 =>
(Option.bind (jld 1024 ways_24 y7_70) fun v1206 =>
(Option.bind (jst 1024 next_136 ((y7_70 ||| r1200) >>> ((1 : Int32) &&& 31)) (v1205 + v1206)) fun f1207 =>
some f1207)))
else
some next_136)) fun o1204 =>
(jlet (y8_136 + (1)) fun x1208 =>
rec136 x1208 o1204))))
def f_X5_paves_L136v (a1 : Int32) (μ : MS) (y7_70 : Int32) (ways_24 : Nat → Int32) (x814 : Int32) (x816 : Int32) : Nat → (Int32) → (Nat → Int32) → Option ((Nat → Int32))
  | 0, _, _ => none
  | n + 1, y8_136, next_136 => f_X5_paves_L136v_b a1 μ y7_70 ways_24 x814 x816 (f_X5_paves_L136v a1 μ y7_70 ways_24 x814 x816 n) y8_136 next_136
def f_X5_paves_L70_b (a1 : Int32) (μ : MS) (v1 : Int32) (ways_24 : Nat → Int32) (x814 : Int32) (x816 : Int32) (r817 : Int32) (rec70 : (Int32) → (Nat → Int32) → Option ((Nat → Int32))) (y7_70 : Int32) (next_70 : Nat → Int32) : Option ((Nat → Int32)) :=
(if ((4 : Int32) <<< (v1 &&& 31)) ≤ y7_70 then
some next_70
else
(Option.bind (jld 1024 ways_24 y7_70) fun v1082 =>
(Option.bind (if v1082 ≤ 0 then
(Option.bind (jld 1024 ways_24 y7_70) fun v1148 =>
(if v1148 ≤ 0 then
some next_70
else
(Option.bind (f_X5_paves_L136 a1 μ y7_70 ways_24 x814 x816 4096 (0 : Int32) next_70) fun o1167 =>
some o1167)))
else
(if r817 = 0 then
(Option.bind (jld 1024 next_70 (y7_70 >>> ((1 : Int32) &&& 31))) fun v1177 =>
(Option.bind (jld 1024 ways_24 y7_70) fun v1178 =>
(Option.bind (jst 1024 next_70 (y7_70 >>> ((1 : Int32) &&& 31)) (v1177 + v1178)) fun f1179 =>
some f1179)))
else
(if (y7_70 &&& (1 : Int32)) = (1 : Int32) then
(Option.bind (jld 1024 next_70 (y7_70 >>> ((1 : Int32) &&& 31))) fun v1209 =>
(Option.bind (jld 1024 ways_24 y7_70) fun v1210 =>
(Option.bind (jst 1024 next_70 (y7_70 >>> ((1 : Int32) &&& 31)) (v1209 + v1210)) fun f1211 =>
some f1211)))
else
(Option.bind (jld 1024 ways_24 y7_70) fun v1180 =>
(if v1180 ≤ 0 then
some next_70
else
(Option.bind (f_X5_paves_L136v a1 μ y7_70 ways_24 x814 x816 4096 (0 : Int32) next_70) fun o1199 =>
some o1199)))))) fun o1147 =>
(jlet (y7_70 + (1)) fun x1212 =>
rec70 x1212 o1147))))
def f_X5_paves_L70 (a1 : Int32) (μ : MS) (v1 : Int32) (ways_24 : Nat → Int32) (x814 : Int32) (x816 : Int32) (r817 : Int32) : Nat → (Int32) → (Nat → Int32) → Option ((Nat → Int32))
  | 0, _, _ => none
  | n + 1, y7_70, next_70 => f_X5_paves_L70_b a1 μ v1 ways_24 x814 x816 r817 (f_X5_paves_L70 a1 μ v1 ways_24 x814 x816 r817 n) y7_70 next_70
def f_X5_paves_L24_b (a1 : Int32) (μ : MS) (v1 : Int32) (rec24 : (Int32) → (Nat → Int32) → (Nat → Int32) → Option ((Nat → Int32) × (Nat → Int32))) (y3_24 : Int32) (ways_24 : Nat → Int32) (next_24 : Nat → Int32) : Option ((Nat → Int32) × (Nat → Int32)) :=
(Option.bind (jld 1970 (m_s μ) (a1 + (1 : Int32))) fun v812 =>
(if (v1 * v812) ≤ y3_24 then
some (ways_24, next_24)
else
(if v1 = 0 then none else
(jlet (y3_24 - y3_24 / v1 * v1) fun x814 =>
(if v1 = 0 then none else
(jlet (y3_24 / v1) fun x816 =>
(Option.bind (f_X5_isFree (m_next' (m_ways' μ ways_24) next_24) a1 (((8 : Int32) * x816) + x814)) fun r817 =>
(Option.bind (f_X5_clears (m_next' (m_ways' μ ways_24) next_24)) fun r818 =>
(Option.bind (f_X5_paves_L70 a1 μ v1 ways_24 x814 x816 r817 4096 (0 : Int32) r818) fun o1081 =>
(Option.bind (f_X5_takes (m_next' (m_ways' μ ways_24) o1081)) fun r1213 =>
(jlet (y3_24 + (1)) fun x1214 =>
rec24 x1214 r1213 o1081)))))))))))
def f_X5_paves_L24 (a1 : Int32) (μ : MS) (v1 : Int32) : Nat → (Int32) → (Nat → Int32) → (Nat → Int32) → Option ((Nat → Int32) × (Nat → Int32))
  | 0, _, _, _ => none
  | n + 1, y3_24, ways_24, next_24 => f_X5_paves_L24_b a1 μ v1 (f_X5_paves_L24 a1 μ v1 n) y3_24 ways_24 next_24
def f_X5_paves (μ : MS) (a1 : Int32) : Option (Int32 × (Nat → Int32) × (Nat → Int32)) :=
(Option.bind (jld 1970 (m_s μ) a1) fun v1 =>
(Option.bind (f_X5_clears μ) fun r2 =>
(Option.bind (jst 1024 r2 (0 : Int32) (1 : Int32)) fun f3 =>
(Option.bind (f_X5_takes (m_next' μ f3)) fun r4 =>
(Option.bind (f_X5_paves_L24 a1 μ v1 4096 (0 : Int32) r4 f3) fun o811 =>
(Option.bind (jld 1024 o811.1 (0 : Int32)) fun v1215 =>
some (v1215, o811.1, o811.2)))))))

def f_X5_fills_L64_b (a1 : Int32) (μ : MS) (y4_28 : Int32) (y3_13 : Int32) (rec64 : (Int32) → (Int32) → (Nat → Int32) → (Nat → Int32) → (Nat → Int32) → Option ((Nat → Int32) × (Nat → Int32) × (Nat → Int32))) (y5_64 : Int32) (y6_64 : Int32) (s_64 : Nat → Int32) (ways_64 : Nat → Int32) (next_64 : Nat → Int32) : Option ((Nat → Int32) × (Nat → Int32) × (Nat → Int32)) :=
(if (4 : Int32) ≤ y6_64 then
some (s_64, ways_64, next_64)
else
(if y5_64 = 0 then
(Option.bind (if y6_64 = 0 then
some (y4_28 - (1 : Int32))
else
some y4_28) fun o419 =>
(Option.bind (f_X5_wrong (m_next' (m_ways' (m_s' μ s_64) ways_64) next_64) a1 o419 y3_13 y6_64) fun r420 =>
(Option.bind (if r420 = 0 then
(Option.bind (f_X5_lays (m_next' (m_ways' (m_s' μ s_64) ways_64) next_64) a1 o419 y3_13 y6_64) fun r427 =>
(Option.bind (f_X5_paves (m_next' (m_ways' (m_s' μ r427) ways_64) next_64) a1) fun r428 =>
(Option.bind (if r428.1 ≤ 0 then
some (0 : Int32)
else
some (1 : Int32)) fun o429 =>
(if o429 = 0 then
(Option.bind (jld 1970 r427 (a1 + (131 : Int32))) fun v430 =>
(Option.bind (f_X5_lifts (m_next' (m_ways' (m_s' μ r427) r428.2.1) r428.2.2) a1 (v430 - (1 : Int32))) fun r431 =>
some (o429, r431, r428.2.1, r428.2.2)))
else
some (o429, r427, r428.2.1, r428.2.2)))))
else
some (y5_64, s_64, ways_64, next_64)) fun o426 =>
(jlet (y6_64 + (1)) fun x432 =>
rec64 o426.1 x432 o426.2.1 o426.2.2.1 o426.2.2.2))))
else
some (s_64, ways_64, next_64)))
def f_X5_fills_L64 (a1 : Int32) (μ : MS) (y4_28 : Int32) (y3_13 : Int32) : Nat → (Int32) → (Int32) → (Nat → Int32) → (Nat → Int32) → (Nat → Int32) → Option ((Nat → Int32) × (Nat → Int32) × (Nat → Int32))
  | 0, _, _, _, _, _ => none
  | n + 1, y5_64, y6_64, s_64, ways_64, next_64 => f_X5_fills_L64_b a1 μ y4_28 y3_13 (f_X5_fills_L64 a1 μ y4_28 y3_13 n) y5_64 y6_64 s_64 ways_64 next_64
def f_X5_fills_L28_b (a1 : Int32) (μ : MS) (y3_13 : Int32) (rec28 : (Int32) → (Nat → Int32) → (Nat → Int32) → (Nat → Int32) → Option ((Nat → Int32) × (Nat → Int32) × (Nat → Int32))) (y4_28 : Int32) (s_28 : Nat → Int32) (ways_28 : Nat → Int32) (next_28 : Nat → Int32) : Option ((Nat → Int32) × (Nat → Int32) × (Nat → Int32)) :=
(Option.bind (jld 1970 s_28 a1) fun v387 =>
(if v387 ≤ y4_28 then
some (s_28, ways_28, next_28)
else
(Option.bind (f_X5_isFree (m_next' (m_ways' (m_s' μ s_28) ways_28) next_28) a1 (((8 : Int32) * y3_13) + y4_28)) fun r388 =>
(Option.bind (if r388 = 0 then
some (1 : Int32)
else
some (0 : Int32)) fun o389 =>
(Option.bind (f_X5_fills_L64 a1 μ y4_28 y3_13 4096 o389 (0 : Int32) s_28 ways_28 next_28) fun o418 =>
(jlet (y4_28 + (1)) fun x433 =>
rec28 x433 o418.1 o418.2.1 o418.2.2))))))
def f_X5_fills_L28 (a1 : Int32) (μ : MS) (y3_13 : Int32) : Nat → (Int32) → (Nat → Int32) → (Nat → Int32) → (Nat → Int32) → Option ((Nat → Int32) × (Nat → Int32) × (Nat → Int32))
  | 0, _, _, _, _ => none
  | n + 1, y4_28, s_28, ways_28, next_28 => f_X5_fills_L28_b a1 μ y3_13 (f_X5_fills_L28 a1 μ y3_13 n) y4_28 s_28 ways_28 next_28
def f_X5_fills_L13_b (a1 : Int32) (μ : MS) (rec13 : (Int32) → (Nat → Int32) → (Nat → Int32) → (Nat → Int32) → Option ((Nat → Int32) × (Nat → Int32) × (Nat → Int32))) (y3_13 : Int32) (s_13 : Nat → Int32) (ways_13 : Nat → Int32) (next_13 : Nat → Int32) : Option ((Nat → Int32) × (Nat → Int32) × (Nat → Int32)) :=
(Option.bind (jld 1970 s_13 (a1 + (1 : Int32))) fun v291 =>
(if v291 ≤ y3_13 then
some (s_13, ways_13, next_13)
else
(Option.bind (f_X5_fills_L28 a1 μ y3_13 4096 (0 : Int32) s_13 ways_13 next_13) fun o386 =>
(jlet (y3_13 + (1)) fun x434 =>
rec13 x434 o386.1 o386.2.1 o386.2.2))))
def f_X5_fills_L13 (a1 : Int32) (μ : MS) : Nat → (Int32) → (Nat → Int32) → (Nat → Int32) → (Nat → Int32) → Option ((Nat → Int32) × (Nat → Int32) × (Nat → Int32))
  | 0, _, _, _, _ => none
  | n + 1, y3_13, s_13, ways_13, next_13 => f_X5_fills_L13_b a1 μ (f_X5_fills_L13 a1 μ n) y3_13 s_13 ways_13 next_13
def f_X5_fills (μ : MS) (a1 : Int32) : Option (Int32 × (Nat → Int32) × (Nat → Int32) × (Nat → Int32)) :=
(Option.bind (jld 1970 (m_s μ) (a1 + (131 : Int32))) fun v1 =>
(Option.bind (f_X5_fills_L13 a1 μ 4096 (0 : Int32) (m_s μ) (m_ways μ) (m_next μ)) fun o290 =>
(Option.bind (jld 1970 o290.1 (a1 + (131 : Int32))) fun v435 =>
some (v435 - v1, o290.1, o290.2.1, o290.2.2))))

def f_X5_fill (μ : MS) : Option (Int32 × (Nat → Int32) × (Int32) × (Int32) × (Nat → Int32) × (Nat → Int32)) :=
(Option.bind (f_X5_paves μ (0 : Int32)) fun r1 =>
(Option.bind (if r1.1 ≤ 0 then
some (0 : Int32)
else
some (1 : Int32)) fun o2 =>
(Option.bind (f_X5_goes (m_next' (m_ways' μ r1.2.1) r1.2.2) o2 (1 : Int32)) fun r3 =>
(if r3.1 = 0 then
some ((0 : Int32), (m_s μ), (m_states μ), r3.2, r1.2.1, r1.2.2)
else
(Option.bind (f_X5_saves (m_next' (m_ways' (m_thrown' μ r3.2) r1.2.1) r1.2.2)) fun r4 =>
(Option.bind (f_X5_fills (m_next' (m_ways' (m_thrown' (m_states' (m_s' μ r4.1) r4.2) r3.2) r1.2.1) r1.2.2) (0 : Int32)) fun r5 =>
some (r5.1, r5.2.1, r4.2, r3.2, r5.2.2.1, r5.2.2.2)))))))

def f_X5_areSquares (μ : MS) : Option (Int32) :=
(Option.bind (jld 1970 (m_s μ) (0 : Int32)) fun v1 =>
(Option.bind (jld 1970 (m_s μ) (1 : Int32)) fun v2 =>
(if v1 = v2 then
(if v1 = (2 : Int32) then
(Option.bind (f_X5_walls μ) fun r3 =>
(if r3 = 0 then
(Option.bind (jld 1970 (m_s μ) (131 : Int32)) fun v4 =>
(if v4 = 0 then
some (1 : Int32)
else
some (0 : Int32)))
else
some (0 : Int32)))
else
(if v1 = (4 : Int32) then
(Option.bind (f_X5_walls μ) fun r5 =>
(if r5 = 0 then
(Option.bind (jld 1970 (m_s μ) (131 : Int32)) fun v6 =>
(if v6 = 0 then
some (1 : Int32)
else
some (0 : Int32)))
else
some (0 : Int32)))
else
(if v1 = (8 : Int32) then
(Option.bind (f_X5_walls μ) fun r7 =>
(if r7 = 0 then
(Option.bind (jld 1970 (m_s μ) (131 : Int32)) fun v8 =>
(if v8 = 0 then
some (1 : Int32)
else
some (0 : Int32)))
else
some (0 : Int32)))
else
some (0 : Int32))))
else
some (0 : Int32))))

def f_X5_pushes (μ : MS) (a1 : Int32) (a2 : Int32) (a3 : Int32) (a4 : Int32) (a5 : Int32) : Option ((Nat → Int32)) :=
(Option.bind (jst 100 (m_square μ) ((5 : Int32) * a1) a2) fun f1 =>
(Option.bind (jst 100 f1 (((5 : Int32) * a1) + (1 : Int32)) a3) fun f2 =>
(Option.bind (jst 100 f2 (((5 : Int32) * a1) + (2 : Int32)) a4) fun f3 =>
(Option.bind (jst 100 f3 (((5 : Int32) * a1) + (3 : Int32)) (a5 - a5 / (8 : Int32) * (8 : Int32))) fun f4 =>
(Option.bind (jst 100 f4 (((5 : Int32) * a1) + (4 : Int32)) (a5 / (8 : Int32))) fun f5 =>
some f5)))))

def f_X5_quarter (μ : MS) (a1 : Int32) : Option (Int32) :=
(Option.bind (jld 100 (m_square μ) (a1 + (2 : Int32))) fun v1 =>
(jlet (v1 / (2 : Int32)) fun x2 =>
(Option.bind (jld 100 (m_square μ) (a1 + (3 : Int32))) fun v3 =>
(Option.bind (jld 100 (m_square μ) a1) fun v4 =>
(Option.bind (if v3 < (v4 + x2) then
some (0 : Int32)
else
some (1 : Int32)) fun o5 =>
(Option.bind (jld 100 (m_square μ) (a1 + (4 : Int32))) fun v6 =>
(Option.bind (jld 100 (m_square μ) (a1 + (1 : Int32))) fun v7 =>
(Option.bind (if v6 < (v7 + x2) then
some (0 : Int32)
else
some (1 : Int32)) fun o8 =>
(if o8 = 0 then
(if o5 = 0 then
some (0 : Int32)
else
some (1 : Int32))
else
(if o5 = 0 then
some (3 : Int32)
else
some (2 : Int32)))))))))))

def f_X5_halve_L39_b (μ : MS) (r2 : Int32 × (Int32)) (r3 : (Nat → Int32) × (Int32)) (rec39 : (Int32) → (Nat → Int32) → (Nat → Int32) → Option ((Nat → Int32) × (Nat → Int32))) (y1_39 : Int32) (s_39 : Nat → Int32) (square_39 : Nat → Int32) : Option ((Nat → Int32) × (Nat → Int32)) :=
(if y1_39 ≤ 0 then
some (s_39, square_39)
else
(jlet (y1_39 + (-1)) fun x76 =>
(jlet ((5 : Int32) * x76) fun x77 =>
(Option.bind (jld 100 square_39 x77) fun v78 =>
(Option.bind (jld 100 square_39 (x77 + (1 : Int32))) fun v79 =>
(Option.bind (jld 100 square_39 (x77 + (2 : Int32))) fun v80 =>
(jlet (v80 / (2 : Int32)) fun x81 =>
(Option.bind (jld 100 square_39 (x77 + (4 : Int32))) fun v82 =>
(Option.bind (jld 100 square_39 (x77 + (3 : Int32))) fun v83 =>
(jlet (((8 : Int32) * v82) + v83) fun x84 =>
(Option.bind (f_X5_quarter (m_square' (m_thrown' (m_states' (m_s' μ s_39) r3.2) r2.2) square_39) x77) fun r85 =>
(Option.bind (f_X5_lays (m_square' (m_thrown' (m_states' (m_s' μ s_39) r3.2) r2.2) square_39) (0 : Int32) ((v78 + x81) - (1 : Int32)) ((v79 + x81) - (1 : Int32)) r85) fun r86 =>
(Option.bind (if x81 ≤ (1 : Int32) then
some (x76, square_39)
else
(jlet ((8 : Int32) * (v79 + x81)) fun x99 =>
(jlet ((8 : Int32) * ((v79 + x81) - (1 : Int32))) fun x100 =>
(Option.bind (if r85 = (2 : Int32) then
some x84
else
some ((x99 + v78) + x81)) fun o101 =>
(Option.bind (f_X5_pushes (m_square' (m_thrown' (m_states' (m_s' μ r86) r3.2) r2.2) square_39) x76 (v78 + x81) (v79 + x81) x81 o101) fun r102 =>
(Option.bind (if r85 = (3 : Int32) then
some x84
else
some (((x99 + v78) + x81) - (1 : Int32))) fun o103 =>
(Option.bind (f_X5_pushes (m_square' (m_thrown' (m_states' (m_s' μ r86) r3.2) r2.2) r102) (x76 + (1 : Int32)) v78 (v79 + x81) x81 o103) fun r104 =>
(Option.bind (if r85 = (1 : Int32) then
some x84
else
some ((x100 + v78) + x81)) fun o105 =>
(Option.bind (f_X5_pushes (m_square' (m_thrown' (m_states' (m_s' μ r86) r3.2) r2.2) r104) (x76 + (2 : Int32)) (v78 + x81) v79 x81 o105) fun r106 =>
(Option.bind (if r85 = 0 then
some x84
else
some (((x100 + v78) + x81) - (1 : Int32))) fun o107 =>
(Option.bind (f_X5_pushes (m_square' (m_thrown' (m_states' (m_s' μ r86) r3.2) r2.2) r106) (x76 + (3 : Int32)) v78 v79 x81 o107) fun r108 =>
(jlet (x76 + (4)) fun x109 =>
some (x109, r108))))))))))))) fun o98 =>
rec39 o98.1 r86 o98.2)))))))))))))
def f_X5_halve_L39 (μ : MS) (r2 : Int32 × (Int32)) (r3 : (Nat → Int32) × (Int32)) : Nat → (Int32) → (Nat → Int32) → (Nat → Int32) → Option ((Nat → Int32) × (Nat → Int32))
  | 0, _, _, _ => none
  | n + 1, y1_39, s_39, square_39 => f_X5_halve_L39_b μ r2 r3 (f_X5_halve_L39 μ r2 r3 n) y1_39 s_39 square_39
def f_X5_halve (μ : MS) : Option (Int32 × (Nat → Int32) × (Int32) × (Int32) × (Nat → Int32)) :=
(Option.bind (f_X5_areSquares μ) fun r1 =>
(Option.bind (f_X5_goes μ r1 (1 : Int32)) fun r2 =>
(if r2.1 = 0 then
some ((0 : Int32), (m_s μ), (m_states μ), r2.2, (m_square μ))
else
(Option.bind (f_X5_saves (m_thrown' μ r2.2)) fun r3 =>
(Option.bind (jld 1970 r3.1 (0 : Int32)) fun v4 =>
(Option.bind (jld 1970 r3.1 (2 : Int32)) fun v5 =>
(Option.bind (f_X5_pushes (m_thrown' (m_states' (m_s' μ r3.1) r3.2) r2.2) (0 : Int32) (0 : Int32) (0 : Int32) v4 v5) fun r6 =>
(Option.bind (f_X5_halve_L39 μ r2 r3 4096 (1 : Int32) r3.1 r6) fun o75 =>
(Option.bind (jld 1970 o75.1 (131 : Int32)) fun v110 =>
some (v110, o75.1, r3.2, r2.2, o75.2))))))))))

def f_X5_append (μ : MS) (a1 : Int32) : Option (Int32 × (Int32) × (Nat → Int32) × (Int32)) :=
(Option.bind (f_X5_in a1 (33 : Int32) (126 : Int32)) fun r1 =>
(Option.bind (if (71 : Int32) ≤ (m_typed μ) then
some (0 : Int32)
else
some (1 : Int32)) fun o2 =>
(Option.bind (f_X5_goes μ r1 o2) fun r3 =>
(if r3.1 = 0 then
some ((0 : Int32), r3.2, (m_text μ), (m_typed μ))
else
(Option.bind (jst 71 (m_text μ) (m_typed μ) (vp_nar .char ((a1.toUInt32 % 65536).toInt32))) fun f4 =>
(jlet ((m_typed μ) + (1 : Int32)) fun x5 =>
some (x5, r3.2, f4, x5)))))))

def f_X5_clearBuffer (μ : MS) : Option (Int32 × (Int32) × (Int32)) :=
(jlet (m_typed μ) fun x1 =>
some (x1, (0 : Int32), (0 : Int32)))

def f_X5_error_L14_b (μ : MS) (rec14 : (Int32) → (Int32) → (Int32) → (Int32) → (Int32) → Option ((Int32 × Int32 × Int32 × (Int32)) ⊕ (Int32 × (Int32)))) (y1_14 : Int32) (y2_14 : Int32) (y3_14 : Int32) (y4_14 : Int32) (told_14 : Int32) : Option ((Int32 × Int32 × Int32 × (Int32)) ⊕ (Int32 × (Int32))) :=
(if (m_typed μ) ≤ y4_14 then
some (.inl (y1_14, y2_14, y3_14, told_14))
else
(Option.bind (jld 71 (m_text μ) y4_14) fun v24 =>
(Option.bind (if told_14 = (8 : Int32) then
(if y2_14 = (y1_14 - (1 : Int32)) then
some (1 : Int32)
else
some (0 : Int32))
else
some (0 : Int32)) fun o25 =>
(Option.bind (if told_14 = (1 : Int32) then
(if y2_14 < (2 : Int32) then
some (0 : Int32)
else
some (1 : Int32))
else
(if y2_14 = y1_14 then
some (1 : Int32)
else
some (0 : Int32))) fun o26 =>
(if v24 = (47 : Int32) then
(if o26 = 0 then
some (.inr (y4_14, told_14))
else
(if told_14 = (8 : Int32) then
some (.inr (y4_14, told_14))
else
(jlet (told_14 + (1 : Int32)) fun x33 =>
(jlet (y4_14 + (1)) fun x34 =>
rec14 y2_14 (0 : Int32) y3_14 x34 x33))))
else
(Option.bind (if told_14 = (1 : Int32) then
(if (8 : Int32) ≤ y2_14 then
some (0 : Int32)
else
some (1 : Int32))
else
(if y1_14 ≤ y2_14 then
some (0 : Int32)
else
some (1 : Int32))) fun o27 =>
(Option.bind (if v24 = (111 : Int32) then
(if y3_14 = 0 then
some (1 : Int32)
else
some (0 : Int32))
else
(if v24 = (46 : Int32) then
(if o25 = 0 then
some (1 : Int32)
else
(if y3_14 = (1 : Int32) then
some (1 : Int32)
else
some (0 : Int32)))
else
(if v24 = (35 : Int32) then
(if o25 = 0 then
some (1 : Int32)
else
(if y3_14 = (1 : Int32) then
some (1 : Int32)
else
some (0 : Int32)))
else
some (0 : Int32)))) fun o28 =>
(if o27 = 0 then
some (.inr (y4_14, told_14))
else
(if o28 = 0 then
some (.inr (y4_14, told_14))
else
(Option.bind (if v24 = (111 : Int32) then
some (1 : Int32)
else
some (0 : Int32)) fun o29 =>
(jlet (y3_14 + o29) fun x30 =>
(jlet (y2_14 + (1)) fun x31 =>
(jlet (y4_14 + (1)) fun x32 =>
rec14 y1_14 x31 x30 x32 told_14)))))))))))))
def f_X5_error_L14 (μ : MS) : Nat → (Int32) → (Int32) → (Int32) → (Int32) → (Int32) → Option ((Int32 × Int32 × Int32 × (Int32)) ⊕ (Int32 × (Int32)))
  | 0, _, _, _, _, _ => none
  | n + 1, y1_14, y2_14, y3_14, y4_14, told_14 => f_X5_error_L14_b μ (f_X5_error_L14 μ n) y1_14 y2_14 y3_14 y4_14 told_14
def f_X5_error (μ : MS) : Option (Int32 × (Int32)) :=
(Option.bind (f_X5_error_L14 μ 4096 (0 : Int32) (0 : Int32) (0 : Int32) (0 : Int32) (1 : Int32)) fun o23 => Sum.elim (fun o23l =>
(if o23l.2.2.2 ≤ (1 : Int32) then
some ((m_typed μ), o23l.2.2.2)
else
(if o23l.2.1 = o23l.1 then
(if o23l.2.2.1 = (1 : Int32) then
some ((-1 : Int32), o23l.2.2.2)
else
some ((m_typed μ), o23l.2.2.2))
else
some ((m_typed μ), o23l.2.2.2)))) (fun r9 => some r9) o23)

def f_X5_firstError (μ : MS) : Option (Int32 × (Int32) × (Int32)) :=
(Option.bind (f_X5_error (m_thrown' μ (0 : Int32))) fun r1 =>
(if 0 ≤ r1.1 then
some (r1.1, (0 : Int32), r1.2)
else
some ((m_typed μ), (0 : Int32), r1.2)))

def f_X5_free_L4_b (μ : MS) (rec4 : (Int32) → (Int32) → Option (Int32)) (y1_4 : Int32) (y2_4 : Int32) : Option (Int32) :=
(if (64 : Int32) ≤ y2_4 then
some y1_4
else
(Option.bind (f_X5_isIn μ (y2_4 - y2_4 / (8 : Int32) * (8 : Int32)) (y2_4 / (8 : Int32))) fun r14 =>
(Option.bind (if r14 = 0 then
some (0 : Int32)
else
(Option.bind (f_X5_isFree μ (0 : Int32) y2_4) fun r17 =>
(if r17 = 0 then
some (0 : Int32)
else
some (1 : Int32)))) fun o16 =>
(jlet (y1_4 + o16) fun x18 =>
(jlet (y2_4 + (1)) fun x19 =>
rec4 x18 x19)))))
def f_X5_free_L4 (μ : MS) : Nat → (Int32) → (Int32) → Option (Int32)
  | 0, _, _ => none
  | n + 1, y1_4, y2_4 => f_X5_free_L4_b μ (f_X5_free_L4 μ n) y1_4 y2_4
def f_X5_free (μ : MS) : Option (Int32) :=
(Option.bind (f_X5_free_L4 μ 4096 (0 : Int32) (0 : Int32)) fun o13 =>
some o13)

def f_X5_load_L53_b (μ : MS) (v7 : Int32) (rec53 : (Int32) → (Nat → Int32) → Option ((Nat → Int32))) (y2_53 : Int32) (s_53 : Nat → Int32) : Option ((Nat → Int32)) :=
(if (m_typed μ) ≤ y2_53 then
some s_53
else
(if (v7 + (1 : Int32)) = 0 then none else
(if (v7 + (1 : Int32)) = 0 then none else
(jlet (((8 : Int32) * (y2_53 / (v7 + (1 : Int32)))) + (y2_53 - y2_53 / (v7 + (1 : Int32)) * (v7 + (1 : Int32)))) fun x35 =>
(Option.bind (jld 71 (m_text μ) y2_53) fun v36 =>
(Option.bind (if v36 = (35 : Int32) then
(Option.bind (jst 1970 s_53 ((3 : Int32) + x35) (1 : Int32)) fun f43 =>
some f43)
else
(Option.bind (jld 71 (m_text μ) y2_53) fun v41 =>
(if v41 = (111 : Int32) then
(Option.bind (jst 1970 s_53 (2 : Int32) x35) fun f42 =>
some f42)
else
some s_53))) fun o40 =>
(jlet (y2_53 + (1)) fun x44 =>
rec53 x44 o40)))))))
def f_X5_load_L53 (μ : MS) (v7 : Int32) : Nat → (Int32) → (Nat → Int32) → Option ((Nat → Int32))
  | 0, _, _ => none
  | n + 1, y2_53, s_53 => f_X5_load_L53_b μ v7 (f_X5_load_L53 μ v7 n) y2_53 s_53
def f_X5_load (μ : MS) : Option (Int32 × (Nat → Int32) × (Int32) × (Int32) × (Int32) × (Int32)) :=
(Option.bind (f_X5_error μ) fun r1 =>
(Option.bind (if 0 ≤ r1.1 then
some (0 : Int32)
else
some (1 : Int32)) fun o2 =>
(Option.bind (f_X5_goes (m_told' μ r1.2) o2 (1 : Int32)) fun r3 =>
(if r3.1 = 0 then
some ((0 : Int32), (m_s μ), (m_states μ), r3.2, (m_typed μ), r1.2)
else
(Option.bind (f_X5_saves (m_told' (m_thrown' μ r3.2) r1.2)) fun r4 =>
(if r1.2 = 0 then none else
(Option.bind (f_X5_laysOut (m_told' (m_thrown' (m_states' (m_s' μ r4.1) r4.2) r3.2) r1.2) (0 : Int32) ((m_typed μ) / r1.2) r1.2) fun r6 =>
(Option.bind (jld 1970 r6 (0 : Int32)) fun v7 =>
(Option.bind (f_X5_load_L53 μ v7 4096 (0 : Int32) r6) fun o32 =>
(Option.bind (f_X5_free (m_told' (m_typed' (m_thrown' (m_states' (m_s' μ o32) r4.2) r3.2) (0 : Int32)) r1.2)) fun r45 =>
some (r45, o32, r4.2, r3.2, (0 : Int32), r1.2)))))))))))

def f_X5_keep (μ : MS) (a1 : Int32) : Option (Int32 × (Nat → Int32) × (Nat → Int32) × (Int32)) :=
(Option.bind (f_X5_in a1 (0 : Int32) (1 : Int32)) fun r1 =>
(Option.bind (f_X5_goes μ r1 (1 : Int32)) fun r2 =>
(if r2.1 = 0 then
some ((0 : Int32), (m_s μ), (m_kept μ), r2.2)
else
(Option.bind (f_X5_copies (m_thrown' μ r2.2) (0 : Int32) ((7 : Int32) + a1)) fun r3 =>
(Option.bind (jst 2 (m_kept μ) a1 (vp_nar .boolean (1 : Int32))) fun f4 =>
(Option.bind (jld 1970 r3 (131 : Int32)) fun v5 =>
some (v5, r3, f4, r2.2)))))))

def f_X5_goBack (μ : MS) (a1 : Int32) : Option (Int32 × (Nat → Int32) × (Int32) × (Int32)) :=
(Option.bind (f_X5_in a1 (0 : Int32) (1 : Int32)) fun r1 =>
(Option.bind (f_X5_in a1 (0 : Int32) (1 : Int32)) fun r2 =>
(Option.bind (if r2 = 0 then
some (0 : Int32)
else
(Option.bind (jld 2 (m_kept μ) a1) fun v5 =>
(if v5 = 0 then
some (0 : Int32)
else
some (1 : Int32)))) fun o4 =>
(Option.bind (f_X5_goes μ r1 o4) fun r6 =>
(if r6.1 = 0 then
some ((0 : Int32), (m_s μ), (m_states μ), r6.2)
else
(Option.bind (f_X5_saves (m_thrown' μ r6.2)) fun r7 =>
(Option.bind (f_X5_copies (m_thrown' (m_states' (m_s' μ r7.1) r7.2) r6.2) ((7 : Int32) + a1) (0 : Int32)) fun r8 =>
(Option.bind (jld 1970 r8 (131 : Int32)) fun v9 =>
some (v9, r8, r7.2, r6.2)))))))))

def f_X5_undo (μ : MS) : Option (Int32 × (Nat → Int32) × (Int32) × (Int32)) :=
(Option.bind (if (m_states μ) ≤ 0 then
some (0 : Int32)
else
some (1 : Int32)) fun o1 =>
(Option.bind (f_X5_goes μ o1 (1 : Int32)) fun r2 =>
(if r2.1 = 0 then
some ((0 : Int32), (m_s μ), (m_states μ), r2.2)
else
(Option.bind (f_X5_copies (m_thrown' μ r2.2) (m_states μ) (0 : Int32)) fun r3 =>
(jlet ((m_states μ) - (1 : Int32)) fun x4 =>
some (x4, r3, x4, r2.2))))))

def f_X5_isOfTriple_L6_b (a1 : Int32) (a2 : Int32) (a3 : Int32) (a4 : Int32) (rec6 : (Int32) → (Int32) → Option (Int32)) (y4_6 : Int32) (y5_6 : Int32) : Option (Int32) :=
(if (4 : Int32) ≤ y5_6 then
some y4_6
else
(Option.bind (if y4_6 = 0 then
(if y5_6 = a3 then
some (0 : Int32)
else
(Option.bind (f_X5_ofBlock a1 a2 y5_6) fun r12 =>
(if r12 = a4 then
some (1 : Int32)
else
some (0 : Int32))))
else
some (1 : Int32)) fun o11 =>
(jlet (y5_6 + (1)) fun x13 =>
rec6 o11 x13)))
def f_X5_isOfTriple_L6 (a1 : Int32) (a2 : Int32) (a3 : Int32) (a4 : Int32) : Nat → (Int32) → (Int32) → Option (Int32)
  | 0, _, _ => none
  | n + 1, y4_6, y5_6 => f_X5_isOfTriple_L6_b a1 a2 a3 a4 (f_X5_isOfTriple_L6 a1 a2 a3 a4 n) y4_6 y5_6
def f_X5_isOfTriple (a1 : Int32) (a2 : Int32) (a3 : Int32) (a4 : Int32) : Option (Int32) :=
(Option.bind (f_X5_isOfTriple_L6 a1 a2 a3 a4 4096 (0 : Int32) (0 : Int32)) fun o9 =>
(Option.bind (jz o9) fun z14 =>
some z14))

def f_X5_could_L40_b (a1 : Int32) (μ : MS) (y6_24 : Int32) (y5_8 : Int32) (rec40 : (Int32) → (Int32) → (Int32) → Option (Int32 × Int32)) (y3_40 : Int32) (y4_40 : Int32) (y7_40 : Int32) : Option (Int32 × Int32) :=
(if (4 : Int32) ≤ y7_40 then
some (y3_40, y4_40)
else
(Option.bind (f_X5_wrong μ (0 : Int32) y6_24 y5_8 y7_40) fun r374 =>
(Option.bind (if r374 = 0 then
(if a1 < 0 then
(jlet (y3_40 + (1)) fun x381 =>
(jlet ((y6_24 + ((10 : Int32) * y5_8)) + ((100 : Int32) * y7_40)) fun x382 =>
some (x381, x382)))
else
(Option.bind (f_X5_isOfTriple y6_24 y5_8 y7_40 a1) fun r383 =>
(if r383 = 0 then
some (y3_40, y4_40)
else
(jlet (y3_40 + (1)) fun x384 =>
(jlet ((y6_24 + ((10 : Int32) * y5_8)) + ((100 : Int32) * y7_40)) fun x385 =>
some (x384, x385))))))
else
some (y3_40, y4_40)) fun o380 =>
(jlet (y7_40 + (1)) fun x386 =>
rec40 o380.1 o380.2 x386))))
def f_X5_could_L40 (a1 : Int32) (μ : MS) (y6_24 : Int32) (y5_8 : Int32) : Nat → (Int32) → (Int32) → (Int32) → Option (Int32 × Int32)
  | 0, _, _, _ => none
  | n + 1, y3_40, y4_40, y7_40 => f_X5_could_L40_b a1 μ y6_24 y5_8 (f_X5_could_L40 a1 μ y6_24 y5_8 n) y3_40 y4_40 y7_40
def f_X5_could_L24_b (a1 : Int32) (μ : MS) (y5_8 : Int32) (rec24 : (Int32) → (Int32) → (Int32) → Option (Int32 × Int32)) (y3_24 : Int32) (y4_24 : Int32) (y6_24 : Int32) : Option (Int32 × Int32) :=
(Option.bind (jld 1970 (m_s μ) (0 : Int32)) fun v346 =>
(if (v346 - (1 : Int32)) ≤ y6_24 then
some (y3_24, y4_24)
else
(Option.bind (f_X5_could_L40 a1 μ y6_24 y5_8 4096 y3_24 y4_24 (0 : Int32)) fun o373 =>
(jlet (y6_24 + (1)) fun x387 =>
rec24 o373.1 o373.2 x387))))
def f_X5_could_L24 (a1 : Int32) (μ : MS) (y5_8 : Int32) : Nat → (Int32) → (Int32) → (Int32) → Option (Int32 × Int32)
  | 0, _, _, _ => none
  | n + 1, y3_24, y4_24, y6_24 => f_X5_could_L24_b a1 μ y5_8 (f_X5_could_L24 a1 μ y5_8 n) y3_24 y4_24 y6_24
def f_X5_could_L8_b (a1 : Int32) (μ : MS) (rec8 : (Int32) → (Int32) → (Int32) → Option (Int32 × Int32)) (y3_8 : Int32) (y4_8 : Int32) (y5_8 : Int32) : Option (Int32 × Int32) :=
(Option.bind (jld 1970 (m_s μ) (1 : Int32)) fun v260 =>
(if (v260 - (1 : Int32)) ≤ y5_8 then
some (y3_8, y4_8)
else
(Option.bind (f_X5_could_L24 a1 μ y5_8 4096 y3_8 y4_8 (0 : Int32)) fun o345 =>
(jlet (y5_8 + (1)) fun x388 =>
rec8 o345.1 o345.2 x388))))
def f_X5_could_L8 (a1 : Int32) (μ : MS) : Nat → (Int32) → (Int32) → (Int32) → Option (Int32 × Int32)
  | 0, _, _, _ => none
  | n + 1, y3_8, y4_8, y5_8 => f_X5_could_L8_b a1 μ (f_X5_could_L8 a1 μ n) y3_8 y4_8 y5_8
def f_X5_could (μ : MS) (a1 : Int32) (a2 : Int32) : Option (Int32) :=
(Option.bind (f_X5_could_L8 a1 μ 4096 (0 : Int32) (-1 : Int32) (0 : Int32)) fun o259 =>
(if a2 = 0 then
some o259.1
else
some o259.2))

def f_X5_cells (μ : MS) (a1 : Int32) (a2 : Int32) : Option (Int32) :=
(if a2 = 0 then
(Option.bind (jld 1970 (m_s μ) (2 : Int32)) fun v3 =>
(if a1 = v3 then
some (1 : Int32)
else
(Option.bind (jld 1970 (m_s μ) ((3 : Int32) + a1)) fun v4 =>
(if v4 = (1 : Int32) then
some (2 : Int32)
else
(Option.bind (jld 1970 (m_s μ) ((67 : Int32) + a1)) fun v5 =>
(if v5 < 0 then
some (0 : Int32)
else
some (3 : Int32)))))))
else
(if a2 = (1 : Int32) then
(Option.bind (jld 1970 (m_s μ) ((67 : Int32) + a1)) fun v2 =>
some v2)
else
(Option.bind (f_X5_could μ a1 (0 : Int32)) fun r1 =>
some r1)))

def f_X5_cell (μ : MS) (a1 : Int32) (a2 : Int32) (a3 : Int32) : Option (Int32 × (Int32)) :=
(Option.bind (f_X5_isIn μ a1 a2) fun r1 =>
(Option.bind (f_X5_in a3 (0 : Int32) (2 : Int32)) fun r2 =>
(Option.bind (f_X5_goes μ r1 r2) fun r3 =>
(if r3.1 = 0 then
some ((0 : Int32), r3.2)
else
(Option.bind (f_X5_cells (m_thrown' μ r3.2) (((8 : Int32) * a2) + a1) a3) fun r4 =>
some (r4, r3.2))))))

def f_X5_triple (μ : MS) (a1 : Int32) (a2 : Int32) : Option (Int32 × (Int32)) :=
(Option.bind (jld 1970 (m_s μ) (131 : Int32)) fun v1 =>
(Option.bind (f_X5_in a1 (0 : Int32) (v1 - (1 : Int32))) fun r2 =>
(Option.bind (f_X5_in a2 (0 : Int32) (2 : Int32)) fun r3 =>
(Option.bind (f_X5_goes μ r2 r3) fun r4 =>
(if r4.1 = 0 then
some ((0 : Int32), r4.2)
else
(Option.bind (jld 1970 (m_s μ) (((132 : Int32) + ((3 : Int32) * a1)) + a2)) fun v5 =>
some (v5, r4.2)))))))

def f_X5_mask_L18_b (a1 : Int32) (μ : MS) (o1 : Int32) (rec18 : (Int32) → (Int32) → Option (Int32)) (y3_18 : Int32) (y5_18 : Int32) : Option (Int32) :=
(Option.bind (jld 1970 (m_s μ) (0 : Int32)) fun v13 =>
(if v13 ≤ y5_18 then
some y3_18
else
(Option.bind (f_X5_cells μ (((8 : Int32) * a1) + y5_18) (0 : Int32)) fun r14 =>
(Option.bind (if r14 = o1 then
some ((1 : Int32) <<< (y5_18 &&& 31))
else
some (0 : Int32)) fun o15 =>
(jlet (y3_18 ||| o15) fun x16 =>
(jlet (y5_18 + (1)) fun x17 =>
rec18 x16 x17))))))
def f_X5_mask_L18 (a1 : Int32) (μ : MS) (o1 : Int32) : Nat → (Int32) → (Int32) → Option (Int32)
  | 0, _, _ => none
  | n + 1, y3_18, y5_18 => f_X5_mask_L18_b a1 μ o1 (f_X5_mask_L18 a1 μ o1 n) y3_18 y5_18
def f_X5_mask (μ : MS) (a1 : Int32) (a2 : Int32) : Option (Int32) :=
(Option.bind (if a2 = 0 then
some (0 : Int32)
else
some (a2 + (1 : Int32))) fun o1 =>
(Option.bind (f_X5_mask_L18 a1 μ o1 4096 (0 : Int32) (0 : Int32)) fun o12 =>
some o12))

def f_X5_row (μ : MS) (a1 : Int32) (a2 : Int32) : Option (Int32 × (Int32)) :=
(Option.bind (jld 1970 (m_s μ) (1 : Int32)) fun v1 =>
(Option.bind (f_X5_in a1 (0 : Int32) (v1 - (1 : Int32))) fun r2 =>
(Option.bind (f_X5_in a2 (0 : Int32) (2 : Int32)) fun r3 =>
(Option.bind (f_X5_goes μ r2 r3) fun r4 =>
(if r4.1 = 0 then
some ((0 : Int32), r4.2)
else
(Option.bind (f_X5_mask (m_thrown' μ r4.2) a1 a2) fun r5 =>
some (r5, r4.2)))))))

def f_X5_flippable_L16_b (μ : MS) (y2_4 : Int32) (rec16 : (Int32) → (Int32) → Option (Int32)) (y1_16 : Int32) (y3_16 : Int32) : Option (Int32) :=
(Option.bind (jld 1970 (m_s μ) (0 : Int32)) fun v106 =>
(if v106 ≤ y3_16 then
some y1_16
else
(Option.bind (f_X5_isBlock μ y3_16 y2_4 (1 : Int32)) fun r107 =>
(Option.bind (if r107 = 0 then
some (0 : Int32)
else
(Option.bind (f_X5_turnOf μ y3_16 y2_4 (1 : Int32)) fun r110 =>
(if r110 < 0 then
some (0 : Int32)
else
some (1 : Int32)))) fun o109 =>
(jlet (y1_16 + o109) fun x111 =>
(Option.bind (f_X5_isBlock μ y3_16 y2_4 (0 : Int32)) fun r112 =>
(Option.bind (if r112 = 0 then
some (0 : Int32)
else
(Option.bind (f_X5_turnOf μ y3_16 y2_4 (0 : Int32)) fun r115 =>
(if r115 < 0 then
some (0 : Int32)
else
some (1 : Int32)))) fun o114 =>
(jlet (x111 + o114) fun x116 =>
(jlet (y3_16 + (1)) fun x117 =>
rec16 x116 x117)))))))))
def f_X5_flippable_L16 (μ : MS) (y2_4 : Int32) : Nat → (Int32) → (Int32) → Option (Int32)
  | 0, _, _ => none
  | n + 1, y1_16, y3_16 => f_X5_flippable_L16_b μ y2_4 (f_X5_flippable_L16 μ y2_4 n) y1_16 y3_16
def f_X5_flippable_L4_b (μ : MS) (rec4 : (Int32) → (Int32) → Option (Int32)) (y1_4 : Int32) (y2_4 : Int32) : Option (Int32) :=
(Option.bind (jld 1970 (m_s μ) (1 : Int32)) fun v80 =>
(if v80 ≤ y2_4 then
some y1_4
else
(Option.bind (f_X5_flippable_L16 μ y2_4 4096 y1_4 (0 : Int32)) fun o105 =>
(jlet (y2_4 + (1)) fun x118 =>
rec4 o105 x118))))
def f_X5_flippable_L4 (μ : MS) : Nat → (Int32) → (Int32) → Option (Int32)
  | 0, _, _ => none
  | n + 1, y1_4, y2_4 => f_X5_flippable_L4_b μ (f_X5_flippable_L4 μ n) y1_4 y2_4
def f_X5_flippable (μ : MS) : Option (Int32) :=
(Option.bind (f_X5_flippable_L4 μ 4096 (0 : Int32) (0 : Int32)) fun o79 =>
some o79)

def f_X5_counted (μ : MS) (a1 : Int32) : Option (Int32) :=
(if a1 = (0 : Int32) then
(Option.bind (jld 1970 (m_s μ) a1) fun v1 =>
some v1)
else
(if a1 = (1 : Int32) then
(Option.bind (jld 1970 (m_s μ) a1) fun v2 =>
some v2)
else
(if a1 = (2 : Int32) then
(Option.bind (jld 1970 (m_s μ) (2 : Int32)) fun v3 =>
some (v3 - v3 / (8 : Int32) * (8 : Int32)))
else
(if a1 = (3 : Int32) then
(Option.bind (jld 1970 (m_s μ) (2 : Int32)) fun v4 =>
some (v4 / (8 : Int32)))
else
(if a1 = (4 : Int32) then
(Option.bind (f_X5_walls μ) fun r5 =>
some r5)
else
(if a1 = (5 : Int32) then
(Option.bind (jld 1970 (m_s μ) (131 : Int32)) fun v6 =>
some v6)
else
(if a1 = (6 : Int32) then
(Option.bind (f_X5_free μ) fun r7 =>
some r7)
else
(if a1 = (7 : Int32) then
(Option.bind (f_X5_could μ (-1 : Int32) (0 : Int32)) fun r8 =>
some r8)
else
(if a1 = (8 : Int32) then
(Option.bind (f_X5_flippable μ) fun r9 =>
some r9)
else
(if a1 = (9 : Int32) then
(Option.bind (jld 1970 (m_s μ) (195 : Int32)) fun v10 =>
some v10)
else
(if a1 = (10 : Int32) then
(Option.bind (jld 1970 (m_s μ) (196 : Int32)) fun v11 =>
some v11)
else
some (m_states μ))))))))))))

def f_X5_count (μ : MS) (a1 : Int32) : Option (Int32 × (Int32)) :=
(Option.bind (f_X5_in a1 (0 : Int32) (11 : Int32)) fun r1 =>
(Option.bind (f_X5_goes μ r1 (1 : Int32)) fun r2 =>
(if r2.1 = 0 then
some ((0 : Int32), r2.2)
else
(Option.bind (f_X5_counted (m_thrown' μ r2.2) a1) fun r3 =>
some (r3, r2.2)))))

def f_X5_whyNot (μ : MS) (a1 : Int32) (a2 : Int32) (a3 : Int32) : Option (Int32 × (Int32)) :=
(Option.bind (f_X5_in a3 (0 : Int32) (3 : Int32)) fun r1 =>
(Option.bind (f_X5_goes μ r1 (1 : Int32)) fun r2 =>
(if r2.1 = 0 then
some ((0 : Int32), r2.2)
else
(Option.bind (f_X5_wrong (m_thrown' μ r2.2) (0 : Int32) a1 a2 a3) fun r3 =>
some (r3, r2.2)))))

def f_X5_ways (μ : MS) : Option (Int32 × (Int32) × (Nat → Int32) × (Nat → Int32)) :=
(Option.bind (f_X5_paves (m_thrown' μ (0 : Int32)) (0 : Int32)) fun r1 =>
some (r1.1, (0 : Int32), r1.2.1, r1.2.2))

def f_X5_with (μ : MS) (a1 : Int32) (a2 : Int32) (a3 : Int32) : Option (Int32 × (Nat → Int32) × (Nat → Int32) × (Nat → Int32)) :=
(Option.bind (f_X5_wrong μ (0 : Int32) a1 a2 a3) fun r1 =>
(if r1 ≤ 0 then
(Option.bind (f_X5_copies μ (0 : Int32) (9 : Int32)) fun r2 =>
(Option.bind (f_X5_lays (m_s' μ r2) (1773 : Int32) a1 a2 a3) fun r3 =>
(Option.bind (f_X5_paves (m_s' μ r3) (1773 : Int32)) fun r4 =>
some (r4.1, r3, r4.2.1, r4.2.2))))
else
some ((-1 : Int32), (m_s μ), (m_ways μ), (m_next μ))))

def f_X5_waysWith (μ : MS) (a1 : Int32) (a2 : Int32) (a3 : Int32) : Option (Int32 × (Nat → Int32) × (Int32) × (Nat → Int32) × (Nat → Int32)) :=
(Option.bind (f_X5_in a3 (0 : Int32) (3 : Int32)) fun r1 =>
(Option.bind (f_X5_goes μ r1 (1 : Int32)) fun r2 =>
(if r2.1 = 0 then
some ((0 : Int32), (m_s μ), r2.2, (m_ways μ), (m_next μ))
else
(Option.bind (f_X5_with (m_thrown' μ r2.2) a1 a2 a3) fun r3 =>
some (r3.1, r3.2.1, r2.2, r3.2.2.1, r3.2.2.2)))))

def f_X5_firstWith_L14_b (a1 : Int32) (μ : MS) (y2_2 : Int32) (rec14 : (Int32) → Option ((Unit) ⊕ (Int32))) (y3_14 : Int32) : Option ((Unit) ⊕ (Int32)) :=
(Option.bind (jld 1970 (m_s μ) (0 : Int32)) fun v50 =>
(if v50 ≤ y3_14 then
some (.inl ())
else
(Option.bind (f_X5_isFree μ (0 : Int32) (((8 : Int32) * y2_2) + y3_14)) fun r51 =>
(if r51 = 0 then
(jlet (y3_14 + (1)) fun x52 =>
rec14 x52)
else
(Option.bind (f_X5_could μ (((8 : Int32) * y2_2) + y3_14) (0 : Int32)) fun r53 =>
(if r53 = a1 then
some (.inr (((8 : Int32) * y2_2) + y3_14))
else
(jlet (y3_14 + (1)) fun x54 =>
rec14 x54)))))))
def f_X5_firstWith_L14 (a1 : Int32) (μ : MS) (y2_2 : Int32) : Nat → (Int32) → Option ((Unit) ⊕ (Int32))
  | 0, _ => none
  | n + 1, y3_14 => f_X5_firstWith_L14_b a1 μ y2_2 (f_X5_firstWith_L14 a1 μ y2_2 n) y3_14
def f_X5_firstWith_L2_b (a1 : Int32) (μ : MS) (rec2 : (Int32) → Option ((Unit) ⊕ (Int32))) (y2_2 : Int32) : Option ((Unit) ⊕ (Int32)) :=
(Option.bind (jld 1970 (m_s μ) (1 : Int32)) fun v38 =>
(if v38 ≤ y2_2 then
some (.inl ())
else
(Option.bind (f_X5_firstWith_L14 a1 μ y2_2 4096 (0 : Int32)) fun o49 => Sum.elim (fun o49l =>
(jlet (y2_2 + (1)) fun x55 =>
rec2 x55)) (fun r9 => some (.inr r9)) o49)))
def f_X5_firstWith_L2 (a1 : Int32) (μ : MS) : Nat → (Int32) → Option ((Unit) ⊕ (Int32))
  | 0, _ => none
  | n + 1, y2_2 => f_X5_firstWith_L2_b a1 μ (f_X5_firstWith_L2 a1 μ n) y2_2
def f_X5_firstWith (μ : MS) (a1 : Int32) : Option (Int32) :=
(Option.bind (f_X5_firstWith_L2 a1 μ 4096 (0 : Int32)) fun o37 => Sum.elim (fun o37l =>
some (-1 : Int32)) (fun r9 => some r9) o37)

def f_X5_told (a1 : Int32) : Option (Int32) :=
(if 0 ≤ a1 then
some ((a1 - a1 / (8 : Int32) * (8 : Int32)) + ((10 : Int32) * (a1 / (8 : Int32))))
else
some (-1 : Int32))

def f_X5_isForced (μ : MS) (a1 : Int32) : Option (Int32) :=
(Option.bind (f_X5_firstWith μ (1 : Int32)) fun r1 =>
(if 0 ≤ r1 then
(if a1 = 0 then
(Option.bind (f_X5_told r1) fun r3 =>
some r3)
else
(Option.bind (f_X5_could μ r1 (1 : Int32)) fun r2 =>
some r2))
else
some (-1 : Int32)))

def f_X5_forced (μ : MS) (a1 : Int32) : Option (Int32 × (Int32)) :=
(Option.bind (f_X5_in a1 (0 : Int32) (1 : Int32)) fun r1 =>
(Option.bind (f_X5_goes μ r1 (1 : Int32)) fun r2 =>
(if r2.1 = 0 then
some ((0 : Int32), r2.2)
else
(Option.bind (f_X5_isForced (m_thrown' μ r2.2) a1) fun r3 =>
some (r3, r2.2)))))

def f_X5_lonely (μ : MS) : Option (Int32 × (Int32)) :=
(Option.bind (f_X5_firstWith (m_thrown' μ (0 : Int32)) (0 : Int32)) fun r1 =>
(Option.bind (f_X5_told r1) fun r2 =>
some (r2, (0 : Int32))))

def f_X5_bestPond_L24_b (μ : MS) (y3_11 : Int32) (rec24 : (Int32) → (Int32) → (Int32) → (Nat → Int32) → (Nat → Int32) → (Nat → Int32) → Option (Int32 × Int32 × (Nat → Int32) × (Nat → Int32) × (Nat → Int32))) (y1_24 : Int32) (y2_24 : Int32) (y4_24 : Int32) (s_24 : Nat → Int32) (ways_24 : Nat → Int32) (next_24 : Nat → Int32) : Option (Int32 × Int32 × (Nat → Int32) × (Nat → Int32) × (Nat → Int32)) :=
(Option.bind (jld 1970 s_24 (0 : Int32)) fun v226 =>
(if v226 ≤ y4_24 then
some (y1_24, y2_24, s_24, ways_24, next_24)
else
(jlet (((8 : Int32) * y3_11) + y4_24) fun x227 =>
(Option.bind (jld 1970 s_24 (2 : Int32)) fun v228 =>
(Option.bind (if x227 = v228 then
(Option.bind (f_X5_copies (m_next' (m_ways' (m_thrown' (m_s' μ s_24) (0 : Int32)) ways_24) next_24) (0 : Int32) (9 : Int32)) fun r241 =>
(Option.bind (jst 1970 r241 (1775 : Int32) x227) fun f242 =>
(Option.bind (f_X5_paves (m_next' (m_ways' (m_thrown' (m_s' μ f242) (0 : Int32)) ways_24) next_24) (1773 : Int32)) fun r243 =>
(Option.bind (if r243.1 ≤ y2_24 then
some y1_24
else
some x227) fun o244 =>
(Option.bind (if r243.1 ≤ y2_24 then
some y2_24
else
some r243.1) fun o245 =>
some (o244, o245, f242, r243.2.1, r243.2.2))))))
else
(Option.bind (f_X5_isFree (m_next' (m_ways' (m_thrown' (m_s' μ s_24) (0 : Int32)) ways_24) next_24) (0 : Int32) x227) fun r246 =>
(if r246 = 0 then
some (y1_24, y2_24, s_24, ways_24, next_24)
else
(Option.bind (f_X5_copies (m_next' (m_ways' (m_thrown' (m_s' μ s_24) (0 : Int32)) ways_24) next_24) (0 : Int32) (9 : Int32)) fun r247 =>
(Option.bind (jst 1970 r247 (1775 : Int32) x227) fun f248 =>
(Option.bind (f_X5_paves (m_next' (m_ways' (m_thrown' (m_s' μ f248) (0 : Int32)) ways_24) next_24) (1773 : Int32)) fun r249 =>
(Option.bind (if r249.1 ≤ y2_24 then
some y1_24
else
some x227) fun o250 =>
(Option.bind (if r249.1 ≤ y2_24 then
some y2_24
else
some r249.1) fun o251 =>
some (o250, o251, f248, r249.2.1, r249.2.2))))))))) fun o240 =>
(jlet (y4_24 + (1)) fun x252 =>
rec24 o240.1 o240.2.1 x252 o240.2.2.1 o240.2.2.2.1 o240.2.2.2.2))))))
def f_X5_bestPond_L24 (μ : MS) (y3_11 : Int32) : Nat → (Int32) → (Int32) → (Int32) → (Nat → Int32) → (Nat → Int32) → (Nat → Int32) → Option (Int32 × Int32 × (Nat → Int32) × (Nat → Int32) × (Nat → Int32))
  | 0, _, _, _, _, _, _ => none
  | n + 1, y1_24, y2_24, y4_24, s_24, ways_24, next_24 => f_X5_bestPond_L24_b μ y3_11 (f_X5_bestPond_L24 μ y3_11 n) y1_24 y2_24 y4_24 s_24 ways_24 next_24
def f_X5_bestPond_L11_b (μ : MS) (rec11 : (Int32) → (Int32) → (Int32) → (Nat → Int32) → (Nat → Int32) → (Nat → Int32) → Option (Int32 × (Nat → Int32) × (Nat → Int32) × (Nat → Int32))) (y1_11 : Int32) (y2_11 : Int32) (y3_11 : Int32) (s_11 : Nat → Int32) (ways_11 : Nat → Int32) (next_11 : Nat → Int32) : Option (Int32 × (Nat → Int32) × (Nat → Int32) × (Nat → Int32)) :=
(Option.bind (jld 1970 s_11 (1 : Int32)) fun v170 =>
(if v170 ≤ y3_11 then
some (y1_11, s_11, ways_11, next_11)
else
(Option.bind (f_X5_bestPond_L24 μ y3_11 4096 y1_11 y2_11 (0 : Int32) s_11 ways_11 next_11) fun o225 =>
(jlet (y3_11 + (1)) fun x253 =>
rec11 o225.1 o225.2.1 x253 o225.2.2.1 o225.2.2.2.1 o225.2.2.2.2))))
def f_X5_bestPond_L11 (μ : MS) : Nat → (Int32) → (Int32) → (Int32) → (Nat → Int32) → (Nat → Int32) → (Nat → Int32) → Option (Int32 × (Nat → Int32) × (Nat → Int32) × (Nat → Int32))
  | 0, _, _, _, _, _, _ => none
  | n + 1, y1_11, y2_11, y3_11, s_11, ways_11, next_11 => f_X5_bestPond_L11_b μ (f_X5_bestPond_L11 μ n) y1_11 y2_11 y3_11 s_11 ways_11 next_11
def f_X5_bestPond (μ : MS) : Option (Int32 × (Nat → Int32) × (Int32) × (Nat → Int32) × (Nat → Int32)) :=
(Option.bind (f_X5_bestPond_L11 μ 4096 (-1 : Int32) (0 : Int32) (0 : Int32) (m_s μ) (m_ways μ) (m_next μ)) fun o169 =>
(Option.bind (f_X5_told o169.1) fun r254 =>
some (r254, o169.2.1, (0 : Int32), o169.2.2.1, o169.2.2.2)))

def f_X5_share (μ : MS) : Option (UInt64) :=
(Option.bind (jld 1970 (m_s μ) (131 : Int32)) fun v1 =>
(jlet ((3 : Int32) * v1) fun x2 =>
(Option.bind (f_X5_free μ) fun r3 =>
(jlet (x2 + r3) fun x4 =>
(if x4 = 0 then
some FP.dconst1
else
(Option.bind (dfin (FP.ddiv (FP.i2d x2) (FP.i2d x4))) fun d5 =>
some d5))))))

def f_X5_pavedShare (μ : MS) : Option (UInt64 × (Int32)) :=
(Option.bind (f_X5_share (m_thrown' μ (0 : Int32))) fun r1 =>
some (r1, (0 : Int32)))

def f_X5_digest_L11_b (μ : MS) (rec11 : (Int64) → (Int32) → Option (Int64)) (y1_11 : Int64) (y3_11 : Int32) : Option (Int64) :=
(if (12 : Int32) ≤ y3_11 then
some y1_11
else
(Option.bind (f_X5_counted (m_thrown' μ (0 : Int32)) y3_11) fun r8 =>
(jlet (((31 : Int64) * y1_11) + r8.toInt64) fun x9 =>
(jlet (y3_11 + (1)) fun x10 =>
rec11 x9 x10))))
def f_X5_digest_L11 (μ : MS) : Nat → (Int64) → (Int32) → Option (Int64)
  | 0, _, _ => none
  | n + 1, y1_11, y3_11 => f_X5_digest_L11_b μ (f_X5_digest_L11 μ n) y1_11 y3_11
def f_X5_digest_L38_b (μ : MS) (rec38 : (Int64) → (Int32) → Option (Int64)) (y1_38 : Int64) (y3_38 : Int32) : Option (Int64) :=
(Option.bind (jld 1970 (m_s μ) (1 : Int32)) fun v20 =>
(if ((3 : Int32) * v20) ≤ y3_38 then
some y1_38
else
(Option.bind (f_X5_mask (m_thrown' μ (0 : Int32)) (y3_38 / (3 : Int32)) (y3_38 - y3_38 / (3 : Int32) * (3 : Int32))) fun r21 =>
(jlet (((31 : Int64) * y1_38) + r21.toInt64) fun x22 =>
(jlet (y3_38 + (1)) fun x23 =>
rec38 x22 x23)))))
def f_X5_digest_L38 (μ : MS) : Nat → (Int64) → (Int32) → Option (Int64)
  | 0, _, _ => none
  | n + 1, y1_38, y3_38 => f_X5_digest_L38_b μ (f_X5_digest_L38 μ n) y1_38 y3_38
def f_X5_digest_L76_b (μ : MS) (rec76 : (Int64) → (Int32) → Option (Int64)) (y1_76 : Int64) (y3_76 : Int32) : Option (Int64) :=
(Option.bind (jld 1970 (m_s μ) (0 : Int32)) fun v49 =>
(Option.bind (jld 1970 (m_s μ) (1 : Int32)) fun v50 =>
(if (v49 * v50) ≤ y3_76 then
some y1_76
else
(Option.bind (jld 1970 (m_s μ) (0 : Int32)) fun v51 =>
(if v51 = 0 then none else
(Option.bind (jld 1970 (m_s μ) (0 : Int32)) fun v53 =>
(if v53 = 0 then none else
(jlet (((8 : Int32) * (y3_76 / v51)) + (y3_76 - y3_76 / v53 * v53)) fun x55 =>
(Option.bind (f_X5_cells (m_thrown' μ (0 : Int32)) x55 (1 : Int32)) fun r56 =>
(jlet (((31 : Int64) * y1_76) + r56.toInt64) fun x57 =>
(Option.bind (f_X5_cells (m_thrown' μ (0 : Int32)) x55 (2 : Int32)) fun r58 =>
(jlet (((31 : Int64) * x57) + r58.toInt64) fun x59 =>
(jlet (y3_76 + (1)) fun x60 =>
rec76 x59 x60)))))))))))))
def f_X5_digest_L76 (μ : MS) : Nat → (Int64) → (Int32) → Option (Int64)
  | 0, _, _ => none
  | n + 1, y1_76, y3_76 => f_X5_digest_L76_b μ (f_X5_digest_L76 μ n) y1_76 y3_76
def f_X5_digest_L153_b (μ : MS) (rec153 : (Int64) → (Int32) → Option (Int64)) (y1_153 : Int64) (y3_153 : Int32) : Option (Int64) :=
(Option.bind (jld 1970 (m_s μ) (131 : Int32)) fun v70 =>
(if ((3 : Int32) * v70) ≤ y3_153 then
some y1_153
else
(Option.bind (jld 1970 (m_s μ) ((132 : Int32) + y3_153)) fun v71 =>
(jlet (((31 : Int64) * y1_153) + v71.toInt64) fun x72 =>
(jlet (y3_153 + (1)) fun x73 =>
rec153 x72 x73)))))
def f_X5_digest_L153 (μ : MS) : Nat → (Int64) → (Int32) → Option (Int64)
  | 0, _, _ => none
  | n + 1, y1_153, y3_153 => f_X5_digest_L153_b μ (f_X5_digest_L153 μ n) y1_153 y3_153
def f_X5_digest_L206_b (μ : MS) (rec206 : (Int64) → (Int32) → (Nat → Int32) → (Nat → Int32) → (Nat → Int32) → Option (Int64 × (Nat → Int32) × (Nat → Int32) × (Nat → Int32))) (y1_206 : Int64) (y3_206 : Int32) (s_206 : Nat → Int32) (ways_206 : Nat → Int32) (next_206 : Nat → Int32) : Option (Int64 × (Nat → Int32) × (Nat → Int32) × (Nat → Int32)) :=
(if (12 : Int32) ≤ y3_206 then
some (y1_206, s_206, ways_206, next_206)
else
(Option.bind (if (y3_206 / (4 : Int32)) = (1 : Int32) then
some (1 : Int32)
else
some (0 : Int32)) fun o85 =>
(Option.bind (f_X5_with (m_next' (m_ways' (m_thrown' (m_s' μ s_206) (0 : Int32)) ways_206) next_206) (y3_206 / (4 : Int32)) o85 (y3_206 - y3_206 / (4 : Int32) * (4 : Int32))) fun r86 =>
(jlet (((31 : Int64) * y1_206) + r86.1.toInt64) fun x87 =>
(jlet (y3_206 + (1)) fun x88 =>
rec206 x87 x88 r86.2.1 r86.2.2.1 r86.2.2.2)))))
def f_X5_digest_L206 (μ : MS) : Nat → (Int64) → (Int32) → (Nat → Int32) → (Nat → Int32) → (Nat → Int32) → Option (Int64 × (Nat → Int32) × (Nat → Int32) × (Nat → Int32))
  | 0, _, _, _, _, _ => none
  | n + 1, y1_206, y3_206, s_206, ways_206, next_206 => f_X5_digest_L206_b μ (f_X5_digest_L206 μ n) y1_206 y3_206 s_206 ways_206 next_206
def f_X5_digest_L362_b (μ : MS) (rec362 : (Int64) → (Int32) → Option (Int64)) (y1_362 : Int64) (y3_362 : Int32) : Option (Int64) :=
(if (m_typed μ) ≤ y3_362 then
some y1_362
else
(Option.bind (jld 71 (m_text μ) y3_362) fun v113 =>
(jlet (((31 : Int64) * y1_362) + v113.toInt64) fun x114 =>
(jlet (y3_362 + (1)) fun x115 =>
rec362 x114 x115))))
def f_X5_digest_L362 (μ : MS) : Nat → (Int64) → (Int32) → Option (Int64)
  | 0, _, _ => none
  | n + 1, y1_362, y3_362 => f_X5_digest_L362_b μ (f_X5_digest_L362 μ n) y1_362 y3_362
