/-! what the methods of BentGardens do, as functions (by program) -/
def f_X4_clearBuffer (μ : XS) : Option (Int32 × (Int32)) :=
(jlet (x_length μ) fun x1 =>
some (x1, (0 : Int32)))

def f_X4_ways (μ : XS) : Option (Int32 × (Nat → Int32) × (Nat → Nat) × (Nat → Nat) × (Int32) × (Nat → Int32) × (Nat → Int32) × (Int32) × (Nat → Int32) × (Nat → Int32)) :=
(Option.bind (f_X1_freeCells ((x_wide μ), (x_high μ), (x_pond μ), (x_walls μ), (x_paved μ), (x_tc μ), (x_flips μ), (x_refused μ), (x_names μ))) fun r1 =>
(Option.bind (f_X2_waysToPave ((x_rest μ), (x_takes μ), (x_u1 μ), (x_u2 μ), (x_hsz μ), (x_hwin μ), (x_hway μ), (x_nsz μ), (x_nwin μ), (x_nway μ)) r1) fun r2 =>
some (r2.1, r2.2.1, r2.2.2.1, r2.2.2.2.1, r2.2.2.2.2.1, r2.2.2.2.2.2.1, r2.2.2.2.2.2.2.1, r2.2.2.2.2.2.2.2.1, r2.2.2.2.2.2.2.2.2.1, r2.2.2.2.2.2.2.2.2.2)))

def f_X4_lonely (μ : XS) : Option (Int32) :=
(Option.bind (f_X1_firstFreeWith ((x_wide μ), (x_high μ), (x_pond μ), (x_walls μ), (x_paved μ), (x_tc μ), (x_flips μ), (x_refused μ), (x_names μ)) (0 : Int32)) fun r1 =>
(if r1 = (-1 : Int32) then
some (-1 : Int32)
else
(Option.bind (f_X4_cellName r1) fun r2 =>
some r2)))

def f_X4_bestPond (μ : XS) : Option (Int32 × (Nat → Nat → Int32) × (Nat → Int32) × (Nat → Nat) × (Nat → Nat) × (Int32) × (Nat → Int32) × (Nat → Int32) × (Int32) × (Nat → Int32) × (Nat → Int32)) :=
(Option.bind (f_X1_freeCells ((x_wide μ), (x_high μ), (x_pond μ), (x_walls μ), (x_paved μ), (x_tc μ), (x_flips μ), (x_refused μ), (x_names μ))) fun r1 =>
(Option.bind (f_X1_pondCell ((x_wide μ), (x_high μ), (x_pond μ), (x_walls μ), (x_paved μ), (x_tc μ), (x_flips μ), (x_refused μ), (x_names μ))) fun r2 =>
(Option.bind (f_X2_bestGap ((x_rest μ), (x_takes μ), (x_u1 μ), (x_u2 μ), (x_hsz μ), (x_hwin μ), (x_hway μ), (x_nsz μ), (x_nwin μ), (x_nway μ)) (r1 ||| r2)) fun r3 =>
(if r3.1 = (-1 : Int32) then
some ((-1 : Int32), r3.2.1, r3.2.2.1, r3.2.2.2.1, r3.2.2.2.2.1, r3.2.2.2.2.2.1, r3.2.2.2.2.2.2.1, r3.2.2.2.2.2.2.2.1, r3.2.2.2.2.2.2.2.2.1, r3.2.2.2.2.2.2.2.2.2.1, r3.2.2.2.2.2.2.2.2.2.2)
else
(Option.bind (f_X4_cellName r3.1) fun r4 =>
some (r4, r3.2.1, r3.2.2.1, r3.2.2.2.1, r3.2.2.2.2.1, r3.2.2.2.2.2.1, r3.2.2.2.2.2.2.1, r3.2.2.2.2.2.2.2.1, r3.2.2.2.2.2.2.2.2.1, r3.2.2.2.2.2.2.2.2.2.1, r3.2.2.2.2.2.2.2.2.2.2))))))

def f_X4_pavedShare (μ : XS) : Option (UInt64) :=
(Option.bind (f_J13_bitCount_95d88 (x_paved μ)) fun r1 =>
(Option.bind (f_X1_freeCells ((x_wide μ), (x_high μ), (x_pond μ), (x_walls μ), (x_paved μ), (x_tc μ), (x_flips μ), (x_refused μ), (x_names μ))) fun r2 =>
(Option.bind (f_J13_bitCount_95d88 r2) fun r3 =>
(jlet (r1 + r3) fun x4 =>
(if x4 = 0 then
some FP.dconst1
else
(Option.bind (dfin (FP.ddiv (FP.i2d r1) (FP.i2d x4))) fun d5 =>
some d5))))))

def f_Jx4a65c_size_8abf5 (μ : LSS) : Option (Int32) :=
some (ls_lsize μ)

def f_X4_count (μ : XS) (a1 : Int32) : Option ((Int32) ⊕ (String)) :=
(if a1 = (0 : Int32) then
some (.inl (x_wide μ))
else
(if a1 = (1 : Int32) then
some (.inl (x_high μ))
else
(if a1 = (2 : Int32) then
some (.inl ((x_pond μ) - (x_pond μ) / (8 : Int32) * (8 : Int32)))
else
(if a1 = (3 : Int32) then
some (.inl ((x_pond μ) / (8 : Int32)))
else
(if a1 = (4 : Int32) then
(Option.bind (f_J13_bitCount_95d88 (x_walls μ)) fun r1 =>
some (.inl r1))
else
(if a1 = (5 : Int32) then
some (.inl (x_tc μ))
else
(if a1 = (6 : Int32) then
(Option.bind (f_X1_freeCells ((x_wide μ), (x_high μ), (x_pond μ), (x_walls μ), (x_paved μ), (x_tc μ), (x_flips μ), (x_refused μ), (x_names μ))) fun r2 =>
(Option.bind (f_J13_bitCount_95d88 r2) fun r3 =>
some (.inl r3)))
else
(if a1 = (7 : Int32) then
(Option.bind (f_X1_layableTriples ((x_wide μ), (x_high μ), (x_pond μ), (x_walls μ), (x_paved μ), (x_tc μ), (x_flips μ), (x_refused μ), (x_names μ))) fun r4 =>
some (.inl r4))
else
(if a1 = (8 : Int32) then
(Option.bind (f_X1_flippableBlocks ((x_wide μ), (x_high μ), (x_pond μ), (x_walls μ), (x_paved μ), (x_tc μ), (x_flips μ), (x_refused μ), (x_names μ))) fun r5 =>
some (.inl r5))
else
(if a1 = (9 : Int32) then
some (.inl (x_flips μ))
else
(if a1 = (10 : Int32) then
some (.inl (x_refused μ))
else
(if a1 = (11 : Int32) then
(Option.bind (f_Jx4a65c_size_8abf5 ((x_lmod μ), (x_lsize μ))) fun r6 =>
some (.inl r6))
else
some (.inr ("java/lang/IllegalArgumentException"))))))))))))))

def f_X4_requireProperty (a1 : Int32) : Option ((Unit) ⊕ (String)) :=
(if a1 < 0 then
some (.inr ("java/lang/IllegalArgumentException"))
else
(if a1 < (3 : Int32) then
some (.inl ())
else
some (.inr ("java/lang/IllegalArgumentException"))))

def f_X4_row (μ : XS) (a1 : Int32) (a2 : Int32) : Option ((Int32) ⊕ (String)) :=
(if a1 < 0 then
some (.inr ("java/lang/IndexOutOfBoundsException"))
else
(if a1 < (x_high μ) then
(Option.bind (f_X4_requireProperty a2) fun r1o => Sum.elim (fun r1 =>
(if a2 = 0 then
(Option.bind (f_X1_freeCells ((x_wide μ), (x_high μ), (x_pond μ), (x_walls μ), (x_paved μ), (x_tc μ), (x_flips μ), (x_refused μ), (x_names μ))) fun r4 =>
(Option.bind (f_X4_rowMask r4 a1) fun r5 =>
some (.inl r5)))
else
(Option.bind (if a2 = (1 : Int32) then
some (x_walls μ)
else
some (x_paved μ)) fun o2 =>
(Option.bind (f_X4_rowMask o2 a1) fun r3 =>
some (.inl r3))))) (fun Er1 => some (.inr Er1)) r1o)
else
some (.inr ("java/lang/IndexOutOfBoundsException"))))

def f_X4_mixedRows_L20_b (μ : XS) (y5_5 : Int32) (rec20 : (Int64) → (Int32) → Option ((Int64) ⊕ ((Int64) ⊕ (String)))) (y3_20 : Int64) (y6_20 : Int32) : Option ((Int64) ⊕ ((Int64) ⊕ (String))) :=
(if (3 : Int32) ≤ y6_20 then
some (.inl y3_20)
else
(Option.bind (f_X4_row μ y5_5 y6_20) fun r31o => Sum.elim (fun r31 =>
(Option.bind (f_X4_mixed y3_20 r31.toInt64) fun r32 =>
(jlet (y6_20 + (1)) fun x33 =>
rec20 r32 x33))) (fun Er31 => some (.inr (.inr Er31))) r31o))
def f_X4_mixedRows_L20 (μ : XS) (y5_5 : Int32) : Nat → (Int64) → (Int32) → Option ((Int64) ⊕ ((Int64) ⊕ (String)))
  | 0, _, _ => none
  | n + 1, y3_20, y6_20 => f_X4_mixedRows_L20_b μ y5_5 (f_X4_mixedRows_L20 μ y5_5 n) y3_20 y6_20
def f_X4_mixedRows_L5_b (μ : XS) (rec5 : (Int64) → (Int32) → Option ((Int64) ⊕ ((Int64) ⊕ (String)))) (y3_5 : Int64) (y5_5 : Int32) : Option ((Int64) ⊕ ((Int64) ⊕ (String))) :=
(if (x_high μ) ≤ y5_5 then
some (.inl y3_5)
else
(Option.bind (f_X4_mixedRows_L20 μ y5_5 4096 y3_5 (0 : Int32)) fun o30 => Sum.elim (fun o30l =>
(jlet (y5_5 + (1)) fun x34 =>
rec5 o30l x34)) (fun r9 => some (.inr r9)) o30))
def f_X4_mixedRows_L5 (μ : XS) : Nat → (Int64) → (Int32) → Option ((Int64) ⊕ ((Int64) ⊕ (String)))
  | 0, _, _ => none
  | n + 1, y3_5, y5_5 => f_X4_mixedRows_L5_b μ (f_X4_mixedRows_L5 μ n) y3_5 y5_5
def f_X4_mixedRows (μ : XS) (a1 : Int64) : Option ((Int64) ⊕ (String)) :=
(Option.bind (f_X4_mixedRows_L5 μ 4096 a1 (0 : Int32)) fun o23 => Sum.elim (fun o23l =>
some (.inl o23l)) (fun r9 => some r9) o23)

def f_X4_requireCell (μ : XS) (a1 : Int32) (a2 : Int32) : Option ((Unit) ⊕ (String)) :=
(Option.bind (f_X1_hasBlock ((x_wide μ), (x_high μ), (x_pond μ), (x_walls μ), (x_paved μ), (x_tc μ), (x_flips μ), (x_refused μ), (x_names μ)) a1 a2 (1 : Int32) (1 : Int32)) fun r1 =>
(if r1 = 0 then
some (.inr ("java/lang/IndexOutOfBoundsException"))
else
some (.inl ())))

def f_X4_cell (μ : XS) (a1 : Int32) (a2 : Int32) (a3 : Int32) : Option ((Int32) ⊕ (String)) :=
(Option.bind (f_X4_requireCell μ a1 a2) fun r1o => Sum.elim (fun r1 =>
(Option.bind (f_X4_requireProperty a3) fun r2o => Sum.elim (fun r2 =>
(if a3 = 0 then
(Option.bind (f_X4_cellAt a1 a2) fun r7 =>
(Option.bind (f_X1_kindOf ((x_wide μ), (x_high μ), (x_pond μ), (x_walls μ), (x_paved μ), (x_tc μ), (x_flips μ), (x_refused μ), (x_names μ)) r7) fun r8 =>
some (.inl r8)))
else
(if a3 = (1 : Int32) then
(Option.bind (f_X4_cellAt a1 a2) fun r5 =>
(Option.bind (f_X1_tripleOver ((x_wide μ), (x_high μ), (x_pond μ), (x_walls μ), (x_paved μ), (x_tc μ), (x_flips μ), (x_refused μ), (x_names μ)) r5) fun r6 =>
some (.inl r6)))
else
(Option.bind (f_X4_placeOf a1 a2) fun r3 =>
(Option.bind (f_X1_coverCount ((x_wide μ), (x_high μ), (x_pond μ), (x_walls μ), (x_paved μ), (x_tc μ), (x_flips μ), (x_refused μ), (x_names μ)) r3) fun r4 =>
some (.inl r4)))))) (fun Er2 => some (.inr Er2)) r2o)) (fun Er1 => some (.inr Er1)) r1o)

def f_X4_mixedCells_L20_b (μ : XS) (y5_5 : Int32) (rec20 : (Int64) → (Int32) → Option ((Int64) ⊕ ((Int64) ⊕ (String)))) (y3_20 : Int64) (y6_20 : Int32) : Option ((Int64) ⊕ ((Int64) ⊕ (String))) :=
(if (x_wide μ) ≤ y6_20 then
some (.inl y3_20)
else
(Option.bind (f_X4_cell μ y6_20 y5_5 (1 : Int32)) fun r47o => Sum.elim (fun r47 =>
(Option.bind (f_X4_mixed y3_20 r47.toInt64) fun r48 =>
(Option.bind (f_X4_cell μ y6_20 y5_5 (2 : Int32)) fun r49o => Sum.elim (fun r49 =>
(Option.bind (f_X4_mixed r48 r49.toInt64) fun r50 =>
(jlet (y6_20 + (1)) fun x51 =>
rec20 r50 x51))) (fun Er49 => some (.inr (.inr Er49))) r49o))) (fun Er47 => some (.inr (.inr Er47))) r47o))
def f_X4_mixedCells_L20 (μ : XS) (y5_5 : Int32) : Nat → (Int64) → (Int32) → Option ((Int64) ⊕ ((Int64) ⊕ (String)))
  | 0, _, _ => none
  | n + 1, y3_20, y6_20 => f_X4_mixedCells_L20_b μ y5_5 (f_X4_mixedCells_L20 μ y5_5 n) y3_20 y6_20
def f_X4_mixedCells_L5_b (μ : XS) (rec5 : (Int64) → (Int32) → Option ((Int64) ⊕ ((Int64) ⊕ (String)))) (y3_5 : Int64) (y5_5 : Int32) : Option ((Int64) ⊕ ((Int64) ⊕ (String))) :=
(if (x_high μ) ≤ y5_5 then
some (.inl y3_5)
else
(Option.bind (f_X4_mixedCells_L20 μ y5_5 4096 y3_5 (0 : Int32)) fun o46 => Sum.elim (fun o46l =>
(jlet (y5_5 + (1)) fun x52 =>
rec5 o46l x52)) (fun r9 => some (.inr r9)) o46))
def f_X4_mixedCells_L5 (μ : XS) : Nat → (Int64) → (Int32) → Option ((Int64) ⊕ ((Int64) ⊕ (String)))
  | 0, _, _ => none
  | n + 1, y3_5, y5_5 => f_X4_mixedCells_L5_b μ (f_X4_mixedCells_L5 μ n) y3_5 y5_5
def f_X4_mixedCells (μ : XS) (a1 : Int64) : Option ((Int64) ⊕ (String)) :=
(Option.bind (f_X4_mixedCells_L5 μ 4096 a1 (0 : Int32)) fun o35 => Sum.elim (fun o35l =>
some (.inl o35l)) (fun r9 => some r9) o35)

def f_X4_triple (μ : XS) (a1 : Int32) (a2 : Int32) : Option ((Int32) ⊕ (String)) :=
(if a1 < 0 then
some (.inr ("java/lang/IndexOutOfBoundsException"))
else
(if a1 < (x_tc μ) then
(Option.bind (f_X4_requireProperty a2) fun r1o => Sum.elim (fun r1 =>
(Option.bind (f_X1_tripleName ((x_wide μ), (x_high μ), (x_pond μ), (x_walls μ), (x_paved μ), (x_tc μ), (x_flips μ), (x_refused μ), (x_names μ)) a1) fun r2 =>
(if a2 = 0 then
(Option.bind (f_X4_columnOf r2) fun r5 =>
some (.inl r5))
else
(if a2 = (1 : Int32) then
(Option.bind (f_X4_rowOf r2) fun r4 =>
some (.inl r4))
else
(Option.bind (f_X4_turnOf r2) fun r3 =>
some (.inl r3)))))) (fun Er1 => some (.inr Er1)) r1o)
else
some (.inr ("java/lang/IndexOutOfBoundsException"))))

def f_X4_mixedTriples_L20_b (μ : XS) (y5_5 : Int32) (rec20 : (Int64) → (Int32) → Option ((Int64) ⊕ ((Int64) ⊕ (String)))) (y3_20 : Int64) (y6_20 : Int32) : Option ((Int64) ⊕ ((Int64) ⊕ (String))) :=
(if (3 : Int32) ≤ y6_20 then
some (.inl y3_20)
else
(Option.bind (f_X4_triple μ y5_5 y6_20) fun r31o => Sum.elim (fun r31 =>
(Option.bind (f_X4_mixed y3_20 r31.toInt64) fun r32 =>
(jlet (y6_20 + (1)) fun x33 =>
rec20 r32 x33))) (fun Er31 => some (.inr (.inr Er31))) r31o))
def f_X4_mixedTriples_L20 (μ : XS) (y5_5 : Int32) : Nat → (Int64) → (Int32) → Option ((Int64) ⊕ ((Int64) ⊕ (String)))
  | 0, _, _ => none
  | n + 1, y3_20, y6_20 => f_X4_mixedTriples_L20_b μ y5_5 (f_X4_mixedTriples_L20 μ y5_5 n) y3_20 y6_20
def f_X4_mixedTriples_L5_b (μ : XS) (rec5 : (Int64) → (Int32) → Option ((Int64) ⊕ ((Int64) ⊕ (String)))) (y3_5 : Int64) (y5_5 : Int32) : Option ((Int64) ⊕ ((Int64) ⊕ (String))) :=
(if (x_tc μ) ≤ y5_5 then
some (.inl y3_5)
else
(Option.bind (f_X4_mixedTriples_L20 μ y5_5 4096 y3_5 (0 : Int32)) fun o30 => Sum.elim (fun o30l =>
(jlet (y5_5 + (1)) fun x34 =>
rec5 o30l x34)) (fun r9 => some (.inr r9)) o30))
def f_X4_mixedTriples_L5 (μ : XS) : Nat → (Int64) → (Int32) → Option ((Int64) ⊕ ((Int64) ⊕ (String)))
  | 0, _, _ => none
  | n + 1, y3_5, y5_5 => f_X4_mixedTriples_L5_b μ (f_X4_mixedTriples_L5 μ n) y3_5 y5_5
def f_X4_mixedTriples (μ : XS) (a1 : Int64) : Option ((Int64) ⊕ (String)) :=
(Option.bind (f_X4_mixedTriples_L5 μ 4096 a1 (0 : Int32)) fun o23 => Sum.elim (fun o23l =>
some (.inl o23l)) (fun r9 => some r9) o23)

def f_X4_requireTurn (a1 : Int32) : Option ((Unit) ⊕ (String)) :=
(if a1 < 0 then
some (.inr ("java/lang/IllegalArgumentException"))
else
(if a1 < (4 : Int32) then
some (.inl ())
else
some (.inr ("java/lang/IllegalArgumentException"))))

def f_X4_waysWith (μ : XS) (a1 : Int32) (a2 : Int32) (a3 : Int32) : Option ((Int32 × (Nat → Int32) × (Nat → Nat) × (Nat → Nat) × (Int32) × (Nat → Int32) × (Nat → Int32) × (Int32) × (Nat → Int32) × (Nat → Int32)) ⊕ (String)) :=
(Option.bind (f_X4_requireTurn a3) fun r1o => Sum.elim (fun r1 =>
(Option.bind (f_X1_whyRefused ((x_wide μ), (x_high μ), (x_pond μ), (x_walls μ), (x_paved μ), (x_tc μ), (x_flips μ), (x_refused μ), (x_names μ)) a1 a2 a3) fun r2 =>
(if r2 = 0 then
(Option.bind (f_X1_freeCells ((x_wide μ), (x_high μ), (x_pond μ), (x_walls μ), (x_paved μ), (x_tc μ), (x_flips μ), (x_refused μ), (x_names μ))) fun r3 =>
(Option.bind (f_X4_cellsOf a1 a2 a3) fun r4 =>
(Option.bind (f_X2_waysToPave ((x_rest μ), (x_takes μ), (x_u1 μ), (x_u2 μ), (x_hsz μ), (x_hwin μ), (x_hway μ), (x_nsz μ), (x_nwin μ), (x_nway μ)) (r3 &&& (r4 ^^^ (-1 : Int64)))) fun r5 =>
some (.inl (r5.1, r5.2.1, r5.2.2.1, r5.2.2.2.1, r5.2.2.2.2.1, r5.2.2.2.2.2.1, r5.2.2.2.2.2.2.1, r5.2.2.2.2.2.2.2.1, r5.2.2.2.2.2.2.2.2.1, r5.2.2.2.2.2.2.2.2.2)))))
else
some (.inl ((-1 : Int32), (x_takes μ), (x_u1 μ), (x_u2 μ), (x_hsz μ), (x_hwin μ), (x_hway μ), (x_nsz μ), (x_nwin μ), (x_nway μ)))))) (fun Er1 => some (.inr Er1)) r1o)

def f_X4_forced (μ : XS) (a1 : Int32) : Option ((Int32) ⊕ (String)) :=
(if a1 = 0 then
(Option.bind (f_X1_firstFreeWith ((x_wide μ), (x_high μ), (x_pond μ), (x_walls μ), (x_paved μ), (x_tc μ), (x_flips μ), (x_refused μ), (x_names μ)) (1 : Int32)) fun r1 =>
(if r1 = (-1 : Int32) then
some (.inl (-1 : Int32))
else
(if a1 = 0 then
(Option.bind (f_X4_cellName r1) fun r3 =>
some (.inl r3))
else
(Option.bind (f_X1_firstCover ((x_wide μ), (x_high μ), (x_pond μ), (x_walls μ), (x_paved μ), (x_tc μ), (x_flips μ), (x_refused μ), (x_names μ)) r1) fun r2 =>
some (.inl r2)))))
else
(if a1 = (1 : Int32) then
(Option.bind (f_X1_firstFreeWith ((x_wide μ), (x_high μ), (x_pond μ), (x_walls μ), (x_paved μ), (x_tc μ), (x_flips μ), (x_refused μ), (x_names μ)) (1 : Int32)) fun r4 =>
(if r4 = (-1 : Int32) then
some (.inl (-1 : Int32))
else
(if a1 = 0 then
(Option.bind (f_X4_cellName r4) fun r6 =>
some (.inl r6))
else
(Option.bind (f_X1_firstCover ((x_wide μ), (x_high μ), (x_pond μ), (x_walls μ), (x_paved μ), (x_tc μ), (x_flips μ), (x_refused μ), (x_names μ)) r4) fun r5 =>
some (.inl r5)))))
else
some (.inr ("java/lang/IllegalArgumentException"))))

def f_X4_mixedSlots_L5_b (μ : XS) (rec5 : (Int64) → (Int32) → Option (Int64)) (y3_5 : Int64) (y5_5 : Int32) : Option (Int64) :=
(if (2 : Int32) ≤ y5_5 then
some y3_5
else
(Option.bind (jld 2 (x_sl μ) y5_5) fun w12 =>
(if w12 = none then
(Option.bind (f_X4_mixed y3_5 (0 : Int64)) fun r13 =>
(jlet (y5_5 + (1)) fun x14 =>
rec5 r13 x14))
else
(Option.bind (f_X4_mixed y3_5 (1 : Int64)) fun r15 =>
(jlet (y5_5 + (1)) fun x16 =>
rec5 r15 x16)))))
def f_X4_mixedSlots_L5 (μ : XS) : Nat → (Int64) → (Int32) → Option (Int64)
  | 0, _, _ => none
  | n + 1, y3_5, y5_5 => f_X4_mixedSlots_L5_b μ (f_X4_mixedSlots_L5 μ n) y3_5 y5_5
def f_X4_mixedSlots (μ : XS) (a1 : Int64) : Option (Int64) :=
(Option.bind (f_X4_mixedSlots_L5 μ 4096 a1 (0 : Int32)) fun o11 =>
some o11)

def f_X4_mixedBuffer_L16_b (μ : XS) (rec16 : (Int64) → (Int32) → Option (Int64)) (y3_16 : Int64) (y5_16 : Int32) : Option (Int64) :=
(if (x_length μ) ≤ y5_16 then
some y3_16
else
(Option.bind (f_X0_codeAt ((x_length μ), (x_codes μ)) y5_16) fun r9 =>
(Option.bind (f_X4_mixed y3_16 r9.toInt64) fun r10 =>
(jlet (y5_16 + (1)) fun x11 =>
rec16 r10 x11))))
def f_X4_mixedBuffer_L16 (μ : XS) : Nat → (Int64) → (Int32) → Option (Int64)
  | 0, _, _ => none
  | n + 1, y3_16, y5_16 => f_X4_mixedBuffer_L16_b μ (f_X4_mixedBuffer_L16 μ n) y3_16 y5_16
def f_X4_mixedBuffer (μ : XS) (a1 : Int64) : Option (Int64) :=
(Option.bind (f_X4_mixed a1 ((x_length μ).toInt64)) fun r1 =>
(Option.bind (f_X4_mixedBuffer_L16 μ 4096 r1 (0 : Int32)) fun o8 =>
some o8))

def f_X4_digest_L6_b (μ : XS) (rec6 : (Int64) → (Int32) → Option ((Int64) ⊕ ((Int64 × (Nat → Int32) × (Nat → Nat) × (Nat → Nat) × (Int32) × (Nat → Int32) × (Nat → Int32) × (Int32) × (Nat → Int32) × (Nat → Int32)) ⊕ (String)))) (y1_6 : Int64) (y3_6 : Int32) : Option ((Int64) ⊕ ((Int64 × (Nat → Int32) × (Nat → Nat) × (Nat → Nat) × (Int32) × (Nat → Int32) × (Nat → Int32) × (Int32) × (Nat → Int32) × (Nat → Int32)) ⊕ (String))) :=
(if (12 : Int32) ≤ y3_6 then
some (.inl y1_6)
else
(Option.bind (f_X4_count μ y3_6) fun r8o => Sum.elim (fun r8 =>
(Option.bind (f_X4_mixed y1_6 r8.toInt64) fun r9 =>
(jlet (y3_6 + (1)) fun x10 =>
rec6 r9 x10))) (fun Er8 => some (.inr (.inr Er8))) r8o))
def f_X4_digest_L6 (μ : XS) : Nat → (Int64) → (Int32) → Option ((Int64) ⊕ ((Int64 × (Nat → Int32) × (Nat → Nat) × (Nat → Nat) × (Int32) × (Nat → Int32) × (Nat → Int32) × (Int32) × (Nat → Int32) × (Nat → Int32)) ⊕ (String)))
  | 0, _, _ => none
  | n + 1, y1_6, y3_6 => f_X4_digest_L6_b μ (f_X4_digest_L6 μ n) y1_6 y3_6
def f_X4_digest_L63_b (μ : XS) (y3_55 : Int32) (rec63 : (Int64) → (Int32) → (Nat → Int32) → (Nat → Nat) → (Nat → Nat) → (Int32) → (Nat → Int32) → (Nat → Int32) → (Int32) → (Nat → Int32) → (Nat → Int32) → Option ((Int64 × (Nat → Int32) × (Nat → Nat) × (Nat → Nat) × (Int32) × (Nat → Int32) × (Nat → Int32) × (Int32) × (Nat → Int32) × (Nat → Int32)) ⊕ ((Int64 × (Nat → Int32) × (Nat → Nat) × (Nat → Nat) × (Int32) × (Nat → Int32) × (Nat → Int32) × (Int32) × (Nat → Int32) × (Nat → Int32)) ⊕ (String)))) (y1_63 : Int64) (y4_63 : Int32) (takes_63 : Nat → Int32) (u1_63 : Nat → Nat) (u2_63 : Nat → Nat) (hsz_63 : Int32) (hwin_63 : Nat → Int32) (hway_63 : Nat → Int32) (nsz_63 : Int32) (nwin_63 : Nat → Int32) (nway_63 : Nat → Int32) : Option ((Int64 × (Nat → Int32) × (Nat → Nat) × (Nat → Nat) × (Int32) × (Nat → Int32) × (Nat → Int32) × (Int32) × (Nat → Int32) × (Nat → Int32)) ⊕ ((Int64 × (Nat → Int32) × (Nat → Nat) × (Nat → Nat) × (Int32) × (Nat → Int32) × (Nat → Int32) × (Int32) × (Nat → Int32) × (Nat → Int32)) ⊕ (String))) :=
(if (4 : Int32) ≤ y4_63 then
some (.inl (y1_63, takes_63, u1_63, u2_63, hsz_63, hwin_63, hway_63, nsz_63, nwin_63, nway_63))
else
(Option.bind (f_X4_waysWith (x_length μ, x_codes μ, x_rest μ, takes_63, u1_63, u2_63, hsz_63, hwin_63, hway_63, nsz_63, nwin_63, nway_63, x_wide μ, x_high μ, x_pond μ, x_walls μ, x_paved μ, x_tc μ, x_flips μ, x_refused μ, x_names μ, x_sl μ, x_lmod μ, x_lsize μ) y3_55 (y3_55 - y3_55 / (2 : Int32) * (2 : Int32)) y4_63) fun r46o => Sum.elim (fun r46 =>
(Option.bind (f_X4_mixed y1_63 r46.1.toInt64) fun r47 =>
(jlet (y4_63 + (1)) fun x48 =>
rec63 r47 x48 r46.2.1 r46.2.2.1 r46.2.2.2.1 r46.2.2.2.2.1 r46.2.2.2.2.2.1 r46.2.2.2.2.2.2.1 r46.2.2.2.2.2.2.2.1 r46.2.2.2.2.2.2.2.2.1 r46.2.2.2.2.2.2.2.2.2))) (fun Er46 => some (.inr (.inr Er46))) r46o))
def f_X4_digest_L63 (μ : XS) (y3_55 : Int32) : Nat → (Int64) → (Int32) → (Nat → Int32) → (Nat → Nat) → (Nat → Nat) → (Int32) → (Nat → Int32) → (Nat → Int32) → (Int32) → (Nat → Int32) → (Nat → Int32) → Option ((Int64 × (Nat → Int32) × (Nat → Nat) × (Nat → Nat) × (Int32) × (Nat → Int32) × (Nat → Int32) × (Int32) × (Nat → Int32) × (Nat → Int32)) ⊕ ((Int64 × (Nat → Int32) × (Nat → Nat) × (Nat → Nat) × (Int32) × (Nat → Int32) × (Nat → Int32) × (Int32) × (Nat → Int32) × (Nat → Int32)) ⊕ (String)))
  | 0, _, _, _, _, _, _, _, _, _, _, _ => none
  | n + 1, y1_63, y4_63, takes_63, u1_63, u2_63, hsz_63, hwin_63, hway_63, nsz_63, nwin_63, nway_63 => f_X4_digest_L63_b μ y3_55 (f_X4_digest_L63 μ y3_55 n) y1_63 y4_63 takes_63 u1_63 u2_63 hsz_63 hwin_63 hway_63 nsz_63 nwin_63 nway_63
def f_X4_digest_L55_b (μ : XS) (rec55 : (Int64) → (Int32) → (Nat → Int32) → (Nat → Nat) → (Nat → Nat) → (Int32) → (Nat → Int32) → (Nat → Int32) → (Int32) → (Nat → Int32) → (Nat → Int32) → Option ((Int64 × (Nat → Int32) × (Nat → Nat) × (Nat → Nat) × (Int32) × (Nat → Int32) × (Nat → Int32) × (Int32) × (Nat → Int32) × (Nat → Int32)) ⊕ ((Int64 × (Nat → Int32) × (Nat → Nat) × (Nat → Nat) × (Int32) × (Nat → Int32) × (Nat → Int32) × (Int32) × (Nat → Int32) × (Nat → Int32)) ⊕ (String)))) (y1_55 : Int64) (y3_55 : Int32) (takes_55 : Nat → Int32) (u1_55 : Nat → Nat) (u2_55 : Nat → Nat) (hsz_55 : Int32) (hwin_55 : Nat → Int32) (hway_55 : Nat → Int32) (nsz_55 : Int32) (nwin_55 : Nat → Int32) (nway_55 : Nat → Int32) : Option ((Int64 × (Nat → Int32) × (Nat → Nat) × (Nat → Nat) × (Int32) × (Nat → Int32) × (Nat → Int32) × (Int32) × (Nat → Int32) × (Nat → Int32)) ⊕ ((Int64 × (Nat → Int32) × (Nat → Nat) × (Nat → Nat) × (Int32) × (Nat → Int32) × (Nat → Int32) × (Int32) × (Nat → Int32) × (Nat → Int32)) ⊕ (String))) :=
(if (3 : Int32) ≤ y3_55 then
some (.inl (y1_55, takes_55, u1_55, u2_55, hsz_55, hwin_55, hway_55, nsz_55, nwin_55, nway_55))
else
(Option.bind (f_X4_digest_L63 μ y3_55 4096 y1_55 (0 : Int32) takes_55 u1_55 u2_55 hsz_55 hwin_55 hway_55 nsz_55 nwin_55 nway_55) fun o45 => Sum.elim (fun o45l =>
(jlet (y3_55 + (1)) fun x49 =>
rec55 o45l.1 x49 o45l.2.1 o45l.2.2.1 o45l.2.2.2.1 o45l.2.2.2.2.1 o45l.2.2.2.2.2.1 o45l.2.2.2.2.2.2.1 o45l.2.2.2.2.2.2.2.1 o45l.2.2.2.2.2.2.2.2.1 o45l.2.2.2.2.2.2.2.2.2)) (fun r9 => some (.inr r9)) o45))
def f_X4_digest_L55 (μ : XS) : Nat → (Int64) → (Int32) → (Nat → Int32) → (Nat → Nat) → (Nat → Nat) → (Int32) → (Nat → Int32) → (Nat → Int32) → (Int32) → (Nat → Int32) → (Nat → Int32) → Option ((Int64 × (Nat → Int32) × (Nat → Nat) × (Nat → Nat) × (Int32) × (Nat → Int32) × (Nat → Int32) × (Int32) × (Nat → Int32) × (Nat → Int32)) ⊕ ((Int64 × (Nat → Int32) × (Nat → Nat) × (Nat → Nat) × (Int32) × (Nat → Int32) × (Nat → Int32) × (Int32) × (Nat → Int32) × (Nat → Int32)) ⊕ (String)))
  | 0, _, _, _, _, _, _, _, _, _, _, _ => none
  | n + 1, y1_55, y3_55, takes_55, u1_55, u2_55, hsz_55, hwin_55, hway_55, nsz_55, nwin_55, nway_55 => f_X4_digest_L55_b μ (f_X4_digest_L55 μ n) y1_55 y3_55 takes_55 u1_55 u2_55 hsz_55 hwin_55 hway_55 nsz_55 nwin_55 nway_55
def f_X4_digest (μ : XS) : Option ((Int64 × (Nat → Int32) × (Nat → Nat) × (Nat → Nat) × (Int32) × (Nat → Int32) × (Nat → Int32) × (Int32) × (Nat → Int32) × (Nat → Int32)) ⊕ (String)) :=
(Option.bind (f_X4_digest_L6 μ 4096 (3181 : Int64) (0 : Int32)) fun o7 => Sum.elim (fun o7l =>
(Option.bind (f_X4_mixedRows μ o7l) fun r11o => Sum.elim (fun r11 =>
(Option.bind (f_X4_mixedCells μ r11) fun r12o => Sum.elim (fun r12 =>
(Option.bind (f_X4_mixedTriples μ r12) fun r13o => Sum.elim (fun r13 =>
(Option.bind (f_X4_ways μ) fun r14 =>
(Option.bind (f_X4_mixed r13 r14.1.toInt64) fun r15 =>
(Option.bind (f_X4_digest_L55 μ 4096 r15 (0 : Int32) r14.2.1 r14.2.2.1 r14.2.2.2.1 r14.2.2.2.2.1 r14.2.2.2.2.2.1 r14.2.2.2.2.2.2.1 r14.2.2.2.2.2.2.2.1 r14.2.2.2.2.2.2.2.2.1 r14.2.2.2.2.2.2.2.2.2) fun o38 => Sum.elim (fun o38l =>
(Option.bind (f_X4_forced (x_length μ, x_codes μ, x_rest μ, o38l.2.1, o38l.2.2.1, o38l.2.2.2.1, o38l.2.2.2.2.1, o38l.2.2.2.2.2.1, o38l.2.2.2.2.2.2.1, o38l.2.2.2.2.2.2.2.1, o38l.2.2.2.2.2.2.2.2.1, o38l.2.2.2.2.2.2.2.2.2, x_wide μ, x_high μ, x_pond μ, x_walls μ, x_paved μ, x_tc μ, x_flips μ, x_refused μ, x_names μ, x_sl μ, x_lmod μ, x_lsize μ) (0 : Int32)) fun r50o => Sum.elim (fun r50 =>
(Option.bind (f_X4_mixed o38l.1 r50.toInt64) fun r51 =>
(Option.bind (f_X4_forced (x_length μ, x_codes μ, x_rest μ, o38l.2.1, o38l.2.2.1, o38l.2.2.2.1, o38l.2.2.2.2.1, o38l.2.2.2.2.2.1, o38l.2.2.2.2.2.2.1, o38l.2.2.2.2.2.2.2.1, o38l.2.2.2.2.2.2.2.2.1, o38l.2.2.2.2.2.2.2.2.2, x_wide μ, x_high μ, x_pond μ, x_walls μ, x_paved μ, x_tc μ, x_flips μ, x_refused μ, x_names μ, x_sl μ, x_lmod μ, x_lsize μ) (1 : Int32)) fun r52o => Sum.elim (fun r52 =>
(Option.bind (f_X4_mixed r51 r52.toInt64) fun r53 =>
(Option.bind (f_X4_lonely (x_length μ, x_codes μ, x_rest μ, o38l.2.1, o38l.2.2.1, o38l.2.2.2.1, o38l.2.2.2.2.1, o38l.2.2.2.2.2.1, o38l.2.2.2.2.2.2.1, o38l.2.2.2.2.2.2.2.1, o38l.2.2.2.2.2.2.2.2.1, o38l.2.2.2.2.2.2.2.2.2, x_wide μ, x_high μ, x_pond μ, x_walls μ, x_paved μ, x_tc μ, x_flips μ, x_refused μ, x_names μ, x_sl μ, x_lmod μ, x_lsize μ)) fun r54 =>
(Option.bind (f_X4_mixed r53 r54.toInt64) fun r55 =>
(Option.bind (f_X4_pavedShare (x_length μ, x_codes μ, x_rest μ, o38l.2.1, o38l.2.2.1, o38l.2.2.2.1, o38l.2.2.2.2.1, o38l.2.2.2.2.2.1, o38l.2.2.2.2.2.2.1, o38l.2.2.2.2.2.2.2.1, o38l.2.2.2.2.2.2.2.2.1, o38l.2.2.2.2.2.2.2.2.2, x_wide μ, x_high μ, x_pond μ, x_walls μ, x_paved μ, x_tc μ, x_flips μ, x_refused μ, x_names μ, x_sl μ, x_lmod μ, x_lsize μ)) fun r56 =>
(Option.bind (f_X4_shareBits r56) fun r57 =>
(Option.bind (f_X4_mixed r55 r57) fun r58 =>
(Option.bind (f_X4_mixedSlots (x_length μ, x_codes μ, x_rest μ, o38l.2.1, o38l.2.2.1, o38l.2.2.2.1, o38l.2.2.2.2.1, o38l.2.2.2.2.2.1, o38l.2.2.2.2.2.2.1, o38l.2.2.2.2.2.2.2.1, o38l.2.2.2.2.2.2.2.2.1, o38l.2.2.2.2.2.2.2.2.2, x_wide μ, x_high μ, x_pond μ, x_walls μ, x_paved μ, x_tc μ, x_flips μ, x_refused μ, x_names μ, x_sl μ, x_lmod μ, x_lsize μ) r58) fun r59 =>
(Option.bind (f_X4_mixedBuffer (x_length μ, x_codes μ, x_rest μ, o38l.2.1, o38l.2.2.1, o38l.2.2.2.1, o38l.2.2.2.2.1, o38l.2.2.2.2.2.1, o38l.2.2.2.2.2.2.1, o38l.2.2.2.2.2.2.2.1, o38l.2.2.2.2.2.2.2.2.1, o38l.2.2.2.2.2.2.2.2.2, x_wide μ, x_high μ, x_pond μ, x_walls μ, x_paved μ, x_tc μ, x_flips μ, x_refused μ, x_names μ, x_sl μ, x_lmod μ, x_lsize μ) r59) fun r60 =>
some (.inl (r60, o38l.2.1, o38l.2.2.1, o38l.2.2.2.1, o38l.2.2.2.2.1, o38l.2.2.2.2.2.1, o38l.2.2.2.2.2.2.1, o38l.2.2.2.2.2.2.2.1, o38l.2.2.2.2.2.2.2.2.1, o38l.2.2.2.2.2.2.2.2.2))))))))))) (fun Er52 => some (.inr Er52)) r52o))) (fun Er50 => some (.inr Er50)) r50o)) (fun r9 => some r9) o38)))) (fun Er13 => some (.inr Er13)) r13o)) (fun Er12 => some (.inr Er12)) r12o)) (fun Er11 => some (.inr Er11)) r11o)) (fun r9 => some r9) o7)

def f_J3_checkIndex_8e157 (a1 : Int32) (a2 : Int32) : Option (Int32) :=
(if a1 < 0 then
none
else
(if a1 < a2 then
some a1
else
none))

def f_J15_checkIndex_7cf53 (a1 : Int32) (a2 : Int32) : Option (Int32) :=
(Option.bind (f_J3_checkIndex_8e157 a1 a2) fun r1 =>
some r1)

def f_X4_append (μ : XS) (a1 : Int32) : Option ((Int32 × (Int32) × (Nat → Int32)) ⊕ (String)) :=
(if a1 < (33 : Int32) then
some (.inr ("java/lang/IllegalArgumentException"))
else
(if a1 ≤ (126 : Int32) then
(Option.bind (f_X0_isFull ((x_length μ), (x_codes μ))) fun r1 =>
(if r1 = 0 then
(Option.bind (f_X0_add ((x_length μ), (x_codes μ)) a1) fun r2 =>
some (.inl (r2.1, r2.1, r2.2)))
else
some (.inr ("java/lang/IllegalStateException"))))
else
some (.inr ("java/lang/IllegalArgumentException"))))

def f_X4_requireSlot (μ : XS) (a1 : Int32) : Option ((Unit) ⊕ (String)) :=
(if a1 < 0 then
some (.inr ("java/lang/IllegalArgumentException"))
else
(if a1 < (2 : Int32) then
some (.inl ())
else
some (.inr ("java/lang/IllegalArgumentException"))))

def f_X4_whyNot (μ : XS) (a1 : Int32) (a2 : Int32) (a3 : Int32) : Option ((Int32) ⊕ (String)) :=
(Option.bind (f_X4_requireTurn a3) fun r1o => Sum.elim (fun r1 =>
(Option.bind (f_X1_whyRefused ((x_wide μ), (x_high μ), (x_pond μ), (x_walls μ), (x_paved μ), (x_tc μ), (x_flips μ), (x_refused μ), (x_names μ)) a1 a2 a3) fun r2 =>
some (.inl r2))) (fun Er1 => some (.inr Er1)) r1o)
