/-! what the methods of BentGardens do, as functions (by program) -/
def f_X4_ways (μ : XS) : Option (Int32 × (Nat → Int32) × (Nat → Nat) × (Nat → Nat) × (Int32) × (Nat → Int32) × (Nat → Int32) × (Int32) × (Nat → Int32) × (Nat → Int32)) :=
(Option.bind (f_X1_freeCells ((x_wide μ), (x_high μ), (x_pond μ), (x_walls μ), (x_paved μ), (x_tc μ), (x_flips μ), (x_refused μ), (x_names μ))) fun r1 =>
(Option.bind (f_X2_waysToPave ((x_rest μ), (x_takes μ), (x_u1 μ), (x_u2 μ), (x_hsz μ), (x_hwin μ), (x_hway μ), (x_nsz μ), (x_nwin μ), (x_nway μ)) r1) fun r2 =>
some (r2.1, r2.2.1, r2.2.2.1, r2.2.2.2.1, r2.2.2.2.2.1, r2.2.2.2.2.2.1, r2.2.2.2.2.2.2.1, r2.2.2.2.2.2.2.2.1, r2.2.2.2.2.2.2.2.2.1, r2.2.2.2.2.2.2.2.2.2)))

def f_X4_bestPond (μ : XS) : Option (Int32 × (Nat → Nat → Int32) × (Nat → Int32) × (Nat → Nat) × (Nat → Nat) × (Int32) × (Nat → Int32) × (Nat → Int32) × (Int32) × (Nat → Int32) × (Nat → Int32)) :=
(Option.bind (f_X1_freeCells ((x_wide μ), (x_high μ), (x_pond μ), (x_walls μ), (x_paved μ), (x_tc μ), (x_flips μ), (x_refused μ), (x_names μ))) fun r1 =>
(Option.bind (f_X1_pondCell ((x_wide μ), (x_high μ), (x_pond μ), (x_walls μ), (x_paved μ), (x_tc μ), (x_flips μ), (x_refused μ), (x_names μ))) fun r2 =>
(Option.bind (f_X2_bestGap ((x_rest μ), (x_takes μ), (x_u1 μ), (x_u2 μ), (x_hsz μ), (x_hwin μ), (x_hway μ), (x_nsz μ), (x_nwin μ), (x_nway μ)) (r1 ||| r2)) fun r3 =>
(if r3.1 = (-1 : Int32) then
some ((-1 : Int32), r3.2.1, r3.2.2.1, r3.2.2.2.1, r3.2.2.2.2.1, r3.2.2.2.2.2.1, r3.2.2.2.2.2.2.1, r3.2.2.2.2.2.2.2.1, r3.2.2.2.2.2.2.2.2.1, r3.2.2.2.2.2.2.2.2.2.1, r3.2.2.2.2.2.2.2.2.2.2)
else
(Option.bind (f_X4_cellName r3.1) fun r4 =>
some (r4, r3.2.1, r3.2.2.1, r3.2.2.2.1, r3.2.2.2.2.1, r3.2.2.2.2.2.1, r3.2.2.2.2.2.2.1, r3.2.2.2.2.2.2.2.1, r3.2.2.2.2.2.2.2.2.1, r3.2.2.2.2.2.2.2.2.2.1, r3.2.2.2.2.2.2.2.2.2.2))))))

def f_Jx4a65c_size_8abf5 (μ : LSS) : Option (Int32) :=
some (ls_lsize μ)

def f_J3_checkIndex_8e157 (a1 : Int32) (a2 : Int32) : Option (Int32) :=
(if a1 < 0 then
none
else
(if a1 < a2 then
some a1
else
none))

def f_J15_checkIndex_7cf53 (a1 : Int32) (a2 : Int32) : Option (Int32) :=
(Option.bind (f_J3_checkIndex_8e157 a1 a2) fun r1 =>
some r1)

def f_X4_requireCell (μ : XS) (a1 : Int32) (a2 : Int32) : Option ((Unit) ⊕ (String)) :=
(Option.bind (f_X1_hasBlock ((x_wide μ), (x_high μ), (x_pond μ), (x_walls μ), (x_paved μ), (x_tc μ), (x_flips μ), (x_refused μ), (x_names μ)) a1 a2 (1 : Int32) (1 : Int32)) fun r1 =>
(if r1 = 0 then
some (.inr ("java/lang/IndexOutOfBoundsException"))
else
some (.inl ())))

def f_X4_requireTurn (a1 : Int32) : Option ((Unit) ⊕ (String)) :=
(if a1 < 0 then
some (.inr ("java/lang/IllegalArgumentException"))
else
(if a1 < (4 : Int32) then
some (.inl ())
else
some (.inr ("java/lang/IllegalArgumentException"))))

def f_X4_append (μ : XS) (a1 : Int32) : Option ((Int32 × (Int32) × (Nat → Int32)) ⊕ (String)) :=
(if a1 < (33 : Int32) then
some (.inr ("java/lang/IllegalArgumentException"))
else
(if a1 ≤ (126 : Int32) then
(Option.bind (f_X0_isFull ((x_length μ), (x_codes μ))) fun r1 =>
(if r1 = 0 then
(Option.bind (f_X0_add ((x_length μ), (x_codes μ)) a1) fun r2 =>
some (.inl (r2.1, r2.1, r2.2)))
else
some (.inr ("java/lang/IllegalStateException"))))
else
some (.inr ("java/lang/IllegalArgumentException"))))

def f_X4_requireSlot (μ : XS) (a1 : Int32) : Option ((Unit) ⊕ (String)) :=
(if a1 < 0 then
some (.inr ("java/lang/IllegalArgumentException"))
else
(if a1 < (2 : Int32) then
some (.inl ())
else
some (.inr ("java/lang/IllegalArgumentException"))))

def f_X4_requireProperty (a1 : Int32) : Option ((Unit) ⊕ (String)) :=
(if a1 < 0 then
some (.inr ("java/lang/IllegalArgumentException"))
else
(if a1 < (3 : Int32) then
some (.inl ())
else
some (.inr ("java/lang/IllegalArgumentException"))))

def f_X4_cell (μ : XS) (a1 : Int32) (a2 : Int32) (a3 : Int32) : Option ((Int32) ⊕ (String)) :=
(Option.bind (f_X4_requireCell μ a1 a2) fun r1o => Sum.elim (fun r1 =>
(Option.bind (f_X4_requireProperty a3) fun r2o => Sum.elim (fun r2 =>
(if a3 = 0 then
(Option.bind (f_X4_cellAt a1 a2) fun r7 =>
(Option.bind (f_X1_kindOf ((x_wide μ), (x_high μ), (x_pond μ), (x_walls μ), (x_paved μ), (x_tc μ), (x_flips μ), (x_refused μ), (x_names μ)) r7) fun r8 =>
some (.inl r8)))
else
(if a3 = (1 : Int32) then
(Option.bind (f_X4_cellAt a1 a2) fun r5 =>
(Option.bind (f_X1_tripleOver ((x_wide μ), (x_high μ), (x_pond μ), (x_walls μ), (x_paved μ), (x_tc μ), (x_flips μ), (x_refused μ), (x_names μ)) r5) fun r6 =>
some (.inl r6)))
else
(Option.bind (f_X4_placeOf a1 a2) fun r3 =>
(Option.bind (f_X1_coverCount ((x_wide μ), (x_high μ), (x_pond μ), (x_walls μ), (x_paved μ), (x_tc μ), (x_flips μ), (x_refused μ), (x_names μ)) r3) fun r4 =>
some (.inl r4)))))) (fun Er2 => some (.inr Er2)) r2o)) (fun Er1 => some (.inr Er1)) r1o)

def f_X4_row (μ : XS) (a1 : Int32) (a2 : Int32) : Option ((Int32) ⊕ (String)) :=
(if a1 < 0 then
some (.inr ("java/lang/IndexOutOfBoundsException"))
else
(if a1 < (x_high μ) then
(Option.bind (f_X4_requireProperty a2) fun r1o => Sum.elim (fun r1 =>
(if a2 = 0 then
(Option.bind (f_X1_freeCells ((x_wide μ), (x_high μ), (x_pond μ), (x_walls μ), (x_paved μ), (x_tc μ), (x_flips μ), (x_refused μ), (x_names μ))) fun r4 =>
(Option.bind (f_X4_rowMask r4 a1) fun r5 =>
some (.inl r5)))
else
(Option.bind (if a2 = (1 : Int32) then
some (x_walls μ)
else
some (x_paved μ)) fun o2 =>
(Option.bind (f_X4_rowMask o2 a1) fun r3 =>
some (.inl r3))))) (fun Er1 => some (.inr Er1)) r1o)
else
some (.inr ("java/lang/IndexOutOfBoundsException"))))

def f_X4_count (μ : XS) (a1 : Int32) : Option ((Int32) ⊕ (String)) :=
(if a1 = (0 : Int32) then
some (.inl (x_wide μ))
else
(if a1 = (1 : Int32) then
some (.inl (x_high μ))
else
(if a1 = (2 : Int32) then
some (.inl ((x_pond μ) - (x_pond μ) / (8 : Int32) * (8 : Int32)))
else
(if a1 = (3 : Int32) then
some (.inl ((x_pond μ) / (8 : Int32)))
else
(if a1 = (4 : Int32) then
(Option.bind (f_J13_bitCount_95d88 (x_walls μ)) fun r1 =>
some (.inl r1))
else
(if a1 = (5 : Int32) then
some (.inl (x_tc μ))
else
(if a1 = (6 : Int32) then
(Option.bind (f_X1_freeCells ((x_wide μ), (x_high μ), (x_pond μ), (x_walls μ), (x_paved μ), (x_tc μ), (x_flips μ), (x_refused μ), (x_names μ))) fun r2 =>
(Option.bind (f_J13_bitCount_95d88 r2) fun r3 =>
some (.inl r3)))
else
(if a1 = (7 : Int32) then
(Option.bind (f_X1_layableTriples ((x_wide μ), (x_high μ), (x_pond μ), (x_walls μ), (x_paved μ), (x_tc μ), (x_flips μ), (x_refused μ), (x_names μ))) fun r4 =>
some (.inl r4))
else
(if a1 = (8 : Int32) then
(Option.bind (f_X1_flippableBlocks ((x_wide μ), (x_high μ), (x_pond μ), (x_walls μ), (x_paved μ), (x_tc μ), (x_flips μ), (x_refused μ), (x_names μ))) fun r5 =>
some (.inl r5))
else
(if a1 = (9 : Int32) then
some (.inl (x_flips μ))
else
(if a1 = (10 : Int32) then
some (.inl (x_refused μ))
else
(if a1 = (11 : Int32) then
(Option.bind (f_Jx4a65c_size_8abf5 ((x_lmod μ), (x_lsize μ))) fun r6 =>
some (.inl r6))
else
some (.inr ("java/lang/IllegalArgumentException"))))))))))))))

def f_X4_whyNot (μ : XS) (a1 : Int32) (a2 : Int32) (a3 : Int32) : Option ((Int32) ⊕ (String)) :=
(Option.bind (f_X4_requireTurn a3) fun r1o => Sum.elim (fun r1 =>
(Option.bind (f_X1_whyRefused ((x_wide μ), (x_high μ), (x_pond μ), (x_walls μ), (x_paved μ), (x_tc μ), (x_flips μ), (x_refused μ), (x_names μ)) a1 a2 a3) fun r2 =>
some (.inl r2))) (fun Er1 => some (.inr Er1)) r1o)

def f_X4_waysWith (μ : XS) (a1 : Int32) (a2 : Int32) (a3 : Int32) : Option ((Int32 × (Nat → Int32) × (Nat → Nat) × (Nat → Nat) × (Int32) × (Nat → Int32) × (Nat → Int32) × (Int32) × (Nat → Int32) × (Nat → Int32)) ⊕ (String)) :=
(Option.bind (f_X4_requireTurn a3) fun r1o => Sum.elim (fun r1 =>
(Option.bind (f_X1_whyRefused ((x_wide μ), (x_high μ), (x_pond μ), (x_walls μ), (x_paved μ), (x_tc μ), (x_flips μ), (x_refused μ), (x_names μ)) a1 a2 a3) fun r2 =>
(if r2 = 0 then
(Option.bind (f_X1_freeCells ((x_wide μ), (x_high μ), (x_pond μ), (x_walls μ), (x_paved μ), (x_tc μ), (x_flips μ), (x_refused μ), (x_names μ))) fun r3 =>
(Option.bind (f_X4_cellsOf a1 a2 a3) fun r4 =>
(Option.bind (f_X2_waysToPave ((x_rest μ), (x_takes μ), (x_u1 μ), (x_u2 μ), (x_hsz μ), (x_hwin μ), (x_hway μ), (x_nsz μ), (x_nwin μ), (x_nway μ)) (r3 &&& (r4 ^^^ (-1 : Int64)))) fun r5 =>
some (.inl (r5.1, r5.2.1, r5.2.2.1, r5.2.2.2.1, r5.2.2.2.2.1, r5.2.2.2.2.2.1, r5.2.2.2.2.2.2.1, r5.2.2.2.2.2.2.2.1, r5.2.2.2.2.2.2.2.2.1, r5.2.2.2.2.2.2.2.2.2)))))
else
some (.inl ((-1 : Int32), (x_takes μ), (x_u1 μ), (x_u2 μ), (x_hsz μ), (x_hwin μ), (x_hway μ), (x_nsz μ), (x_nwin μ), (x_nway μ)))))) (fun Er1 => some (.inr Er1)) r1o)

def f_X4_forced (μ : XS) (a1 : Int32) : Option ((Int32) ⊕ (String)) :=
(if a1 = 0 then
(Option.bind (f_X1_firstFreeWith ((x_wide μ), (x_high μ), (x_pond μ), (x_walls μ), (x_paved μ), (x_tc μ), (x_flips μ), (x_refused μ), (x_names μ)) (1 : Int32)) fun r1 =>
(if r1 = (-1 : Int32) then
some (.inl (-1 : Int32))
else
(if a1 = 0 then
(Option.bind (f_X4_cellName r1) fun r3 =>
some (.inl r3))
else
(Option.bind (f_X1_firstCover ((x_wide μ), (x_high μ), (x_pond μ), (x_walls μ), (x_paved μ), (x_tc μ), (x_flips μ), (x_refused μ), (x_names μ)) r1) fun r2 =>
some (.inl r2)))))
else
(if a1 = (1 : Int32) then
(Option.bind (f_X1_firstFreeWith ((x_wide μ), (x_high μ), (x_pond μ), (x_walls μ), (x_paved μ), (x_tc μ), (x_flips μ), (x_refused μ), (x_names μ)) (1 : Int32)) fun r4 =>
(if r4 = (-1 : Int32) then
some (.inl (-1 : Int32))
else
(if a1 = 0 then
(Option.bind (f_X4_cellName r4) fun r6 =>
some (.inl r6))
else
(Option.bind (f_X1_firstCover ((x_wide μ), (x_high μ), (x_pond μ), (x_walls μ), (x_paved μ), (x_tc μ), (x_flips μ), (x_refused μ), (x_names μ)) r4) fun r5 =>
some (.inl r5)))))
else
some (.inr ("java/lang/IllegalArgumentException"))))

def f_X4_triple (μ : XS) (a1 : Int32) (a2 : Int32) : Option ((Int32) ⊕ (String)) :=
(if a1 < 0 then
some (.inr ("java/lang/IndexOutOfBoundsException"))
else
(if a1 < (x_tc μ) then
(Option.bind (f_X4_requireProperty a2) fun r1o => Sum.elim (fun r1 =>
(Option.bind (f_X1_tripleName ((x_wide μ), (x_high μ), (x_pond μ), (x_walls μ), (x_paved μ), (x_tc μ), (x_flips μ), (x_refused μ), (x_names μ)) a1) fun r2 =>
(if a2 = 0 then
(Option.bind (f_X4_columnOf r2) fun r5 =>
some (.inl r5))
else
(if a2 = (1 : Int32) then
(Option.bind (f_X4_rowOf r2) fun r4 =>
some (.inl r4))
else
(Option.bind (f_X4_turnOf r2) fun r3 =>
some (.inl r3)))))) (fun Er1 => some (.inr Er1)) r1o)
else
some (.inr ("java/lang/IndexOutOfBoundsException"))))

def f_X4_lonely (μ : XS) : Option (Int32) :=
(Option.bind (f_X1_firstFreeWith ((x_wide μ), (x_high μ), (x_pond μ), (x_walls μ), (x_paved μ), (x_tc μ), (x_flips μ), (x_refused μ), (x_names μ)) (0 : Int32)) fun r1 =>
(if r1 = (-1 : Int32) then
some (-1 : Int32)
else
(Option.bind (f_X4_cellName r1) fun r2 =>
some r2)))
