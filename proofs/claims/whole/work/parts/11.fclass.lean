/-! what the methods of the class do, as functions (by program) -/
def f_X0_codeAt (μ : BS) (a1 : Int32) : Option (Int32) :=
(if a1 < 0 then
some (0 : Int32)
else
(if (b_length μ) ≤ a1 then
some (0 : Int32)
else
(if (71 : Int32) ≤ a1 then
some (0 : Int32)
else
(Option.bind (jld 71 (b_codes μ) a1) fun v1 =>
some v1))))

def f_X3_isRowWhole (μ : RDS) : Option (Int32) :=
(if (rd_row μ) = 0 then
(if (rd_column μ) < (2 : Int32) then
some (0 : Int32)
else
some (1 : Int32))
else
(if (rd_column μ) = (rd_wide μ) then
some (1 : Int32)
else
some (0 : Int32)))

def f_X3_isLastForPond (μ : RDS) : Option (Int32) :=
(if (rd_pond μ) = (-1 : Int32) then
(if ((rd_row μ) + (1 : Int32)) = (8 : Int32) then
(if ((rd_column μ) + (1 : Int32)) = (rd_wide μ) then
some (1 : Int32)
else
some (0 : Int32))
else
some (0 : Int32))
else
some (0 : Int32))

def f_X3_isNext (μ : RDS) (a1 : Int32) : Option (Int32) :=
(if a1 = (47 : Int32) then
(Option.bind (f_X3_isRowWhole μ) fun r3 =>
(if r3 = 0 then
some (0 : Int32)
else
(if (8 : Int32) ≤ ((rd_row μ) + (1 : Int32)) then
some (0 : Int32)
else
some (1 : Int32))))
else
(if (rd_column μ) < (rd_wide μ) then
(if a1 = (111 : Int32) then
(if (rd_pond μ) = (-1 : Int32) then
some (1 : Int32)
else
some (0 : Int32))
else
(if a1 = (46 : Int32) then
(Option.bind (f_X3_isLastForPond μ) fun r1 =>
(if r1 = 0 then
some (1 : Int32)
else
some (0 : Int32)))
else
(if a1 = (35 : Int32) then
(Option.bind (f_X3_isLastForPond μ) fun r2 =>
(if r2 = 0 then
some (1 : Int32)
else
some (0 : Int32)))
else
some (0 : Int32))))
else
some (0 : Int32)))

def f_X4_placeOf (a1 : Int32) (a2 : Int32) : Option (Int32) :=
some (((8 : Int32) * a2) + a1)

def f_X4_cellAt (a1 : Int32) (a2 : Int32) : Option (Int64) :=
(Option.bind (f_X4_placeOf a1 a2) fun r1 =>
some ((1 : Int64) <<< (r1.toInt64 &&& 63)))

def f_X3_take (μ : RDS) (a1 : Int32) : Option ((Int32) × (Int32) × (Int32) × (Int64) × (Int32)) :=
(if a1 = (47 : Int32) then
(Option.bind (if (rd_row μ) = 0 then
some (rd_column μ)
else
some (rd_wide μ)) fun o10 =>
(jlet ((rd_row μ) + (1 : Int32)) fun x11 =>
some (o10, x11, (rd_pond μ), (rd_walls μ), (0 : Int32))))
else
(Option.bind (if a1 = (111 : Int32) then
(Option.bind (f_X4_placeOf (rd_column μ) (rd_row μ)) fun r3 =>
some r3)
else
some (rd_pond μ)) fun o2 =>
(Option.bind (if a1 = (35 : Int32) then
(Option.bind (f_X4_cellAt (rd_column μ) (rd_row μ)) fun r7 =>
(jlet ((rd_walls μ) ||| r7) fun x8 =>
some x8))
else
some (rd_walls μ)) fun o6 =>
(jlet ((rd_column μ) + (1 : Int32)) fun x9 =>
some ((rd_wide μ), (rd_row μ), o2, o6, x9)))))

def f_X0_readInto_L2_b (μ : BRS) (rec2 : (Int32) → (Int32) → (Int32) → (Int32) → (Int64) → (Int32) → Option (((Int32) × (Int32) × (Int32) × (Int64) × (Int32)) ⊕ (Int32 × (Int32) × (Int32) × (Int32) × (Int64) × (Int32)))) (y2_2 : Int32) (wide_2 : Int32) (row_2 : Int32) (pond_2 : Int32) (walls_2 : Int64) (column_2 : Int32) : Option (((Int32) × (Int32) × (Int32) × (Int64) × (Int32)) ⊕ (Int32 × (Int32) × (Int32) × (Int32) × (Int64) × (Int32))) :=
(if (br_length μ) ≤ y2_2 then
some (.inl (wide_2, row_2, pond_2, walls_2, column_2))
else
(Option.bind (f_X0_codeAt ((br_length μ), (br_codes μ)) y2_2) fun r12 =>
(Option.bind (f_X3_isNext (wide_2, row_2, pond_2, walls_2, column_2) r12) fun r13 =>
(if r13 = 0 then
some (.inr (y2_2, wide_2, row_2, pond_2, walls_2, column_2))
else
(Option.bind (f_X0_codeAt ((br_length μ), (br_codes μ)) y2_2) fun r14 =>
(Option.bind (f_X3_take (wide_2, row_2, pond_2, walls_2, column_2) r14) fun r15 =>
(jlet (y2_2 + (1)) fun x16 =>
rec2 x16 r15.1 r15.2.1 r15.2.2.1 r15.2.2.2.1 r15.2.2.2.2)))))))
def f_X0_readInto_L2 (μ : BRS) : Nat → (Int32) → (Int32) → (Int32) → (Int32) → (Int64) → (Int32) → Option (((Int32) × (Int32) × (Int32) × (Int64) × (Int32)) ⊕ (Int32 × (Int32) × (Int32) × (Int32) × (Int64) × (Int32)))
  | 0, _, _, _, _, _, _ => none
  | n + 1, y2_2, wide_2, row_2, pond_2, walls_2, column_2 => f_X0_readInto_L2_b μ (f_X0_readInto_L2 μ n) y2_2 wide_2 row_2 pond_2 walls_2 column_2
def f_X0_readInto (μ : BRS) : Option (Int32 × (Int32) × (Int32) × (Int32) × (Int64) × (Int32)) :=
(Option.bind (f_X0_readInto_L2 μ 4096 (0 : Int32) (br_wide μ) (br_row μ) (br_pond μ) (br_walls μ) (br_column μ)) fun o11 => Sum.elim (fun o11l =>
some ((br_length μ), o11l.1, o11l.2.1, o11l.2.2.1, o11l.2.2.2.1, o11l.2.2.2.2)) (fun r9 => some r9) o11)

def f_X1_blockCells_L6_b (a1 : Int32) (a2 : Int32) (a3 : Int32) (a4 : Int32) (rec6 : (Int64) → (Int32) → Option (Int64)) (y4_6 : Int64) (y6_6 : Int32) : Option (Int64) :=
(if a4 ≤ y6_6 then
some y4_6
else
(Option.bind (f_X4_placeOf a1 (a2 + y6_6)) fun r8 =>
(jlet (y4_6 ||| ((((1 : Int64) <<< (a3.toInt64 &&& 63)) - (1 : Int64)) <<< (r8.toInt64 &&& 63))) fun x9 =>
(jlet (y6_6 + (1)) fun x10 =>
rec6 x9 x10))))
def f_X1_blockCells_L6 (a1 : Int32) (a2 : Int32) (a3 : Int32) (a4 : Int32) : Nat → (Int64) → (Int32) → Option (Int64)
  | 0, _, _ => none
  | n + 1, y4_6, y6_6 => f_X1_blockCells_L6_b a1 a2 a3 a4 (f_X1_blockCells_L6 a1 a2 a3 a4 n) y4_6 y6_6
def f_X1_blockCells (a1 : Int32) (a2 : Int32) (a3 : Int32) (a4 : Int32) : Option (Int64) :=
(Option.bind (f_X1_blockCells_L6 a1 a2 a3 a4 4096 (0 : Int64) (0 : Int32)) fun o7 =>
some o7)

def f_X1_pondCell (μ : GS) : Option (Int64) :=
some ((1 : Int64) <<< ((g_pond μ).toInt64 &&& 63))

def f_X1_freeCells (μ : GS) : Option (Int64) :=
(Option.bind (f_X1_blockCells (0 : Int32) (0 : Int32) (g_wide μ) (g_high μ)) fun r1 =>
(Option.bind (f_X1_pondCell μ) fun r2 =>
some (r1 &&& ((((g_walls μ) ||| (g_paved μ)) ||| r2) ^^^ (-1 : Int64)))))

def f_J13_bitCount_95d88 (a1 : Int64) : Option (Int32) :=
(jlet (a1 - (((a1.toUInt64 >>> ((1 : Int32).toInt64.toUInt64 &&& Int64.toUInt64 63)).toInt64) &&& (6148914691236517205 : Int64))) fun x1 =>
(jlet ((x1 &&& (3689348814741910323 : Int64)) + (((x1.toUInt64 >>> ((2 : Int32).toInt64.toUInt64 &&& Int64.toUInt64 63)).toInt64) &&& (3689348814741910323 : Int64))) fun x2 =>
(jlet ((x2 + ((x2.toUInt64 >>> ((4 : Int32).toInt64.toUInt64 &&& Int64.toUInt64 63)).toInt64)) &&& (1085102592571150095 : Int64)) fun x3 =>
(jlet (x3 + ((x3.toUInt64 >>> ((8 : Int32).toInt64.toUInt64 &&& Int64.toUInt64 63)).toInt64)) fun x4 =>
(jlet (x4 + ((x4.toUInt64 >>> ((16 : Int32).toInt64.toUInt64 &&& Int64.toUInt64 63)).toInt64)) fun x5 =>
(jlet (x5 + ((x5.toUInt64 >>> ((32 : Int32).toInt64.toUInt64 &&& Int64.toUInt64 63)).toInt64)) fun x6 =>
some (x6.toInt32 &&& (127 : Int32))))))))

def f_X6_windowAt (μ : RES) (a1 : Int32) : Option (Int32) :=
(if a1 < 0 then
some (0 : Int32)
else
(if (512 : Int32) ≤ a1 then
some (0 : Int32)
else
(Option.bind (jld 512 (re_win μ) a1) fun v1 =>
some v1)))

def f_X6_clear_L2_b (μ : RES) (rec2 : (Int32) → (Nat → Int32) → Option ((Nat → Int32))) (y1_2 : Int32) (way_2 : Nat → Int32) : Option ((Nat → Int32)) :=
(if (re_size μ) ≤ y1_2 then
some way_2
else
(Option.bind (f_X6_windowAt (re_way' μ way_2) y1_2) fun r8 =>
(Option.bind (jst 512 way_2 r8 (0 : Int32)) fun f9 =>
(jlet (y1_2 + (1)) fun x10 =>
rec2 x10 f9))))
def f_X6_clear_L2 (μ : RES) : Nat → (Int32) → (Nat → Int32) → Option ((Nat → Int32))
  | 0, _, _ => none
  | n + 1, y1_2, way_2 => f_X6_clear_L2_b μ (f_X6_clear_L2 μ n) y1_2 way_2
def f_X6_clear (μ : RES) : Option ((Int32) × (Nat → Int32)) :=
(Option.bind (f_X6_clear_L2 μ 4096 (0 : Int32) (re_way μ)) fun o7 =>
some ((0 : Int32), o7))

def f_X6_add (μ : RES) (a1 : Int32) (a2 : Int32) : Option ((Int32) × (Nat → Int32) × (Nat → Int32)) :=
(if a1 < 0 then
some ((re_size μ), (re_win μ), (re_way μ))
else
(if a1 < (512 : Int32) then
(Option.bind (jld 512 (re_way μ) a1) fun v1 =>
(Option.bind (if v1 = 0 then
(if (512 : Int32) ≤ (re_size μ) then
some ((re_size μ), (re_win μ))
else
(Option.bind (jst 512 (re_win μ) (re_size μ) a1) fun f5 =>
(jlet ((re_size μ) + (1 : Int32)) fun x6 =>
some (x6, f5))))
else
some ((re_size μ), (re_win μ))) fun o4 =>
(Option.bind (jld 512 (re_way μ) a1) fun v7 =>
(Option.bind (jst 512 (re_way μ) a1 (v7 + a2)) fun f8 =>
some (o4.1, o4.2, f8)))))
else
some ((re_size μ), (re_win μ), (re_way μ))))

def f_X2_begin (μ : VS) : Option ((Int32) × (Nat → Int32) × (Nat → Int32)) :=
(Option.bind (f_X6_clear ((v_hsz μ), (v_hwin μ), (v_hway μ))) fun r1 =>
(Option.bind (f_X6_add (r1.1, (v_hwin μ), r1.2) (0 : Int32) (1 : Int32)) fun r2 =>
some (r2.1, r2.2.1, r2.2.2)))

def f_J6_numberOfLeadingZeros_0f7a4 (a1 : Int32) : Option (Int32) :=
(if 0 < a1 then
(Option.bind (if a1 < (65536 : Int32) then
some (a1, (31 : Int32))
else
(jlet ((31 : Int32) + (-16)) fun x4 =>
(jlet ((a1.toUInt32 >>> ((16 : Int32).toUInt32 &&& Int32.toUInt32 31)).toInt32) fun x5 =>
some (x5, x4)))) fun o3 =>
(Option.bind (if o3.1 < (256 : Int32) then
some (o3.1, o3.2)
else
(jlet (o3.2 + (-8)) fun x9 =>
(jlet ((o3.1.toUInt32 >>> ((8 : Int32).toUInt32 &&& Int32.toUInt32 31)).toInt32) fun x10 =>
some (x10, x9)))) fun o8 =>
(Option.bind (if o8.1 < (16 : Int32) then
some (o8.1, o8.2)
else
(jlet (o8.2 + (-4)) fun x14 =>
(jlet ((o8.1.toUInt32 >>> ((4 : Int32).toUInt32 &&& Int32.toUInt32 31)).toInt32) fun x15 =>
some (x15, x14)))) fun o13 =>
(Option.bind (if o13.1 < (4 : Int32) then
some (o13.1, o13.2)
else
(jlet (o13.2 + (-2)) fun x19 =>
(jlet ((o13.1.toUInt32 >>> ((2 : Int32).toUInt32 &&& Int32.toUInt32 31)).toInt32) fun x20 =>
some (x20, x19)))) fun o18 =>
some (o18.2 - ((o18.1.toUInt32 >>> ((1 : Int32).toUInt32 &&& Int32.toUInt32 31)).toInt32))))))
else
(if a1 = 0 then
some (32 : Int32)
else
some (0 : Int32)))

def f_J13_numberOfLeadingZeros_95d88 (a1 : Int64) : Option (Int32) :=
(jlet (((a1.toUInt64 >>> ((32 : Int32).toInt64.toUInt64 &&& Int64.toUInt64 63)).toInt64).toInt32) fun x1 =>
(if x1 = 0 then
(Option.bind (f_J6_numberOfLeadingZeros_0f7a4 a1.toInt32) fun r3 =>
some ((32 : Int32) + r3))
else
(Option.bind (f_J6_numberOfLeadingZeros_0f7a4 x1) fun r2 =>
some r2)))

def f_X2_endOf (a1 : Int64) : Option (Int32) :=
(Option.bind (f_J13_numberOfLeadingZeros_95d88 a1) fun r1 =>
some ((64 : Int32) - r1))

def f_J6_numberOfTrailingZeros_0f7a4 (a1 : Int32) : Option (Int32) :=
(jlet ((a1 ^^^ (-1 : Int32)) &&& (a1 - (1 : Int32))) fun x1 =>
(if 0 < x1 then
(Option.bind (if x1 ≤ (65536 : Int32) then
some (x1, (1 : Int32))
else
(jlet ((1 : Int32) + (16)) fun x5 =>
(jlet ((x1.toUInt32 >>> ((16 : Int32).toUInt32 &&& Int32.toUInt32 31)).toInt32) fun x6 =>
some (x6, x5)))) fun o4 =>
(Option.bind (if o4.1 ≤ (256 : Int32) then
some (o4.1, o4.2)
else
(jlet (o4.2 + (8)) fun x10 =>
(jlet ((o4.1.toUInt32 >>> ((8 : Int32).toUInt32 &&& Int32.toUInt32 31)).toInt32) fun x11 =>
some (x11, x10)))) fun o9 =>
(Option.bind (if o9.1 ≤ (16 : Int32) then
some (o9.1, o9.2)
else
(jlet (o9.2 + (4)) fun x15 =>
(jlet ((o9.1.toUInt32 >>> ((4 : Int32).toUInt32 &&& Int32.toUInt32 31)).toInt32) fun x16 =>
some (x16, x15)))) fun o14 =>
(Option.bind (if o14.1 ≤ (4 : Int32) then
some (o14.1, o14.2)
else
(jlet (o14.2 + (2)) fun x20 =>
(jlet ((o14.1.toUInt32 >>> ((2 : Int32).toUInt32 &&& Int32.toUInt32 31)).toInt32) fun x21 =>
some (x21, x20)))) fun o19 =>
some (o19.2 + ((o19.1.toUInt32 >>> ((1 : Int32).toUInt32 &&& Int32.toUInt32 31)).toInt32))))))
else
some (x1 &&& (32 : Int32))))

def f_J13_numberOfTrailingZeros_95d88 (a1 : Int64) : Option (Int32) :=
(if a1.toInt32 = 0 then
(Option.bind (f_J6_numberOfTrailingZeros_0f7a4 (((a1.toUInt64 >>> ((32 : Int32).toInt64.toUInt64 &&& Int64.toUInt64 63)).toInt64).toInt32)) fun r2 =>
some ((32 : Int32) + r2))
else
(Option.bind (f_J6_numberOfTrailingZeros_0f7a4 a1.toInt32) fun r1 =>
some r1))

def f_X4_holds (a1 : Int64) (a2 : Int32) : Option (Int32) :=
(if (lg_cmp (((a1.toUInt64 >>> (a2.toInt64.toUInt64 &&& Int64.toUInt64 63)).toInt64) &&& (1 : Int64)) (0 : Int64)) = 0 then
some (0 : Int32)
else
some (1 : Int32))

def f_X2_blockColumn (a1 : Int32) (a2 : Int32) : Option (Int32) :=
(if a2 = 0 then
some ((a1 - a1 / (8 : Int32) * (8 : Int32)) - (1 : Int32))
else
some (a1 - a1 / (8 : Int32) * (8 : Int32)))

def f_X4_cellsOf (a1 : Int32) (a2 : Int32) (a3 : Int32) : Option (Int64) :=
(if a1 < 0 then
some (0 : Int64)
else
(if (6 : Int32) < a1 then
some (0 : Int64)
else
(if a2 < 0 then
some (0 : Int64)
else
(if (6 : Int32) < a2 then
some (0 : Int64)
else
(if a3 < 0 then
some (0 : Int64)
else
(if a3 < (4 : Int32) then
(Option.bind (jld 4 shp a3) fun v1 =>
some (v1 <<< ((((8 : Int32) * a2) + a1).toInt64 &&& 63)))
else
some (0 : Int64)))))))

def f_X2_findTakes_L3_b (a1 : Int64) (a2 : Int32) (rec3 : (Int32) → (Nat → Int32) → Option ((Nat → Int32))) (y4_3 : Int32) (takes_3 : Nat → Int32) : Option ((Nat → Int32)) :=
(if (4 : Int32) ≤ y4_3 then
some takes_3
else
(Option.bind (f_X2_blockColumn a2 y4_3) fun r14 =>
(Option.bind (f_X4_cellsOf r14 (a2 / (8 : Int32)) y4_3) fun r15 =>
(Option.bind (if (lg_cmp (r15 &&& (a1 ^^^ (-1 : Int64))) (0 : Int64)) = 0 then
some (1 : Int32)
else
some (0 : Int32)) fun o16 =>
(Option.bind (if o16 = 0 then
some (0 : Int32)
else
some (((r15.toUInt64 >>> (a2.toInt64.toUInt64 &&& Int64.toUInt64 63)).toInt64).toInt32)) fun o17 =>
(Option.bind (jst 4 takes_3 y4_3 o17) fun f18 =>
(jlet (y4_3 + (1)) fun x19 =>
rec3 x19 f18)))))))
def f_X2_findTakes_L3 (a1 : Int64) (a2 : Int32) : Nat → (Int32) → (Nat → Int32) → Option ((Nat → Int32))
  | 0, _, _ => none
  | n + 1, y4_3, takes_3 => f_X2_findTakes_L3_b a1 a2 (f_X2_findTakes_L3 a1 a2 n) y4_3 takes_3
def f_X2_findTakes (μ : PS) (a1 : Int64) (a2 : Int32) : Option ((Nat → Int32)) :=
(Option.bind (f_X2_findTakes_L3 a1 a2 4096 (0 : Int32) (p_takes μ)) fun o13 =>
some o13)

def f_X2_isOpen (μ : PS) (a1 : Int32) (a2 : Int32) : Option (Int32) :=
(Option.bind (jld 4 (p_takes μ) a1) fun v1 =>
(if v1 = 0 then
some (0 : Int32)
else
(Option.bind (jld 4 (p_takes μ) a1) fun v2 =>
(if (v2 &&& a2) = 0 then
some (1 : Int32)
else
some (0 : Int32)))))

def f_X2_windowAfter (μ : PS) (a1 : Int32) (a2 : Int32) : Option (Int32) :=
(Option.bind (jld 4 (p_takes μ) a1) fun v1 =>
some (((v1 ||| a2) >>> ((1 : Int32) &&& 31)) &&& (511 : Int32)))

def f_X6_waysTo (μ : RES) (a1 : Int32) : Option (Int32) :=
(if a1 < 0 then
some (0 : Int32)
else
(if (512 : Int32) ≤ a1 then
some (0 : Int32)
else
(Option.bind (jld 512 (re_way μ) a1) fun v1 =>
some v1)))

def f_X2_goOnByTurns_L2_b (a1 : Int32) (μ : VS) (rec2 : (Int32) → (Int32) → (Nat → Int32) → (Nat → Int32) → Option ((Int32) × (Nat → Int32) × (Nat → Int32))) (y2_2 : Int32) (nsz_2 : Int32) (nwin_2 : Nat → Int32) (nway_2 : Nat → Int32) : Option ((Int32) × (Nat → Int32) × (Nat → Int32)) :=
(if (4 : Int32) ≤ y2_2 then
some (nsz_2, nwin_2, nway_2)
else
(Option.bind (f_X2_isOpen ((v_takes μ), (v_u1 μ), (v_u2 μ)) y2_2 a1) fun r20 =>
(Option.bind (if r20 = 0 then
some (nsz_2, nwin_2, nway_2)
else
(Option.bind (f_X2_windowAfter ((v_takes μ), (v_u1 μ), (v_u2 μ)) y2_2 a1) fun r25 =>
(Option.bind (f_X6_waysTo ((v_hsz μ), (v_hwin μ), (v_hway μ)) a1) fun r26 =>
(Option.bind (f_X6_add (nsz_2, nwin_2, nway_2) r25 r26) fun r27 =>
some (r27.1, r27.2.1, r27.2.2))))) fun o24 =>
(jlet (y2_2 + (1)) fun x28 =>
rec2 x28 o24.1 o24.2.1 o24.2.2))))
def f_X2_goOnByTurns_L2 (a1 : Int32) (μ : VS) : Nat → (Int32) → (Int32) → (Nat → Int32) → (Nat → Int32) → Option ((Int32) × (Nat → Int32) × (Nat → Int32))
  | 0, _, _, _, _ => none
  | n + 1, y2_2, nsz_2, nwin_2, nway_2 => f_X2_goOnByTurns_L2_b a1 μ (f_X2_goOnByTurns_L2 a1 μ n) y2_2 nsz_2 nwin_2 nway_2
def f_X2_goOnByTurns (μ : VS) (a1 : Int32) : Option ((Int32) × (Nat → Int32) × (Nat → Int32)) :=
(Option.bind (f_X2_goOnByTurns_L2 a1 μ 4096 (0 : Int32) (v_nsz μ) (v_nwin μ) (v_nway μ)) fun o19 =>
some (o19.1, o19.2.1, o19.2.2))

def f_X2_goOn_L28_b (μ : VS) (r1 : Int32) (o3 : (Nat → Int32)) (rec28 : (Int32) → (Int32) → (Nat → Int32) → (Nat → Int32) → Option ((Int32) × (Nat → Int32) × (Nat → Int32))) (y5_28 : Int32) (nsz_28 : Int32) (nwin_28 : Nat → Int32) (nway_28 : Nat → Int32) : Option ((Int32) × (Nat → Int32) × (Nat → Int32)) :=
(if (v_hsz μ) ≤ y5_28 then
some (nsz_28, nwin_28, nway_28)
else
(Option.bind (f_X6_windowAt ((v_hsz μ), (v_hwin μ), (v_hway μ)) y5_28) fun r33 =>
(Option.bind (if r1 = 0 then
(Option.bind (f_X6_waysTo ((v_hsz μ), (v_hwin μ), (v_hway μ)) r33) fun r40 =>
(Option.bind (f_X6_add (nsz_28, nwin_28, nway_28) (r33 >>> ((1 : Int32) &&& 31)) r40) fun r41 =>
some (r41.1, r41.2.1, r41.2.2)))
else
(if (r33 &&& (1 : Int32)) = 0 then
(Option.bind (f_X2_goOnByTurns (v_rest μ, o3, v_u1 μ, v_u2 μ, v_hsz μ, v_hwin μ, v_hway μ, nsz_28, nwin_28, nway_28) r33) fun r44 =>
some (r44.1, r44.2.1, r44.2.2))
else
(Option.bind (f_X6_waysTo ((v_hsz μ), (v_hwin μ), (v_hway μ)) r33) fun r42 =>
(Option.bind (f_X6_add (nsz_28, nwin_28, nway_28) (r33 >>> ((1 : Int32) &&& 31)) r42) fun r43 =>
some (r43.1, r43.2.1, r43.2.2))))) fun o39 =>
(jlet (y5_28 + (1)) fun x45 =>
rec28 x45 o39.1 o39.2.1 o39.2.2))))
def f_X2_goOn_L28 (μ : VS) (r1 : Int32) (o3 : (Nat → Int32)) : Nat → (Int32) → (Int32) → (Nat → Int32) → (Nat → Int32) → Option ((Int32) × (Nat → Int32) × (Nat → Int32))
  | 0, _, _, _, _ => none
  | n + 1, y5_28, nsz_28, nwin_28, nway_28 => f_X2_goOn_L28_b μ r1 o3 (f_X2_goOn_L28 μ r1 o3 n) y5_28 nsz_28 nwin_28 nway_28
def f_X2_goOn (μ : VS) (a1 : Int64) (a2 : Int32) : Option ((Nat → Int32) × (Nat → Nat) × (Nat → Nat) × (Int32) × (Nat → Int32) × (Nat → Int32) × (Int32) × (Nat → Int32) × (Nat → Int32)) :=
(Option.bind (f_X4_holds a1 a2) fun r1 =>
(Option.bind (if r1 = 0 then
some (v_takes μ)
else
(Option.bind (f_X2_findTakes ((v_takes μ), (v_u1 μ), (v_u2 μ)) a1 a2) fun r4 =>
some r4)) fun o3 =>
(Option.bind (f_X6_clear ((v_nsz μ), (v_nwin μ), (v_nway μ))) fun r5 =>
(Option.bind (f_X2_goOn_L28 μ r1 o3 4096 (0 : Int32) r5.1 (v_nwin μ) r5.2) fun o32 =>
some (o3, (v_u2 μ), (v_u1 μ), o32.1, o32.2.1, o32.2.2, (v_hsz μ), (v_hwin μ), (v_hway μ))))))

def f_X2_waysToPave_L26_b (a1 : Int64) (μ : VS) (r3 : Int32) (rec26 : (Int32) → (Nat → Int32) → (Nat → Nat) → (Nat → Nat) → (Int32) → (Nat → Int32) → (Nat → Int32) → (Int32) → (Nat → Int32) → (Nat → Int32) → Option ((Nat → Int32) × (Nat → Nat) × (Nat → Nat) × (Int32) × (Nat → Int32) × (Nat → Int32) × (Int32) × (Nat → Int32) × (Nat → Int32))) (y4_26 : Int32) (takes_26 : Nat → Int32) (u1_26 : Nat → Nat) (u2_26 : Nat → Nat) (hsz_26 : Int32) (hwin_26 : Nat → Int32) (hway_26 : Nat → Int32) (nsz_26 : Int32) (nwin_26 : Nat → Int32) (nway_26 : Nat → Int32) : Option ((Nat → Int32) × (Nat → Nat) × (Nat → Nat) × (Int32) × (Nat → Int32) × (Nat → Int32) × (Int32) × (Nat → Int32) × (Nat → Int32)) :=
(if r3 ≤ y4_26 then
some (takes_26, u1_26, u2_26, hsz_26, hwin_26, hway_26, nsz_26, nwin_26, nway_26)
else
(Option.bind (f_X2_goOn (v_rest μ, takes_26, u1_26, u2_26, hsz_26, hwin_26, hway_26, nsz_26, nwin_26, nway_26) a1 y4_26) fun r10 =>
(jlet (y4_26 + (1)) fun x11 =>
rec26 x11 r10.1 r10.2.1 r10.2.2.1 r10.2.2.2.1 r10.2.2.2.2.1 r10.2.2.2.2.2.1 r10.2.2.2.2.2.2.1 r10.2.2.2.2.2.2.2.1 r10.2.2.2.2.2.2.2.2)))
def f_X2_waysToPave_L26 (a1 : Int64) (μ : VS) (r3 : Int32) : Nat → (Int32) → (Nat → Int32) → (Nat → Nat) → (Nat → Nat) → (Int32) → (Nat → Int32) → (Nat → Int32) → (Int32) → (Nat → Int32) → (Nat → Int32) → Option ((Nat → Int32) × (Nat → Nat) × (Nat → Nat) × (Int32) × (Nat → Int32) × (Nat → Int32) × (Int32) × (Nat → Int32) × (Nat → Int32))
  | 0, _, _, _, _, _, _, _, _, _, _ => none
  | n + 1, y4_26, takes_26, u1_26, u2_26, hsz_26, hwin_26, hway_26, nsz_26, nwin_26, nway_26 => f_X2_waysToPave_L26_b a1 μ r3 (f_X2_waysToPave_L26 a1 μ r3 n) y4_26 takes_26 u1_26 u2_26 hsz_26 hwin_26 hway_26 nsz_26 nwin_26 nway_26
def f_X2_waysToPave (μ : VS) (a1 : Int64) : Option (Int32 × (Nat → Int32) × (Nat → Nat) × (Nat → Nat) × (Int32) × (Nat → Int32) × (Nat → Int32) × (Int32) × (Nat → Int32) × (Nat → Int32)) :=
(Option.bind (f_J13_bitCount_95d88 a1) fun r1 =>
(if (r1 - r1 / (3 : Int32) * (3 : Int32)) = 0 then
(Option.bind (f_X2_begin μ) fun r2 =>
(Option.bind (f_X2_endOf a1) fun r3 =>
(Option.bind (f_J13_numberOfTrailingZeros_95d88 a1) fun r4 =>
(Option.bind (f_X2_waysToPave_L26 a1 μ r3 4096 r4 (v_takes μ) (v_u1 μ) (v_u2 μ) r2.1 r2.2.1 r2.2.2 (v_nsz μ) (v_nwin μ) (v_nway μ)) fun o9 =>
(Option.bind (f_X6_waysTo (o9.2.2.2.1, o9.2.2.2.2.1, o9.2.2.2.2.2.1) (0 : Int32)) fun r12 =>
some (r12, o9.1, o9.2.1, o9.2.2.1, o9.2.2.2.1, o9.2.2.2.2.1, o9.2.2.2.2.2.1, o9.2.2.2.2.2.2.1, o9.2.2.2.2.2.2.2.1, o9.2.2.2.2.2.2.2.2))))))
else
some ((0 : Int32), (v_takes μ), (v_u1 μ), (v_u2 μ), (v_hsz μ), (v_hwin μ), (v_hway μ), (v_nsz μ), (v_nwin μ), (v_nway μ))))

def f_X1_coverX (a1 : Int32) (a2 : Int32) : Option (Int32) :=
some ((a1 - a1 / (8 : Int32) * (8 : Int32)) - (a2 - a2 / (2 : Int32) * (2 : Int32)))

def f_X1_coverY (a1 : Int32) (a2 : Int32) : Option (Int32) :=
some ((a1 / (8 : Int32)) - ((a2 / (2 : Int32)) - (a2 / (2 : Int32)) / (2 : Int32) * (2 : Int32)))

def f_X1_hasBlock (μ : GS) (a1 : Int32) (a2 : Int32) (a3 : Int32) (a4 : Int32) : Option (Int32) :=
(if a1 < 0 then
some (0 : Int32)
else
(if a2 < 0 then
some (0 : Int32)
else
(if ((g_wide μ) - a3) < a1 then
some (0 : Int32)
else
(if ((g_high μ) - a4) < a2 then
some (0 : Int32)
else
some (1 : Int32)))))

def f_X1_whyRefused (μ : GS) (a1 : Int32) (a2 : Int32) (a3 : Int32) : Option (Int32) :=
(Option.bind (f_X1_hasBlock μ a1 a2 (2 : Int32) (2 : Int32)) fun r1 =>
(if r1 = 0 then
some (1 : Int32)
else
(Option.bind (f_X4_cellsOf a1 a2 a3) fun r2 =>
(Option.bind (f_X1_pondCell μ) fun r3 =>
(if (lg_cmp (r2 &&& r3) (0 : Int64)) = 0 then
(if (lg_cmp (r2 &&& (g_walls μ)) (0 : Int64)) = 0 then
(if (lg_cmp (r2 &&& (g_paved μ)) (0 : Int64)) = 0 then
some (0 : Int32)
else
some (4 : Int32))
else
some (3 : Int32))
else
some (2 : Int32))))))

def f_X1_couldCover (μ : GS) (a1 : Int32) (a2 : Int32) : Option (Int32) :=
(Option.bind (f_X1_coverX a1 a2) fun r1 =>
(Option.bind (f_X1_coverY a1 a2) fun r2 =>
(jlet (a2 / (4 : Int32)) fun x3 =>
(Option.bind (f_X1_whyRefused μ r1 r2 x3) fun r4 =>
(if r4 = 0 then
(Option.bind (f_X4_cellsOf r1 r2 x3) fun r5 =>
(Option.bind (f_X4_holds r5 a1) fun r6 =>
(if r6 = 0 then
some (0 : Int32)
else
some (1 : Int32))))
else
some (0 : Int32))))))

def f_X1_coverCount_L4_b (a1 : Int32) (μ : GS) (rec4 : (Int32) → (Int32) → Option (Int32)) (y2_4 : Int32) (y3_4 : Int32) : Option (Int32) :=
(if (16 : Int32) ≤ y3_4 then
some y2_4
else
(Option.bind (f_X1_couldCover μ a1 y3_4) fun r10 =>
(Option.bind (if r10 = 0 then
some (0 : Int32)
else
some (1 : Int32)) fun o11 =>
(jlet (y2_4 + o11) fun x12 =>
(jlet (y3_4 + (1)) fun x13 =>
rec4 x12 x13)))))
def f_X1_coverCount_L4 (a1 : Int32) (μ : GS) : Nat → (Int32) → (Int32) → Option (Int32)
  | 0, _, _ => none
  | n + 1, y2_4, y3_4 => f_X1_coverCount_L4_b a1 μ (f_X1_coverCount_L4 a1 μ n) y2_4 y3_4
def f_X1_coverCount (μ : GS) (a1 : Int32) : Option (Int32) :=
(Option.bind (f_X1_coverCount_L4 a1 μ 4096 (0 : Int32) (0 : Int32)) fun o9 =>
some o9)

def f_X1_firstFreeWith_L8_b (a1 : Int32) (μ : GS) (r1 : Int64) (rec8 : (Int32) → Option ((Unit) ⊕ (Int32))) (y4_8 : Int32) : Option ((Unit) ⊕ (Int32)) :=
(if (64 : Int32) ≤ y4_8 then
some (.inl ())
else
(Option.bind (f_X4_holds r1 y4_8) fun r11 =>
(if r11 = 0 then
(jlet (y4_8 + (1)) fun x12 =>
rec8 x12)
else
(Option.bind (f_X1_coverCount μ y4_8) fun r13 =>
(if r13 = a1 then
some (.inr y4_8)
else
(jlet (y4_8 + (1)) fun x14 =>
rec8 x14))))))
def f_X1_firstFreeWith_L8 (a1 : Int32) (μ : GS) (r1 : Int64) : Nat → (Int32) → Option ((Unit) ⊕ (Int32))
  | 0, _ => none
  | n + 1, y4_8 => f_X1_firstFreeWith_L8_b a1 μ r1 (f_X1_firstFreeWith_L8 a1 μ r1 n) y4_8
def f_X1_firstFreeWith (μ : GS) (a1 : Int32) : Option (Int32) :=
(Option.bind (f_X1_freeCells μ) fun r1 =>
(Option.bind (f_X1_firstFreeWith_L8 a1 μ r1 4096 (0 : Int32)) fun o10 => Sum.elim (fun o10l =>
some (-1 : Int32)) (fun r9 => some r9) o10))

def f_X4_cellName (a1 : Int32) : Option (Int32) :=
some ((a1 - a1 / (8 : Int32) * (8 : Int32)) + ((10 : Int32) * (a1 / (8 : Int32))))

def f_X2_restOf (μ : VS) (a1 : Int32) : Option (Nat) :=
(Option.bind (jix 65 (if (0 : Int32) < (if (64 : Int32) < a1 then (64 : Int32) else a1) then (if (64 : Int32) < a1 then (64 : Int32) else a1) else (0 : Int32))) fun k1 =>
some k1)

theorem lt_X2_restOf {μ : VS} {a : Int32} {k : Nat} (h : f_X2_restOf μ a = some k) : k < 65 := by
  unfold f_X2_restOf at h
  obtain ⟨k1, e1, h⟩ := obind h
  exact Option.some.inj h ▸ jix_lt e1

def f_J7_fill_53178_L5_b (a2 : Int32) (rec5 : (Int32) → (Nat → Int32) → Option ((Nat → Int32))) (y2_5 : Int32) (arr_5 : Nat → Int32) : Option ((Nat → Int32)) :=
(if (512 : Int32) ≤ y2_5 then
some arr_5
else
(Option.bind (jst 512 arr_5 y2_5 a2) fun f6 =>
(jlet (y2_5 + (1)) fun x7 =>
rec5 x7 f6)))
def f_J7_fill_53178_L5 (a2 : Int32) : Nat → (Int32) → (Nat → Int32) → Option ((Nat → Int32))
  | 0, _, _ => none
  | n + 1, y2_5, arr_5 => f_J7_fill_53178_L5_b a2 (f_J7_fill_53178_L5 a2 n) y2_5 arr_5
def f_J7_fill_53178 (μ : FS) (a2 : Int32) : Option ((Nat → Int32)) :=
(Option.bind (f_J7_fill_53178_L5 a2 4096 (0 : Int32) μ) fun o5 =>
some o5)

def f_X2_countTurns_L5_b (a1 : Int32) (μ : PNS) (rec5 : (Int32) → (Int32) → Option (Int32)) (y3_5 : Int32) (y4_5 : Int32) : Option (Int32) :=
(if (4 : Int32) ≤ y4_5 then
some y3_5
else
(Option.bind (f_X2_isOpen ((pn_takes μ), (pn_u1 μ), (pn_u2 μ)) y4_5 a1) fun r20 =>
(Option.bind (if r20 = 0 then
some y3_5
else
(Option.bind (f_X2_windowAfter ((pn_takes μ), (pn_u1 μ), (pn_u2 μ)) y4_5 a1) fun r25 =>
(Option.bind (jld 512 (pn_nx μ) r25) fun v26 =>
(jlet (y3_5 + v26) fun x27 =>
some x27)))) fun o24 =>
(jlet (y4_5 + (1)) fun x28 =>
rec5 o24 x28))))
def f_X2_countTurns_L5 (a1 : Int32) (μ : PNS) : Nat → (Int32) → (Int32) → Option (Int32)
  | 0, _, _ => none
  | n + 1, y3_5, y4_5 => f_X2_countTurns_L5_b a1 μ (f_X2_countTurns_L5 a1 μ n) y3_5 y4_5
def f_X2_countTurns (μ : PNS) (a1 : Int32) : Option (Int32) :=
(Option.bind (f_X2_countTurns_L5 a1 μ 4096 (0 : Int32) (0 : Int32)) fun o19 =>
some o19)

def f_X2_countPlace_L3_b (a1 : Int32) (μ : PHS) (rec3 : (Int32) → (Nat → Int32) → Option ((Nat → Int32))) (y4_3 : Int32) (hr_3 : Nat → Int32) : Option ((Nat → Int32)) :=
(if (512 : Int32) ≤ y4_3 then
some hr_3
else
(Option.bind (if a1 = 0 then
(Option.bind (jld 512 (ph_nx μ) (y4_3 >>> ((1 : Int32) &&& 31))) fun v37 =>
(Option.bind (jst 512 hr_3 y4_3 v37) fun f38 =>
some f38))
else
(if (y4_3 &&& (1 : Int32)) = 0 then
(Option.bind (f_X2_countTurns ((ph_takes μ), (ph_u1 μ), (ph_u2 μ), (ph_nx μ)) y4_3) fun r41 =>
(Option.bind (jst 512 hr_3 y4_3 r41) fun f42 =>
some f42))
else
(Option.bind (jld 512 (ph_nx μ) (y4_3 >>> ((1 : Int32) &&& 31))) fun v39 =>
(Option.bind (jst 512 hr_3 y4_3 v39) fun f40 =>
some f40)))) fun o36 =>
(jlet (y4_3 + (1)) fun x43 =>
rec3 x43 o36)))
def f_X2_countPlace_L3 (a1 : Int32) (μ : PHS) : Nat → (Int32) → (Nat → Int32) → Option ((Nat → Int32))
  | 0, _, _ => none
  | n + 1, y4_3, hr_3 => f_X2_countPlace_L3_b a1 μ (f_X2_countPlace_L3 a1 μ n) y4_3 hr_3
def f_X2_countPlace (μ : PHS) (a1 : Int32) : Option ((Nat → Int32)) :=
(Option.bind (f_X2_countPlace_L3 a1 μ 4096 (0 : Int32) (ph_hr μ)) fun o29 =>
some o29)

def f_X2_countRest_L28_b (a1 : Int64) (μ : VS) (rec28 : (Int32) → (Nat → Nat → Int32) → (Nat → Int32) → Option ((Nat → Nat → Int32) × (Nat → Int32))) (y5_28 : Int32) (rest_28 : Nat → Nat → Int32) (takes_28 : Nat → Int32) : Option ((Nat → Nat → Int32) × (Nat → Int32)) :=
(if y5_28 < 0 then
some (rest_28, takes_28)
else
(Option.bind (f_X2_findTakes (takes_28, (v_u1 μ), (v_u2 μ)) a1 y5_28) fun r21 =>
(Option.bind (f_X4_holds a1 y5_28) fun r22 =>
(Option.bind (f_X2_restOf (v_takes' (v_rest' μ rest_28) r21) y5_28) fun r23 =>
(Option.bind (f_X2_restOf (v_takes' (v_rest' μ rest_28) r21) (y5_28 + (1 : Int32))) fun r24 =>
(if r23 = r24 then none else
(Option.bind (f_X2_countPlace (r21, (v_u1 μ), (v_u2 μ), rest_28 r23, rest_28 r24) r22) fun r25 =>
(jlet (y5_28 + (-1)) fun x27 =>
rec28 x27 (va_up rest_28 r23 r25) r21))))))))
def f_X2_countRest_L28 (a1 : Int64) (μ : VS) : Nat → (Int32) → (Nat → Nat → Int32) → (Nat → Int32) → Option ((Nat → Nat → Int32) × (Nat → Int32))
  | 0, _, _, _ => none
  | n + 1, y5_28, rest_28, takes_28 => f_X2_countRest_L28_b a1 μ (f_X2_countRest_L28 a1 μ n) y5_28 rest_28 takes_28
def f_X2_countRest (μ : VS) (a1 : Int64) : Option ((Nat → Nat → Int32) × (Nat → Int32)) :=
(Option.bind (f_X2_endOf a1) fun r1 =>
(Option.bind (f_X2_restOf μ r1) fun r2 =>
(Option.bind (f_J7_fill_53178 ((v_rest μ) r2) (0 : Int32)) fun r3 =>
(Option.bind (jst 512 ((va_up (v_rest μ) r2 r3) r2) (0 : Int32) (1 : Int32)) fun f4 =>
(jlet (r1 - (1 : Int32)) fun x5 =>
(Option.bind (f_X2_countRest_L28 a1 μ 4096 x5 (va_up (va_up (v_rest μ) r2 r3) r2 f4) (v_takes μ)) fun o20 =>
some (o20.1, o20.2)))))))

def f_X2_restFrom (μ : VS) (a1 : Int32) (a2 : Int32) : Option (Int32) :=
(if a2 < 0 then
some (0 : Int32)
else
(if (512 : Int32) ≤ a2 then
some (0 : Int32)
else
(Option.bind (f_X2_restOf μ a1) fun r1 =>
(Option.bind (jld 512 ((v_rest μ) r1) a2) fun v2 =>
some v2))))

def f_X2_waysAround_L4_b (a1 : Int32) (μ : VS) (rec4 : (Int32) → (Int32) → Option (Int32)) (y2_4 : Int32) (y3_4 : Int32) : Option (Int32) :=
(if (v_hsz μ) ≤ y3_4 then
some y2_4
else
(Option.bind (f_X6_windowAt ((v_hsz μ), (v_hwin μ), (v_hway μ)) y3_4) fun r20 =>
(Option.bind (if (r20 &&& (1 : Int32)) = 0 then
(Option.bind (f_X6_waysTo ((v_hsz μ), (v_hwin μ), (v_hway μ)) r20) fun r25 =>
(Option.bind (f_X2_restFrom μ (a1 + (1 : Int32)) (r20 >>> ((1 : Int32) &&& 31))) fun r26 =>
(jlet (y2_4 + (r25 * r26)) fun x27 =>
some x27)))
else
some y2_4) fun o24 =>
(jlet (y3_4 + (1)) fun x28 =>
rec4 o24 x28))))
def f_X2_waysAround_L4 (a1 : Int32) (μ : VS) : Nat → (Int32) → (Int32) → Option (Int32)
  | 0, _, _ => none
  | n + 1, y2_4, y3_4 => f_X2_waysAround_L4_b a1 μ (f_X2_waysAround_L4 a1 μ n) y2_4 y3_4
def f_X2_waysAround (μ : VS) (a1 : Int32) : Option (Int32) :=
(Option.bind (f_X2_waysAround_L4 a1 μ 4096 (0 : Int32) (0 : Int32)) fun o19 =>
some o19)

def f_X2_bestGap_L23_b (a1 : Int64) (r1 : (Nat → Nat → Int32) × (Nat → Int32)) (r3 : Int32) (rec23 : (Int32) → (Int32) → (Int32) → (Nat → Int32) → (Nat → Nat) → (Nat → Nat) → (Int32) → (Nat → Int32) → (Nat → Int32) → (Int32) → (Nat → Int32) → (Nat → Int32) → Option (Int32 × (Nat → Int32) × (Nat → Nat) × (Nat → Nat) × (Int32) × (Nat → Int32) × (Nat → Int32) × (Int32) × (Nat → Int32) × (Nat → Int32))) (y3_23 : Int32) (y4_23 : Int32) (y6_23 : Int32) (takes_23 : Nat → Int32) (u1_23 : Nat → Nat) (u2_23 : Nat → Nat) (hsz_23 : Int32) (hwin_23 : Nat → Int32) (hway_23 : Nat → Int32) (nsz_23 : Int32) (nwin_23 : Nat → Int32) (nway_23 : Nat → Int32) : Option (Int32 × (Nat → Int32) × (Nat → Nat) × (Nat → Nat) × (Int32) × (Nat → Int32) × (Nat → Int32) × (Int32) × (Nat → Int32) × (Nat → Int32)) :=
(if r3 ≤ y6_23 then
some (y3_23, takes_23, u1_23, u2_23, hsz_23, hwin_23, hway_23, nsz_23, nwin_23, nway_23)
else
(Option.bind (f_X4_holds a1 y6_23) fun r19 =>
(Option.bind (if r19 = 0 then
some (0 : Int32)
else
(Option.bind (f_X2_waysAround (r1.1, takes_23, u1_23, u2_23, hsz_23, hwin_23, hway_23, nsz_23, nwin_23, nway_23) y6_23) fun r22 =>
some r22)) fun o21 =>
(Option.bind (if o21 ≤ y4_23 then
some (y3_23, y4_23)
else
some (y6_23, o21)) fun o23 =>
(Option.bind (f_X2_goOn (r1.1, takes_23, u1_23, u2_23, hsz_23, hwin_23, hway_23, nsz_23, nwin_23, nway_23) a1 y6_23) fun r24 =>
(jlet (y6_23 + (1)) fun x25 =>
rec23 o23.1 o23.2 x25 r24.1 r24.2.1 r24.2.2.1 r24.2.2.2.1 r24.2.2.2.2.1 r24.2.2.2.2.2.1 r24.2.2.2.2.2.2.1 r24.2.2.2.2.2.2.2.1 r24.2.2.2.2.2.2.2.2))))))
def f_X2_bestGap_L23 (a1 : Int64) (r1 : (Nat → Nat → Int32) × (Nat → Int32)) (r3 : Int32) : Nat → (Int32) → (Int32) → (Int32) → (Nat → Int32) → (Nat → Nat) → (Nat → Nat) → (Int32) → (Nat → Int32) → (Nat → Int32) → (Int32) → (Nat → Int32) → (Nat → Int32) → Option (Int32 × (Nat → Int32) × (Nat → Nat) × (Nat → Nat) × (Int32) × (Nat → Int32) × (Nat → Int32) × (Int32) × (Nat → Int32) × (Nat → Int32))
  | 0, _, _, _, _, _, _, _, _, _, _, _, _ => none
  | n + 1, y3_23, y4_23, y6_23, takes_23, u1_23, u2_23, hsz_23, hwin_23, hway_23, nsz_23, nwin_23, nway_23 => f_X2_bestGap_L23_b a1 r1 r3 (f_X2_bestGap_L23 a1 r1 r3 n) y3_23 y4_23 y6_23 takes_23 u1_23 u2_23 hsz_23 hwin_23 hway_23 nsz_23 nwin_23 nway_23
def f_X2_bestGap (μ : VS) (a1 : Int64) : Option (Int32 × (Nat → Nat → Int32) × (Nat → Int32) × (Nat → Nat) × (Nat → Nat) × (Int32) × (Nat → Int32) × (Nat → Int32) × (Int32) × (Nat → Int32) × (Nat → Int32)) :=
(Option.bind (f_X2_countRest μ a1) fun r1 =>
(Option.bind (f_X2_begin (v_takes' (v_rest' μ r1.1) r1.2)) fun r2 =>
(Option.bind (f_X2_endOf a1) fun r3 =>
(Option.bind (f_X2_bestGap_L23 a1 r1 r3 4096 (-1 : Int32) (0 : Int32) (0 : Int32) r1.2 (v_u1 μ) (v_u2 μ) r2.1 r2.2.1 r2.2.2 (v_nsz μ) (v_nwin μ) (v_nway μ)) fun o18 =>
some (o18.1, r1.1, o18.2.1, o18.2.2.1, o18.2.2.2.1, o18.2.2.2.2.1, o18.2.2.2.2.2.1, o18.2.2.2.2.2.2.1, o18.2.2.2.2.2.2.2.1, o18.2.2.2.2.2.2.2.2.1, o18.2.2.2.2.2.2.2.2.2)))))

def f_X1_layableTriples_L25_b (μ : GS) (y3_14 : Int32) (y2_4 : Int32) (rec25 : (Int32) → (Int32) → Option (Int32)) (y1_25 : Int32) (y4_25 : Int32) : Option (Int32) :=
(if (4 : Int32) ≤ y4_25 then
some y1_25
else
(Option.bind (f_X1_whyRefused μ y3_14 y2_4 y4_25) fun r128 =>
(Option.bind (if r128 = 0 then
some (1 : Int32)
else
some (0 : Int32)) fun o129 =>
(jlet (y1_25 + o129) fun x130 =>
(jlet (y4_25 + (1)) fun x131 =>
rec25 x130 x131)))))
def f_X1_layableTriples_L25 (μ : GS) (y3_14 : Int32) (y2_4 : Int32) : Nat → (Int32) → (Int32) → Option (Int32)
  | 0, _, _ => none
  | n + 1, y1_25, y4_25 => f_X1_layableTriples_L25_b μ y3_14 y2_4 (f_X1_layableTriples_L25 μ y3_14 y2_4 n) y1_25 y4_25
def f_X1_layableTriples_L14_b (μ : GS) (y2_4 : Int32) (rec14 : (Int32) → (Int32) → Option (Int32)) (y1_14 : Int32) (y3_14 : Int32) : Option (Int32) :=
(if (g_wide μ) ≤ y3_14 then
some y1_14
else
(Option.bind (f_X1_layableTriples_L25 μ y3_14 y2_4 4096 y1_14 (0 : Int32)) fun o127 =>
(jlet (y3_14 + (1)) fun x132 =>
rec14 o127 x132)))
def f_X1_layableTriples_L14 (μ : GS) (y2_4 : Int32) : Nat → (Int32) → (Int32) → Option (Int32)
  | 0, _, _ => none
  | n + 1, y1_14, y3_14 => f_X1_layableTriples_L14_b μ y2_4 (f_X1_layableTriples_L14 μ y2_4 n) y1_14 y3_14
def f_X1_layableTriples_L4_b (μ : GS) (rec4 : (Int32) → (Int32) → Option (Int32)) (y1_4 : Int32) (y2_4 : Int32) : Option (Int32) :=
(if (g_high μ) ≤ y2_4 then
some y1_4
else
(Option.bind (f_X1_layableTriples_L14 μ y2_4 4096 y1_4 (0 : Int32)) fun o118 =>
(jlet (y2_4 + (1)) fun x133 =>
rec4 o118 x133)))
def f_X1_layableTriples_L4 (μ : GS) : Nat → (Int32) → (Int32) → Option (Int32)
  | 0, _, _ => none
  | n + 1, y1_4, y2_4 => f_X1_layableTriples_L4_b μ (f_X1_layableTriples_L4 μ n) y1_4 y2_4
def f_X1_layableTriples (μ : GS) : Option (Int32) :=
(Option.bind (f_X1_layableTriples_L4 μ 4096 (0 : Int32) (0 : Int32)) fun o89 =>
some o89)

def f_X1_hasFlipBlock (μ : GS) (a1 : Int32) (a2 : Int32) (a3 : Int32) : Option (Int32) :=
(Option.bind (if a3 = 0 then
some (3 : Int32)
else
some (2 : Int32)) fun o1 =>
(Option.bind (if a3 = 0 then
some (2 : Int32)
else
some (3 : Int32)) fun o2 =>
(Option.bind (f_X1_hasBlock μ a1 a2 o1 o2) fun r3 =>
(Option.bind (jz r3) fun z4 =>
some z4))))

def f_X1_tripleName (μ : GS) (a1 : Int32) : Option (Int32) :=
(if a1 < 0 then
some (0 : Int32)
else
(if (g_tc μ) ≤ a1 then
some (0 : Int32)
else
(if (21 : Int32) ≤ a1 then
some (0 : Int32)
else
(Option.bind (jld 21 (g_names μ) a1) fun v1 =>
some v1))))

def f_X4_columnOf (a1 : Int32) : Option (Int32) :=
some (a1 - a1 / (10 : Int32) * (10 : Int32))

def f_X4_rowOf (a1 : Int32) : Option (Int32) :=
some ((a1 / (10 : Int32)) - (a1 / (10 : Int32)) / (10 : Int32) * (10 : Int32))

def f_X4_turnOf (a1 : Int32) : Option (Int32) :=
some (a1 / (100 : Int32))

def f_X1_tripleCells (μ : GS) (a1 : Int32) : Option (Int64) :=
(Option.bind (f_X1_tripleName μ a1) fun r1 =>
(Option.bind (f_X4_columnOf r1) fun r2 =>
(Option.bind (f_X4_rowOf r1) fun r3 =>
(Option.bind (f_X4_turnOf r1) fun r4 =>
(Option.bind (f_X4_cellsOf r2 r3 r4) fun r5 =>
some r5)))))

def f_X1_tripleOver_L2_b (a1 : Int64) (μ : GS) (rec2 : (Int32) → Option ((Unit) ⊕ (Int32))) (y3_2 : Int32) : Option ((Unit) ⊕ (Int32)) :=
(if (g_tc μ) ≤ y3_2 then
some (.inl ())
else
(Option.bind (f_X1_tripleCells μ y3_2) fun r6 =>
(if (lg_cmp (r6 &&& a1) (0 : Int64)) = 0 then
(jlet (y3_2 + (1)) fun x7 =>
rec2 x7)
else
some (.inr y3_2))))
def f_X1_tripleOver_L2 (a1 : Int64) (μ : GS) : Nat → (Int32) → Option ((Unit) ⊕ (Int32))
  | 0, _ => none
  | n + 1, y3_2 => f_X1_tripleOver_L2_b a1 μ (f_X1_tripleOver_L2 a1 μ n) y3_2
def f_X1_tripleOver (μ : GS) (a1 : Int64) : Option (Int32) :=
(Option.bind (f_X1_tripleOver_L2 a1 μ 4096 (0 : Int32)) fun o5 => Sum.elim (fun o5l =>
some (-1 : Int32)) (fun r9 => some r9) o5)

def f_X1_lastFlipCell (a1 : Int32) (a2 : Int32) (a3 : Int32) : Option (Int64) :=
(if a3 = 0 then
(Option.bind (f_X4_cellAt (a1 + (2 : Int32)) (a2 + (1 : Int32))) fun r1 =>
some r1)
else
(Option.bind (f_X4_cellAt (a1 + (1 : Int32)) (a2 + (2 : Int32))) fun r2 =>
some r2))

def f_X1_isFlippable (μ : GS) (a1 : Int32) (a2 : Int32) (a3 : Int32) : Option (Int32) :=
(Option.bind (f_X4_cellAt a1 a2) fun r1 =>
(Option.bind (f_X1_tripleOver μ r1) fun r2 =>
(Option.bind (f_X1_lastFlipCell a1 a2 a3) fun r3 =>
(Option.bind (f_X1_tripleOver μ r3) fun r4 =>
(if r2 = (-1 : Int32) then
some (0 : Int32)
else
(if r4 = (-1 : Int32) then
some (0 : Int32)
else
(Option.bind (if a3 = 0 then
some (3 : Int32)
else
some (2 : Int32)) fun o5 =>
(Option.bind (if a3 = 0 then
some (2 : Int32)
else
some (3 : Int32)) fun o6 =>
(Option.bind (f_X1_blockCells a1 a2 o5 o6) fun r7 =>
(Option.bind (f_X1_tripleCells μ r2) fun r8 =>
(Option.bind (f_X1_tripleCells μ r4) fun r9 =>
(if (lg_cmp (r8 ||| r9) r7) = 0 then
some (1 : Int32)
else
some (0 : Int32)))))))))))))

def f_X1_flippableBlocks_L14_b (μ : GS) (y2_4 : Int32) (rec14 : (Int32) → (Int32) → Option (Int32)) (y1_14 : Int32) (y3_14 : Int32) : Option (Int32) :=
(if (g_wide μ) ≤ y3_14 then
some y1_14
else
(Option.bind (f_X1_hasFlipBlock μ y3_14 y2_4 (1 : Int32)) fun r95 =>
(Option.bind (if r95 = 0 then
some (0 : Int32)
else
(Option.bind (f_X1_isFlippable μ y3_14 y2_4 (1 : Int32)) fun r98 =>
(if r98 = 0 then
some (0 : Int32)
else
some (1 : Int32)))) fun o97 =>
(jlet (y1_14 + o97) fun x99 =>
(Option.bind (f_X1_hasFlipBlock μ y3_14 y2_4 (0 : Int32)) fun r100 =>
(Option.bind (if r100 = 0 then
some (0 : Int32)
else
(Option.bind (f_X1_isFlippable μ y3_14 y2_4 (0 : Int32)) fun r103 =>
(if r103 = 0 then
some (0 : Int32)
else
some (1 : Int32)))) fun o102 =>
(jlet (x99 + o102) fun x104 =>
(jlet (y3_14 + (1)) fun x105 =>
rec14 x104 x105))))))))
def f_X1_flippableBlocks_L14 (μ : GS) (y2_4 : Int32) : Nat → (Int32) → (Int32) → Option (Int32)
  | 0, _, _ => none
  | n + 1, y1_14, y3_14 => f_X1_flippableBlocks_L14_b μ y2_4 (f_X1_flippableBlocks_L14 μ y2_4 n) y1_14 y3_14
def f_X1_flippableBlocks_L4_b (μ : GS) (rec4 : (Int32) → (Int32) → Option (Int32)) (y1_4 : Int32) (y2_4 : Int32) : Option (Int32) :=
(if (g_high μ) ≤ y2_4 then
some y1_4
else
(Option.bind (f_X1_flippableBlocks_L14 μ y2_4 4096 y1_4 (0 : Int32)) fun o94 =>
(jlet (y2_4 + (1)) fun x106 =>
rec4 o94 x106)))
def f_X1_flippableBlocks_L4 (μ : GS) : Nat → (Int32) → (Int32) → Option (Int32)
  | 0, _, _ => none
  | n + 1, y1_4, y2_4 => f_X1_flippableBlocks_L4_b μ (f_X1_flippableBlocks_L4 μ n) y1_4 y2_4
def f_X1_flippableBlocks (μ : GS) : Option (Int32) :=
(Option.bind (f_X1_flippableBlocks_L4 μ 4096 (0 : Int32) (0 : Int32)) fun o71 =>
some o71)

def f_X4_mixed (a1 : Int64) (a2 : Int64) : Option (Int64) :=
some (((31 : Int64) * a1) + a2)

def f_X4_rowMask (a1 : Int64) (a2 : Int32) : Option (Int32) :=
some ((((a1.toUInt64 >>> (((8 : Int32) * a2).toInt64.toUInt64 &&& Int64.toUInt64 63)).toInt64) &&& (255 : Int64)).toInt32)

def f_X1_kindOf (μ : GS) (a1 : Int64) : Option (Int32) :=
(Option.bind (f_X1_pondCell μ) fun r1 =>
(if (lg_cmp (a1 &&& r1) (0 : Int64)) = 0 then
(if (lg_cmp (a1 &&& (g_walls μ)) (0 : Int64)) = 0 then
(if (lg_cmp (a1 &&& (g_paved μ)) (0 : Int64)) = 0 then
some (0 : Int32)
else
some (3 : Int32))
else
some (2 : Int32))
else
some (1 : Int32)))

def f_X4_nameOf (a1 : Int32) (a2 : Int32) (a3 : Int32) : Option (Int32) :=
some ((a1 + ((10 : Int32) * a2)) + ((100 : Int32) * a3))

def f_X1_firstCover_L2_b (a1 : Int32) (μ : GS) (rec2 : (Int32) → Option ((Unit) ⊕ (Int32))) (y2_2 : Int32) : Option ((Unit) ⊕ (Int32)) :=
(if (16 : Int32) ≤ y2_2 then
some (.inl ())
else
(Option.bind (f_X1_couldCover μ a1 y2_2) fun r12 =>
(if r12 = 0 then
(jlet (y2_2 + (1)) fun x13 =>
rec2 x13)
else
(Option.bind (f_X1_coverX a1 y2_2) fun r14 =>
(Option.bind (f_X1_coverY a1 y2_2) fun r15 =>
(Option.bind (f_X4_nameOf r14 r15 (y2_2 / (4 : Int32))) fun r16 =>
some (.inr r16)))))))
def f_X1_firstCover_L2 (a1 : Int32) (μ : GS) : Nat → (Int32) → Option ((Unit) ⊕ (Int32))
  | 0, _ => none
  | n + 1, y2_2 => f_X1_firstCover_L2_b a1 μ (f_X1_firstCover_L2 a1 μ n) y2_2
def f_X1_firstCover (μ : GS) (a1 : Int32) : Option (Int32) :=
(Option.bind (f_X1_firstCover_L2 a1 μ 4096 (0 : Int32)) fun o11 => Sum.elim (fun o11l =>
some (-1 : Int32)) (fun r9 => some r9) o11)

def f_X4_shareBits_L18_b (rec18 : (UInt64) → (Int64) → (Int32) → Option (UInt64 × Int64)) (y2_18 : UInt64) (y4_18 : Int64) (y6_18 : Int32) : Option (UInt64 × Int64) :=
(if (1022 : Int32) ≤ y6_18 then
some (y2_18, y4_18)
else
(if 0 ≤ (Op.cmpValue (FP.dcmp y2_18 FP.dconst1) CmpOp.g) then
some (y2_18, y4_18)
else
(Option.bind (dfin (FP.dmul y2_18 (4611686018427387904 : UInt64))) fun d8 =>
(jlet (y4_18 - (1 : Int64)) fun x9 =>
(jlet (y6_18 + (1)) fun x10 =>
rec18 d8 x9 x10)))))
def f_X4_shareBits_L18 : Nat → (UInt64) → (Int64) → (Int32) → Option (UInt64 × Int64)
  | 0, _, _, _ => none
  | n + 1, y2_18, y4_18, y6_18 => f_X4_shareBits_L18_b (f_X4_shareBits_L18 n) y2_18 y4_18 y6_18
def f_X4_shareBits (a1 : UInt64) : Option (Int64) :=
(if 0 < (Op.cmpValue (FP.dcmp a1 FP.dconst0) CmpOp.g) then
(Option.bind (f_X4_shareBits_L18 4096 a1 (1023 : Int64) (0 : Int32)) fun o7 =>
(Option.bind (dfin (FP.dsub o7.1 FP.dconst1)) fun d11 =>
(Option.bind (dfin (FP.dmul d11 (4841369599423283200 : UInt64))) fun d12 =>
some ((o7.2 <<< ((52 : Int32).toInt64 &&& 63)) + (FP.d2l d12)))))
else
some (0 : Int64))

def f_X4_isSide (a1 : Int32) : Option (Int32) :=
(if a1 < (2 : Int32) then
some (0 : Int32)
else
(if (8 : Int32) < a1 then
some (0 : Int32)
else
some (1 : Int32)))

def f_X1_layOut (μ : GS) (a1 : Int32) (a2 : Int32) (a3 : Int32) (a4 : Int64) : Option ((Int32) × (Int32) × (Int32) × (Int64) × (Int64) × (Int32)) :=
some (a1, a2, a3, a4, (0 : Int64), (0 : Int32))

def f_X1_putTriple (μ : GS) (a1 : Int32) (a2 : Int32) (a3 : Int32) : Option ((Int64) × (Int32) × (Nat → Int32)) :=
(if (21 : Int32) ≤ (g_tc μ) then
some ((g_paved μ), (g_tc μ), (g_names μ))
else
(Option.bind (f_X4_nameOf a1 a2 a3) fun r1 =>
(Option.bind (jst 21 (g_names μ) (g_tc μ) r1) fun f2 =>
(jlet ((g_tc μ) + (1 : Int32)) fun x3 =>
(Option.bind (f_X4_cellsOf a1 a2 a3) fun r4 =>
(jlet ((g_paved μ) ||| r4) fun x5 =>
some (x5, x3, f2)))))))

def f_X1_takeTriple_L43_b (x3 : Int32) (rec43 : (Int32) → (Nat → Int32) → Option ((Nat → Int32))) (y2_43 : Int32) (names_43 : Nat → Int32) : Option ((Nat → Int32)) :=
(if x3 ≤ y2_43 then
some names_43
else
(if (21 : Int32) ≤ (y2_43 + (1 : Int32)) then
some names_43
else
(Option.bind (jld 21 names_43 (y2_43 + (1 : Int32))) fun v11 =>
(Option.bind (jst 21 names_43 y2_43 v11) fun f12 =>
(jlet (y2_43 + (1)) fun x13 =>
rec43 x13 f12)))))
def f_X1_takeTriple_L43 (x3 : Int32) : Nat → (Int32) → (Nat → Int32) → Option ((Nat → Int32))
  | 0, _, _ => none
  | n + 1, y2_43, names_43 => f_X1_takeTriple_L43_b x3 (f_X1_takeTriple_L43 x3 n) y2_43 names_43
def f_X1_takeTriple (μ : GS) (a1 : Int32) : Option ((Int64) × (Int32) × (Nat → Int32)) :=
(if a1 < 0 then
some ((g_paved μ), (g_tc μ), (g_names μ))
else
(if a1 < (g_tc μ) then
(Option.bind (f_X1_tripleCells μ a1) fun r1 =>
(jlet ((g_paved μ) &&& (r1 ^^^ (-1 : Int64))) fun x2 =>
(jlet ((g_tc μ) - (1 : Int32)) fun x3 =>
(Option.bind (f_X1_takeTriple_L43 x3 4096 a1 (g_names μ)) fun o10 =>
some (x2, x3, o10)))))
else
some ((g_paved μ), (g_tc μ), (g_names μ))))

def f_X1_flipBlock (μ : GS) (a1 : Int32) (a2 : Int32) (a3 : Int32) : Option ((Int64) × (Int32) × (Int32) × (Nat → Int32)) :=
(Option.bind (f_X4_cellAt a1 a2) fun r1 =>
(Option.bind (f_X1_tripleOver μ r1) fun r2 =>
(Option.bind (f_X1_lastFlipCell a1 a2 a3) fun r3 =>
(Option.bind (f_X1_tripleOver μ r3) fun r4 =>
(Option.bind (if a3 = 0 then
some (3 : Int32)
else
some (5 : Int32)) fun o5 =>
(Option.bind (f_X1_tripleName μ r2) fun r6 =>
(Option.bind (f_X4_turnOf r6) fun r7 =>
(jlet (o5 - r7) fun x8 =>
(Option.bind (f_X1_takeTriple μ (if r2 < r4 then r4 else r2)) fun r9 =>
(Option.bind (f_X1_takeTriple (g_names' (g_tc' (g_paved' μ r9.1) r9.2.1) r9.2.2) (if r4 < r2 then r4 else r2)) fun r10 =>
(Option.bind (f_X1_putTriple (g_names' (g_tc' (g_paved' μ r10.1) r10.2.1) r10.2.2) a1 a2 x8) fun r11 =>
(Option.bind (if a3 = 0 then
some (a1 + (1 : Int32))
else
some a1) fun o12 =>
(Option.bind (if a3 = 0 then
some a2
else
some (a2 + (1 : Int32))) fun o13 =>
(Option.bind (f_X1_putTriple (g_names' (g_tc' (g_paved' μ r11.1) r11.2.1) r11.2.2) o12 o13 ((x8 + (2 : Int32)) - (x8 + (2 : Int32)) / (4 : Int32) * (4 : Int32))) fun r14 =>
(jlet ((g_flips μ) + (1 : Int32)) fun x15 =>
some (r14.1, r14.2.1, x15, r14.2.2))))))))))))))))

def f_X2_leastTurn_L2_b (a1 : Int32) (a2 : Int32) (μ : VS) (rec2 : (Int32) → Option ((Unit) ⊕ (Int32))) (y3_2 : Int32) : Option ((Unit) ⊕ (Int32)) :=
(if (4 : Int32) ≤ y3_2 then
some (.inl ())
else
(Option.bind (f_X2_isOpen ((v_takes μ), (v_u1 μ), (v_u2 μ)) y3_2 a2) fun r12 =>
(if r12 = 0 then
(jlet (y3_2 + (1)) fun x13 =>
rec2 x13)
else
(Option.bind (f_X2_windowAfter ((v_takes μ), (v_u1 μ), (v_u2 μ)) y3_2 a2) fun r14 =>
(Option.bind (f_X2_restFrom μ (a1 + (1 : Int32)) r14) fun r15 =>
(if r15 = 0 then
(jlet (y3_2 + (1)) fun x16 =>
rec2 x16)
else
some (.inr y3_2)))))))
def f_X2_leastTurn_L2 (a1 : Int32) (a2 : Int32) (μ : VS) : Nat → (Int32) → Option ((Unit) ⊕ (Int32))
  | 0, _ => none
  | n + 1, y3_2 => f_X2_leastTurn_L2_b a1 a2 μ (f_X2_leastTurn_L2 a1 a2 μ n) y3_2
def f_X2_leastTurn (μ : VS) (a1 : Int32) (a2 : Int32) : Option (Int32) :=
(Option.bind (f_X2_leastTurn_L2 a1 a2 μ 4096 (0 : Int32)) fun o11 => Sum.elim (fun o11l =>
some (-1 : Int32)) (fun r9 => some r9) o11)

def f_X2_paveFirstWay_L22_b (μ : VGS) (r1 : Int64) (r2 : (Nat → Nat → Int32) × (Nat → Int32)) (r3 : Int32) (rec22 : (Int32) → (Int32) → (Nat → Int32) → (Int64) → (Int32) → (Nat → Int32) → Option ((Nat → Int32) × (Int64) × (Int32) × (Nat → Int32))) (y5_22 : Int32) (y6_22 : Int32) (takes_22 : Nat → Int32) (paved_22 : Int64) (tc_22 : Int32) (names_22 : Nat → Int32) : Option ((Nat → Int32) × (Int64) × (Int32) × (Nat → Int32)) :=
(if r3 ≤ y6_22 then
some (takes_22, paved_22, tc_22, names_22)
else
(Option.bind (f_X2_findTakes (takes_22, (vg_u1 μ), (vg_u2 μ)) r1 y6_22) fun r29 =>
(Option.bind (f_X2_leastTurn (r2.1, r29, (vg_u1 μ), (vg_u2 μ), (vg_hsz μ), (vg_hwin μ), (vg_hway μ), (vg_nsz μ), (vg_nwin μ), (vg_nway μ)) y6_22 y5_22) fun r30 =>
(Option.bind (if r30 = (-1 : Int32) then
(jlet (y5_22 >>> ((1 : Int32) &&& 31)) fun x39 =>
some (x39, paved_22, tc_22, names_22))
else
(Option.bind (f_X2_blockColumn y6_22 r30) fun r36 =>
(Option.bind (f_X1_putTriple ((vg_wide μ), (vg_high μ), (vg_pond μ), (vg_walls μ), paved_22, tc_22, (vg_flips μ), (vg_refused μ), names_22) r36 (y6_22 / (8 : Int32)) r30) fun r37 =>
(Option.bind (f_X2_windowAfter (r29, (vg_u1 μ), (vg_u2 μ)) r30 y5_22) fun r38 =>
some (r38, r37.1, r37.2.1, r37.2.2))))) fun o35 =>
(jlet (y6_22 + (1)) fun x40 =>
rec22 o35.1 x40 r29 o35.2.1 o35.2.2.1 o35.2.2.2)))))
def f_X2_paveFirstWay_L22 (μ : VGS) (r1 : Int64) (r2 : (Nat → Nat → Int32) × (Nat → Int32)) (r3 : Int32) : Nat → (Int32) → (Int32) → (Nat → Int32) → (Int64) → (Int32) → (Nat → Int32) → Option ((Nat → Int32) × (Int64) × (Int32) × (Nat → Int32))
  | 0, _, _, _, _, _, _ => none
  | n + 1, y5_22, y6_22, takes_22, paved_22, tc_22, names_22 => f_X2_paveFirstWay_L22_b μ r1 r2 r3 (f_X2_paveFirstWay_L22 μ r1 r2 r3 n) y5_22 y6_22 takes_22 paved_22 tc_22 names_22
def f_X2_paveFirstWay (μ : VGS) : Option ((Nat → Nat → Int32) × (Nat → Int32) × (Int64) × (Int32) × (Nat → Int32)) :=
(Option.bind (f_X1_freeCells ((vg_wide μ), (vg_high μ), (vg_pond μ), (vg_walls μ), (vg_paved μ), (vg_tc μ), (vg_flips μ), (vg_refused μ), (vg_names μ))) fun r1 =>
(Option.bind (f_X2_countRest ((vg_rest μ), (vg_takes μ), (vg_u1 μ), (vg_u2 μ), (vg_hsz μ), (vg_hwin μ), (vg_hway μ), (vg_nsz μ), (vg_nwin μ), (vg_nway μ)) r1) fun r2 =>
(Option.bind (f_X2_endOf r1) fun r3 =>
(Option.bind (f_X2_paveFirstWay_L22 μ r1 r2 r3 4096 (0 : Int32) (0 : Int32) r2.2 (vg_paved μ) (vg_tc μ) (vg_names μ)) fun o28 =>
some (r2.1, o28.1, o28.2.1, o28.2.2.1, o28.2.2.2)))))

def f_X1_isHalvable (μ : GS) : Option (Int32) :=
(Option.bind (if (g_wide μ) = (2 : Int32) then
some (1 : Int32)
else
(if (g_wide μ) = (4 : Int32) then
some (1 : Int32)
else
(if (g_wide μ) = (8 : Int32) then
some (1 : Int32)
else
some (0 : Int32)))) fun o1 =>
(if o1 = 0 then
some (0 : Int32)
else
(if (g_wide μ) = (g_high μ) then
(if (lg_cmp (g_walls μ) (0 : Int64)) = 0 then
(if (g_tc μ) = 0 then
some (1 : Int32)
else
some (0 : Int32))
else
some (0 : Int32))
else
some (0 : Int32))))

def f_X1_quarterTurn (a1 : Int32) (a2 : Int32) : Option (Int32) :=
(if a2 = 0 then
(if a1 = 0 then
some (0 : Int32)
else
some (1 : Int32))
else
(if a1 = 0 then
some (3 : Int32)
else
some (2 : Int32)))

def f_X0_isFull (μ : BS) : Option (Int32) :=
(if (b_length μ) < (71 : Int32) then
some (0 : Int32)
else
some (1 : Int32))

def f_X0_add (μ : BS) (a1 : Int32) : Option ((Int32) × (Nat → Int32)) :=
(if (71 : Int32) ≤ (b_length μ) then
some ((b_length μ), (b_codes μ))
else
(Option.bind (jst 71 (b_codes μ) (b_length μ) a1) fun f1 =>
(jlet ((b_length μ) + (1 : Int32)) fun x2 =>
some (x2, f1))))

def f_X3_isWhole (μ : RDS) : Option (Int32) :=
(if ((rd_row μ) + (1 : Int32)) < (2 : Int32) then
some (0 : Int32)
else
(Option.bind (f_X3_isRowWhole μ) fun r1 =>
(if r1 = 0 then
some (0 : Int32)
else
(if (rd_pond μ) = (-1 : Int32) then
some (0 : Int32)
else
some (1 : Int32)))))

def f_Jxe99ae_isNaN_b9ae7 (a1 : UInt64) : Option (Int32) :=
(if (Op.cmpValue (FP.dcmp a1 a1) CmpOp.l) = 0 then
some (0 : Int32)
else
some (1 : Int32))

def f_Jxe99ae_doubleToLongBits_ccdee (a1 : UInt64) : Option (Int64) :=
(Option.bind (f_Jxe99ae_isNaN_b9ae7 a1) fun r1 =>
(if r1 = 0 then
some a1.toInt64
else
some (9221120237041090560 : Int64)))

def f_X1_paveSquare_0 (_ : GS) (_a2 : Int32) (_a3 : Int32) (_a4 : Int32) (_a5 : Int32) : Option (Int64 × Int32 × (Nat → Int32)) := none

def f_X1_paveSquare_1_L89_b (a2 : Int32) (a3 : Int32) (a5 : Int32) (μ : GS) (x1 : Int32) (o2 : Int32) (o3 : Int32) (x4 : Int32) (x5 : Int32) (rec89 : (Int32) → (Int64) → (Int32) → (Nat → Int32) → Option ((Int64) × (Int32) × (Nat → Int32))) (y10_89 : Int32) (paved_89 : Int64) (tc_89 : Int32) (names_89 : Nat → Int32) : Option ((Int64) × (Int32) × (Nat → Int32)) :=
(if (4 : Int32) ≤ y10_89 then
some (paved_89, tc_89, names_89)
else
(jlet (y10_89 - y10_89 / (2 : Int32) * (2 : Int32)) fun x31 =>
(jlet (y10_89 / (2 : Int32)) fun x32 =>
(Option.bind (if x31 = (1 : Int32) then
some (1 : Int32)
else
some (0 : Int32)) fun o33 =>
(Option.bind (if o2 = o33 then
(Option.bind (if x32 = (1 : Int32) then
some (1 : Int32)
else
some (0 : Int32)) fun o36 =>
(if o3 = o36 then
some (1 : Int32)
else
some (0 : Int32)))
else
some (0 : Int32)) fun o35 =>
(Option.bind (if o35 = 0 then
(Option.bind (f_X4_placeOf (x4 + x31) (x5 + x32)) fun r39 =>
some r39)
else
some a5) fun o38 =>
(Option.bind (f_X1_paveSquare_0 (g_names' (g_tc' (g_paved' μ paved_89) tc_89) names_89) (a2 + (x1 * x31)) (a3 + (x1 * x32)) x1 o38) fun r40 =>
(jlet (y10_89 + (1)) fun x41 =>
rec89 x41 r40.1 r40.2.1 r40.2.2))))))))
def f_X1_paveSquare_1_L89 (a2 : Int32) (a3 : Int32) (a5 : Int32) (μ : GS) (x1 : Int32) (o2 : Int32) (o3 : Int32) (x4 : Int32) (x5 : Int32) : Nat → (Int32) → (Int64) → (Int32) → (Nat → Int32) → Option ((Int64) × (Int32) × (Nat → Int32))
  | 0, _, _, _, _ => none
  | n + 1, y10_89, paved_89, tc_89, names_89 => f_X1_paveSquare_1_L89_b a2 a3 a5 μ x1 o2 o3 x4 x5 (f_X1_paveSquare_1_L89 a2 a3 a5 μ x1 o2 o3 x4 x5 n) y10_89 paved_89 tc_89 names_89
def f_X1_paveSquare_1 (μ : GS) (a2 : Int32) (a3 : Int32) (a4 : Int32) (a5 : Int32) : Option ((Int64) × (Int32) × (Nat → Int32)) :=
(if a4 < (2 : Int32) then
some ((g_paved μ), (g_tc μ), (g_names μ))
else
(if a4 ≤ (8 : Int32) then
(jlet (a4 / (2 : Int32)) fun x1 =>
(Option.bind (if (a5 - a5 / (8 : Int32) * (8 : Int32)) < (a2 + x1) then
some (0 : Int32)
else
some (1 : Int32)) fun o2 =>
(Option.bind (if (a5 / (8 : Int32)) < (a3 + x1) then
some (0 : Int32)
else
some (1 : Int32)) fun o3 =>
(jlet ((a2 + x1) - (1 : Int32)) fun x4 =>
(jlet ((a3 + x1) - (1 : Int32)) fun x5 =>
(Option.bind (f_X1_quarterTurn o2 o3) fun r6 =>
(Option.bind (f_X1_putTriple μ x4 x5 r6) fun r7 =>
(Option.bind (f_X1_paveSquare_1_L89 a2 a3 a5 μ x1 o2 o3 x4 x5 4096 (0 : Int32) r7.1 r7.2.1 r7.2.2) fun o30 =>
some (o30.1, o30.2.1, o30.2.2)))))))))
else
some ((g_paved μ), (g_tc μ), (g_names μ))))

def f_X1_paveSquare_2_L89_b (a2 : Int32) (a3 : Int32) (a5 : Int32) (μ : GS) (x1 : Int32) (o2 : Int32) (o3 : Int32) (x4 : Int32) (x5 : Int32) (rec89 : (Int32) → (Int64) → (Int32) → (Nat → Int32) → Option ((Int64) × (Int32) × (Nat → Int32))) (y10_89 : Int32) (paved_89 : Int64) (tc_89 : Int32) (names_89 : Nat → Int32) : Option ((Int64) × (Int32) × (Nat → Int32)) :=
(if (4 : Int32) ≤ y10_89 then
some (paved_89, tc_89, names_89)
else
(jlet (y10_89 - y10_89 / (2 : Int32) * (2 : Int32)) fun x31 =>
(jlet (y10_89 / (2 : Int32)) fun x32 =>
(Option.bind (if x31 = (1 : Int32) then
some (1 : Int32)
else
some (0 : Int32)) fun o33 =>
(Option.bind (if o2 = o33 then
(Option.bind (if x32 = (1 : Int32) then
some (1 : Int32)
else
some (0 : Int32)) fun o36 =>
(if o3 = o36 then
some (1 : Int32)
else
some (0 : Int32)))
else
some (0 : Int32)) fun o35 =>
(Option.bind (if o35 = 0 then
(Option.bind (f_X4_placeOf (x4 + x31) (x5 + x32)) fun r39 =>
some r39)
else
some a5) fun o38 =>
(Option.bind (f_X1_paveSquare_1 (g_names' (g_tc' (g_paved' μ paved_89) tc_89) names_89) (a2 + (x1 * x31)) (a3 + (x1 * x32)) x1 o38) fun r40 =>
(jlet (y10_89 + (1)) fun x41 =>
rec89 x41 r40.1 r40.2.1 r40.2.2))))))))
def f_X1_paveSquare_2_L89 (a2 : Int32) (a3 : Int32) (a5 : Int32) (μ : GS) (x1 : Int32) (o2 : Int32) (o3 : Int32) (x4 : Int32) (x5 : Int32) : Nat → (Int32) → (Int64) → (Int32) → (Nat → Int32) → Option ((Int64) × (Int32) × (Nat → Int32))
  | 0, _, _, _, _ => none
  | n + 1, y10_89, paved_89, tc_89, names_89 => f_X1_paveSquare_2_L89_b a2 a3 a5 μ x1 o2 o3 x4 x5 (f_X1_paveSquare_2_L89 a2 a3 a5 μ x1 o2 o3 x4 x5 n) y10_89 paved_89 tc_89 names_89
def f_X1_paveSquare_2 (μ : GS) (a2 : Int32) (a3 : Int32) (a4 : Int32) (a5 : Int32) : Option ((Int64) × (Int32) × (Nat → Int32)) :=
(if a4 < (2 : Int32) then
some ((g_paved μ), (g_tc μ), (g_names μ))
else
(if a4 ≤ (8 : Int32) then
(jlet (a4 / (2 : Int32)) fun x1 =>
(Option.bind (if (a5 - a5 / (8 : Int32) * (8 : Int32)) < (a2 + x1) then
some (0 : Int32)
else
some (1 : Int32)) fun o2 =>
(Option.bind (if (a5 / (8 : Int32)) < (a3 + x1) then
some (0 : Int32)
else
some (1 : Int32)) fun o3 =>
(jlet ((a2 + x1) - (1 : Int32)) fun x4 =>
(jlet ((a3 + x1) - (1 : Int32)) fun x5 =>
(Option.bind (f_X1_quarterTurn o2 o3) fun r6 =>
(Option.bind (f_X1_putTriple μ x4 x5 r6) fun r7 =>
(Option.bind (f_X1_paveSquare_2_L89 a2 a3 a5 μ x1 o2 o3 x4 x5 4096 (0 : Int32) r7.1 r7.2.1 r7.2.2) fun o30 =>
some (o30.1, o30.2.1, o30.2.2)))))))))
else
some ((g_paved μ), (g_tc μ), (g_names μ))))

def f_X1_paveSquare_3_L89_b (a2 : Int32) (a3 : Int32) (a5 : Int32) (μ : GS) (x1 : Int32) (o2 : Int32) (o3 : Int32) (x4 : Int32) (x5 : Int32) (rec89 : (Int32) → (Int64) → (Int32) → (Nat → Int32) → Option ((Int64) × (Int32) × (Nat → Int32))) (y10_89 : Int32) (paved_89 : Int64) (tc_89 : Int32) (names_89 : Nat → Int32) : Option ((Int64) × (Int32) × (Nat → Int32)) :=
(if (4 : Int32) ≤ y10_89 then
some (paved_89, tc_89, names_89)
else
(jlet (y10_89 - y10_89 / (2 : Int32) * (2 : Int32)) fun x31 =>
(jlet (y10_89 / (2 : Int32)) fun x32 =>
(Option.bind (if x31 = (1 : Int32) then
some (1 : Int32)
else
some (0 : Int32)) fun o33 =>
(Option.bind (if o2 = o33 then
(Option.bind (if x32 = (1 : Int32) then
some (1 : Int32)
else
some (0 : Int32)) fun o36 =>
(if o3 = o36 then
some (1 : Int32)
else
some (0 : Int32)))
else
some (0 : Int32)) fun o35 =>
(Option.bind (if o35 = 0 then
(Option.bind (f_X4_placeOf (x4 + x31) (x5 + x32)) fun r39 =>
some r39)
else
some a5) fun o38 =>
(Option.bind (f_X1_paveSquare_2 (g_names' (g_tc' (g_paved' μ paved_89) tc_89) names_89) (a2 + (x1 * x31)) (a3 + (x1 * x32)) x1 o38) fun r40 =>
(jlet (y10_89 + (1)) fun x41 =>
rec89 x41 r40.1 r40.2.1 r40.2.2))))))))
def f_X1_paveSquare_3_L89 (a2 : Int32) (a3 : Int32) (a5 : Int32) (μ : GS) (x1 : Int32) (o2 : Int32) (o3 : Int32) (x4 : Int32) (x5 : Int32) : Nat → (Int32) → (Int64) → (Int32) → (Nat → Int32) → Option ((Int64) × (Int32) × (Nat → Int32))
  | 0, _, _, _, _ => none
  | n + 1, y10_89, paved_89, tc_89, names_89 => f_X1_paveSquare_3_L89_b a2 a3 a5 μ x1 o2 o3 x4 x5 (f_X1_paveSquare_3_L89 a2 a3 a5 μ x1 o2 o3 x4 x5 n) y10_89 paved_89 tc_89 names_89
def f_X1_paveSquare_3 (μ : GS) (a2 : Int32) (a3 : Int32) (a4 : Int32) (a5 : Int32) : Option ((Int64) × (Int32) × (Nat → Int32)) :=
(if a4 < (2 : Int32) then
some ((g_paved μ), (g_tc μ), (g_names μ))
else
(if a4 ≤ (8 : Int32) then
(jlet (a4 / (2 : Int32)) fun x1 =>
(Option.bind (if (a5 - a5 / (8 : Int32) * (8 : Int32)) < (a2 + x1) then
some (0 : Int32)
else
some (1 : Int32)) fun o2 =>
(Option.bind (if (a5 / (8 : Int32)) < (a3 + x1) then
some (0 : Int32)
else
some (1 : Int32)) fun o3 =>
(jlet ((a2 + x1) - (1 : Int32)) fun x4 =>
(jlet ((a3 + x1) - (1 : Int32)) fun x5 =>
(Option.bind (f_X1_quarterTurn o2 o3) fun r6 =>
(Option.bind (f_X1_putTriple μ x4 x5 r6) fun r7 =>
(Option.bind (f_X1_paveSquare_3_L89 a2 a3 a5 μ x1 o2 o3 x4 x5 4096 (0 : Int32) r7.1 r7.2.1 r7.2.2) fun o30 =>
some (o30.1, o30.2.1, o30.2.2)))))))))
else
some ((g_paved μ), (g_tc μ), (g_names μ))))

def f_X1_paveSquare_4_L89_b (a2 : Int32) (a3 : Int32) (a5 : Int32) (μ : GS) (x1 : Int32) (o2 : Int32) (o3 : Int32) (x4 : Int32) (x5 : Int32) (rec89 : (Int32) → (Int64) → (Int32) → (Nat → Int32) → Option ((Int64) × (Int32) × (Nat → Int32))) (y10_89 : Int32) (paved_89 : Int64) (tc_89 : Int32) (names_89 : Nat → Int32) : Option ((Int64) × (Int32) × (Nat → Int32)) :=
(if (4 : Int32) ≤ y10_89 then
some (paved_89, tc_89, names_89)
else
(jlet (y10_89 - y10_89 / (2 : Int32) * (2 : Int32)) fun x31 =>
(jlet (y10_89 / (2 : Int32)) fun x32 =>
(Option.bind (if x31 = (1 : Int32) then
some (1 : Int32)
else
some (0 : Int32)) fun o33 =>
(Option.bind (if o2 = o33 then
(Option.bind (if x32 = (1 : Int32) then
some (1 : Int32)
else
some (0 : Int32)) fun o36 =>
(if o3 = o36 then
some (1 : Int32)
else
some (0 : Int32)))
else
some (0 : Int32)) fun o35 =>
(Option.bind (if o35 = 0 then
(Option.bind (f_X4_placeOf (x4 + x31) (x5 + x32)) fun r39 =>
some r39)
else
some a5) fun o38 =>
(Option.bind (f_X1_paveSquare_3 (g_names' (g_tc' (g_paved' μ paved_89) tc_89) names_89) (a2 + (x1 * x31)) (a3 + (x1 * x32)) x1 o38) fun r40 =>
(jlet (y10_89 + (1)) fun x41 =>
rec89 x41 r40.1 r40.2.1 r40.2.2))))))))
def f_X1_paveSquare_4_L89 (a2 : Int32) (a3 : Int32) (a5 : Int32) (μ : GS) (x1 : Int32) (o2 : Int32) (o3 : Int32) (x4 : Int32) (x5 : Int32) : Nat → (Int32) → (Int64) → (Int32) → (Nat → Int32) → Option ((Int64) × (Int32) × (Nat → Int32))
  | 0, _, _, _, _ => none
  | n + 1, y10_89, paved_89, tc_89, names_89 => f_X1_paveSquare_4_L89_b a2 a3 a5 μ x1 o2 o3 x4 x5 (f_X1_paveSquare_4_L89 a2 a3 a5 μ x1 o2 o3 x4 x5 n) y10_89 paved_89 tc_89 names_89
def f_X1_paveSquare_4 (μ : GS) (a2 : Int32) (a3 : Int32) (a4 : Int32) (a5 : Int32) : Option ((Int64) × (Int32) × (Nat → Int32)) :=
(if a4 < (2 : Int32) then
some ((g_paved μ), (g_tc μ), (g_names μ))
else
(if a4 ≤ (8 : Int32) then
(jlet (a4 / (2 : Int32)) fun x1 =>
(Option.bind (if (a5 - a5 / (8 : Int32) * (8 : Int32)) < (a2 + x1) then
some (0 : Int32)
else
some (1 : Int32)) fun o2 =>
(Option.bind (if (a5 / (8 : Int32)) < (a3 + x1) then
some (0 : Int32)
else
some (1 : Int32)) fun o3 =>
(jlet ((a2 + x1) - (1 : Int32)) fun x4 =>
(jlet ((a3 + x1) - (1 : Int32)) fun x5 =>
(Option.bind (f_X1_quarterTurn o2 o3) fun r6 =>
(Option.bind (f_X1_putTriple μ x4 x5 r6) fun r7 =>
(Option.bind (f_X1_paveSquare_4_L89 a2 a3 a5 μ x1 o2 o3 x4 x5 4096 (0 : Int32) r7.1 r7.2.1 r7.2.2) fun o30 =>
some (o30.1, o30.2.1, o30.2.2)))))))))
else
some ((g_paved μ), (g_tc μ), (g_names μ))))

def f_X1_paveSquares (μ : GS) : Option ((Int64) × (Int32) × (Nat → Int32)) :=
(Option.bind (f_X1_paveSquare_4 μ (0 : Int32) (0 : Int32) (g_wide μ) (g_pond μ)) fun r1 =>
some (r1.1, r1.2.1, r1.2.2))
