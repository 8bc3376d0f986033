/-! what the law does, as functions (by program) -/
def f_L_bits_L4_b (a1 : Int32) (rec4 : (Int32) → (Int32) → Option (Int32)) (y1_4 : Int32) (y2_4 : Int32) : Option (Int32) :=
(if (8 : Int32) ≤ y2_4 then
some y1_4
else
(jlet (y1_4 + ((a1 >>> (y2_4 &&& 31)) &&& (1 : Int32))) fun x6 =>
(jlet (y2_4 + (1)) fun x7 =>
rec4 x6 x7)))
def f_L_bits_L4 (a1 : Int32) : Nat → (Int32) → (Int32) → Option (Int32)
  | 0, _, _ => none
  | n + 1, y1_4, y2_4 => f_L_bits_L4_b a1 (f_L_bits_L4 a1 n) y1_4 y2_4
def f_L_bits (a1 : Int32) : Option (Int32) :=
(Option.bind (f_L_bits_L4 a1 4096 (0 : Int32) (0 : Int32)) fun o5 =>
some o5)

def f_L_acts (μ : ZT) (a2 : Int32) : Option (Int32 × (ZT)) :=
(jlet (a2 / (16 : Int32)) fun x1 =>
(Option.bind (q_count μ (0 : Int32)) fun r2 =>
(if r2 = 0 then none else
(jlet (x1 - x1 / r2 * r2) fun x4 =>
(Option.bind (q_count μ (1 : Int32)) fun r5 =>
(if r5 = 0 then none else
(jlet ((x1 / (8 : Int32)) - (x1 / (8 : Int32)) / r5 * r5) fun x7 =>
(if (a2 - a2 / (16 : Int32) * (16 : Int32)) = (0 : Int32) then
(Option.bind (mv_garden μ ((2 : Int32) + (x1 - x1 / (4 : Int32) * (4 : Int32))) ((2 : Int32) + ((x1 / (8 : Int32)) - (x1 / (8 : Int32)) / (4 : Int32) * (4 : Int32)))) fun r8 =>
some (r8.1, r8.2))
else
(if (a2 - a2 / (16 : Int32) * (16 : Int32)) = (1 : Int32) then
(Option.bind (mv_pond μ x4 x7) fun r9 =>
some (r9.1, r9.2))
else
(if (a2 - a2 / (16 : Int32) * (16 : Int32)) = (2 : Int32) then
(Option.bind (mv_pond μ x4 x7) fun r10 =>
some (r10.1, r10.2))
else
(if (a2 - a2 / (16 : Int32) * (16 : Int32)) = (3 : Int32) then
(Option.bind (mv_wall μ x4 x7) fun r11 =>
some (r11.1, r11.2))
else
(if (a2 - a2 / (16 : Int32) * (16 : Int32)) = (4 : Int32) then
(Option.bind (mv_lay μ x4 x7 ((x1 / (64 : Int32)) - (x1 / (64 : Int32)) / (4 : Int32) * (4 : Int32))) fun r12 =>
some (r12.1, r12.2))
else
(if (a2 - a2 / (16 : Int32) * (16 : Int32)) = (5 : Int32) then
(Option.bind (mv_lay μ x4 x7 ((x1 / (64 : Int32)) - (x1 / (64 : Int32)) / (4 : Int32) * (4 : Int32))) fun r13 =>
some (r13.1, r13.2))
else
(if (a2 - a2 / (16 : Int32) * (16 : Int32)) = (6 : Int32) then
(Option.bind (mv_lay μ x4 x7 ((x1 / (64 : Int32)) - (x1 / (64 : Int32)) / (4 : Int32) * (4 : Int32))) fun r14 =>
some (r14.1, r14.2))
else
(if (a2 - a2 / (16 : Int32) * (16 : Int32)) = (7 : Int32) then
(Option.bind (mv_lay μ x4 x7 ((x1 / (64 : Int32)) - (x1 / (64 : Int32)) / (4 : Int32) * (4 : Int32))) fun r15 =>
some (r15.1, r15.2))
else
(if (a2 - a2 / (16 : Int32) * (16 : Int32)) = (8 : Int32) then
(Option.bind (mv_lay μ x4 x7 ((x1 / (64 : Int32)) - (x1 / (64 : Int32)) / (4 : Int32) * (4 : Int32))) fun r16 =>
some (r16.1, r16.2))
else
(if (a2 - a2 / (16 : Int32) * (16 : Int32)) = (9 : Int32) then
(Option.bind (mv_lift μ x4 x7) fun r17 =>
some (r17.1, r17.2))
else
(if (a2 - a2 / (16 : Int32) * (16 : Int32)) = (10 : Int32) then
(Option.bind (if ((x1 / (64 : Int32)) - (x1 / (64 : Int32)) / (2 : Int32) * (2 : Int32)) = 0 then
some (1 : Int32)
else
some (0 : Int32)) fun o18 =>
(Option.bind (mv_flip μ x4 x7 o18) fun r19 =>
some (r19.1, r19.2)))
else
(if (a2 - a2 / (16 : Int32) * (16 : Int32)) = (11 : Int32) then
(Option.bind (if ((x1 / (64 : Int32)) - (x1 / (64 : Int32)) / (2 : Int32) * (2 : Int32)) = 0 then
some (1 : Int32)
else
some (0 : Int32)) fun o20 =>
(Option.bind (mv_flip μ x4 x7 o20) fun r21 =>
some (r21.1, r21.2)))
else
(if (a2 - a2 / (16 : Int32) * (16 : Int32)) = (12 : Int32) then
(Option.bind (mv_fill μ) fun r22 =>
some (r22.1, r22.2))
else
(if (a2 - a2 / (16 : Int32) * (16 : Int32)) = (13 : Int32) then
(Option.bind (mv_fill μ) fun r23 =>
some (r23.1, r23.2))
else
(if (a2 - a2 / (16 : Int32) * (16 : Int32)) = (14 : Int32) then
(Option.bind (mv_halve μ) fun r24 =>
some (r24.1, r24.2))
else
(if (x1 - x1 / (2 : Int32) * (2 : Int32)) = 0 then
(Option.bind (mv_goBack μ ((x1 / (2 : Int32)) - (x1 / (2 : Int32)) / (2 : Int32) * (2 : Int32))) fun r26 =>
some (r26.1, r26.2))
else
(Option.bind (mv_keep μ ((x1 / (2 : Int32)) - (x1 / (2 : Int32)) / (2 : Int32) * (2 : Int32))) fun r25 =>
some (r25.1, r25.2)))))))))))))))))))))))))

def f_L_hangs_L201_b (μ : ZT) (r1 : Int32) (r3 : Int32) (y11_99 : Int32) (r173 : Int32) (r174 : Int32) (r175 : Int32) (rec201 : (Int32) → (Int32) → (Int32) → (Int32) → (Int32) → Option (Int32 × Int32 × Int32 × Int32)) (y7_201 : Int32) (y8_201 : Int32) (y9_201 : Int32) (y10_201 : Int32) (y15_201 : Int32) : Option (Int32 × Int32 × Int32 × Int32) :=
(if r1 ≤ y15_201 then
some (y7_201, y8_201, y9_201, y10_201)
else
(if y10_201 = 0 then
some (y7_201, y8_201, y9_201, y10_201)
else
(Option.bind (q_cellOf μ y15_201 y11_99 (0 : Int32)) fun r228 =>
(Option.bind (q_cellOf μ y15_201 y11_99 (1 : Int32)) fun r229 =>
(Option.bind (q_cellOf μ y15_201 y11_99 (2 : Int32)) fun r230 =>
(Option.bind (if r228 = 0 then
some (1 : Int32)
else
some (0 : Int32)) fun o231 =>
(Option.bind (if ((r173 >>> (y15_201 &&& 31)) &&& (1 : Int32)) = (1 : Int32) then
some (1 : Int32)
else
some (0 : Int32)) fun o232 =>
(Option.bind (if o231 = o232 then
(Option.bind (if r228 = (2 : Int32) then
some (1 : Int32)
else
some (0 : Int32)) fun o240 =>
(Option.bind (if ((r174 >>> (y15_201 &&& 31)) &&& (1 : Int32)) = (1 : Int32) then
some (1 : Int32)
else
some (0 : Int32)) fun o241 =>
(if o240 = o241 then
(Option.bind (if r228 = (3 : Int32) then
some (1 : Int32)
else
some (0 : Int32)) fun o242 =>
(Option.bind (if ((r175 >>> (y15_201 &&& 31)) &&& (1 : Int32)) = (1 : Int32) then
some (1 : Int32)
else
some (0 : Int32)) fun o243 =>
(if o242 = o243 then
(Option.bind (if r229 = (-1 : Int32) then
some (1 : Int32)
else
some (0 : Int32)) fun o244 =>
(Option.bind (if r228 = (3 : Int32) then
some (0 : Int32)
else
some (1 : Int32)) fun o245 =>
(if o244 = o245 then
(if r3 ≤ r229 then
some (0 : Int32)
else
(if r228 = 0 then
some (1 : Int32)
else
(if r230 = 0 then
some (1 : Int32)
else
some (0 : Int32))))
else
some (0 : Int32))))
else
some (0 : Int32))))
else
some (0 : Int32))))
else
some (0 : Int32)) fun o239 =>
(jlet (y7_201 + r230) fun x246 =>
(Option.bind (if 0 ≤ y8_201 then
some y8_201
else
(if r228 = 0 then
(if r230 = 0 then
some (y15_201 + ((10 : Int32) * y11_99))
else
some y8_201)
else
some y8_201)) fun o247 =>
(Option.bind (if 0 ≤ y9_201 then
some y9_201
else
(if r228 = 0 then
(if r230 = (1 : Int32) then
some (y15_201 + ((10 : Int32) * y11_99))
else
some y9_201)
else
some y9_201)) fun o248 =>
(jlet (y15_201 + (1)) fun x249 =>
rec201 x246 o247 o248 o239 x249))))))))))))
def f_L_hangs_L201 (μ : ZT) (r1 : Int32) (r3 : Int32) (y11_99 : Int32) (r173 : Int32) (r174 : Int32) (r175 : Int32) : Nat → (Int32) → (Int32) → (Int32) → (Int32) → (Int32) → Option (Int32 × Int32 × Int32 × Int32)
  | 0, _, _, _, _, _ => none
  | n + 1, y7_201, y8_201, y9_201, y10_201, y15_201 => f_L_hangs_L201_b μ r1 r3 y11_99 r173 r174 r175 (f_L_hangs_L201 μ r1 r3 y11_99 r173 r174 r175 n) y7_201 y8_201 y9_201 y10_201 y15_201
def f_L_hangs_L99_b (μ : ZT) (r1 : Int32) (r2 : Int32) (r3 : Int32) (rec99 : (Int32) → (Int32) → (Int32) → (Int32) → (Int32) → (Int32) → (Int32) → (Int32) → Option (Int32 × Int32 × Int32 × Int32 × Int32 × Int32 × Int32)) (y4_99 : Int32) (y5_99 : Int32) (y6_99 : Int32) (y7_99 : Int32) (y8_99 : Int32) (y9_99 : Int32) (y10_99 : Int32) (y11_99 : Int32) : Option (Int32 × Int32 × Int32 × Int32 × Int32 × Int32 × Int32) :=
(if r2 ≤ y11_99 then
some (y4_99, y5_99, y6_99, y7_99, y8_99, y9_99, y10_99)
else
(if y10_99 = 0 then
some (y4_99, y5_99, y6_99, y7_99, y8_99, y9_99, y10_99)
else
(Option.bind (q_row μ y11_99 (0 : Int32)) fun r173 =>
(Option.bind (q_row μ y11_99 (1 : Int32)) fun r174 =>
(Option.bind (q_row μ y11_99 (2 : Int32)) fun r175 =>
(Option.bind (f_L_bits r173) fun r176 =>
(jlet (y4_99 + r176) fun x177 =>
(Option.bind (f_L_bits r174) fun r178 =>
(jlet (y5_99 + r178) fun x179 =>
(Option.bind (f_L_bits r175) fun r180 =>
(jlet (y6_99 + r180) fun x181 =>
(Option.bind (if (r173 &&& r174) = 0 then
(if (r173 &&& r175) = 0 then
(if (r174 &&& r175) = 0 then
some (1 : Int32)
else
some (0 : Int32))
else
some (0 : Int32))
else
some (0 : Int32)) fun o182 =>
(Option.bind (f_L_hangs_L201 μ r1 r3 y11_99 r173 r174 r175 4096 y7_99 y8_99 y9_99 o182 (0 : Int32)) fun o227 =>
(jlet (y11_99 + (1)) fun x250 =>
rec99 x177 x179 x181 o227.1 o227.2.1 o227.2.2.1 o227.2.2.2 x250))))))))))))))
def f_L_hangs_L99 (μ : ZT) (r1 : Int32) (r2 : Int32) (r3 : Int32) : Nat → (Int32) → (Int32) → (Int32) → (Int32) → (Int32) → (Int32) → (Int32) → (Int32) → Option (Int32 × Int32 × Int32 × Int32 × Int32 × Int32 × Int32)
  | 0, _, _, _, _, _, _, _, _ => none
  | n + 1, y4_99, y5_99, y6_99, y7_99, y8_99, y9_99, y10_99, y11_99 => f_L_hangs_L99_b μ r1 r2 r3 (f_L_hangs_L99 μ r1 r2 r3 n) y4_99 y5_99 y6_99 y7_99 y8_99 y9_99 y10_99 y11_99
def f_L_hangs_L565_b (μ : ZT) (r3 : Int32) (rec565 : (Int32) → (Int32) → Option (Int32)) (y10_565 : Int32) (y11_565 : Int32) : Option (Int32) :=
(if r3 ≤ y11_565 then
some y10_565
else
(if y10_565 = 0 then
some y10_565
else
(Option.bind (q_triple μ y11_565 (0 : Int32)) fun r401 =>
(Option.bind (q_triple μ y11_565 (1 : Int32)) fun r402 =>
(Option.bind (q_triple μ y11_565 (2 : Int32)) fun r403 =>
(Option.bind (q_cellOf μ r401 r402 (1 : Int32)) fun r404 =>
(Option.bind (if r404 = y11_565 then
(Option.bind (q_cellOf μ (r401 + (1 : Int32)) r402 (1 : Int32)) fun r436 =>
(if r436 = y11_565 then
(Option.bind (q_cellOf μ (r401 + (1 : Int32)) (r402 + (1 : Int32)) (1 : Int32)) fun r437 =>
(if r437 = y11_565 then
(Option.bind (q_cellOf μ r401 (r402 + (1 : Int32)) (1 : Int32)) fun r438 =>
(if r438 = y11_565 then
(Option.bind (q_whyNot μ r401 r402 ((r403 + (1 : Int32)) - (r403 + (1 : Int32)) / (4 : Int32) * (4 : Int32))) fun r439 =>
(if r439 ≤ (1 : Int32) then
some (0 : Int32)
else
some (1 : Int32)))
else
(if r403 = (3 : Int32) then
(Option.bind (q_whyNot μ r401 r402 ((r403 + (1 : Int32)) - (r403 + (1 : Int32)) / (4 : Int32) * (4 : Int32))) fun r440 =>
(if r440 ≤ (1 : Int32) then
some (0 : Int32)
else
some (1 : Int32)))
else
some (0 : Int32))))
else
(if r403 = (2 : Int32) then
(Option.bind (q_cellOf μ r401 (r402 + (1 : Int32)) (1 : Int32)) fun r441 =>
(if r441 = y11_565 then
(Option.bind (q_whyNot μ r401 r402 ((r403 + (1 : Int32)) - (r403 + (1 : Int32)) / (4 : Int32) * (4 : Int32))) fun r442 =>
(if r442 ≤ (1 : Int32) then
some (0 : Int32)
else
some (1 : Int32)))
else
(if r403 = (3 : Int32) then
(Option.bind (q_whyNot μ r401 r402 ((r403 + (1 : Int32)) - (r403 + (1 : Int32)) / (4 : Int32) * (4 : Int32))) fun r443 =>
(if r443 ≤ (1 : Int32) then
some (0 : Int32)
else
some (1 : Int32)))
else
some (0 : Int32))))
else
some (0 : Int32))))
else
(if r403 = (1 : Int32) then
(Option.bind (q_cellOf μ (r401 + (1 : Int32)) (r402 + (1 : Int32)) (1 : Int32)) fun r444 =>
(if r444 = y11_565 then
(Option.bind (q_cellOf μ r401 (r402 + (1 : Int32)) (1 : Int32)) fun r445 =>
(if r445 = y11_565 then
(Option.bind (q_whyNot μ r401 r402 ((r403 + (1 : Int32)) - (r403 + (1 : Int32)) / (4 : Int32) * (4 : Int32))) fun r446 =>
(if r446 ≤ (1 : Int32) then
some (0 : Int32)
else
some (1 : Int32)))
else
(if r403 = (3 : Int32) then
(Option.bind (q_whyNot μ r401 r402 ((r403 + (1 : Int32)) - (r403 + (1 : Int32)) / (4 : Int32) * (4 : Int32))) fun r447 =>
(if r447 ≤ (1 : Int32) then
some (0 : Int32)
else
some (1 : Int32)))
else
some (0 : Int32))))
else
(if r403 = (2 : Int32) then
(Option.bind (q_cellOf μ r401 (r402 + (1 : Int32)) (1 : Int32)) fun r448 =>
(if r448 = y11_565 then
(Option.bind (q_whyNot μ r401 r402 ((r403 + (1 : Int32)) - (r403 + (1 : Int32)) / (4 : Int32) * (4 : Int32))) fun r449 =>
(if r449 ≤ (1 : Int32) then
some (0 : Int32)
else
some (1 : Int32)))
else
(if r403 = (3 : Int32) then
(Option.bind (q_whyNot μ r401 r402 ((r403 + (1 : Int32)) - (r403 + (1 : Int32)) / (4 : Int32) * (4 : Int32))) fun r450 =>
(if r450 ≤ (1 : Int32) then
some (0 : Int32)
else
some (1 : Int32)))
else
some (0 : Int32))))
else
some (0 : Int32))))
else
some (0 : Int32))))
else
(if r403 = 0 then
(Option.bind (q_cellOf μ (r401 + (1 : Int32)) r402 (1 : Int32)) fun r451 =>
(if r451 = y11_565 then
(Option.bind (q_cellOf μ (r401 + (1 : Int32)) (r402 + (1 : Int32)) (1 : Int32)) fun r452 =>
(if r452 = y11_565 then
(Option.bind (q_cellOf μ r401 (r402 + (1 : Int32)) (1 : Int32)) fun r453 =>
(if r453 = y11_565 then
(Option.bind (q_whyNot μ r401 r402 ((r403 + (1 : Int32)) - (r403 + (1 : Int32)) / (4 : Int32) * (4 : Int32))) fun r454 =>
(if r454 ≤ (1 : Int32) then
some (0 : Int32)
else
some (1 : Int32)))
else
(if r403 = (3 : Int32) then
(Option.bind (q_whyNot μ r401 r402 ((r403 + (1 : Int32)) - (r403 + (1 : Int32)) / (4 : Int32) * (4 : Int32))) fun r455 =>
(if r455 ≤ (1 : Int32) then
some (0 : Int32)
else
some (1 : Int32)))
else
some (0 : Int32))))
else
(if r403 = (2 : Int32) then
(Option.bind (q_cellOf μ r401 (r402 + (1 : Int32)) (1 : Int32)) fun r456 =>
(if r456 = y11_565 then
(Option.bind (q_whyNot μ r401 r402 ((r403 + (1 : Int32)) - (r403 + (1 : Int32)) / (4 : Int32) * (4 : Int32))) fun r457 =>
(if r457 ≤ (1 : Int32) then
some (0 : Int32)
else
some (1 : Int32)))
else
(if r403 = (3 : Int32) then
(Option.bind (q_whyNot μ r401 r402 ((r403 + (1 : Int32)) - (r403 + (1 : Int32)) / (4 : Int32) * (4 : Int32))) fun r458 =>
(if r458 ≤ (1 : Int32) then
some (0 : Int32)
else
some (1 : Int32)))
else
some (0 : Int32))))
else
some (0 : Int32))))
else
(if r403 = (1 : Int32) then
(Option.bind (q_cellOf μ (r401 + (1 : Int32)) (r402 + (1 : Int32)) (1 : Int32)) fun r459 =>
(if r459 = y11_565 then
(Option.bind (q_cellOf μ r401 (r402 + (1 : Int32)) (1 : Int32)) fun r460 =>
(if r460 = y11_565 then
(Option.bind (q_whyNot μ r401 r402 ((r403 + (1 : Int32)) - (r403 + (1 : Int32)) / (4 : Int32) * (4 : Int32))) fun r461 =>
(if r461 ≤ (1 : Int32) then
some (0 : Int32)
else
some (1 : Int32)))
else
(if r403 = (3 : Int32) then
(Option.bind (q_whyNot μ r401 r402 ((r403 + (1 : Int32)) - (r403 + (1 : Int32)) / (4 : Int32) * (4 : Int32))) fun r462 =>
(if r462 ≤ (1 : Int32) then
some (0 : Int32)
else
some (1 : Int32)))
else
some (0 : Int32))))
else
(if r403 = (2 : Int32) then
(Option.bind (q_cellOf μ r401 (r402 + (1 : Int32)) (1 : Int32)) fun r463 =>
(if r463 = y11_565 then
(Option.bind (q_whyNot μ r401 r402 ((r403 + (1 : Int32)) - (r403 + (1 : Int32)) / (4 : Int32) * (4 : Int32))) fun r464 =>
(if r464 ≤ (1 : Int32) then
some (0 : Int32)
else
some (1 : Int32)))
else
(if r403 = (3 : Int32) then
(Option.bind (q_whyNot μ r401 r402 ((r403 + (1 : Int32)) - (r403 + (1 : Int32)) / (4 : Int32) * (4 : Int32))) fun r465 =>
(if r465 ≤ (1 : Int32) then
some (0 : Int32)
else
some (1 : Int32)))
else
some (0 : Int32))))
else
some (0 : Int32))))
else
some (0 : Int32))))
else
some (0 : Int32))) fun o435 =>
(jlet (y11_565 + (1)) fun x466 =>
rec565 o435 x466))))))))
def f_L_hangs_L565 (μ : ZT) (r3 : Int32) : Nat → (Int32) → (Int32) → Option (Int32)
  | 0, _, _ => none
  | n + 1, y10_565, y11_565 => f_L_hangs_L565_b μ r3 (f_L_hangs_L565 μ r3 n) y10_565 y11_565
def f_L_hangs (μ : ZT) : Option (Int32) :=
(Option.bind (q_count μ (0 : Int32)) fun r1 =>
(Option.bind (q_count μ (1 : Int32)) fun r2 =>
(Option.bind (q_count μ (5 : Int32)) fun r3 =>
(Option.bind (t_cellOf μ r1 (0 : Int32) (0 : Int32)) fun r4 =>
(Option.bind (if r4 = (-2000001 : Int32) then
(Option.bind (t_row μ r2 (0 : Int32)) fun r11 =>
(if r11 = (-2000001 : Int32) then
(Option.bind (t_triple μ r3 (0 : Int32)) fun r12 =>
(if r12 = (-2000001 : Int32) then
(Option.bind (q_count μ (2 : Int32)) fun r13 =>
(Option.bind (q_count μ (3 : Int32)) fun r14 =>
(Option.bind (q_cellOf μ r13 r14 (0 : Int32)) fun r15 =>
(if r15 = (1 : Int32) then
some (1 : Int32)
else
some (0 : Int32)))))
else
some (0 : Int32)))
else
some (0 : Int32)))
else
some (0 : Int32)) fun o10 =>
(Option.bind (f_L_hangs_L99 μ r1 r2 r3 4096 (0 : Int32) (0 : Int32) (0 : Int32) (0 : Int32) (-1 : Int32) (-1 : Int32) o10 (0 : Int32)) fun o172 =>
(Option.bind (if o172.2.2.2.2.2.2 = 0 then
some (0 : Int32)
else
(Option.bind (q_count μ (6 : Int32)) fun r260 =>
(if o172.1 = r260 then
(Option.bind (q_count μ (4 : Int32)) fun r261 =>
(if o172.2.1 = r261 then
(if o172.2.2.1 = ((3 : Int32) * r3) then
(Option.bind (q_count μ (7 : Int32)) fun r262 =>
(if o172.2.2.2.1 = ((3 : Int32) * r262) then
(Option.bind (q_lonely μ) fun r263 =>
(if r263 = o172.2.2.2.2.1 then
(Option.bind (q_forced μ (0 : Int32)) fun r264 =>
(if r264 = o172.2.2.2.2.2.1 then
(Option.bind (if 0 ≤ o172.2.2.2.2.2.1 then
some (0 : Int32)
else
some (1 : Int32)) fun o265 =>
(Option.bind (q_forced μ (1 : Int32)) fun r266 =>
(Option.bind (if r266 = (-1 : Int32) then
some (1 : Int32)
else
some (0 : Int32)) fun o267 =>
(if o265 = o267 then
some (1 : Int32)
else
some (0 : Int32)))))
else
some (0 : Int32)))
else
some (0 : Int32)))
else
some (0 : Int32)))
else
some (0 : Int32))
else
some (0 : Int32)))
else
some (0 : Int32)))) fun o259 =>
(Option.bind (f_L_hangs_L565 μ r3 4096 o259 (0 : Int32)) fun o400 =>
(if o400 = 0 then
some (0 : Int32)
else
(if o172.2.2.2.2.1 < 0 then
some (1 : Int32)
else
(Option.bind (q_ways μ) fun r467 =>
(if r467 = 0 then
some (1 : Int32)
else
some (0 : Int32)))))))))))))

def f_L_addsUp_L27_b (μ : ZT) (r1 : Int32) (rec27 : (Int32) → (Int32) → Option (Int32)) (y4_27 : Int32) (y5_27 : Int32) : Option (Int32) :=
(if y5_27 < 0 then
some y4_27
else
(if r1 = 0 then none else
(if r1 = 0 then none else
(Option.bind (q_cellOf μ (y5_27 - y5_27 / r1 * r1) (y5_27 / r1) (0 : Int32)) fun r18 =>
(Option.bind (if r18 = 0 then
some y5_27
else
some y4_27) fun o19 =>
(jlet (y5_27 + (-1)) fun x20 =>
rec27 o19 x20))))))
def f_L_addsUp_L27 (μ : ZT) (r1 : Int32) : Nat → (Int32) → (Int32) → Option (Int32)
  | 0, _, _ => none
  | n + 1, y4_27, y5_27 => f_L_addsUp_L27_b μ r1 (f_L_addsUp_L27 μ r1 n) y4_27 y5_27
def f_L_addsUp_L97_b (μ : ZT) (x22 : Int32) (x24 : Int32) (rec97 : (Int32) → (Int32) → Option (Int32)) (y7_97 : Int32) (y8_97 : Int32) : Option (Int32) :=
(if (4 : Int32) ≤ y8_97 then
some y7_97
else
(Option.bind (if y8_97 = 0 then
some (x22 - (1 : Int32))
else
some x22) fun o36 =>
(Option.bind (q_waysWith μ o36 x24 y8_97) fun r37 =>
(Option.bind (if 0 ≤ r37 then
some r37
else
some (0 : Int32)) fun o38 =>
(jlet (y7_97 + o38) fun x39 =>
(jlet (y8_97 + (1)) fun x40 =>
rec97 x39 x40))))))
def f_L_addsUp_L97 (μ : ZT) (x22 : Int32) (x24 : Int32) : Nat → (Int32) → (Int32) → Option (Int32)
  | 0, _, _ => none
  | n + 1, y7_97, y8_97 => f_L_addsUp_L97_b μ x22 x24 (f_L_addsUp_L97 μ x22 x24 n) y7_97 y8_97
def f_L_addsUp (μ : ZT) : Option (Int32) :=
(Option.bind (q_count μ (0 : Int32)) fun r1 =>
(Option.bind (q_count μ (1 : Int32)) fun r2 =>
(Option.bind (q_ways μ) fun r3 =>
(jlet ((r1 * r2) - (1 : Int32)) fun x4 =>
(Option.bind (f_L_addsUp_L27 μ r1 4096 (-1 : Int32) x4) fun o15 =>
(if 0 ≤ o15 then
(if r1 = 0 then none else
(jlet (o15 - o15 / r1 * r1) fun x22 =>
(if r1 = 0 then none else
(jlet (o15 / r1) fun x24 =>
(Option.bind (f_L_addsUp_L97 μ x22 x24 4096 (0 : Int32) (0 : Int32)) fun o35 =>
(if o35 = r3 then
some (1 : Int32)
else
some (0 : Int32)))))))
else
(if r3 = (1 : Int32) then
some (1 : Int32)
else
some (0 : Int32))))))))

def f_L_law_L70_b (L : Nat) (xs : Nat → Int32) (rec70 : (Int32) → (Int32) → (ZT) → Option (Int32 × (ZT))) (y2_70 : Int32) (y3_70 : Int32) (st_70 : ZT) : Option (Int32 × (ZT)) :=
(if (20 : Int32) ≤ y3_70 then
some (y2_70, st_70)
else
(if y2_70 = 0 then
some (y2_70, st_70)
else
(Option.bind (q_scr L xs y3_70) fun r354 =>
(jlet (r354 / (16 : Int32)) fun x355 =>
(jlet (r354 - r354 / (16 : Int32) * (16 : Int32)) fun x356 =>
(Option.bind (q_count st_70 (11 : Int32)) fun r357 =>
(Option.bind (q_count st_70 (10 : Int32)) fun r358 =>
(Option.bind (q_count st_70 (9 : Int32)) fun r359 =>
(Option.bind (q_count st_70 (6 : Int32)) fun r360 =>
(Option.bind (q_ways st_70) fun r361 =>
(Option.bind (q_count st_70 (0 : Int32)) fun r362 =>
(if r362 = 0 then none else
(jlet (x355 - x355 / r362 * r362) fun x364 =>
(Option.bind (q_count st_70 (1 : Int32)) fun r365 =>
(if r365 = 0 then none else
(jlet ((x355 / (8 : Int32)) - (x355 / (8 : Int32)) / r365 * r365) fun x367 =>
(Option.bind (if x356 ≤ (3 : Int32) then
some (-1 : Int32)
else
(if (9 : Int32) ≤ x356 then
some (-1 : Int32)
else
(Option.bind (q_whyNot st_70 x364 x367 ((x355 / (64 : Int32)) - (x355 / (64 : Int32)) / (4 : Int32) * (4 : Int32))) fun r370 =>
some r370))) fun o369 =>
(Option.bind (f_L_acts st_70 r354) fun r371 =>
(Option.bind (if r371.1 ≤ (-2000000 : Int32) then
some (0 : Int32)
else
some (1 : Int32)) fun o372 =>
(Option.bind (q_count r371.2 (11 : Int32)) fun r373 =>
(Option.bind (if o372 = 0 then
some r357
else
(if x356 = (15 : Int32) then
(if (x355 - x355 / (2 : Int32) * (2 : Int32)) = (1 : Int32) then
some r357
else
(if r357 = (6 : Int32) then
some r357
else
some (r357 + (1 : Int32))))
else
(if r357 = (6 : Int32) then
some r357
else
some (r357 + (1 : Int32))))) fun o374 =>
(Option.bind (if r373 = o374 then
some (1 : Int32)
else
some (0 : Int32)) fun o375 =>
(Option.bind (if o375 = 0 then
some (0 : Int32)
else
(if o369 < 0 then
some (1 : Int32)
else
(if r371.1 = o369 then
(Option.bind (q_count r371.2 (10 : Int32)) fun r381 =>
(Option.bind (if o369 ≤ 0 then
some (0 : Int32)
else
some (1 : Int32)) fun o382 =>
(if r381 = (r358 + o382) then
(Option.bind (q_count r371.2 (6 : Int32)) fun r383 =>
(Option.bind (if o369 ≤ 0 then
some (3 : Int32)
else
some (0 : Int32)) fun o384 =>
(if r383 = (r360 - o384) then
some (1 : Int32)
else
some (0 : Int32))))
else
some (0 : Int32))))
else
some (0 : Int32)))) fun o380 =>
(Option.bind (if o380 = 0 then
(if o380 = 0 then
(if o380 = 0 then
some (o380, r371.2)
else
(if x356 = (14 : Int32) then
(if o372 = 0 then
some (o380, r371.2)
else
(Option.bind (q_count r371.2 (6 : Int32)) fun r452 =>
(Option.bind (if r452 = 0 then
(Option.bind (q_count r371.2 (0 : Int32)) fun r456 =>
(Option.bind (q_count r371.2 (0 : Int32)) fun r457 =>
(if ((r371.1 * (3 : Int32)) + (1 : Int32)) = (r456 * r457) then
some (1 : Int32)
else
some (0 : Int32))))
else
some (0 : Int32)) fun o455 =>
some (o455, r371.2))))
else
some (o380, r371.2)))
else
(if x356 = (12 : Int32) then
(Option.bind (if o372 = 0 then
(if r361 = 0 then
(Option.bind (q_count r371.2 (6 : Int32)) fun r462 =>
(if r462 = r360 then
some (1 : Int32)
else
some (0 : Int32)))
else
some (0 : Int32))
else
(if r361 ≤ 0 then
some (0 : Int32)
else
(if (r371.1 * (3 : Int32)) = r360 then
(Option.bind (q_count r371.2 (6 : Int32)) fun r463 =>
(if r463 = 0 then
(Option.bind (q_ways r371.2) fun r464 =>
(if r464 = (1 : Int32) then
some (1 : Int32)
else
some (0 : Int32)))
else
some (0 : Int32)))
else
some (0 : Int32)))) fun o461 =>
some (o461, r371.2))
else
(if x356 = (13 : Int32) then
(Option.bind (if o372 = 0 then
(if r361 = 0 then
(Option.bind (q_count r371.2 (6 : Int32)) fun r475 =>
(if r475 = r360 then
some (1 : Int32)
else
some (0 : Int32)))
else
some (0 : Int32))
else
(if r361 ≤ 0 then
some (0 : Int32)
else
(if (r371.1 * (3 : Int32)) = r360 then
(Option.bind (q_count r371.2 (6 : Int32)) fun r476 =>
(if r476 = 0 then
(Option.bind (q_ways r371.2) fun r477 =>
(if r477 = (1 : Int32) then
some (1 : Int32)
else
some (0 : Int32)))
else
some (0 : Int32)))
else
some (0 : Int32)))) fun o474 =>
some (o474, r371.2))
else
(if o380 = 0 then
some (o380, r371.2)
else
(if x356 = (14 : Int32) then
(if o372 = 0 then
some (o380, r371.2)
else
(Option.bind (q_count r371.2 (6 : Int32)) fun r465 =>
(Option.bind (if r465 = 0 then
(Option.bind (q_count r371.2 (0 : Int32)) fun r469 =>
(Option.bind (q_count r371.2 (0 : Int32)) fun r470 =>
(if ((r371.1 * (3 : Int32)) + (1 : Int32)) = (r469 * r470) then
some (1 : Int32)
else
some (0 : Int32))))
else
some (0 : Int32)) fun o468 =>
some (o468, r371.2))))
else
some (o380, r371.2))))))
else
(if x356 = (10 : Int32) then
(Option.bind (if o372 = 0 then
some ((1 : Int32), r371.2)
else
(if r371.1 = (r359 + (1 : Int32)) then
(Option.bind (q_ways r371.2) fun r482 =>
(if r482 = r361 then
(Option.bind (if ((x355 / (64 : Int32)) - (x355 / (64 : Int32)) / (2 : Int32) * (2 : Int32)) = 0 then
some (1 : Int32)
else
some (0 : Int32)) fun o483 =>
(Option.bind (mv_flip r371.2 x364 x367 o483) fun r484 =>
(if r484.1 = (r371.1 + (1 : Int32)) then
some ((1 : Int32), r484.2)
else
some ((0 : Int32), r484.2))))
else
some ((0 : Int32), r371.2)))
else
some ((0 : Int32), r371.2))) fun o481 =>
some (o481.1, o481.2))
else
(if x356 = (11 : Int32) then
(Option.bind (if o372 = 0 then
some ((1 : Int32), r371.2)
else
(if r371.1 = (r359 + (1 : Int32)) then
(Option.bind (q_ways r371.2) fun r515 =>
(if r515 = r361 then
(Option.bind (if ((x355 / (64 : Int32)) - (x355 / (64 : Int32)) / (2 : Int32) * (2 : Int32)) = 0 then
some (1 : Int32)
else
some (0 : Int32)) fun o516 =>
(Option.bind (mv_flip r371.2 x364 x367 o516) fun r517 =>
(if r517.1 = (r371.1 + (1 : Int32)) then
some ((1 : Int32), r517.2)
else
some ((0 : Int32), r517.2))))
else
some ((0 : Int32), r371.2)))
else
some ((0 : Int32), r371.2))) fun o514 =>
some (o514.1, o514.2))
else
(if o380 = 0 then
(if o380 = 0 then
some (o380, r371.2)
else
(if x356 = (14 : Int32) then
(if o372 = 0 then
some (o380, r371.2)
else
(Option.bind (q_count r371.2 (6 : Int32)) fun r485 =>
(Option.bind (if r485 = 0 then
(Option.bind (q_count r371.2 (0 : Int32)) fun r489 =>
(Option.bind (q_count r371.2 (0 : Int32)) fun r490 =>
(if ((r371.1 * (3 : Int32)) + (1 : Int32)) = (r489 * r490) then
some (1 : Int32)
else
some (0 : Int32))))
else
some (0 : Int32)) fun o488 =>
some (o488, r371.2))))
else
some (o380, r371.2)))
else
(if x356 = (12 : Int32) then
(Option.bind (if o372 = 0 then
(if r361 = 0 then
(Option.bind (q_count r371.2 (6 : Int32)) fun r495 =>
(if r495 = r360 then
some (1 : Int32)
else
some (0 : Int32)))
else
some (0 : Int32))
else
(if r361 ≤ 0 then
some (0 : Int32)
else
(if (r371.1 * (3 : Int32)) = r360 then
(Option.bind (q_count r371.2 (6 : Int32)) fun r496 =>
(if r496 = 0 then
(Option.bind (q_ways r371.2) fun r497 =>
(if r497 = (1 : Int32) then
some (1 : Int32)
else
some (0 : Int32)))
else
some (0 : Int32)))
else
some (0 : Int32)))) fun o494 =>
some (o494, r371.2))
else
(if x356 = (13 : Int32) then
(Option.bind (if o372 = 0 then
(if r361 = 0 then
(Option.bind (q_count r371.2 (6 : Int32)) fun r508 =>
(if r508 = r360 then
some (1 : Int32)
else
some (0 : Int32)))
else
some (0 : Int32))
else
(if r361 ≤ 0 then
some (0 : Int32)
else
(if (r371.1 * (3 : Int32)) = r360 then
(Option.bind (q_count r371.2 (6 : Int32)) fun r509 =>
(if r509 = 0 then
(Option.bind (q_ways r371.2) fun r510 =>
(if r510 = (1 : Int32) then
some (1 : Int32)
else
some (0 : Int32)))
else
some (0 : Int32)))
else
some (0 : Int32)))) fun o507 =>
some (o507, r371.2))
else
(if o380 = 0 then
some (o380, r371.2)
else
(if x356 = (14 : Int32) then
(if o372 = 0 then
some (o380, r371.2)
else
(Option.bind (q_count r371.2 (6 : Int32)) fun r498 =>
(Option.bind (if r498 = 0 then
(Option.bind (q_count r371.2 (0 : Int32)) fun r502 =>
(Option.bind (q_count r371.2 (0 : Int32)) fun r503 =>
(if ((r371.1 * (3 : Int32)) + (1 : Int32)) = (r502 * r503) then
some (1 : Int32)
else
some (0 : Int32))))
else
some (0 : Int32)) fun o501 =>
some (o501, r371.2))))
else
some (o380, r371.2))))))))) fun o451 =>
(Option.bind (if o451.1 = 0 then
some (0 : Int32)
else
(Option.bind (f_L_hangs o451.2) fun r521 =>
(if r521 = 0 then
some (0 : Int32)
else
(Option.bind (f_L_addsUp o451.2) fun r522 =>
(if r522 = 0 then
some (0 : Int32)
else
some (1 : Int32)))))) fun o520 =>
(jlet (y3_70 + (1)) fun x523 =>
rec70 o520 x523 o451.2))))))))))))))))))))))))))
def f_L_law_L70 (L : Nat) (xs : Nat → Int32) : Nat → (Int32) → (Int32) → (ZT) → Option (Int32 × (ZT))
  | 0, _, _, _ => none
  | n + 1, y2_70, y3_70, st_70 => f_L_law_L70_b L xs (f_L_law_L70 L xs n) y2_70 y3_70 st_70
def f_L_law (L : Nat) (xs : Nat → Int32) (μ : ZT) : Option (Int32) :=
(Option.bind (mv_undo μ) fun r1 =>
(Option.bind (if r1.1 = (-2000001 : Int32) then
(Option.bind (mv_goBack r1.2 (0 : Int32)) fun r8 =>
(if r8.1 = (-2000002 : Int32) then
(Option.bind (mv_load r8.2) fun r9 =>
(if r9.1 = (-2000001 : Int32) then
(Option.bind (q_firstError r9.2) fun r10 =>
(if r10 = 0 then
(Option.bind (q_ways r9.2) fun r11 =>
(if r11 = (1 : Int32) then
(Option.bind (mv_lift r9.2 (0 : Int32) (0 : Int32)) fun r12 =>
(if r12.1 = (-2000002 : Int32) then
some ((1 : Int32), r12.2)
else
some ((0 : Int32), r12.2)))
else
some ((0 : Int32), r9.2)))
else
some ((0 : Int32), r9.2)))
else
some ((0 : Int32), r9.2)))
else
some ((0 : Int32), r8.2)))
else
some ((0 : Int32), r1.2)) fun o7 =>
(Option.bind (f_L_law_L70 L xs 32 o7.1 (0 : Int32) o7.2) fun o353 =>
(Option.bind (if o353.1 = 0 then
some (0 : Int32)
else
(Option.bind (q_bestPond o353.2) fun r526 =>
some r526)) fun o525 =>
(Option.bind (if o353.1 = 0 then
some (o353.1, o353.2)
else
(if o525 < 0 then
some (o353.1, o353.2)
else
(Option.bind (q_ways o353.2) fun r539 =>
(Option.bind (mv_pond o353.2 (o525 - o525 / (10 : Int32) * (10 : Int32)) (o525 / (10 : Int32))) fun r540 =>
(Option.bind (if r540.1 < 0 then
some ((0 : Int32), r540.2)
else
(Option.bind (q_ways r540.2) fun r546 =>
(if r546 < r539 then
some ((0 : Int32), r540.2)
else
(Option.bind (q_ways r540.2) fun r547 =>
(if r547 ≤ 0 then
some ((0 : Int32), r540.2)
else
(Option.bind (mv_undo r540.2) fun r548 =>
(if r548.1 < 0 then
some ((0 : Int32), r548.2)
else
(Option.bind (q_ways r548.2) fun r549 =>
(if r549 = r539 then
some ((1 : Int32), r548.2)
else
some ((0 : Int32), r548.2)))))))))) fun o545 =>
some (o545.1, o545.2)))))) fun o538 =>
(if o538.1 = 0 then
some (0 : Int32)
else
(Option.bind (f_L_hangs o538.2) fun r550 =>
(if r550 = 0 then
some (0 : Int32)
else
(Option.bind (mv_garden o538.2 (9 : Int32) (2 : Int32)) fun r551 =>
(if r551.1 = (-2000001 : Int32) then
(Option.bind (mv_pond r551.2 (-1 : Int32) (0 : Int32)) fun r552 =>
(if r552.1 = (-2000001 : Int32) then
(Option.bind (mv_wall r552.2 (0 : Int32) (8 : Int32)) fun r553 =>
(if r553.1 = (-2000001 : Int32) then
(Option.bind (mv_lay r553.2 (0 : Int32) (0 : Int32) (4 : Int32)) fun r554 =>
(if r554.1 = (-2000001 : Int32) then
(Option.bind (q_whyNot r554.2 (-5 : Int32) (0 : Int32) (0 : Int32)) fun r555 =>
(if r555 = (1 : Int32) then
(Option.bind (mv_flip r554.2 (7 : Int32) (7 : Int32) (1 : Int32)) fun r556 =>
(if r556.1 = (-2000001 : Int32) then
(Option.bind (mv_append r556.2 (127 : Int32)) fun r557 =>
(if r557.1 = (-2000001 : Int32) then
(Option.bind (mv_keep r557.2 (2 : Int32)) fun r558 =>
(if r558.1 = (-2000001 : Int32) then
(Option.bind (t_cellOf r558.2 (0 : Int32) (0 : Int32) (3 : Int32)) fun r559 =>
(if r559 = (-2000002 : Int32) then
(Option.bind (t_row r558.2 (0 : Int32) (3 : Int32)) fun r560 =>
(if r560 = (-2000002 : Int32) then
(Option.bind (t_count r558.2 (12 : Int32)) fun r561 =>
(if r561 = (-2000001 : Int32) then
(Option.bind (t_waysWith r558.2 (0 : Int32) (0 : Int32) (-1 : Int32)) fun r562 =>
(if r562 = (-2000001 : Int32) then
(Option.bind (t_forced r558.2 (2 : Int32)) fun r563 =>
(if r563 = (-2000001 : Int32) then
some (1 : Int32)
else
some (0 : Int32)))
else
some (0 : Int32)))
else
some (0 : Int32)))
else
some (0 : Int32)))
else
some (0 : Int32)))
else
some (0 : Int32)))
else
some (0 : Int32)))
else
some (0 : Int32)))
else
some (0 : Int32)))
else
some (0 : Int32)))
else
some (0 : Int32)))
else
some (0 : Int32)))
else
some (0 : Int32)))))))))))
