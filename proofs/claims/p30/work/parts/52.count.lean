/-! ===== how many bits: by bytes ===== -/
theorem and_split {u v p q : Nat} (hu : u < 256) (hp : p < 256) : (u + 256 * v) &&& (p + 256 * q) = (u &&& p) + 256 * (v &&& q) := by
  have h1 := Nat.and_div_two_pow (a := u + 256 * v) (b := p + 256 * q) (n := 8)
  have h2 := Nat.and_mod_two_pow (a := u + 256 * v) (b := p + 256 * q) (n := 8)
  rw [show (u + 256 * v) / 2 ^ 8 = v by omega, show (p + 256 * q) / 2 ^ 8 = q by omega] at h1
  rw [show (u + 256 * v) % 2 ^ 8 = u by omega, show (p + 256 * q) % 2 ^ 8 = p by omega] at h2
  omega
def s1 (M x : Nat) : Nat := x - ((x / 2) &&& M)
def s2 (M x : Nat) : Nat := (x &&& M) + ((x / 4) &&& M)
def s3 (M x : Nat) : Nat := (x + x / 16) &&& M
def bm (c : Nat) : Nat → Nat
  | 0 => 0
  | n + 1 => c + 256 * bm c n
theorem bd1 : ∀ a, a < 256 → ∀ c, c < 2 → ((a / 2 + 128 * c) &&& 0x55) = ((a / 2) &&& 0x55) := by decide +kernel
theorem bd2 : ∀ a, a < 256 → ∀ c, c < 4 → ((a / 4 + 64 * c) &&& 0x33) = ((a / 4) &&& 0x33) := by decide +kernel
theorem bd3 : ∀ a, a < 69 → ∀ c, c < 5 → ((a + a / 16 + 16 * c) &&& 0x0f) = ((a + a / 16) &&& 0x0f) := by decide +kernel
theorem bd4 : ∀ a, a < 256 → s2 0x33 (s1 0x55 a) < 69 ∧ s2 0x33 (s1 0x55 a) % 16 < 5 ∧ s1 0x55 a < 256 ∧ s3 0x0f (s2 0x33 (s1 0x55 a)) = fb_ct a.testBit 8 := by decide +kernel
theorem st1 {a : Nat} (b M : Nat) (ha : a < 256) : s1 (0x55 + 256 * M) (a + 256 * b) = s1 0x55 a + 256 * s1 M b := by
  unfold s1
  rw [show (a + 256 * b) / 2 = (a / 2 + 128 * (b % 2)) + 256 * (b / 2) by omega, and_split (by omega) (by decide), bd1 a ha _ (by omega)]
  have h1 : (a / 2) &&& 0x55 ≤ a / 2 := Nat.and_le_left
  have h2 : (b / 2) &&& M ≤ b / 2 := Nat.and_le_left
  omega
theorem st2 {a : Nat} (b M : Nat) (ha : a < 256) : s2 (0x33 + 256 * M) (a + 256 * b) = s2 0x33 a + 256 * s2 M b := by
  unfold s2
  rw [show (a + 256 * b) / 4 = (a / 4 + 64 * (b % 4)) + 256 * (b / 4) by omega, and_split (by omega) (by decide), and_split (by omega) (by decide), bd2 a ha _ (by omega)]
  omega
theorem st3 {a b : Nat} (M : Nat) (ha : a < 69) (hb : b % 16 < 5) : s3 (0x0f + 256 * M) (a + 256 * b) = s3 0x0f a + 256 * s3 M b := by
  unfold s3
  rw [show (a + 256 * b) + (a + 256 * b) / 16 = (a + a / 16 + 16 * (b % 16)) + 256 * (b + b / 16) by omega, and_split (by omega) (by decide), bd3 a ha _ hb]
def sy (n x : Nat) : Nat := s2 (bm 0x33 n) (s1 (bm 0x55 n) x)
theorem sy_succ (n x : Nat) : sy (n + 1) x = s2 0x33 (s1 0x55 (x % 256)) + 256 * sy n (x / 256) := by
  have h := bd4 (x % 256) (by omega)
  unfold sy
  rw [show bm 0x33 (n + 1) = 0x33 + 256 * bm 0x33 n from rfl, show bm 0x55 (n + 1) = 0x55 + 256 * bm 0x55 n from rfl]
  rw [show s1 (0x55 + 256 * bm 0x55 n) x = s1 0x55 (x % 256) + 256 * s1 (bm 0x55 n) (x / 256) by
    have h1 := st1 (x / 256) (bm 0x55 n) (show x % 256 < 256 by omega)
    rwa [show x % 256 + 256 * (x / 256) = x by omega] at h1]
  rw [st2 _ _ h.2.2.1]
theorem sy_low (n x : Nat) : sy n x % 16 < 5 := by
  cases n with
  | zero => simp [sy, s2, bm]
  | succ n =>
    have h := bd4 (x % 256) (by omega)
    rw [sy_succ]
    omega
theorem sf_succ (n x : Nat) : s3 (bm 0x0f (n + 1)) (sy (n + 1) x) = fb_ct (x % 256).testBit 8 + 256 * s3 (bm 0x0f n) (sy n (x / 256)) := by
  have h := bd4 (x % 256) (by omega)
  rw [sy_succ, show bm 0x0f (n + 1) = 0x0f + 256 * bm 0x0f n from rfl, st3 _ h.1 (sy_low _ _), h.2.2.2]
/-- how many bits -/
def pc (m : Nat) : Nat := fb_ct m.testBit 64
theorem ct_succ (n x : Nat) : fb_ct x.testBit (8 * (n + 1)) = fb_ct (x % 256).testBit 8 + fb_ct (x / 256).testBit (8 * n) := by
  rw [show 8 * (n + 1) = 8 + 8 * n by omega, fb_ct_split]
  congr 1
  · apply fb_ct_cong
    intro k hk
    rw [show (256 : Nat) = 2 ^ 8 from rfl, Nat.testBit_mod_two_pow]
    simp [hk]
  · apply fb_ct_cong
    intro k hk
    rw [show (256 : Nat) = 2 ^ 8 from rfl, Nat.testBit_div_two_pow, Nat.add_comm]
theorem sums8 {q0 q1 q2 q3 q4 q5 q6 q7 x3 Y1 Y2 Y3 Y4 Y5 Y6 : Nat} (h : q0 ≤ 8 ∧ q1 ≤ 8 ∧ q2 ≤ 8 ∧ q3 ≤ 8 ∧ q4 ≤ 8 ∧ q5 ≤ 8 ∧ q6 ≤ 8 ∧ q7 ≤ 8) (e0 : x3 = q0 + 256 * Y1) (e1 : Y1 = q1 + 256 * Y2) (e2 : Y2 = q2 + 256 * Y3) (e3 : Y3 = q3 + 256 * Y4) (e4 : Y4 = q4 + 256 * Y5) (e5 : Y5 = q5 + 256 * Y6) (e6 : Y6 = q6 + 256 * q7) :
    ((x3 + x3 / 256) + (x3 + x3 / 256) / 65536 + ((x3 + x3 / 256) + (x3 + x3 / 256) / 65536) / 4294967296) % 128 = q0 + q1 + q2 + q3 + q4 + q5 + q6 + q7 := by
  obtain ⟨h0, h1, h2, h3, h4, h5, h6, h7⟩ := h
  have d0 : x3 / 256 = Y1 := by omega
  have d1 : (x3 + Y1) / 65536 = Y2 + Y3 := by
    rw [show (65536 : Nat) = 256 * 256 from rfl, ← Nat.div_div_eq_div_mul, show (x3 + Y1) / 256 = Y1 + Y2 by omega]
    omega
  have d2 : (x3 + Y1 + (Y2 + Y3)) / 4294967296 = Y4 + Y5 + Y6 + q7 := by
    rw [show (4294967296 : Nat) = 256 * (256 * (256 * 256)) from rfl, ← Nat.div_div_eq_div_mul, show (x3 + Y1 + (Y2 + Y3)) / 256 = Y1 + Y2 + Y3 + Y4 by omega]
    rw [← Nat.div_div_eq_div_mul, show (Y1 + Y2 + Y3 + Y4) / 256 = Y2 + Y3 + Y4 + Y5 by omega, ← Nat.div_div_eq_div_mul, show (Y2 + Y3 + Y4 + Y5) / 256 = Y3 + Y4 + Y5 + Y6 by omega]
    omega
  rw [d0, d1, d2]
  have k1 : x3 + Y1 + (Y2 + Y3) + (Y4 + Y5 + Y6 + q7) = (q0 + q1 + q2 + q3 + q4 + q5 + q6 + q7) + 256 * (Y1 + Y2 + Y3 + Y4 + Y5 + Y6 + q7) := by omega
  rw [k1]
  clear k1 d0 d1 d2 e0 e1 e2 e3 e4 e5 e6
  omega
theorem bitCountE {m : Nat} (hm : m < 2 ^ 64) : f_J13_bitCount_95d88 (lN m) = some (nI (pc m)) := by
  have a1 : (6148914691236517205 : Int64) = lN (bm 0x55 8) := by decide +kernel
  have a2 : (3689348814741910323 : Int64) = lN (bm 0x33 8) := by decide +kernel
  have a3 : (1085102592571150095 : Int64) = lN (bm 0x0f 8) := by decide +kernel
  have b1 : (m / 2) &&& bm 0x55 8 ≤ m / 2 := Nat.and_le_left
  have b2 : s1 (bm 0x55 8) m ≤ m := Nat.sub_le _ _
  have b3 : sy 8 m < 2 ^ 64 := by
    have c1 : s1 (bm 0x55 8) m &&& bm 0x33 8 ≤ bm 0x33 8 := Nat.and_le_right
    have c2 : (s1 (bm 0x55 8) m / 4) &&& bm 0x33 8 ≤ bm 0x33 8 := Nat.and_le_right
    have c3 : bm 0x33 8 < 2 ^ 62 := by decide +kernel
    show (s1 (bm 0x55 8) m &&& bm 0x33 8) + ((s1 (bm 0x55 8) m / 4) &&& bm 0x33 8) < 2 ^ 64
    omega
  have b4 : s3 (bm 0x0f 8) (sy 8 m) < 2 ^ 60 := Nat.lt_of_le_of_lt Nat.and_le_right (by decide +kernel)
  have f8 := sf_succ 7 m
  have f7 := sf_succ 6 (m / 256)
  have f6 := sf_succ 5 (m / 256 / 256)
  have f5 := sf_succ 4 (m / 256 / 256 / 256)
  have f4 := sf_succ 3 (m / 256 / 256 / 256 / 256)
  have f3 := sf_succ 2 (m / 256 / 256 / 256 / 256 / 256)
  have f2 := sf_succ 1 (m / 256 / 256 / 256 / 256 / 256 / 256)
  have f1 := sf_succ 0 (m / 256 / 256 / 256 / 256 / 256 / 256 / 256)
  have f0 : s3 (bm 0x0f 0) (sy 0 (m / 256 / 256 / 256 / 256 / 256 / 256 / 256 / 256)) = 0 := Nat.and_zero _
  have g8 : fb_ct m.testBit (8 * 8) = fb_ct (m % 256).testBit 8 + fb_ct (m / 256).testBit (8 * 7) := ct_succ 7 m
  have g7 : fb_ct (m / 256).testBit (8 * 7) = fb_ct (m / 256 % 256).testBit 8 + fb_ct (m / 256 / 256).testBit (8 * 6) := ct_succ 6 (m / 256)
  have g6 : fb_ct (m / 256 / 256).testBit (8 * 6) = fb_ct (m / 256 / 256 % 256).testBit 8 + fb_ct (m / 256 / 256 / 256).testBit (8 * 5) := ct_succ 5 (m / 256 / 256)
  have g5 : fb_ct (m / 256 / 256 / 256).testBit (8 * 5) = fb_ct (m / 256 / 256 / 256 % 256).testBit 8 + fb_ct (m / 256 / 256 / 256 / 256).testBit (8 * 4) := ct_succ 4 (m / 256 / 256 / 256)
  have g4 : fb_ct (m / 256 / 256 / 256 / 256).testBit (8 * 4) = fb_ct (m / 256 / 256 / 256 / 256 % 256).testBit 8 + fb_ct (m / 256 / 256 / 256 / 256 / 256).testBit (8 * 3) := ct_succ 3 (m / 256 / 256 / 256 / 256)
  have g3 : fb_ct (m / 256 / 256 / 256 / 256 / 256).testBit (8 * 3) = fb_ct (m / 256 / 256 / 256 / 256 / 256 % 256).testBit 8 + fb_ct (m / 256 / 256 / 256 / 256 / 256 / 256).testBit (8 * 2) := ct_succ 2 (m / 256 / 256 / 256 / 256 / 256)
  have g2 : fb_ct (m / 256 / 256 / 256 / 256 / 256 / 256).testBit (8 * 2) = fb_ct (m / 256 / 256 / 256 / 256 / 256 / 256 % 256).testBit 8 + fb_ct (m / 256 / 256 / 256 / 256 / 256 / 256 / 256).testBit (8 * 1) := ct_succ 1 (m / 256 / 256 / 256 / 256 / 256 / 256)
  have g1 : fb_ct (m / 256 / 256 / 256 / 256 / 256 / 256 / 256).testBit (8 * 1) = fb_ct (m / 256 / 256 / 256 / 256 / 256 / 256 / 256 % 256).testBit 8 + fb_ct (m / 256 / 256 / 256 / 256 / 256 / 256 / 256 / 256).testBit (8 * 0) := ct_succ 0 (m / 256 / 256 / 256 / 256 / 256 / 256 / 256)
  have g0 : fb_ct (m / 256 / 256 / 256 / 256 / 256 / 256 / 256 / 256).testBit (8 * 0) = 0 := rfl
  have hs := sums8 ⟨fb_ct_le (m % 256).testBit 8, fb_ct_le (m / 256 % 256).testBit 8, fb_ct_le (m / 256 / 256 % 256).testBit 8, fb_ct_le (m / 256 / 256 / 256 % 256).testBit 8, fb_ct_le (m / 256 / 256 / 256 / 256 % 256).testBit 8, fb_ct_le (m / 256 / 256 / 256 / 256 / 256 % 256).testBit 8, fb_ct_le (m / 256 / 256 / 256 / 256 / 256 / 256 % 256).testBit 8, fb_ct_le (m / 256 / 256 / 256 / 256 / 256 / 256 / 256 % 256).testBit 8⟩ f8 f7 f6 f5 f4 f3 (by rw [f2, f1, f0, Nat.mul_zero, Nat.add_zero])
  have hp : pc m = fb_ct m.testBit (8 * 8) := rfl
  unfold f_J13_bitCount_95d88
  simp only [jletE, LIT]
  rw [a1, a2, a3, wb_shr hm (by decide), fb_andL, lN_sub (by show m / 2 &&& _ ≤ m; omega)]
  rw [show m - (m / 2 ^ 1 &&& bm 0x55 8) = s1 (bm 0x55 8) m from rfl, wb_shr (by omega) (by decide), fb_andL, fb_andL, lN_add]
  rw [show (s1 (bm 0x55 8) m &&& bm 0x33 8) + (s1 (bm 0x55 8) m / 2 ^ 2 &&& bm 0x33 8) = sy 8 m from rfl, wb_shr b3 (by decide), lN_add, fb_andL]
  rw [show (sy 8 m + sy 8 m / 2 ^ 4) &&& bm 0x0f 8 = s3 (bm 0x0f 8) (sy 8 m) from rfl]
  generalize s3 (bm 0x0f 8) (sy 8 m) = x3 at *
  rw [wb_shr (by omega) (by decide), lN_add, show x3 / 2 ^ 8 = x3 / 256 from rfl]
  rw [wb_shr (by omega) (by decide), lN_add, show (x3 + x3 / 256) / 2 ^ 16 = (x3 + x3 / 256) / 65536 from rfl]
  rw [wb_shr (by omega) (by decide), lN_add, show ((x3 + x3 / 256) + (x3 + x3 / 256) / 65536) / 2 ^ 32 = ((x3 + x3 / 256) + (x3 + x3 / 256) / 65536) / 4294967296 from rfl]
  rw [lN_i, show nI 127 = nI (2 ^ 7 - 1) from rfl, fa_mask, show (2 : Nat) ^ 7 = 128 from rfl, hs]
  congr 2
  omega
/-! ===== the place behind the last cell ===== -/
theorem nI_eq0 {n : Nat} (hn : n < 2 ^ 32) : nI n = nI 0 ↔ n = 0 := by
  constructor
  · intro z
    have h3 : (nI n).toBitVec.toNat = (nI 0).toBitVec.toNat := by rw [z]
    rwa [pk_tn hn, pk_tn (by decide)] at h3
  · rintro rfl; rfl
theorem neg_big {n : Nat} (h1 : 2 ^ 31 ≤ n) (hn : n < 2 ^ 32) : nI n < nI 0 := by
  apply Int32.lt_iff_toInt_lt.mpr
  have h2 : (nI n).toInt = if 2 * (nI n).toBitVec.toNat < 2 ^ 32 then ((nI n).toBitVec.toNat : Int) else ((nI n).toBitVec.toNat : Int) - 2 ^ 32 := BitVec.toInt_eq_toNat_cond _
  rw [pk_tn hn, if_neg (by omega)] at h2
  rw [h2, nI_toInt (by decide)]
  omega
theorem stg {N n c s : Nat} {C : Int32} (hC : C = nI c) (hN : N < 2 ^ 31) (h : N / 2 ^ (31 - c) = n) (hc : c ≤ 31) (hs : s ≤ c) (hs2 : s < 31) (hb : n < 2 ^ (2 * s)) : ∃ n' c', (if nI n < nI (2 ^ s) then some (nI n, C) else (jlet (C + -nI s) fun x4 => jlet (((nI n).toUInt32 >>> ((nI s).toUInt32 &&& Int32.toUInt32 31)).toInt32) fun x5 => some (x5, x4))) = some (nI n', nI c') ∧ N / 2 ^ (31 - c') = n' ∧ c' ≤ 31 ∧ c - s ≤ c' ∧ n' < 2 ^ s := by
  subst hC
  have hn : n ≤ N := by rw [← h]; exact Nat.div_le_self _ _
  have hp : 2 ^ s < 2 ^ 31 := Nat.pow_lt_pow_right (by decide) hs2
  by_cases c1 : n < 2 ^ s
  · exact ⟨n, c, if_pos (nI_lt c1 hp), h, hc, by omega, c1⟩
  · refine ⟨n / 2 ^ s, c - s, ?_, ?_, by omega, by omega, ?_⟩
    · rw [if_neg (nI_nlt (by omega) (by omega)), jletE, jletE, ushrE (by omega) (by omega), ← Int32.sub_eq_add_neg, pk_sub hs]
    · rw [show 31 - (c - s) = (31 - c) + s by omega, Nat.pow_add, ← Nat.div_div_eq_div_mul, h]
    · apply Nat.div_lt_of_lt_mul
      rw [← Nat.pow_add, show s + s = 2 * s by omega]
      exact hb
theorem nlzE {n : Nat} (h0 : 0 < n) (hn : n < 2 ^ 32) : ∃ r, r ≤ 31 ∧ f_J6_numberOfLeadingZeros_0f7a4 (nI n) = some (nI r) ∧ n < 2 ^ (32 - r) := by
  unfold f_J6_numberOfLeadingZeros_0f7a4
  simp only [LIT]
  by_cases c : n < 2 ^ 31
  · rw [if_pos (nI_lt h0 c)]
    obtain ⟨n1, c1, e1, h1, hc1, hd1, hb1⟩ := stg (N := n) (n := n) (c := 31) (s := 16) (C := 31) rfl c (by simp) (by decide) (by decide) (by decide) (by omega)
    obtain ⟨n2, c2, e2, h2, hc2, hd2, hb2⟩ := stg (s := 8) rfl c h1 hc1 (by omega) (by decide) hb1
    obtain ⟨n3, c3, e3, h3, hc3, hd3, hb3⟩ := stg (s := 4) rfl c h2 hc2 (by omega) (by decide) hb2
    obtain ⟨n4, c4, e4, h4, hc4, hd4, hb4⟩ := stg (s := 2) rfl c h3 hc3 (by omega) (by decide) hb3
    rw [show (2 : Nat) ^ 16 = 65536 from rfl] at e1
    rw [show (2 : Nat) ^ 8 = 256 from rfl] at e2
    rw [show (2 : Nat) ^ 4 = 16 from rfl] at e3
    rw [show (2 : Nat) ^ 2 = 4 from rfl] at e4 hb4
    rw [e1, ob]
    dsimp only
    rw [e2, ob]
    dsimp only
    rw [e3, ob]
    dsimp only
    rw [e4, ob]
    refine ⟨c4 - n4 / 2, by omega, ?_, ?_⟩
    · show some (nI c4 - _) = _
      rw [ushrE (by show n4 < _; omega) (by decide), pk_sub (by show n4 / 2 ^ 1 ≤ _; omega)]
    · have k1 : n < (n4 + 1) * 2 ^ (31 - c4) := by
        have := Nat.lt_mul_div_succ n (Nat.two_pow_pos (31 - c4))
        rw [h4, Nat.mul_comm] at this
        exact this
      by_cases c5 : n4 < 2
      · have k2 : (n4 + 1) * 2 ^ (31 - c4) ≤ 2 * 2 ^ (31 - c4) := Nat.mul_le_mul_right _ (by omega)
        rw [show 32 - (c4 - n4 / 2) = (31 - c4) + 1 by omega, Nat.pow_succ]
        omega
      · have k2 : (n4 + 1) * 2 ^ (31 - c4) ≤ 4 * 2 ^ (31 - c4) := Nat.mul_le_mul_right _ (by omega)
        rw [show 32 - (c4 - n4 / 2) = (31 - c4) + 2 by omega, Nat.pow_add]
        omega
  · have h1 := neg_big (by omega) hn
    have h2 : ¬ nI 0 < nI n := fun z => Int32.lt_irrefl (Int32.lt_trans z h1)
    have h3 : ¬ nI n = nI 0 := fun z => by rw [z] at h1; exact Int32.lt_irrefl h1
    rw [if_neg h2, if_neg h3]
    exact ⟨0, by omega, rfl, hn⟩
theorem endOfE {m : Nat} (hm : m < 2 ^ 64) : ∃ e, e ≤ 64 ∧ f_X2_endOf (lN m) = some (nI e) ∧ m < 2 ^ e := by
  unfold f_X2_endOf f_J13_numberOfLeadingZeros_95d88
  simp only [LIT, jletE]
  rw [wb_shr hm (by decide), lN_i]
  by_cases c : m < 2 ^ 32
  · rw [show m / 2 ^ 32 = 0 by omega, if_pos rfl, lN_i]
    by_cases z : m = 0
    · subst z
      refine ⟨0, by decide, ?_, by decide⟩
      decide +kernel
    · obtain ⟨r, h1, h2, h3⟩ := nlzE (by omega) c
      refine ⟨32 - r, by omega, ?_, h3⟩
      rw [h2]
      simp only [ob, nI_add]
      rw [pk_sub (by omega)]
      congr 2
      omega
  · obtain ⟨r, h1, h2, h3⟩ := nlzE (n := m / 2 ^ 32) (by omega) (by omega)
    refine ⟨64 - r, by omega, ?_, ?_⟩
    · rw [if_neg (by rw [nI_eq0 (by omega)]; omega), h2]
      simp only [ob]
      rw [pk_sub (by omega)]
    · have h4 : m < 2 ^ (32 - r) * 2 ^ 32 := by
        have := Nat.lt_mul_div_succ m (Nat.two_pow_pos 32)
        have h5 : m / 2 ^ 32 + 1 ≤ 2 ^ (32 - r) := h3
        calc m < 2 ^ 32 * (m / 2 ^ 32 + 1) := this
          _ ≤ 2 ^ 32 * 2 ^ (32 - r) := Nat.mul_le_mul_left _ h5
          _ = _ := Nat.mul_comm _ _
      rw [← Nat.pow_add] at h4
      rwa [show 32 - r + 32 = 64 - r by omega] at h4
