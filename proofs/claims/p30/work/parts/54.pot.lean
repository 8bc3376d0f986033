/-! ===== a bound on the ways counted: a potential, by place and window ===== -/
def gt (T w : Nat) : Nat := Nat.mod (Nat.shiftRight T (Nat.mul 160 w)) (2 ^ 160)
def tri (T w c : Nat) (o : Bool) : Nat := cond (o && Nat.beq (Nat.land c w) 0) (gt T (Nat.mod (Nat.div (Nat.lor c w) 2) 512)) 0
def mx (a b : Nat) : Nat := cond (Nat.ble a b) b a
def ent (T k w : Nat) : Nat := mx (gt T (Nat.div w 2)) (cond (Nat.beq (Nat.mod w 2) 0) (tri T w 0x181 (okt k 0) + tri T w 0x301 (okt k 1) + tri T w 0x103 (okt k 2) + tri T w 0x203 (okt k 3)) 0)
def tbl (f : Nat → Nat) : Nat → Nat
  | 0 => 0
  | n + 1 => tbl f n + f n * 2 ^ (160 * n)
def tab : Nat → Nat
  | 0 => tbl (fun _ => 1) 512
  | d + 1 => tbl (ent (tab d) (63 - d)) 512
def UW (d w : Nat) : Nat := gt (tab d) w
theorem beqE (x : Nat) : Nat.beq x 0 = (x == 0) := by cases x <;> rfl
theorem mx_eq (a b : Nat) : a ≤ mx a b ∧ b ≤ mx a b ∧ (mx a b = a ∨ mx a b = b) := by
  unfold mx
  cases h : Nat.ble a b with
  | true => exact ⟨Nat.le_of_ble_eq_true h, Nat.le_refl _, Or.inr rfl⟩
  | false =>
    have : ¬ a ≤ b := fun z => by rw [Nat.ble_eq_true_of_le z] at h; cases h
    exact ⟨Nat.le_refl _, by show b ≤ a; omega, Or.inl rfl⟩
theorem gt_eq (T w : Nat) : gt T w = T / 2 ^ (160 * w) % 2 ^ 160 := by
  show (T >>> (160 * w)) % 2 ^ 160 = _
  rw [Nat.shiftRight_eq_div_pow]
theorem tbl_lt {f : Nat → Nat} : ∀ n, (∀ w, w < n → f w < 2 ^ 160) → tbl f n < 2 ^ (160 * n) := by
  intro n
  induction n with
  | zero => intro _; exact Nat.two_pow_pos _
  | succ n ih =>
    intro h
    have h1 := ih (fun w hw => h w (by omega))
    have h2 := h n (by omega)
    have h3 : f n * 2 ^ (160 * n) + 2 ^ (160 * n) ≤ 2 ^ 160 * 2 ^ (160 * n) := by
      rw [← Nat.succ_mul]
      exact Nat.mul_le_mul_right _ h2
    rw [← Nat.pow_add, show 160 + 160 * n = 160 * (n + 1) by omega] at h3
    show tbl f n + f n * 2 ^ (160 * n) < _
    omega
theorem tbl_get {f : Nat → Nat} : ∀ n, (∀ w, w < n → f w < 2 ^ 160) → ∀ w, w < n → gt (tbl f n) w = f w := by
  intro n
  induction n with
  | zero => intro _ w hw; omega
  | succ n ih =>
    intro h w hw
    have h1 := tbl_lt n (fun w hw => h w (by omega))
    rw [gt_eq]
    show (tbl f n + f n * 2 ^ (160 * n)) / _ % _ = _
    by_cases c : w = n
    · subst c
      rw [Nat.add_mul_div_right _ _ (Nat.two_pow_pos _), Nat.div_eq_of_lt h1, Nat.zero_add, Nat.mod_eq_of_lt (h w hw)]
    · have h2 := ih (fun w hw => h w (by omega)) w (by omega)
      rw [gt_eq] at h2
      rw [show 160 * n = 160 * w + (160 + 160 * (n - w - 1)) by omega, Nat.pow_add, Nat.pow_add, show f n * (2 ^ (160 * w) * (2 ^ 160 * 2 ^ (160 * (n - w - 1)))) = (f n * 2 ^ (160 * (n - w - 1)) * 2 ^ 160) * 2 ^ (160 * w) by ac_rfl, Nat.add_mul_div_right _ _ (Nat.two_pow_pos _), Nat.add_mul_mod_self_right, h2]
theorem tri_le {T w c B : Nat} {o : Bool} (h : ∀ v, v < 512 → gt T v ≤ B) : tri T w c o ≤ B := by
  unfold tri
  cases o && Nat.beq (Nat.land c w) 0 with
  | true => exact h _ (Nat.mod_lt _ (by decide))
  | false => exact Nat.zero_le _
theorem ent_le {T k w B : Nat} (hw : w < 512) (h : ∀ v, v < 512 → gt T v ≤ B) : ent T k w ≤ 4 * B := by
  have a1 := h (w / 2) (by omega)
  have t0 := tri_le (w := w) (c := 0x181) (o := okt k 0) h
  have t1 := tri_le (w := w) (c := 0x301) (o := okt k 1) h
  have t2 := tri_le (w := w) (c := 0x103) (o := okt k 2) h
  have t3 := tri_le (w := w) (c := 0x203) (o := okt k 3) h
  unfold ent
  rcases (mx_eq (gt T (Nat.div w 2)) (cond (Nat.beq (Nat.mod w 2) 0) (tri T w 0x181 (okt k 0) + tri T w 0x301 (okt k 1) + tri T w 0x103 (okt k 2) + tri T w 0x203 (okt k 3)) 0)).2.2 with e | e
  · rw [e]
    show gt T (w / 2) ≤ _
    omega
  · rw [e]
    cases Nat.beq (Nat.mod w 2) 0 with
    | true => show _ + _ + _ + _ ≤ _; omega
    | false => exact Nat.zero_le _
theorem UW_le : ∀ d, d ≤ 64 → (∀ w, w < 512 → UW d w ≤ 4 ^ d) ∧ ∀ w, w < 512 → 1 ≤ UW d w := by
  intro d
  induction d with
  | zero =>
    intro _
    have h : ∀ w, w < 512 → UW 0 w = 1 := fun w hw => tbl_get (f := fun _ => 1) 512 (fun _ _ => by decide) w hw
    exact ⟨fun w hw => by rw [h w hw]; decide, fun w hw => by rw [h w hw]; decide⟩
  | succ d ih =>
    intro hd
    obtain ⟨h1, h2⟩ := ih (by omega)
    have h3 : ∀ w, w < 512 → ent (tab d) (63 - d) w ≤ 4 * 4 ^ d := fun w hw => ent_le hw h1
    have h4 : 4 * 4 ^ d < 2 ^ 160 := by
      have : 4 ^ d ≤ 4 ^ 64 := Nat.pow_le_pow_right (by decide) (by omega)
      have h5 : (4 : Nat) ^ 64 = 2 ^ 128 := by decide +kernel
      rw [h5] at this
      have h6 : (4 : Nat) * 2 ^ 128 < 2 ^ 160 := by decide +kernel
      omega
    have h5 : ∀ w, w < 512 → UW (d + 1) w = ent (tab d) (63 - d) w := fun w hw => tbl_get (f := ent (tab d) (63 - d)) 512 (fun v hv => Nat.lt_of_le_of_lt (h3 v hv) h4) w hw
    refine ⟨fun w hw => ?_, fun w hw => ?_⟩
    · rw [h5 w hw, Nat.pow_succ, Nat.mul_comm]
      exact h3 w hw
    · rw [h5 w hw]
      exact Nat.le_trans (h2 (w / 2) (by omega)) (mx_eq _ _).1
theorem UW_step {d w : Nat} (hd : d < 64) (hw : w < 512) : UW d (w / 2) ≤ UW (d + 1) w ∧ (w % 2 = 0 → fb_sm (fun t => if okt (63 - d) t && ((offs t &&& w) == 0) then UW d (sc t w) else 0) 4 ≤ UW (d + 1) w) := by
  obtain ⟨h1, h2⟩ := UW_le d (by omega)
  have h3 : ∀ w, w < 512 → ent (tab d) (63 - d) w ≤ 4 * 4 ^ d := fun w hw => ent_le hw h1
  have h4 : 4 * 4 ^ d < 2 ^ 160 := by
    have : 4 ^ d ≤ 4 ^ 64 := Nat.pow_le_pow_right (by decide) (by omega)
    have h5 : (4 : Nat) ^ 64 = 2 ^ 128 := by decide +kernel
    rw [h5] at this
    have h6 : (4 : Nat) * 2 ^ 128 < 2 ^ 160 := by decide +kernel
    omega
  have h5 : UW (d + 1) w = ent (tab d) (63 - d) w := tbl_get (f := ent (tab d) (63 - d)) 512 (fun v hv => Nat.lt_of_le_of_lt (h3 v hv) h4) w hw
  rw [h5]
  refine ⟨(mx_eq _ _).1, fun h6 => ?_⟩
  have h7 : ∀ t c, offs t = c → (if okt (63 - d) t && ((offs t &&& w) == 0) then UW d (sc t w) else 0) = tri (tab d) w c (okt (63 - d) t) := fun t c e => by
    subst e
    unfold tri
    rw [beqE, show Nat.land (offs t) w = offs t &&& w from rfl]
    cases okt (63 - d) t && ((offs t &&& w) == 0) <;> rfl
  have h8 : fb_sm (fun t => if okt (63 - d) t && ((offs t &&& w) == 0) then UW d (sc t w) else 0) 4 = tri (tab d) w 0x181 (okt (63 - d) 0) + tri (tab d) w 0x301 (okt (63 - d) 1) + tri (tab d) w 0x103 (okt (63 - d) 2) + tri (tab d) w 0x203 (okt (63 - d) 3) := by
    rw [fb_sm_succ, fb_sm_succ, fb_sm_succ, fb_sm_succ, h7 0 0x181 rfl, h7 1 0x301 rfl, h7 2 0x103 rfl, h7 3 0x203 rfl]
    show 0 + _ + _ + _ + _ = _
    rw [Nat.zero_add]
  rw [h8]
  have h9 : cond (Nat.beq (Nat.mod w 2) 0) (tri (tab d) w 0x181 (okt (63 - d) 0) + tri (tab d) w 0x301 (okt (63 - d) 1) + tri (tab d) w 0x103 (okt (63 - d) 2) + tri (tab d) w 0x203 (okt (63 - d) 3)) 0 = tri (tab d) w 0x181 (okt (63 - d) 0) + tri (tab d) w 0x301 (okt (63 - d) 1) + tri (tab d) w 0x103 (okt (63 - d) 2) + tri (tab d) w 0x203 (okt (63 - d) 3) := by
    rw [show Nat.mod w 2 = w % 2 from rfl, h6]
    rfl
  have h10 := (mx_eq (gt (tab d) (Nat.div w 2)) (cond (Nat.beq (Nat.mod w 2) 0) (tri (tab d) w 0x181 (okt (63 - d) 0) + tri (tab d) w 0x301 (okt (63 - d) 1) + tri (tab d) w 0x103 (okt (63 - d) 2) + tri (tab d) w 0x203 (okt (63 - d) 3)) 0)).2.1
  rw [h9] at h10
  unfold ent
  rw [h9]
  exact h10
theorem UW_top : UW 64 0 < 2 ^ 31 := by decide +kernel
/-- what the class counts -/
theorem CW_three {m : Nat} (h : pc m % 3 ≠ 0) : CW m 64 0 = 0 := by
  apply Classical.byContradiction
  intro z
  have h1 := CW_mod (m := m) 64 (by omega) 0 (by decide) (fun i hi => by rw [Nat.zero_testBit] at hi; cases hi) z
  apply h
  rw [← h1]
  unfold pc
  congr 1
  apply fb_ct_cong
  intro k hk
  rw [Nat.zero_testBit, show 64 - 64 + k = k by omega]
  cases m.testBit k <;> rfl
