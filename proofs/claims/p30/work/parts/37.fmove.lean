/-! the moves -/
def f_X4_saveState (μ : XS) : Option (Int32 × Int32) := some (x_lmod (svX μ), x_lsize (svX μ))
theorem svX_eq {μ : XS} {r : Int32 × Int32} (h : f_X4_saveState μ = some r) : svX μ = x_lsize' (x_lmod' μ r.1) r.2 := by
  cases Option.some.inj h
  unfold svX
  by_cases hc : x_lsize μ < 6
  · rw [if_pos hc]
  · rw [if_neg hc]
section KS
variable {p : Program} {l : Launch} {e : Env} {R : Room} {s : State} {m : MethodId} {args : Array Value} {below : List Frame} {meth : Method} {c : Code} {H : Heap} {locs : List Loc} {cells slots : Nat} {Q : State → Prop}
variable {ls : Array Slot} {pc : Nat} {st0 rest : List Value} {D : va_G}
theorem call_S {v : Option Value} {wf : Nat → va_W → va_W} {Rp : Nat → va_W → Prop} {L1 : List Nat} {A0 : Nat → Prop} {H0 : Heap} {mc ms : Nat} (hr : va_Run p l e R s m args below meth c H locs cells slots mc ms (F0 m pc ls st0) rest (fun st o t => ∃ e T, Rp e T ∧ o = .returned v ∧ va_P D vwCl (wf e T) t.heap ∧ va_D (OA L1 H.size) (wf e T) ∧ va_F (OA L1 H.size) st t) (OA L1 H.size)) (hS : va_S A0 H0 H locs) (hA : ∀ q, OA L1 H.size q → A0 q)
    (kk : ∀ (e9 : Nat) (T9 : va_W) (H1 : Heap) (locs1 : List Loc), Rp e9 T9 → va_P D vwCl (wf e9 T9) H1 → va_D (OA L1 H.size) (wf e9 T9) → va_S A0 H0 H1 locs1 → H.size ≤ H1.size → (∀ q : Nat, q < H.size → ¬ OA L1 H.size q → H1[q]? = H[q]?) → W p l e R s m args below meth c H1 locs1 (cells + mc) (slots + ms) Q (F0 m (pc + 3) ls (v.toList ++ rest))) : W p l e R s m args below meth c H locs cells slots Q (F0 m pc ls st0) := by
  intro T hT X
  obtain ⟨v', st₀, t, T', L, h0, X', hL, e1, e2, ⟨e9, T9, hRp, hv, hP, hD, hF⟩, st⟩ := hr T hT X
  cases hv
  have hF1 : H.size ≤ T'.heap.size := by rw [e1, ← h0]; exact hF.1
  have hF2 : ∀ q : Nat, q < H.size → ¬ OA L1 H.size q → T'.heap[q]? = H[q]? := fun q h1 h2 => by rw [e1, ← h0]; exact hF.2 q (by rw [h0]; exact h1) h2
  have hS1 : va_S A0 H0 T'.heap (locs ++ L) := ⟨Nat.le_trans hS.1 hF1, fun q h1 h2 => (hF2 q (Nat.lt_of_lt_of_le h1 hS.1) (fun z => h2 (hA q z))).trans (hS.2.1 q h1 h2), fun l hl => (List.mem_append.mp hl).elim (hS.2.2 l) (fun z => hA _ (hL l z))⟩
  obtain ⟨t2, a1, b1⟩ := kk e9 T9 T'.heap (locs ++ L) hRp (by rw [e1]; exact hP) hD hS1 hF1 hF2 T' rfl X'
  exact ⟨t2, st t2 a1, b1⟩
end KS
theorem sub_X_VG {x0 : Nat} {s0 : Nat} {s1 : Nat} {e0 : Nat} {E : Nat → Nat} {A : Nat → Nat} {B : Nat → Nat} {G : Nat → Nat} {T : va_W} {t : Nat → ClassId} {μ : XS} {D : va_G} {H : Heap} (h : va_P D vwCl (XW x0 s0 s1 e0 E A B G T t μ) H) : va_P D vwCl (VGW A B G t ((x_rest μ), (x_takes μ), (x_u1 μ), (x_u2 μ), (x_hsz μ), (x_hwin μ), (x_hway μ), (x_nsz μ), (x_nwin μ), (x_nway μ), (x_wide μ), (x_high μ), (x_pond μ), (x_walls μ), (x_paved μ), (x_tc μ), (x_flips μ), (x_refused μ), (x_names μ))) H := h.mem (fun i q hq => by
  rcases i with _ | _ | _ | _ | _ | _ | _ | _ | _ | _ | _ | i
  · exact ⟨4, hq⟩
  · exact ⟨5, hq⟩
  · exact ⟨6, hq⟩
  · exact ⟨7, hq⟩
  · exact ⟨8, hq⟩
  · exact ⟨9, hq⟩
  · exact ⟨10, hq⟩
  · exact ⟨11, hq⟩
  · exact ⟨12, hq⟩
  · exact ⟨13, hq⟩
  · exact ⟨14, hq⟩
  · obtain ⟨k, h1, -, rfl⟩ := grid_in (by simp) hq
    exact ⟨16 + k, tail_row rfl h1⟩)
theorem subD_X_VG {x0 : Nat} {s0 : Nat} {s1 : Nat} {e0 : Nat} {E : Nat → Nat} {A : Nat → Nat} {B : Nat → Nat} {G : Nat → Nat} {T : va_W} {t : Nat → ClassId} {μ : XS} {A0 : Nat → Prop} (h : va_D A0 (XW x0 s0 s1 e0 E A B G T t μ)) : va_D A0 (VGW A B G t ((x_rest μ), (x_takes μ), (x_u1 μ), (x_u2 μ), (x_hsz μ), (x_hwin μ), (x_hway μ), (x_nsz μ), (x_nwin μ), (x_nway μ), (x_wide μ), (x_high μ), (x_pond μ), (x_walls μ), (x_paved μ), (x_tc μ), (x_flips μ), (x_refused μ), (x_names μ))) := h.mem (fun i => if i = 0 then 4 else if i = 1 then 5 else if i = 2 then 6 else if i = 3 then 7 else if i = 4 then 8 else if i = 5 then 9 else if i = 6 then 10 else if i = 7 then 11 else if i = 8 then 12 else if i = 9 then 13 else if i = 10 then 14 else i + 5) (by
  have inv : ∀ i : Nat, (fun r : Nat => if r = 4 then 0 else if r = 5 then 1 else if r = 6 then 2 else if r = 7 then 3 else if r = 8 then 4 else if r = 9 then 5 else if r = 10 then 6 else if r = 11 then 7 else if r = 12 then 8 else if r = 13 then 9 else if r = 14 then 10 else r - 5) ((fun i => if i = 0 then 4 else if i = 1 then 5 else if i = 2 then 6 else if i = 3 then 7 else if i = 4 then 8 else if i = 5 then 9 else if i = 6 then 10 else if i = 7 then 11 else if i = 8 then 12 else if i = 9 then 13 else if i = 10 then 14 else i + 5) i) = i := by
    intro i
    rcases i with _ | _ | _ | _ | _ | _ | _ | _ | _ | _ | _ | i
    · rfl
    · rfl
    · rfl
    · rfl
    · rfl
    · rfl
    · rfl
    · rfl
    · rfl
    · rfl
    · rfl
    · have e1 : (fun i => if i = 0 then 4 else if i = 1 then 5 else if i = 2 then 6 else if i = 3 then 7 else if i = 4 then 8 else if i = 5 then 9 else if i = 6 then 10 else if i = 7 then 11 else if i = 8 then 12 else if i = 9 then 13 else if i = 10 then 14 else i + 5) (i + 11) = i + 11 + 5 := by
        show (if i + 11 = 0 then 4 else if i + 11 = 1 then 5 else if i + 11 = 2 then 6 else if i + 11 = 3 then 7 else if i + 11 = 4 then 8 else if i + 11 = 5 then 9 else if i + 11 = 6 then 10 else if i + 11 = 7 then 11 else if i + 11 = 8 then 12 else if i + 11 = 9 then 13 else if i + 11 = 10 then 14 else i + 11 + 5) = _
        rw [if_neg (by omega), if_neg (by omega), if_neg (by omega), if_neg (by omega), if_neg (by omega), if_neg (by omega), if_neg (by omega), if_neg (by omega), if_neg (by omega), if_neg (by omega), if_neg (by omega)]
      rw [e1]
      show (if i + 11 + 5 = 4 then 0 else if i + 11 + 5 = 5 then 1 else if i + 11 + 5 = 6 then 2 else if i + 11 + 5 = 7 then 3 else if i + 11 + 5 = 8 then 4 else if i + 11 + 5 = 9 then 5 else if i + 11 + 5 = 10 then 6 else if i + 11 + 5 = 11 then 7 else if i + 11 + 5 = 12 then 8 else if i + 11 + 5 = 13 then 9 else if i + 11 + 5 = 14 then 10 else i + 11 + 5 - 5) = _
      rw [if_neg (by omega), if_neg (by omega), if_neg (by omega), if_neg (by omega), if_neg (by omega), if_neg (by omega), if_neg (by omega), if_neg (by omega), if_neg (by omega), if_neg (by omega), if_neg (by omega)]
      omega
  intro i j e
  exact (inv i).symm.trans ((congrArg (fun r : Nat => if r = 4 then 0 else if r = 5 then 1 else if r = 6 then 2 else if r = 7 then 3 else if r = 8 then 4 else if r = 9 then 5 else if r = 10 then 6 else if r = 11 then 7 else if r = 12 then 8 else if r = 13 then 9 else if r = 14 then 10 else r - 5) e).trans (inv j))) (fun i q hq => by
  rcases i with _ | _ | _ | _ | _ | _ | _ | _ | _ | _ | _ | i
  · exact hq
  · exact hq
  · exact hq
  · exact hq
  · exact hq
  · exact hq
  · exact hq
  · exact hq
  · exact hq
  · exact hq
  · exact hq
  · obtain ⟨k, h1, h2, rfl⟩ := grid_in (by simp) hq
    simp only [List.length_cons, List.length_nil] at h2
    have e : i = k := by omega
    subst e
    rw [if_neg (by omega), if_neg (by omega), if_neg (by omega), if_neg (by omega), if_neg (by omega), if_neg (by omega), if_neg (by omega), if_neg (by omega), if_neg (by omega), if_neg (by omega), if_neg (by omega)]
    show (XW x0 s0 s1 e0 E A B G T t μ)[i + 11 + 5]? = _
    rw [show i + 11 + 5 = 16 + i by omega]
    exact tail_row rfl h1)
theorem back_X_VG {x0 : Nat} {s0 : Nat} {s1 : Nat} {e0 : Nat} {E : Nat → Nat} {A : Nat → Nat} {B : Nat → Nat} {G : Nat → Nat} {T : va_W} {t : Nat → ClassId} {μ : XS} {ν : VGS} {A0 : Nat → Prop} {D : va_G} {H H1 : Heap} (hP : va_P D vwCl (XW x0 s0 s1 e0 E A B G T t μ) H) (hD : va_D A0 (XW x0 s0 s1 e0 E A B G T t μ)) (hk : ∀ q : Nat, q < H.size → ¬ OA (VGL A B G ((x_rest μ), (x_takes μ), (x_u1 μ), (x_u2 μ), (x_hsz μ), (x_hwin μ), (x_hway μ), (x_nsz μ), (x_nwin μ), (x_nway μ), (x_wide μ), (x_high μ), (x_pond μ), (x_walls μ), (x_paved μ), (x_tc μ), (x_flips μ), (x_refused μ), (x_names μ))) H.size q → H1[q]? = H[q]?) (hA : ∀ q, OA (VGL A B G ((x_rest μ), (x_takes μ), (x_u1 μ), (x_u2 μ), (x_hsz μ), (x_hwin μ), (x_hway μ), (x_nsz μ), (x_nwin μ), (x_nway μ), (x_wide μ), (x_high μ), (x_pond μ), (x_walls μ), (x_paved μ), (x_tc μ), (x_flips μ), (x_refused μ), (x_names μ))) H.size q → A0 q) (hP1 : va_P D vwCl (VGW A B G t ν) H1) (hD1 : va_D (OA (VGL A B G ((x_rest μ), (x_takes μ), (x_u1 μ), (x_u2 μ), (x_hsz μ), (x_hwin μ), (x_hway μ), (x_nsz μ), (x_nwin μ), (x_nway μ), (x_wide μ), (x_high μ), (x_pond μ), (x_walls μ), (x_paved μ), (x_tc μ), (x_flips μ), (x_refused μ), (x_names μ))) H.size) (VGW A B G t ν)) : va_P D vwCl (XW x0 s0 s1 e0 E A B G T t (x_length μ, x_codes μ, (vg_rest ν), (vg_takes ν), (vg_u1 ν), (vg_u2 ν), (vg_hsz ν), (vg_hwin ν), (vg_hway ν), (vg_nsz ν), (vg_nwin ν), (vg_nway ν), (vg_wide ν), (vg_high ν), (vg_pond ν), (vg_walls ν), (vg_paved ν), (vg_tc ν), (vg_flips ν), (vg_refused ν), (vg_names ν), x_sl μ, x_lmod μ, x_lsize μ)) H1 ∧ va_D A0 (XW x0 s0 s1 e0 E A B G T t (x_length μ, x_codes μ, (vg_rest ν), (vg_takes ν), (vg_u1 ν), (vg_u2 ν), (vg_hsz ν), (vg_hwin ν), (vg_hway ν), (vg_nsz ν), (vg_nwin ν), (vg_nway ν), (vg_wide ν), (vg_high ν), (vg_pond ν), (vg_walls ν), (vg_paved ν), (vg_tc ν), (vg_flips ν), (vg_refused ν), (vg_names ν), x_sl μ, x_lmod μ, x_lsize μ)) := by
  refine va_backQ (fun i => i = 4 ∨ i = 5 ∨ i = 6 ∨ i = 7 ∨ i = 8 ∨ i = 9 ∨ i = 10 ∨ i = 11 ∨ i = 12 ∨ i = 13 ∨ i = 14 ∨ (16 ≤ i ∧ i < 81)) (fun i => if i = 4 then 0 else if i = 5 then 1 else if i = 6 then 2 else if i = 7 then 3 else if i = 8 then 4 else if i = 9 then 5 else if i = 10 then 6 else if i = 11 then 7 else if i = 12 then 8 else if i = 13 then 9 else if i = 14 then 10 else i - 5) hP hD ?_ ?_ ?_ hA hk hP1 hD1
  · intro a h
    rcases List.mem_append.mp h with h | h
    · simp only [List.mem_cons, List.not_mem_nil, or_false] at h
      rcases h with rfl | rfl | rfl | rfl | rfl | rfl | rfl | rfl | rfl | rfl | rfl
      · exact ⟨4, _, by simp, rfl, rfl⟩
      · exact ⟨5, _, by simp, rfl, rfl⟩
      · exact ⟨6, _, by simp, rfl, rfl⟩
      · exact ⟨7, _, by simp, rfl, rfl⟩
      · exact ⟨8, _, by simp, rfl, rfl⟩
      · exact ⟨9, _, by simp, rfl, rfl⟩
      · exact ⟨10, _, by simp, rfl, rfl⟩
      · exact ⟨11, _, by simp, rfl, rfl⟩
      · exact ⟨12, _, by simp, rfl, rfl⟩
      · exact ⟨13, _, by simp, rfl, rfl⟩
      · exact ⟨14, _, by simp, rfl, rfl⟩
    · obtain ⟨k, hk, rfl⟩ := List.mem_map.mp h
      have hk := List.mem_range.mp hk
      exact ⟨16 + k, _, by omega, tail_row rfl hk, rfl⟩
  · intro i q hq
    by_cases hi : i < 16
    · rcases i with _ | _ | _ | _ | _ | _ | _ | _ | _ | _ | _ | _ | _ | _ | _ | _ | i
      · exact Or.inr ⟨by omega, hq⟩
      · exact Or.inr ⟨by omega, hq⟩
      · exact Or.inr ⟨by omega, hq⟩
      · exact Or.inr ⟨by omega, hq⟩
      · exact Or.inl ⟨by simp, hq⟩
      · exact Or.inl ⟨by simp, hq⟩
      · exact Or.inl ⟨by simp, hq⟩
      · exact Or.inl ⟨by simp, hq⟩
      · exact Or.inl ⟨by simp, hq⟩
      · exact Or.inl ⟨by simp, hq⟩
      · exact Or.inl ⟨by simp, hq⟩
      · exact Or.inl ⟨by simp, hq⟩
      · exact Or.inl ⟨by simp, hq⟩
      · exact Or.inl ⟨by simp, hq⟩
      · exact Or.inl ⟨by simp, hq⟩
      · exact Or.inr ⟨by omega, hq⟩
      · omega
    · by_cases h2 : i < 81
      · obtain ⟨k, rfl⟩ : ∃ k, i = 16 + k := ⟨i - 16, by omega⟩
        refine Or.inl ⟨by omega, ?_⟩
        rw [row_X (by omega)] at hq
        cases hq
        try dsimp only
        rw [if_neg (by omega), if_neg (by omega), if_neg (by omega), if_neg (by omega), if_neg (by omega), if_neg (by omega), if_neg (by omega), if_neg (by omega), if_neg (by omega), if_neg (by omega), if_neg (by omega), show 16 + k - 5 = 11 + k by omega]
        exact row_VG (μ := ν) (k := k) (by omega)
      · exact Or.inr ⟨by omega, (out_X (by omega)).trans hq⟩
  · have inv : ∀ i : Nat, (i = 4 ∨ i = 5 ∨ i = 6 ∨ i = 7 ∨ i = 8 ∨ i = 9 ∨ i = 10 ∨ i = 11 ∨ i = 12 ∨ i = 13 ∨ i = 14 ∨ (16 ≤ i ∧ i < 81)) → (fun r : Nat => if r = 0 then 4 else if r = 1 then 5 else if r = 2 then 6 else if r = 3 then 7 else if r = 4 then 8 else if r = 5 then 9 else if r = 6 then 10 else if r = 7 then 11 else if r = 8 then 12 else if r = 9 then 13 else if r = 10 then 14 else r + 5) ((fun i => if i = 4 then 0 else if i = 5 then 1 else if i = 6 then 2 else if i = 7 then 3 else if i = 8 then 4 else if i = 9 then 5 else if i = 10 then 6 else if i = 11 then 7 else if i = 12 then 8 else if i = 13 then 9 else if i = 14 then 10 else i - 5) i) = i := by
      intro i c
      rcases c with rfl | rfl | rfl | rfl | rfl | rfl | rfl | rfl | rfl | rfl | rfl | c
      · rfl
      · rfl
      · rfl
      · rfl
      · rfl
      · rfl
      · rfl
      · rfl
      · rfl
      · rfl
      · rfl
      · have e1 : (fun i => if i = 4 then 0 else if i = 5 then 1 else if i = 6 then 2 else if i = 7 then 3 else if i = 8 then 4 else if i = 9 then 5 else if i = 10 then 6 else if i = 11 then 7 else if i = 12 then 8 else if i = 13 then 9 else if i = 14 then 10 else i - 5) i = i - 5 := by
          show (if i = 4 then 0 else if i = 5 then 1 else if i = 6 then 2 else if i = 7 then 3 else if i = 8 then 4 else if i = 9 then 5 else if i = 10 then 6 else if i = 11 then 7 else if i = 12 then 8 else if i = 13 then 9 else if i = 14 then 10 else i - 5) = _
          rw [if_neg (by omega), if_neg (by omega), if_neg (by omega), if_neg (by omega), if_neg (by omega), if_neg (by omega), if_neg (by omega), if_neg (by omega), if_neg (by omega), if_neg (by omega), if_neg (by omega)]
        rw [e1]
        show (if i - 5 = 0 then 4 else if i - 5 = 1 then 5 else if i - 5 = 2 then 6 else if i - 5 = 3 then 7 else if i - 5 = 4 then 8 else if i - 5 = 5 then 9 else if i - 5 = 6 then 10 else if i - 5 = 7 then 11 else if i - 5 = 8 then 12 else if i - 5 = 9 then 13 else if i - 5 = 10 then 14 else i - 5 + 5) = _
        rw [if_neg (by omega), if_neg (by omega), if_neg (by omega), if_neg (by omega), if_neg (by omega), if_neg (by omega), if_neg (by omega), if_neg (by omega), if_neg (by omega), if_neg (by omega), if_neg (by omega)]
        omega
    intro i j c1 c2 e
    exact (inv i c1).symm.trans ((congrArg (fun r : Nat => if r = 0 then 4 else if r = 1 then 5 else if r = 2 then 6 else if r = 3 then 7 else if r = 4 then 8 else if r = 5 then 9 else if r = 6 then 10 else if r = 7 then 11 else if r = 8 then 12 else if r = 9 then 13 else if r = 10 then 14 else r + 5) e).trans (inv j c2))

def f_X4_garden (μ : XS) (a1 : Int32) (a2 : Int32) : Option ((Int32 × (Int32) × (Int32) × (Int32) × (Int64) × (Int64) × (Int32) × (Int32) × (Int32)) ⊕ (String)) :=
(Option.bind (f_X4_isSide a1) fun r1 =>
(if r1 = 0 then
some (.inr ("java/lang/IllegalArgumentException"))
else
(Option.bind (f_X4_isSide a2) fun r2 =>
(if r2 = 0 then
some (.inr ("java/lang/IllegalArgumentException"))
else
(Option.bind (f_X4_saveState μ) fun r3 =>
(Option.bind (f_X1_layOut ((x_wide μ), (x_high μ), (x_pond μ), (x_walls μ), (x_paved μ), (x_tc μ), (x_flips μ), (x_refused μ), (x_names μ)) a1 a2 (0 : Int32) (0 : Int64)) fun r4 =>
some (.inl (a1 * a2, r4.1, r4.2.1, r4.2.2.1, r4.2.2.2.1, r4.2.2.2.2.1, r4.2.2.2.2.2, r3.1, r3.2))))))))

def f_X4_pond (μ : XS) (a1 : Int32) (a2 : Int32) : Option ((Int32 × (Int32) × (Int32) × (Int32)) ⊕ (String)) :=
(Option.bind (f_X4_requireCell μ a1 a2) fun r1o => Sum.elim (fun r1 =>
(Option.bind (f_X4_cellAt a1 a2) fun r2 =>
(if (lg_cmp (r2 &&& ((x_walls μ) ||| (x_paved μ))) (0 : Int64)) = 0 then
(Option.bind (f_X4_saveState μ) fun r3 =>
(jlet (x_pond μ) fun x4 =>
(Option.bind (f_X4_placeOf a1 a2) fun r5 =>
(Option.bind (f_X4_cellName x4) fun r6 =>
some (.inl (r6, r5, r3.1, r3.2))))))
else
some (.inr ("java/lang/IllegalStateException"))))) (fun Er1 => some (.inr Er1)) r1o)

def f_X4_wall (μ : XS) (a1 : Int32) (a2 : Int32) : Option ((Int32 × (Int64) × (Int32) × (Int32)) ⊕ (String)) :=
(Option.bind (f_X4_requireCell μ a1 a2) fun r1o => Sum.elim (fun r1 =>
(Option.bind (f_X4_cellAt a1 a2) fun r2 =>
(Option.bind (f_X1_pondCell ((x_wide μ), (x_high μ), (x_pond μ), (x_walls μ), (x_paved μ), (x_tc μ), (x_flips μ), (x_refused μ), (x_names μ))) fun r3 =>
(if (lg_cmp (r2 &&& (r3 ||| (x_paved μ))) (0 : Int64)) = 0 then
(Option.bind (f_X4_saveState μ) fun r4 =>
(jlet ((x_walls μ) ^^^ r2) fun x5 =>
(Option.bind (f_J13_bitCount_95d88 x5) fun r6 =>
some (.inl (r6, x5, r4.1, r4.2)))))
else
some (.inr ("java/lang/IllegalStateException")))))) (fun Er1 => some (.inr Er1)) r1o)

def f_X4_lay (μ : XS) (a1 : Int32) (a2 : Int32) (a3 : Int32) : Option ((Int32 × (Int64) × (Int32) × (Int32) × (Nat → Int32) × (Int32) × (Int32)) ⊕ (String)) :=
(Option.bind (f_X4_requireTurn a3) fun r1o => Sum.elim (fun r1 =>
(Option.bind (f_X4_saveState μ) fun r2 =>
(Option.bind (f_X1_whyRefused ((x_wide μ), (x_high μ), (x_pond μ), (x_walls μ), (x_paved μ), (x_tc μ), (x_flips μ), (x_refused μ), (x_names μ)) a1 a2 a3) fun r3 =>
(if r3 = 0 then
(Option.bind (f_X1_putTriple ((x_wide μ), (x_high μ), (x_pond μ), (x_walls μ), (x_paved μ), (x_tc μ), (x_flips μ), (x_refused μ), (x_names μ)) a1 a2 a3) fun r5 =>
some (.inl (r3, r5.1, r5.2.1, (x_refused μ), r5.2.2, r2.1, r2.2)))
else
(jlet ((x_refused μ) + (1 : Int32)) fun x4 =>
some (.inl (r3, (x_paved μ), (x_tc μ), x4, (x_names μ), r2.1, r2.2))))))) (fun Er1 => some (.inr Er1)) r1o)

def f_X4_lift (μ : XS) (a1 : Int32) (a2 : Int32) : Option ((Int32 × (Int64) × (Int32) × (Nat → Int32) × (Int32) × (Int32)) ⊕ (String)) :=
(Option.bind (f_X4_requireCell μ a1 a2) fun r1o => Sum.elim (fun r1 =>
(Option.bind (f_X4_cellAt a1 a2) fun r2 =>
(Option.bind (f_X1_tripleOver ((x_wide μ), (x_high μ), (x_pond μ), (x_walls μ), (x_paved μ), (x_tc μ), (x_flips μ), (x_refused μ), (x_names μ)) r2) fun r3 =>
(if r3 = (-1 : Int32) then
some (.inr ("java/lang/IllegalStateException"))
else
(Option.bind (f_X4_saveState μ) fun r4 =>
(Option.bind (f_X1_takeTriple ((x_wide μ), (x_high μ), (x_pond μ), (x_walls μ), (x_paved μ), (x_tc μ), (x_flips μ), (x_refused μ), (x_names μ)) r3) fun r5 =>
some (.inl (r3, r5.1, r5.2.1, r5.2.2, r4.1, r4.2)))))))) (fun Er1 => some (.inr Er1)) r1o)

def f_X4_flip (μ : XS) (a1 : Int32) (a2 : Int32) (a3 : Int32) : Option ((Int32 × (Int64) × (Int32) × (Int32) × (Nat → Int32) × (Int32) × (Int32)) ⊕ (String)) :=
(Option.bind (f_X1_hasFlipBlock ((x_wide μ), (x_high μ), (x_pond μ), (x_walls μ), (x_paved μ), (x_tc μ), (x_flips μ), (x_refused μ), (x_names μ)) a1 a2 a3) fun r1 =>
(if r1 = 0 then
some (.inr ("java/lang/IndexOutOfBoundsException"))
else
(Option.bind (f_X1_isFlippable ((x_wide μ), (x_high μ), (x_pond μ), (x_walls μ), (x_paved μ), (x_tc μ), (x_flips μ), (x_refused μ), (x_names μ)) a1 a2 a3) fun r2 =>
(if r2 = 0 then
some (.inr ("java/lang/IllegalStateException"))
else
(Option.bind (f_X4_saveState μ) fun r3 =>
(Option.bind (f_X1_flipBlock ((x_wide μ), (x_high μ), (x_pond μ), (x_walls μ), (x_paved μ), (x_tc μ), (x_flips μ), (x_refused μ), (x_names μ)) a1 a2 a3) fun r4 =>
some (.inl (r4.2.2.1, r4.1, r4.2.1, r4.2.2.1, r4.2.2.2, r3.1, r3.2))))))))

def f_X4_fill (μ : XS) : Option ((Int32 × (Nat → Nat → Int32) × (Nat → Int32) × (Nat → Nat) × (Nat → Nat) × (Int32) × (Nat → Int32) × (Nat → Int32) × (Int32) × (Nat → Int32) × (Nat → Int32) × (Int64) × (Int32) × (Nat → Int32) × (Int32) × (Int32)) ⊕ (String × (Nat → Int32) × (Nat → Nat) × (Nat → Nat) × (Int32) × (Nat → Int32) × (Nat → Int32) × (Int32) × (Nat → Int32) × (Nat → Int32))) :=
(Option.bind (f_X1_freeCells ((x_wide μ), (x_high μ), (x_pond μ), (x_walls μ), (x_paved μ), (x_tc μ), (x_flips μ), (x_refused μ), (x_names μ))) fun r1 =>
(Option.bind (f_X2_waysToPave ((x_rest μ), (x_takes μ), (x_u1 μ), (x_u2 μ), (x_hsz μ), (x_hwin μ), (x_hway μ), (x_nsz μ), (x_nwin μ), (x_nway μ)) r1) fun r2 =>
(if r2.1 = 0 then
some (.inr ("java/lang/IllegalStateException", r2.2.1, r2.2.2.1, r2.2.2.2.1, r2.2.2.2.2.1, r2.2.2.2.2.2.1, r2.2.2.2.2.2.2.1, r2.2.2.2.2.2.2.2.1, r2.2.2.2.2.2.2.2.2.1, r2.2.2.2.2.2.2.2.2.2))
else
(Option.bind (f_X4_saveState (x_length μ, x_codes μ, x_rest μ, r2.2.1, r2.2.2.1, r2.2.2.2.1, r2.2.2.2.2.1, r2.2.2.2.2.2.1, r2.2.2.2.2.2.2.1, r2.2.2.2.2.2.2.2.1, r2.2.2.2.2.2.2.2.2.1, r2.2.2.2.2.2.2.2.2.2, x_wide μ, x_high μ, x_pond μ, x_walls μ, x_paved μ, x_tc μ, x_flips μ, x_refused μ, x_names μ, x_sl μ, x_lmod μ, x_lsize μ)) fun r3 =>
(jlet (x_tc μ) fun x4 =>
(Option.bind (f_X2_paveFirstWay ((x_rest μ), r2.2.1, r2.2.2.1, r2.2.2.2.1, r2.2.2.2.2.1, r2.2.2.2.2.2.1, r2.2.2.2.2.2.2.1, r2.2.2.2.2.2.2.2.1, r2.2.2.2.2.2.2.2.2.1, r2.2.2.2.2.2.2.2.2.2, (x_wide μ), (x_high μ), (x_pond μ), (x_walls μ), (x_paved μ), (x_tc μ), (x_flips μ), (x_refused μ), (x_names μ))) fun r5 =>
some (.inl (r5.2.2.2.1 - x4, r5.1, r5.2.1, r2.2.2.1, r2.2.2.2.1, r2.2.2.2.2.1, r2.2.2.2.2.2.1, r2.2.2.2.2.2.2.1, r2.2.2.2.2.2.2.2.1, r2.2.2.2.2.2.2.2.2.1, r2.2.2.2.2.2.2.2.2.2, r5.2.2.1, r5.2.2.2.1, r5.2.2.2.2, r3.1, r3.2))))))))

def f_X4_halve (μ : XS) : Option ((Int32 × (Int64) × (Int32) × (Nat → Int32) × (Int32) × (Int32)) ⊕ (String)) :=
(Option.bind (f_X1_isHalvable ((x_wide μ), (x_high μ), (x_pond μ), (x_walls μ), (x_paved μ), (x_tc μ), (x_flips μ), (x_refused μ), (x_names μ))) fun r1 =>
(if r1 = 0 then
some (.inr ("java/lang/IllegalStateException"))
else
(Option.bind (f_X4_saveState μ) fun r2 =>
(Option.bind (f_X1_paveSquares ((x_wide μ), (x_high μ), (x_pond μ), (x_walls μ), (x_paved μ), (x_tc μ), (x_flips μ), (x_refused μ), (x_names μ))) fun r3 =>
some (.inl (r3.2.1, r3.1, r3.2.1, r3.2.2, r2.1, r2.2))))))
