/-! COPIES of blocks of cells -/
theorem cA_st {iv : Nat → Nat → Int32} {jv : Nat → Nat → Int64} {k0 k1 N : Nat} {n : Int32} (hn : n = nI N) (hN : N < 2 ^ 31) (b0 : aA (hpOf iv jv) k0 0 = some (N, iv k0)) (b1 : aA (hpOf iv jv) k1 0 = some (N, iv k1)) (hc : ∀ f j, cel f j (hp0 k1) = .inl (0, N, .inl f)) : ∃ iv', cA (hpOf iv jv) k0 0 k1 0 n 0 = some (hpOf iv' jv) ∧ (∀ k, k ≠ k1 → iv' k = iv k) ∧ ∀ j, j < N → iv' k1 j = iv k0 j := by
  subst hn
  have z : (0 : Int32).toNatClampNeg = 0 := by decide
  refine ⟨fun a => if a = k1 then va_cpy (iv k0) (iv k1) 0 0 N else iv a, ?_, fun k h => if_neg h, fun j hj => ?_⟩
  · unfold cA
    rw [b0, b1]
    dsimp only
    rw [z, nI_clamp hN, if_pos ⟨⟨by decide, by decide, nI_pos hN⟩, by omega, by omega, Or.inl rfl⟩]
    congr 1
    exact hp_va (by rw [hc, if_pos rfl]) (fun a ha => if_neg ha) (fun _ _ => rfl)
  · dsimp only
    rw [if_pos rfl, pk_cpy_in (Nat.zero_le _) (by omega)]
    congr 1; omega
theorem cA_sz {iv : Nat → Nat → Int32} {jv : Nat → Nat → Int64} {k0 k1 N : Nat} {n : Int32} (hn : n = nI N) (hN : N < 2 ^ 31) (b0 : aA (hpOf iv jv) k0 1 = some (N, iv k0)) (b1 : aA (hpOf iv jv) k1 1 = some (N, iv k1)) (hc : ∀ f j, cel f j (hp0 k1) = .inl (1, N, .inl f)) (hz : ∀ i, i < N → iv k0 i = 0 ∨ iv k0 i = 1) : ∃ iv', cA (hpOf iv jv) k0 0 k1 0 n 1 = some (hpOf iv' jv) ∧ (∀ k, k ≠ k1 → iv' k = iv k) ∧ ∀ j, j < N → iv' k1 j = iv k0 j := by
  subst hn
  have z : (0 : Int32).toNatClampNeg = 0 := by decide
  refine ⟨fun a => if a = k1 then va_cpy (iv k0) (iv k1) 0 0 N else iv a, ?_, fun k h => if_neg h, fun j hj => ?_⟩
  · unfold cA
    rw [b0, b1]
    dsimp only
    rw [z, nI_clamp hN, if_pos ⟨⟨by decide, by decide, nI_pos hN⟩, by omega, by omega, Or.inr ⟨rfl, fun i hi => by rw [Nat.zero_add]; exact hz i hi⟩⟩]
    congr 1
    exact hp_va (by rw [hc, if_pos rfl]) (fun a ha => if_neg ha) (fun _ _ => rfl)
  · dsimp only
    rw [if_pos rfl, pk_cpy_in (Nat.zero_le _) (by omega)]
    congr 1; omega
def CpR (s d : Nat) (iv iv' : Nat → Nat → Int32) : Prop := (iv' d 0 = iv s 0 ∧ iv' d 1 = iv s 1) ∧ (∀ j, j < 8 → iv' (d + 1) j = iv (s + 1) j ∧ iv' (d + 2) j = iv (s + 2) j ∧ iv' (d + 3) j = iv (s + 3) j ∧ iv' (d + 4) j = iv (s + 4) j ∧ iv' (d + 5) j = iv (s + 5) j) ∧ ∀ j, j < 4 → iv' (d + 6) j = iv (s + 6) j ∧ iv' (d + 7) j = iv (s + 7) j
def CpB (s d : Nat) (iv iv' : Nat → Nat → Int32) : Prop := iv' d 0 = iv s 0 ∧ (∀ j, j < 200 → iv' (d + 1) j = iv (s + 1) j) ∧ ∀ j, j < 10 → iv' (d + 2) j = iv (s + 2) j
def CpP (s d : Nat) (iv iv' : Nat → Nat → Int32) : Prop := (iv' d 0 = iv s 0 ∧ iv' d 1 = iv s 1 ∧ iv' d 2 = iv s 2) ∧ ∀ j, j < 10 → iv' (d + 1) j = iv (s + 1) j ∧ iv' (d + 2) j = iv (s + 2) j ∧ iv' (d + 3) j = iv (s + 3) j
section CP
variable {s d : Nat} {iv iv1 iv' : Nat → Nat → Int32}
theorem CpR.row (h : CpR s d iv iv1) (e : ∀ k, d ≤ k → k ≤ d + 7 → iv' k = iv1 k) : CpR s d iv iv' := by
  unfold CpR at h ⊢
  rw [e d (by omega) (by omega), e (d + 1) (by omega) (by omega), e (d + 2) (by omega) (by omega), e (d + 3) (by omega) (by omega), e (d + 4) (by omega) (by omega), e (d + 5) (by omega) (by omega), e (d + 6) (by omega) (by omega), e (d + 7) (by omega) (by omega)]; exact h
theorem CpR.src (h : CpR s d iv1 iv') (e : ∀ k, s ≤ k → k ≤ s + 7 → iv1 k = iv k) : CpR s d iv iv' := by
  unfold CpR at h ⊢
  rw [← e s (by omega) (by omega), ← e (s + 1) (by omega) (by omega), ← e (s + 2) (by omega) (by omega), ← e (s + 3) (by omega) (by omega), ← e (s + 4) (by omega) (by omega), ← e (s + 5) (by omega) (by omega), ← e (s + 6) (by omega) (by omega), ← e (s + 7) (by omega) (by omega)]; exact h
theorem CpB.row (h : CpB s d iv iv1) (e : ∀ k, d ≤ k → k ≤ d + 2 → iv' k = iv1 k) : CpB s d iv iv' := by
  unfold CpB at h ⊢
  rw [e d (by omega) (by omega), e (d + 1) (by omega) (by omega), e (d + 2) (by omega) (by omega)]; exact h
theorem CpB.src (h : CpB s d iv1 iv') (e : ∀ k, s ≤ k → k ≤ s + 2 → iv1 k = iv k) : CpB s d iv iv' := by
  unfold CpB at h ⊢
  rw [← e s (by omega) (by omega), ← e (s + 1) (by omega) (by omega), ← e (s + 2) (by omega) (by omega)]; exact h
theorem CpP.row (h : CpP s d iv iv1) (e : ∀ k, d ≤ k → k ≤ d + 3 → iv' k = iv1 k) : CpP s d iv iv' := by
  unfold CpP at h ⊢
  rw [e d (by omega) (by omega), e (d + 1) (by omega) (by omega), e (d + 2) (by omega) (by omega), e (d + 3) (by omega) (by omega)]; exact h
theorem CpP.src (h : CpP s d iv1 iv') (e : ∀ k, s ≤ k → k ≤ s + 3 → iv1 k = iv k) : CpP s d iv iv' := by
  unfold CpP at h ⊢
  rw [← e s (by omega) (by omega), ← e (s + 1) (by omega) (by omega), ← e (s + 2) (by omega) (by omega), ← e (s + 3) (by omega) (by omega)]; exact h
end CP
theorem c7_19_2 {iv : Nat → Nat → Int32} {jv : Nat → Nat → Int64} : ∃ iv', f_X7_copyFrom 19 2 (hpOf iv jv) = some (hpOf iv' jv) ∧ (∀ k, (k < 19 ∨ 26 < k) → iv' k = iv k) ∧ CpR 2 19 iv iv' := by
  let i0 : Nat → Nat → Int32 := up (up iv 19 0 (iv 2 0)) 19 1 (iv 2 1)
  have y0 : ∀ k, k ≠ 19 → i0 k = iv k := fun k h => by show up (up iv 19 _ _) 19 _ _ k = _; rw [up_ne _ _ _ h, up_ne _ _ _ h]
  have w0 : i0 19 0 = iv 2 0 := by show up (up iv 19 _ _) 19 _ _ 19 0 = _; rw [up_in _ _ (by decide), up_at]
  have w1 : i0 19 1 = iv 2 1 := up_at _ _ _ _
  obtain ⟨i1, x1, y1, z1⟩ := cA_st (iv := i0) (jv := jv) (k0 := 3) (k1 := 20) (N := 8) (n := 8) (by decide) (by decide) (B_3 i0 jv) (B_20 i0 jv) (fun _ _ => rfl)
  obtain ⟨i2, x2, y2, z2⟩ := cA_st (iv := i1) (jv := jv) (k0 := 4) (k1 := 21) (N := 8) (n := 8) (by decide) (by decide) (B_4 i1 jv) (B_21 i1 jv) (fun _ _ => rfl)
  obtain ⟨i3, x3, y3, z3⟩ := cA_st (iv := i2) (jv := jv) (k0 := 5) (k1 := 22) (N := 8) (n := 8) (by decide) (by decide) (B_5 i2 jv) (B_22 i2 jv) (fun _ _ => rfl)
  obtain ⟨i4, x4, y4, z4⟩ := cA_st (iv := i3) (jv := jv) (k0 := 6) (k1 := 23) (N := 8) (n := 8) (by decide) (by decide) (B_6 i3 jv) (B_23 i3 jv) (fun _ _ => rfl)
  obtain ⟨i5, x5, y5, z5⟩ := cA_st (iv := i4) (jv := jv) (k0 := 7) (k1 := 24) (N := 8) (n := 8) (by decide) (by decide) (B_7 i4 jv) (B_24 i4 jv) (fun _ _ => rfl)
  obtain ⟨i6, x6, y6, z6⟩ := cA_st (iv := i5) (jv := jv) (k0 := 8) (k1 := 25) (N := 4) (n := 4) (by decide) (by decide) (B_8 i5 jv) (B_25 i5 jv) (fun _ _ => rfl)
  obtain ⟨i7, x7, y7, z7⟩ := cA_st (iv := i6) (jv := jv) (k0 := 9) (k1 := 26) (N := 4) (n := 4) (by decide) (by decide) (B_9 i6 jv) (B_26 i6 jv) (fun _ _ => rfl)
  refine ⟨i7, ?_, fun k h => ?_, ⟨?_, ?_⟩, fun j hj => ⟨?_, ?_, ?_, ?_, ?_⟩, fun j hj => ⟨?_, ?_⟩⟩
  · unfold f_X7_copyFrom
    rw [G_2_0, Option.bind_some, S_19_0, Option.bind_some, G_2_1, Option.bind_some, up_ne _ _ _ (show 2 ≠ 19 by decide), S_19_1, Option.bind_some, G_2_2, Option.bind_some, G_19_2, Option.bind_some, x1, Option.bind_some, G_2_3, Option.bind_some, G_19_3, Option.bind_some, x2, Option.bind_some, G_2_4, Option.bind_some, G_19_4, Option.bind_some, x3, Option.bind_some, G_2_5, Option.bind_some, G_19_5, Option.bind_some, x4, Option.bind_some, G_2_6, Option.bind_some, G_19_6, Option.bind_some, x5, Option.bind_some, G_2_7, Option.bind_some, G_19_7, Option.bind_some, x6, Option.bind_some, G_2_8, Option.bind_some, G_19_8, Option.bind_some, x7, Option.bind_some]
  · rw [y7 k (by omega), y6 k (by omega), y5 k (by omega), y4 k (by omega), y3 k (by omega), y2 k (by omega), y1 k (by omega), y0 k (by omega)]
  · rw [y7 19 (by decide), y6 19 (by decide), y5 19 (by decide), y4 19 (by decide), y3 19 (by decide), y2 19 (by decide), y1 19 (by decide), w0]
  · rw [y7 19 (by decide), y6 19 (by decide), y5 19 (by decide), y4 19 (by decide), y3 19 (by decide), y2 19 (by decide), y1 19 (by decide), w1]
  · show i7 20 j = iv 3 j; rw [y7 20 (by decide), y6 20 (by decide), y5 20 (by decide), y4 20 (by decide), y3 20 (by decide), y2 20 (by decide), z1 j hj, y0 3 (by decide)]
  · show i7 21 j = iv 4 j; rw [y7 21 (by decide), y6 21 (by decide), y5 21 (by decide), y4 21 (by decide), y3 21 (by decide), z2 j hj, y1 4 (by decide), y0 4 (by decide)]
  · show i7 22 j = iv 5 j; rw [y7 22 (by decide), y6 22 (by decide), y5 22 (by decide), y4 22 (by decide), z3 j hj, y2 5 (by decide), y1 5 (by decide), y0 5 (by decide)]
  · show i7 23 j = iv 6 j; rw [y7 23 (by decide), y6 23 (by decide), y5 23 (by decide), z4 j hj, y3 6 (by decide), y2 6 (by decide), y1 6 (by decide), y0 6 (by decide)]
  · show i7 24 j = iv 7 j; rw [y7 24 (by decide), y6 24 (by decide), z5 j hj, y4 7 (by decide), y3 7 (by decide), y2 7 (by decide), y1 7 (by decide), y0 7 (by decide)]
  · show i7 25 j = iv 8 j; rw [y7 25 (by decide), z6 j hj, y5 8 (by decide), y4 8 (by decide), y3 8 (by decide), y2 8 (by decide), y1 8 (by decide), y0 8 (by decide)]
  · show i7 26 j = iv 9 j; rw [z7 j hj, y6 9 (by decide), y5 9 (by decide), y4 9 (by decide), y3 9 (by decide), y2 9 (by decide), y1 9 (by decide), y0 9 (by decide)]
theorem c0_27_10 {iv : Nat → Nat → Int32} {jv : Nat → Nat → Int64} : ∃ iv', f_X0_copyFrom 27 10 (hpOf iv jv) = some (hpOf iv' jv) ∧ (∀ k, k ≠ 27 → k ≠ 28 → iv' k = iv k) ∧ iv' 27 0 = iv 10 0 ∧ ∀ j, j < 200 → iv' 28 j = iv 11 j := by
  obtain ⟨i1, x1, y1, z1⟩ := cA_st (iv := up iv 27 0 (iv 10 0)) (jv := jv) (k0 := 11) (k1 := 28) (N := 200) (n := 200) (by decide) (by decide) (B_11 _ jv) (B_28 _ jv) (fun _ _ => rfl)
  refine ⟨i1, ?_, fun k h1 h2 => by rw [y1 k h2, up_ne _ _ _ h1], by rw [y1 27 (by decide), up_at], fun j hj => by rw [z1 j hj, up_ne _ _ _ (show 11 ≠ 27 by decide)]⟩
  unfold f_X0_copyFrom
  rw [G_10_0, Option.bind_some, S_27_0, Option.bind_some, G_10_1, Option.bind_some, G_27_1, Option.bind_some, x1, Option.bind_some]
theorem c5_30_13 {iv : Nat → Nat → Int32} {jv : Nat → Nat → Int64} (hz : ∀ j, j < 10 → iv 16 j = 0 ∨ iv 16 j = 1) : ∃ iv', f_X5_copyFrom 30 13 (hpOf iv jv) = some (hpOf iv' jv) ∧ (∀ k, (k < 30 ∨ 33 < k) → iv' k = iv k) ∧ CpP 13 30 iv iv' := by
  let i0 : Nat → Nat → Int32 := up (up (up iv 30 0 (iv 13 0)) 30 1 (iv 13 1)) 30 2 (iv 13 2)
  have y0 : ∀ k, k ≠ 30 → i0 k = iv k := fun k h => by show up (up (up iv 30 _ _) 30 _ _) 30 _ _ k = _; rw [up_ne _ _ _ h, up_ne _ _ _ h, up_ne _ _ _ h]
  have w0 : i0 30 0 = iv 13 0 := by show up (up (up iv 30 _ _) 30 _ _) 30 _ _ 30 0 = _; rw [up_in _ _ (by decide), up_in _ _ (by decide), up_at]
  have w1 : i0 30 1 = iv 13 1 := by show up (up (up iv 30 _ _) 30 _ _) 30 _ _ 30 1 = _; rw [up_in _ _ (by decide), up_at]
  have w2 : i0 30 2 = iv 13 2 := up_at _ _ _ _
  obtain ⟨i1, x1, y1, z1⟩ := cA_st (iv := i0) (jv := jv) (k0 := 14) (k1 := 31) (N := 10) (n := 10) (by decide) (by decide) (B_14 i0 jv) (B_31 i0 jv) (fun _ _ => rfl)
  obtain ⟨i2, x2, y2, z2⟩ := cA_st (iv := i1) (jv := jv) (k0 := 15) (k1 := 32) (N := 10) (n := 10) (by decide) (by decide) (B_15 i1 jv) (B_32 i1 jv) (fun _ _ => rfl)
  obtain ⟨i3, x3, y3, z3⟩ := cA_sz (iv := i2) (jv := jv) (k0 := 16) (k1 := 33) (N := 10) (n := 10) (by decide) (by decide) (B_16 i2 jv) (B_33 i2 jv) (fun _ _ => rfl) (fun i hi => by rw [y2 16 (by decide), y1 16 (by decide), y0 16 (by decide)]; exact hz i hi)
  refine ⟨i3, ?_, fun k h => ?_, ⟨?_, ?_, ?_⟩, fun j hj => ⟨?_, ?_, ?_⟩⟩
  · unfold f_X5_copyFrom
    rw [G_13_0, Option.bind_some, S_30_0, Option.bind_some, G_13_1, Option.bind_some, up_ne _ _ _ (show 13 ≠ 30 by decide), S_30_1, Option.bind_some, G_13_2, Option.bind_some, up_ne _ _ _ (show 13 ≠ 30 by decide), up_ne _ _ _ (show 13 ≠ 30 by decide), S_30_2, Option.bind_some, G_13_3, Option.bind_some, G_30_3, Option.bind_some, x1, Option.bind_some, G_13_4, Option.bind_some, G_30_4, Option.bind_some, x2, Option.bind_some, G_13_5, Option.bind_some, G_30_5, Option.bind_some, x3, Option.bind_some]
  · rw [y3 k (by omega), y2 k (by omega), y1 k (by omega), y0 k (by omega)]
  · rw [y3 30 (by decide), y2 30 (by decide), y1 30 (by decide), w0]
  · rw [y3 30 (by decide), y2 30 (by decide), y1 30 (by decide), w1]
  · rw [y3 30 (by decide), y2 30 (by decide), y1 30 (by decide), w2]
  · show i3 31 j = iv 14 j; rw [y3 31 (by decide), y2 31 (by decide), z1 j hj, y0 14 (by decide)]
  · show i3 32 j = iv 15 j; rw [y3 32 (by decide), z2 j hj, y1 15 (by decide), y0 15 (by decide)]
  · show i3 33 j = iv 16 j; rw [z3 j hj, y2 16 (by decide), y1 16 (by decide), y0 16 (by decide)]
theorem c8_18_1 {iv : Nat → Nat → Int32} {jv : Nat → Nat → Int64} (hz : ∀ j, j < 10 → iv 16 j = 0 ∨ iv 16 j = 1) : ∃ iv', f_X8_copyFrom 18 1 (hpOf iv jv) = some (hpOf iv' jv) ∧ (∀ k, (k ≤ 18 ∨ 33 < k) → iv' k = iv k) ∧ CpR 2 19 iv iv' ∧ CpB 10 27 iv iv' ∧ CpP 13 30 iv iv' := by
  obtain ⟨i1, x1, y1, z1⟩ := c7_19_2 (iv := iv) (jv := jv)
  obtain ⟨i2, x2, y2, z2, z2'⟩ := c0_27_10 (iv := i1) (jv := jv)
  obtain ⟨i3, x3, y3, z3⟩ := cA_st (iv := i2) (jv := jv) (k0 := 12) (k1 := 29) (N := 10) (n := 10) (by decide) (by decide) (B_12 i2 jv) (B_29 i2 jv) (fun _ _ => rfl)
  obtain ⟨i4, x4, y4, z4⟩ := c5_30_13 (iv := i3) (jv := jv) (fun j hj => by rw [y3 16 (by decide), y2 16 (by decide) (by decide), y1 16 (by decide)]; exact hz j hj)
  refine ⟨i4, ?_, fun k h => ?_, z1.row (fun k a b => ?_), ⟨?_, fun j hj => ?_, fun j hj => ?_⟩, z4.src (fun k a b => ?_)⟩
  · unfold f_X8_copyFrom
    rw [G_18_0, Option.bind_some, G_1_0, Option.bind_some, V_19, x1, Option.bind_some, G_18_1, Option.bind_some, G_1_1, Option.bind_some, V_27, x2, Option.bind_some, G_1_2, Option.bind_some, G_18_2, Option.bind_some, x3, Option.bind_some, G_18_3, Option.bind_some, G_1_3, Option.bind_some, V_30, x4, Option.bind_some]
  · rw [y4 k (by omega), y3 k (by omega), y2 k (by omega) (by omega), y1 k (by omega)]
  · rw [y4 k (by omega), y3 k (by omega), y2 k (by omega) (by omega)]
  · rw [y4 27 (by decide), y3 27 (by decide), z2, y1 10 (by decide)]
  · show i4 28 j = iv 11 j; rw [y4 28 (by decide), y3 28 (by decide), z2' j hj, y1 11 (by decide)]
  · show i4 29 j = iv 12 j; rw [y4 29 (by decide), z3 j hj, y2 12 (by decide) (by decide), y1 12 (by decide)]
  · rw [y3 k (by omega), y2 k (by omega) (by omega), y1 k (by omega)]
theorem c7_35_2 {iv : Nat → Nat → Int32} {jv : Nat → Nat → Int64} : ∃ iv', f_X7_copyFrom 35 2 (hpOf iv jv) = some (hpOf iv' jv) ∧ (∀ k, (k < 35 ∨ 42 < k) → iv' k = iv k) ∧ CpR 2 35 iv iv' := by
  let i0 : Nat → Nat → Int32 := up (up iv 35 0 (iv 2 0)) 35 1 (iv 2 1)
  have y0 : ∀ k, k ≠ 35 → i0 k = iv k := fun k h => by show up (up iv 35 _ _) 35 _ _ k = _; rw [up_ne _ _ _ h, up_ne _ _ _ h]
  have w0 : i0 35 0 = iv 2 0 := by show up (up iv 35 _ _) 35 _ _ 35 0 = _; rw [up_in _ _ (by decide), up_at]
  have w1 : i0 35 1 = iv 2 1 := up_at _ _ _ _
  obtain ⟨i1, x1, y1, z1⟩ := cA_st (iv := i0) (jv := jv) (k0 := 3) (k1 := 36) (N := 8) (n := 8) (by decide) (by decide) (B_3 i0 jv) (B_36 i0 jv) (fun _ _ => rfl)
  obtain ⟨i2, x2, y2, z2⟩ := cA_st (iv := i1) (jv := jv) (k0 := 4) (k1 := 37) (N := 8) (n := 8) (by decide) (by decide) (B_4 i1 jv) (B_37 i1 jv) (fun _ _ => rfl)
  obtain ⟨i3, x3, y3, z3⟩ := cA_st (iv := i2) (jv := jv) (k0 := 5) (k1 := 38) (N := 8) (n := 8) (by decide) (by decide) (B_5 i2 jv) (B_38 i2 jv) (fun _ _ => rfl)
  obtain ⟨i4, x4, y4, z4⟩ := cA_st (iv := i3) (jv := jv) (k0 := 6) (k1 := 39) (N := 8) (n := 8) (by decide) (by decide) (B_6 i3 jv) (B_39 i3 jv) (fun _ _ => rfl)
  obtain ⟨i5, x5, y5, z5⟩ := cA_st (iv := i4) (jv := jv) (k0 := 7) (k1 := 40) (N := 8) (n := 8) (by decide) (by decide) (B_7 i4 jv) (B_40 i4 jv) (fun _ _ => rfl)
  obtain ⟨i6, x6, y6, z6⟩ := cA_st (iv := i5) (jv := jv) (k0 := 8) (k1 := 41) (N := 4) (n := 4) (by decide) (by decide) (B_8 i5 jv) (B_41 i5 jv) (fun _ _ => rfl)
  obtain ⟨i7, x7, y7, z7⟩ := cA_st (iv := i6) (jv := jv) (k0 := 9) (k1 := 42) (N := 4) (n := 4) (by decide) (by decide) (B_9 i6 jv) (B_42 i6 jv) (fun _ _ => rfl)
  refine ⟨i7, ?_, fun k h => ?_, ⟨?_, ?_⟩, fun j hj => ⟨?_, ?_, ?_, ?_, ?_⟩, fun j hj => ⟨?_, ?_⟩⟩
  · unfold f_X7_copyFrom
    rw [G_2_0, Option.bind_some, S_35_0, Option.bind_some, G_2_1, Option.bind_some, up_ne _ _ _ (show 2 ≠ 35 by decide), S_35_1, Option.bind_some, G_2_2, Option.bind_some, G_35_2, Option.bind_some, x1, Option.bind_some, G_2_3, Option.bind_some, G_35_3, Option.bind_some, x2, Option.bind_some, G_2_4, Option.bind_some, G_35_4, Option.bind_some, x3, Option.bind_some, G_2_5, Option.bind_some, G_35_5, Option.bind_some, x4, Option.bind_some, G_2_6, Option.bind_some, G_35_6, Option.bind_some, x5, Option.bind_some, G_2_7, Option.bind_some, G_35_7, Option.bind_some, x6, Option.bind_some, G_2_8, Option.bind_some, G_35_8, Option.bind_some, x7, Option.bind_some]
  · rw [y7 k (by omega), y6 k (by omega), y5 k (by omega), y4 k (by omega), y3 k (by omega), y2 k (by omega), y1 k (by omega), y0 k (by omega)]
  · rw [y7 35 (by decide), y6 35 (by decide), y5 35 (by decide), y4 35 (by decide), y3 35 (by decide), y2 35 (by decide), y1 35 (by decide), w0]
  · rw [y7 35 (by decide), y6 35 (by decide), y5 35 (by decide), y4 35 (by decide), y3 35 (by decide), y2 35 (by decide), y1 35 (by decide), w1]
  · show i7 36 j = iv 3 j; rw [y7 36 (by decide), y6 36 (by decide), y5 36 (by decide), y4 36 (by decide), y3 36 (by decide), y2 36 (by decide), z1 j hj, y0 3 (by decide)]
  · show i7 37 j = iv 4 j; rw [y7 37 (by decide), y6 37 (by decide), y5 37 (by decide), y4 37 (by decide), y3 37 (by decide), z2 j hj, y1 4 (by decide), y0 4 (by decide)]
  · show i7 38 j = iv 5 j; rw [y7 38 (by decide), y6 38 (by decide), y5 38 (by decide), y4 38 (by decide), z3 j hj, y2 5 (by decide), y1 5 (by decide), y0 5 (by decide)]
  · show i7 39 j = iv 6 j; rw [y7 39 (by decide), y6 39 (by decide), y5 39 (by decide), z4 j hj, y3 6 (by decide), y2 6 (by decide), y1 6 (by decide), y0 6 (by decide)]
  · show i7 40 j = iv 7 j; rw [y7 40 (by decide), y6 40 (by decide), z5 j hj, y4 7 (by decide), y3 7 (by decide), y2 7 (by decide), y1 7 (by decide), y0 7 (by decide)]
  · show i7 41 j = iv 8 j; rw [y7 41 (by decide), z6 j hj, y5 8 (by decide), y4 8 (by decide), y3 8 (by decide), y2 8 (by decide), y1 8 (by decide), y0 8 (by decide)]
  · show i7 42 j = iv 9 j; rw [z7 j hj, y6 9 (by decide), y5 9 (by decide), y4 9 (by decide), y3 9 (by decide), y2 9 (by decide), y1 9 (by decide), y0 9 (by decide)]
theorem c0_43_10 {iv : Nat → Nat → Int32} {jv : Nat → Nat → Int64} : ∃ iv', f_X0_copyFrom 43 10 (hpOf iv jv) = some (hpOf iv' jv) ∧ (∀ k, k ≠ 43 → k ≠ 44 → iv' k = iv k) ∧ iv' 43 0 = iv 10 0 ∧ ∀ j, j < 200 → iv' 44 j = iv 11 j := by
  obtain ⟨i1, x1, y1, z1⟩ := cA_st (iv := up iv 43 0 (iv 10 0)) (jv := jv) (k0 := 11) (k1 := 44) (N := 200) (n := 200) (by decide) (by decide) (B_11 _ jv) (B_44 _ jv) (fun _ _ => rfl)
  refine ⟨i1, ?_, fun k h1 h2 => by rw [y1 k h2, up_ne _ _ _ h1], by rw [y1 43 (by decide), up_at], fun j hj => by rw [z1 j hj, up_ne _ _ _ (show 11 ≠ 43 by decide)]⟩
  unfold f_X0_copyFrom
  rw [G_10_0, Option.bind_some, S_43_0, Option.bind_some, G_10_1, Option.bind_some, G_43_1, Option.bind_some, x1, Option.bind_some]
theorem c5_46_13 {iv : Nat → Nat → Int32} {jv : Nat → Nat → Int64} (hz : ∀ j, j < 10 → iv 16 j = 0 ∨ iv 16 j = 1) : ∃ iv', f_X5_copyFrom 46 13 (hpOf iv jv) = some (hpOf iv' jv) ∧ (∀ k, (k < 46 ∨ 49 < k) → iv' k = iv k) ∧ CpP 13 46 iv iv' := by
  let i0 : Nat → Nat → Int32 := up (up (up iv 46 0 (iv 13 0)) 46 1 (iv 13 1)) 46 2 (iv 13 2)
  have y0 : ∀ k, k ≠ 46 → i0 k = iv k := fun k h => by show up (up (up iv 46 _ _) 46 _ _) 46 _ _ k = _; rw [up_ne _ _ _ h, up_ne _ _ _ h, up_ne _ _ _ h]
  have w0 : i0 46 0 = iv 13 0 := by show up (up (up iv 46 _ _) 46 _ _) 46 _ _ 46 0 = _; rw [up_in _ _ (by decide), up_in _ _ (by decide), up_at]
  have w1 : i0 46 1 = iv 13 1 := by show up (up (up iv 46 _ _) 46 _ _) 46 _ _ 46 1 = _; rw [up_in _ _ (by decide), up_at]
  have w2 : i0 46 2 = iv 13 2 := up_at _ _ _ _
  obtain ⟨i1, x1, y1, z1⟩ := cA_st (iv := i0) (jv := jv) (k0 := 14) (k1 := 47) (N := 10) (n := 10) (by decide) (by decide) (B_14 i0 jv) (B_47 i0 jv) (fun _ _ => rfl)
  obtain ⟨i2, x2, y2, z2⟩ := cA_st (iv := i1) (jv := jv) (k0 := 15) (k1 := 48) (N := 10) (n := 10) (by decide) (by decide) (B_15 i1 jv) (B_48 i1 jv) (fun _ _ => rfl)
  obtain ⟨i3, x3, y3, z3⟩ := cA_sz (iv := i2) (jv := jv) (k0 := 16) (k1 := 49) (N := 10) (n := 10) (by decide) (by decide) (B_16 i2 jv) (B_49 i2 jv) (fun _ _ => rfl) (fun i hi => by rw [y2 16 (by decide), y1 16 (by decide), y0 16 (by decide)]; exact hz i hi)
  refine ⟨i3, ?_, fun k h => ?_, ⟨?_, ?_, ?_⟩, fun j hj => ⟨?_, ?_, ?_⟩⟩
  · unfold f_X5_copyFrom
    rw [G_13_0, Option.bind_some, S_46_0, Option.bind_some, G_13_1, Option.bind_some, up_ne _ _ _ (show 13 ≠ 46 by decide), S_46_1, Option.bind_some, G_13_2, Option.bind_some, up_ne _ _ _ (show 13 ≠ 46 by decide), up_ne _ _ _ (show 13 ≠ 46 by decide), S_46_2, Option.bind_some, G_13_3, Option.bind_some, G_46_3, Option.bind_some, x1, Option.bind_some, G_13_4, Option.bind_some, G_46_4, Option.bind_some, x2, Option.bind_some, G_13_5, Option.bind_some, G_46_5, Option.bind_some, x3, Option.bind_some]
  · rw [y3 k (by omega), y2 k (by omega), y1 k (by omega), y0 k (by omega)]
  · rw [y3 46 (by decide), y2 46 (by decide), y1 46 (by decide), w0]
  · rw [y3 46 (by decide), y2 46 (by decide), y1 46 (by decide), w1]
  · rw [y3 46 (by decide), y2 46 (by decide), y1 46 (by decide), w2]
  · show i3 47 j = iv 14 j; rw [y3 47 (by decide), y2 47 (by decide), z1 j hj, y0 14 (by decide)]
  · show i3 48 j = iv 15 j; rw [y3 48 (by decide), z2 j hj, y1 15 (by decide), y0 15 (by decide)]
  · show i3 49 j = iv 16 j; rw [z3 j hj, y2 16 (by decide), y1 16 (by decide), y0 16 (by decide)]
theorem c8_34_1 {iv : Nat → Nat → Int32} {jv : Nat → Nat → Int64} (hz : ∀ j, j < 10 → iv 16 j = 0 ∨ iv 16 j = 1) : ∃ iv', f_X8_copyFrom 34 1 (hpOf iv jv) = some (hpOf iv' jv) ∧ (∀ k, (k ≤ 34 ∨ 49 < k) → iv' k = iv k) ∧ CpR 2 35 iv iv' ∧ CpB 10 43 iv iv' ∧ CpP 13 46 iv iv' := by
  obtain ⟨i1, x1, y1, z1⟩ := c7_35_2 (iv := iv) (jv := jv)
  obtain ⟨i2, x2, y2, z2, z2'⟩ := c0_43_10 (iv := i1) (jv := jv)
  obtain ⟨i3, x3, y3, z3⟩ := cA_st (iv := i2) (jv := jv) (k0 := 12) (k1 := 45) (N := 10) (n := 10) (by decide) (by decide) (B_12 i2 jv) (B_45 i2 jv) (fun _ _ => rfl)
  obtain ⟨i4, x4, y4, z4⟩ := c5_46_13 (iv := i3) (jv := jv) (fun j hj => by rw [y3 16 (by decide), y2 16 (by decide) (by decide), y1 16 (by decide)]; exact hz j hj)
  refine ⟨i4, ?_, fun k h => ?_, z1.row (fun k a b => ?_), ⟨?_, fun j hj => ?_, fun j hj => ?_⟩, z4.src (fun k a b => ?_)⟩
  · unfold f_X8_copyFrom
    rw [G_34_0, Option.bind_some, G_1_0, Option.bind_some, V_35, x1, Option.bind_some, G_34_1, Option.bind_some, G_1_1, Option.bind_some, V_43, x2, Option.bind_some, G_1_2, Option.bind_some, G_34_2, Option.bind_some, x3, Option.bind_some, G_34_3, Option.bind_some, G_1_3, Option.bind_some, V_46, x4, Option.bind_some]
  · rw [y4 k (by omega), y3 k (by omega), y2 k (by omega) (by omega), y1 k (by omega)]
  · rw [y4 k (by omega), y3 k (by omega), y2 k (by omega) (by omega)]
  · rw [y4 43 (by decide), y3 43 (by decide), z2, y1 10 (by decide)]
  · show i4 44 j = iv 11 j; rw [y4 44 (by decide), y3 44 (by decide), z2' j hj, y1 11 (by decide)]
  · show i4 45 j = iv 12 j; rw [y4 45 (by decide), z3 j hj, y2 12 (by decide) (by decide), y1 12 (by decide)]
  · rw [y3 k (by omega), y2 k (by omega) (by omega), y1 k (by omega)]
theorem c7_2_19 {iv : Nat → Nat → Int32} {jv : Nat → Nat → Int64} : ∃ iv', f_X7_copyFrom 2 19 (hpOf iv jv) = some (hpOf iv' jv) ∧ (∀ k, (k < 2 ∨ 9 < k) → iv' k = iv k) ∧ CpR 19 2 iv iv' := by
  let i0 : Nat → Nat → Int32 := up (up iv 2 0 (iv 19 0)) 2 1 (iv 19 1)
  have y0 : ∀ k, k ≠ 2 → i0 k = iv k := fun k h => by show up (up iv 2 _ _) 2 _ _ k = _; rw [up_ne _ _ _ h, up_ne _ _ _ h]
  have w0 : i0 2 0 = iv 19 0 := by show up (up iv 2 _ _) 2 _ _ 2 0 = _; rw [up_in _ _ (by decide), up_at]
  have w1 : i0 2 1 = iv 19 1 := up_at _ _ _ _
  obtain ⟨i1, x1, y1, z1⟩ := cA_st (iv := i0) (jv := jv) (k0 := 20) (k1 := 3) (N := 8) (n := 8) (by decide) (by decide) (B_20 i0 jv) (B_3 i0 jv) (fun _ _ => rfl)
  obtain ⟨i2, x2, y2, z2⟩ := cA_st (iv := i1) (jv := jv) (k0 := 21) (k1 := 4) (N := 8) (n := 8) (by decide) (by decide) (B_21 i1 jv) (B_4 i1 jv) (fun _ _ => rfl)
  obtain ⟨i3, x3, y3, z3⟩ := cA_st (iv := i2) (jv := jv) (k0 := 22) (k1 := 5) (N := 8) (n := 8) (by decide) (by decide) (B_22 i2 jv) (B_5 i2 jv) (fun _ _ => rfl)
  obtain ⟨i4, x4, y4, z4⟩ := cA_st (iv := i3) (jv := jv) (k0 := 23) (k1 := 6) (N := 8) (n := 8) (by decide) (by decide) (B_23 i3 jv) (B_6 i3 jv) (fun _ _ => rfl)
  obtain ⟨i5, x5, y5, z5⟩ := cA_st (iv := i4) (jv := jv) (k0 := 24) (k1 := 7) (N := 8) (n := 8) (by decide) (by decide) (B_24 i4 jv) (B_7 i4 jv) (fun _ _ => rfl)
  obtain ⟨i6, x6, y6, z6⟩ := cA_st (iv := i5) (jv := jv) (k0 := 25) (k1 := 8) (N := 4) (n := 4) (by decide) (by decide) (B_25 i5 jv) (B_8 i5 jv) (fun _ _ => rfl)
  obtain ⟨i7, x7, y7, z7⟩ := cA_st (iv := i6) (jv := jv) (k0 := 26) (k1 := 9) (N := 4) (n := 4) (by decide) (by decide) (B_26 i6 jv) (B_9 i6 jv) (fun _ _ => rfl)
  refine ⟨i7, ?_, fun k h => ?_, ⟨?_, ?_⟩, fun j hj => ⟨?_, ?_, ?_, ?_, ?_⟩, fun j hj => ⟨?_, ?_⟩⟩
  · unfold f_X7_copyFrom
    rw [G_19_0, Option.bind_some, S_2_0, Option.bind_some, G_19_1, Option.bind_some, up_ne _ _ _ (show 19 ≠ 2 by decide), S_2_1, Option.bind_some, G_19_2, Option.bind_some, G_2_2, Option.bind_some, x1, Option.bind_some, G_19_3, Option.bind_some, G_2_3, Option.bind_some, x2, Option.bind_some, G_19_4, Option.bind_some, G_2_4, Option.bind_some, x3, Option.bind_some, G_19_5, Option.bind_some, G_2_5, Option.bind_some, x4, Option.bind_some, G_19_6, Option.bind_some, G_2_6, Option.bind_some, x5, Option.bind_some, G_19_7, Option.bind_some, G_2_7, Option.bind_some, x6, Option.bind_some, G_19_8, Option.bind_some, G_2_8, Option.bind_some, x7, Option.bind_some]
  · rw [y7 k (by omega), y6 k (by omega), y5 k (by omega), y4 k (by omega), y3 k (by omega), y2 k (by omega), y1 k (by omega), y0 k (by omega)]
  · rw [y7 2 (by decide), y6 2 (by decide), y5 2 (by decide), y4 2 (by decide), y3 2 (by decide), y2 2 (by decide), y1 2 (by decide), w0]
  · rw [y7 2 (by decide), y6 2 (by decide), y5 2 (by decide), y4 2 (by decide), y3 2 (by decide), y2 2 (by decide), y1 2 (by decide), w1]
  · show i7 3 j = iv 20 j; rw [y7 3 (by decide), y6 3 (by decide), y5 3 (by decide), y4 3 (by decide), y3 3 (by decide), y2 3 (by decide), z1 j hj, y0 20 (by decide)]
  · show i7 4 j = iv 21 j; rw [y7 4 (by decide), y6 4 (by decide), y5 4 (by decide), y4 4 (by decide), y3 4 (by decide), z2 j hj, y1 21 (by decide), y0 21 (by decide)]
  · show i7 5 j = iv 22 j; rw [y7 5 (by decide), y6 5 (by decide), y5 5 (by decide), y4 5 (by decide), z3 j hj, y2 22 (by decide), y1 22 (by decide), y0 22 (by decide)]
  · show i7 6 j = iv 23 j; rw [y7 6 (by decide), y6 6 (by decide), y5 6 (by decide), z4 j hj, y3 23 (by decide), y2 23 (by decide), y1 23 (by decide), y0 23 (by decide)]
  · show i7 7 j = iv 24 j; rw [y7 7 (by decide), y6 7 (by decide), z5 j hj, y4 24 (by decide), y3 24 (by decide), y2 24 (by decide), y1 24 (by decide), y0 24 (by decide)]
  · show i7 8 j = iv 25 j; rw [y7 8 (by decide), z6 j hj, y5 25 (by decide), y4 25 (by decide), y3 25 (by decide), y2 25 (by decide), y1 25 (by decide), y0 25 (by decide)]
  · show i7 9 j = iv 26 j; rw [z7 j hj, y6 26 (by decide), y5 26 (by decide), y4 26 (by decide), y3 26 (by decide), y2 26 (by decide), y1 26 (by decide), y0 26 (by decide)]
theorem c0_10_27 {iv : Nat → Nat → Int32} {jv : Nat → Nat → Int64} : ∃ iv', f_X0_copyFrom 10 27 (hpOf iv jv) = some (hpOf iv' jv) ∧ (∀ k, k ≠ 10 → k ≠ 11 → iv' k = iv k) ∧ iv' 10 0 = iv 27 0 ∧ ∀ j, j < 200 → iv' 11 j = iv 28 j := by
  obtain ⟨i1, x1, y1, z1⟩ := cA_st (iv := up iv 10 0 (iv 27 0)) (jv := jv) (k0 := 28) (k1 := 11) (N := 200) (n := 200) (by decide) (by decide) (B_28 _ jv) (B_11 _ jv) (fun _ _ => rfl)
  refine ⟨i1, ?_, fun k h1 h2 => by rw [y1 k h2, up_ne _ _ _ h1], by rw [y1 10 (by decide), up_at], fun j hj => by rw [z1 j hj, up_ne _ _ _ (show 28 ≠ 10 by decide)]⟩
  unfold f_X0_copyFrom
  rw [G_27_0, Option.bind_some, S_10_0, Option.bind_some, G_27_1, Option.bind_some, G_10_1, Option.bind_some, x1, Option.bind_some]
theorem c5_13_30 {iv : Nat → Nat → Int32} {jv : Nat → Nat → Int64} (hz : ∀ j, j < 10 → iv 33 j = 0 ∨ iv 33 j = 1) : ∃ iv', f_X5_copyFrom 13 30 (hpOf iv jv) = some (hpOf iv' jv) ∧ (∀ k, (k < 13 ∨ 16 < k) → iv' k = iv k) ∧ CpP 30 13 iv iv' := by
  let i0 : Nat → Nat → Int32 := up (up (up iv 13 0 (iv 30 0)) 13 1 (iv 30 1)) 13 2 (iv 30 2)
  have y0 : ∀ k, k ≠ 13 → i0 k = iv k := fun k h => by show up (up (up iv 13 _ _) 13 _ _) 13 _ _ k = _; rw [up_ne _ _ _ h, up_ne _ _ _ h, up_ne _ _ _ h]
  have w0 : i0 13 0 = iv 30 0 := by show up (up (up iv 13 _ _) 13 _ _) 13 _ _ 13 0 = _; rw [up_in _ _ (by decide), up_in _ _ (by decide), up_at]
  have w1 : i0 13 1 = iv 30 1 := by show up (up (up iv 13 _ _) 13 _ _) 13 _ _ 13 1 = _; rw [up_in _ _ (by decide), up_at]
  have w2 : i0 13 2 = iv 30 2 := up_at _ _ _ _
  obtain ⟨i1, x1, y1, z1⟩ := cA_st (iv := i0) (jv := jv) (k0 := 31) (k1 := 14) (N := 10) (n := 10) (by decide) (by decide) (B_31 i0 jv) (B_14 i0 jv) (fun _ _ => rfl)
  obtain ⟨i2, x2, y2, z2⟩ := cA_st (iv := i1) (jv := jv) (k0 := 32) (k1 := 15) (N := 10) (n := 10) (by decide) (by decide) (B_32 i1 jv) (B_15 i1 jv) (fun _ _ => rfl)
  obtain ⟨i3, x3, y3, z3⟩ := cA_sz (iv := i2) (jv := jv) (k0 := 33) (k1 := 16) (N := 10) (n := 10) (by decide) (by decide) (B_33 i2 jv) (B_16 i2 jv) (fun _ _ => rfl) (fun i hi => by rw [y2 33 (by decide), y1 33 (by decide), y0 33 (by decide)]; exact hz i hi)
  refine ⟨i3, ?_, fun k h => ?_, ⟨?_, ?_, ?_⟩, fun j hj => ⟨?_, ?_, ?_⟩⟩
  · unfold f_X5_copyFrom
    rw [G_30_0, Option.bind_some, S_13_0, Option.bind_some, G_30_1, Option.bind_some, up_ne _ _ _ (show 30 ≠ 13 by decide), S_13_1, Option.bind_some, G_30_2, Option.bind_some, up_ne _ _ _ (show 30 ≠ 13 by decide), up_ne _ _ _ (show 30 ≠ 13 by decide), S_13_2, Option.bind_some, G_30_3, Option.bind_some, G_13_3, Option.bind_some, x1, Option.bind_some, G_30_4, Option.bind_some, G_13_4, Option.bind_some, x2, Option.bind_some, G_30_5, Option.bind_some, G_13_5, Option.bind_some, x3, Option.bind_some]
  · rw [y3 k (by omega), y2 k (by omega), y1 k (by omega), y0 k (by omega)]
  · rw [y3 13 (by decide), y2 13 (by decide), y1 13 (by decide), w0]
  · rw [y3 13 (by decide), y2 13 (by decide), y1 13 (by decide), w1]
  · rw [y3 13 (by decide), y2 13 (by decide), y1 13 (by decide), w2]
  · show i3 14 j = iv 31 j; rw [y3 14 (by decide), y2 14 (by decide), z1 j hj, y0 31 (by decide)]
  · show i3 15 j = iv 32 j; rw [y3 15 (by decide), z2 j hj, y1 32 (by decide), y0 32 (by decide)]
  · show i3 16 j = iv 33 j; rw [z3 j hj, y2 33 (by decide), y1 33 (by decide), y0 33 (by decide)]
theorem c8_1_18 {iv : Nat → Nat → Int32} {jv : Nat → Nat → Int64} (hz : ∀ j, j < 10 → iv 33 j = 0 ∨ iv 33 j = 1) : ∃ iv', f_X8_copyFrom 1 18 (hpOf iv jv) = some (hpOf iv' jv) ∧ (∀ k, (k ≤ 1 ∨ 16 < k) → iv' k = iv k) ∧ CpR 19 2 iv iv' ∧ CpB 27 10 iv iv' ∧ CpP 30 13 iv iv' := by
  obtain ⟨i1, x1, y1, z1⟩ := c7_2_19 (iv := iv) (jv := jv)
  obtain ⟨i2, x2, y2, z2, z2'⟩ := c0_10_27 (iv := i1) (jv := jv)
  obtain ⟨i3, x3, y3, z3⟩ := cA_st (iv := i2) (jv := jv) (k0 := 29) (k1 := 12) (N := 10) (n := 10) (by decide) (by decide) (B_29 i2 jv) (B_12 i2 jv) (fun _ _ => rfl)
  obtain ⟨i4, x4, y4, z4⟩ := c5_13_30 (iv := i3) (jv := jv) (fun j hj => by rw [y3 33 (by decide), y2 33 (by decide) (by decide), y1 33 (by decide)]; exact hz j hj)
  refine ⟨i4, ?_, fun k h => ?_, z1.row (fun k a b => ?_), ⟨?_, fun j hj => ?_, fun j hj => ?_⟩, z4.src (fun k a b => ?_)⟩
  · unfold f_X8_copyFrom
    rw [G_1_0, Option.bind_some, G_18_0, Option.bind_some, V_2, x1, Option.bind_some, G_1_1, Option.bind_some, G_18_1, Option.bind_some, V_10, x2, Option.bind_some, G_18_2, Option.bind_some, G_1_2, Option.bind_some, x3, Option.bind_some, G_1_3, Option.bind_some, G_18_3, Option.bind_some, V_13, x4, Option.bind_some]
  · rw [y4 k (by omega), y3 k (by omega), y2 k (by omega) (by omega), y1 k (by omega)]
  · rw [y4 k (by omega), y3 k (by omega), y2 k (by omega) (by omega)]
  · rw [y4 10 (by decide), y3 10 (by decide), z2, y1 27 (by decide)]
  · show i4 11 j = iv 28 j; rw [y4 11 (by decide), y3 11 (by decide), z2' j hj, y1 28 (by decide)]
  · show i4 12 j = iv 29 j; rw [y4 12 (by decide), z3 j hj, y2 29 (by decide) (by decide), y1 29 (by decide)]
  · rw [y3 k (by omega), y2 k (by omega) (by omega), y1 k (by omega)]
theorem c7_2_35 {iv : Nat → Nat → Int32} {jv : Nat → Nat → Int64} : ∃ iv', f_X7_copyFrom 2 35 (hpOf iv jv) = some (hpOf iv' jv) ∧ (∀ k, (k < 2 ∨ 9 < k) → iv' k = iv k) ∧ CpR 35 2 iv iv' := by
  let i0 : Nat → Nat → Int32 := up (up iv 2 0 (iv 35 0)) 2 1 (iv 35 1)
  have y0 : ∀ k, k ≠ 2 → i0 k = iv k := fun k h => by show up (up iv 2 _ _) 2 _ _ k = _; rw [up_ne _ _ _ h, up_ne _ _ _ h]
  have w0 : i0 2 0 = iv 35 0 := by show up (up iv 2 _ _) 2 _ _ 2 0 = _; rw [up_in _ _ (by decide), up_at]
  have w1 : i0 2 1 = iv 35 1 := up_at _ _ _ _
  obtain ⟨i1, x1, y1, z1⟩ := cA_st (iv := i0) (jv := jv) (k0 := 36) (k1 := 3) (N := 8) (n := 8) (by decide) (by decide) (B_36 i0 jv) (B_3 i0 jv) (fun _ _ => rfl)
  obtain ⟨i2, x2, y2, z2⟩ := cA_st (iv := i1) (jv := jv) (k0 := 37) (k1 := 4) (N := 8) (n := 8) (by decide) (by decide) (B_37 i1 jv) (B_4 i1 jv) (fun _ _ => rfl)
  obtain ⟨i3, x3, y3, z3⟩ := cA_st (iv := i2) (jv := jv) (k0 := 38) (k1 := 5) (N := 8) (n := 8) (by decide) (by decide) (B_38 i2 jv) (B_5 i2 jv) (fun _ _ => rfl)
  obtain ⟨i4, x4, y4, z4⟩ := cA_st (iv := i3) (jv := jv) (k0 := 39) (k1 := 6) (N := 8) (n := 8) (by decide) (by decide) (B_39 i3 jv) (B_6 i3 jv) (fun _ _ => rfl)
  obtain ⟨i5, x5, y5, z5⟩ := cA_st (iv := i4) (jv := jv) (k0 := 40) (k1 := 7) (N := 8) (n := 8) (by decide) (by decide) (B_40 i4 jv) (B_7 i4 jv) (fun _ _ => rfl)
  obtain ⟨i6, x6, y6, z6⟩ := cA_st (iv := i5) (jv := jv) (k0 := 41) (k1 := 8) (N := 4) (n := 4) (by decide) (by decide) (B_41 i5 jv) (B_8 i5 jv) (fun _ _ => rfl)
  obtain ⟨i7, x7, y7, z7⟩ := cA_st (iv := i6) (jv := jv) (k0 := 42) (k1 := 9) (N := 4) (n := 4) (by decide) (by decide) (B_42 i6 jv) (B_9 i6 jv) (fun _ _ => rfl)
  refine ⟨i7, ?_, fun k h => ?_, ⟨?_, ?_⟩, fun j hj => ⟨?_, ?_, ?_, ?_, ?_⟩, fun j hj => ⟨?_, ?_⟩⟩
  · unfold f_X7_copyFrom
    rw [G_35_0, Option.bind_some, S_2_0, Option.bind_some, G_35_1, Option.bind_some, up_ne _ _ _ (show 35 ≠ 2 by decide), S_2_1, Option.bind_some, G_35_2, Option.bind_some, G_2_2, Option.bind_some, x1, Option.bind_some, G_35_3, Option.bind_some, G_2_3, Option.bind_some, x2, Option.bind_some, G_35_4, Option.bind_some, G_2_4, Option.bind_some, x3, Option.bind_some, G_35_5, Option.bind_some, G_2_5, Option.bind_some, x4, Option.bind_some, G_35_6, Option.bind_some, G_2_6, Option.bind_some, x5, Option.bind_some, G_35_7, Option.bind_some, G_2_7, Option.bind_some, x6, Option.bind_some, G_35_8, Option.bind_some, G_2_8, Option.bind_some, x7, Option.bind_some]
  · rw [y7 k (by omega), y6 k (by omega), y5 k (by omega), y4 k (by omega), y3 k (by omega), y2 k (by omega), y1 k (by omega), y0 k (by omega)]
  · rw [y7 2 (by decide), y6 2 (by decide), y5 2 (by decide), y4 2 (by decide), y3 2 (by decide), y2 2 (by decide), y1 2 (by decide), w0]
  · rw [y7 2 (by decide), y6 2 (by decide), y5 2 (by decide), y4 2 (by decide), y3 2 (by decide), y2 2 (by decide), y1 2 (by decide), w1]
  · show i7 3 j = iv 36 j; rw [y7 3 (by decide), y6 3 (by decide), y5 3 (by decide), y4 3 (by decide), y3 3 (by decide), y2 3 (by decide), z1 j hj, y0 36 (by decide)]
  · show i7 4 j = iv 37 j; rw [y7 4 (by decide), y6 4 (by decide), y5 4 (by decide), y4 4 (by decide), y3 4 (by decide), z2 j hj, y1 37 (by decide), y0 37 (by decide)]
  · show i7 5 j = iv 38 j; rw [y7 5 (by decide), y6 5 (by decide), y5 5 (by decide), y4 5 (by decide), z3 j hj, y2 38 (by decide), y1 38 (by decide), y0 38 (by decide)]
  · show i7 6 j = iv 39 j; rw [y7 6 (by decide), y6 6 (by decide), y5 6 (by decide), z4 j hj, y3 39 (by decide), y2 39 (by decide), y1 39 (by decide), y0 39 (by decide)]
  · show i7 7 j = iv 40 j; rw [y7 7 (by decide), y6 7 (by decide), z5 j hj, y4 40 (by decide), y3 40 (by decide), y2 40 (by decide), y1 40 (by decide), y0 40 (by decide)]
  · show i7 8 j = iv 41 j; rw [y7 8 (by decide), z6 j hj, y5 41 (by decide), y4 41 (by decide), y3 41 (by decide), y2 41 (by decide), y1 41 (by decide), y0 41 (by decide)]
  · show i7 9 j = iv 42 j; rw [z7 j hj, y6 42 (by decide), y5 42 (by decide), y4 42 (by decide), y3 42 (by decide), y2 42 (by decide), y1 42 (by decide), y0 42 (by decide)]
theorem c0_10_43 {iv : Nat → Nat → Int32} {jv : Nat → Nat → Int64} : ∃ iv', f_X0_copyFrom 10 43 (hpOf iv jv) = some (hpOf iv' jv) ∧ (∀ k, k ≠ 10 → k ≠ 11 → iv' k = iv k) ∧ iv' 10 0 = iv 43 0 ∧ ∀ j, j < 200 → iv' 11 j = iv 44 j := by
  obtain ⟨i1, x1, y1, z1⟩ := cA_st (iv := up iv 10 0 (iv 43 0)) (jv := jv) (k0 := 44) (k1 := 11) (N := 200) (n := 200) (by decide) (by decide) (B_44 _ jv) (B_11 _ jv) (fun _ _ => rfl)
  refine ⟨i1, ?_, fun k h1 h2 => by rw [y1 k h2, up_ne _ _ _ h1], by rw [y1 10 (by decide), up_at], fun j hj => by rw [z1 j hj, up_ne _ _ _ (show 44 ≠ 10 by decide)]⟩
  unfold f_X0_copyFrom
  rw [G_43_0, Option.bind_some, S_10_0, Option.bind_some, G_43_1, Option.bind_some, G_10_1, Option.bind_some, x1, Option.bind_some]
theorem c5_13_46 {iv : Nat → Nat → Int32} {jv : Nat → Nat → Int64} (hz : ∀ j, j < 10 → iv 49 j = 0 ∨ iv 49 j = 1) : ∃ iv', f_X5_copyFrom 13 46 (hpOf iv jv) = some (hpOf iv' jv) ∧ (∀ k, (k < 13 ∨ 16 < k) → iv' k = iv k) ∧ CpP 46 13 iv iv' := by
  let i0 : Nat → Nat → Int32 := up (up (up iv 13 0 (iv 46 0)) 13 1 (iv 46 1)) 13 2 (iv 46 2)
  have y0 : ∀ k, k ≠ 13 → i0 k = iv k := fun k h => by show up (up (up iv 13 _ _) 13 _ _) 13 _ _ k = _; rw [up_ne _ _ _ h, up_ne _ _ _ h, up_ne _ _ _ h]
  have w0 : i0 13 0 = iv 46 0 := by show up (up (up iv 13 _ _) 13 _ _) 13 _ _ 13 0 = _; rw [up_in _ _ (by decide), up_in _ _ (by decide), up_at]
  have w1 : i0 13 1 = iv 46 1 := by show up (up (up iv 13 _ _) 13 _ _) 13 _ _ 13 1 = _; rw [up_in _ _ (by decide), up_at]
  have w2 : i0 13 2 = iv 46 2 := up_at _ _ _ _
  obtain ⟨i1, x1, y1, z1⟩ := cA_st (iv := i0) (jv := jv) (k0 := 47) (k1 := 14) (N := 10) (n := 10) (by decide) (by decide) (B_47 i0 jv) (B_14 i0 jv) (fun _ _ => rfl)
  obtain ⟨i2, x2, y2, z2⟩ := cA_st (iv := i1) (jv := jv) (k0 := 48) (k1 := 15) (N := 10) (n := 10) (by decide) (by decide) (B_48 i1 jv) (B_15 i1 jv) (fun _ _ => rfl)
  obtain ⟨i3, x3, y3, z3⟩ := cA_sz (iv := i2) (jv := jv) (k0 := 49) (k1 := 16) (N := 10) (n := 10) (by decide) (by decide) (B_49 i2 jv) (B_16 i2 jv) (fun _ _ => rfl) (fun i hi => by rw [y2 49 (by decide), y1 49 (by decide), y0 49 (by decide)]; exact hz i hi)
  refine ⟨i3, ?_, fun k h => ?_, ⟨?_, ?_, ?_⟩, fun j hj => ⟨?_, ?_, ?_⟩⟩
  · unfold f_X5_copyFrom
    rw [G_46_0, Option.bind_some, S_13_0, Option.bind_some, G_46_1, Option.bind_some, up_ne _ _ _ (show 46 ≠ 13 by decide), S_13_1, Option.bind_some, G_46_2, Option.bind_some, up_ne _ _ _ (show 46 ≠ 13 by decide), up_ne _ _ _ (show 46 ≠ 13 by decide), S_13_2, Option.bind_some, G_46_3, Option.bind_some, G_13_3, Option.bind_some, x1, Option.bind_some, G_46_4, Option.bind_some, G_13_4, Option.bind_some, x2, Option.bind_some, G_46_5, Option.bind_some, G_13_5, Option.bind_some, x3, Option.bind_some]
  · rw [y3 k (by omega), y2 k (by omega), y1 k (by omega), y0 k (by omega)]
  · rw [y3 13 (by decide), y2 13 (by decide), y1 13 (by decide), w0]
  · rw [y3 13 (by decide), y2 13 (by decide), y1 13 (by decide), w1]
  · rw [y3 13 (by decide), y2 13 (by decide), y1 13 (by decide), w2]
  · show i3 14 j = iv 47 j; rw [y3 14 (by decide), y2 14 (by decide), z1 j hj, y0 47 (by decide)]
  · show i3 15 j = iv 48 j; rw [y3 15 (by decide), z2 j hj, y1 48 (by decide), y0 48 (by decide)]
  · show i3 16 j = iv 49 j; rw [z3 j hj, y2 49 (by decide), y1 49 (by decide), y0 49 (by decide)]
theorem c8_1_34 {iv : Nat → Nat → Int32} {jv : Nat → Nat → Int64} (hz : ∀ j, j < 10 → iv 49 j = 0 ∨ iv 49 j = 1) : ∃ iv', f_X8_copyFrom 1 34 (hpOf iv jv) = some (hpOf iv' jv) ∧ (∀ k, (k ≤ 1 ∨ 16 < k) → iv' k = iv k) ∧ CpR 35 2 iv iv' ∧ CpB 43 10 iv iv' ∧ CpP 46 13 iv iv' := by
  obtain ⟨i1, x1, y1, z1⟩ := c7_2_35 (iv := iv) (jv := jv)
  obtain ⟨i2, x2, y2, z2, z2'⟩ := c0_10_43 (iv := i1) (jv := jv)
  obtain ⟨i3, x3, y3, z3⟩ := cA_st (iv := i2) (jv := jv) (k0 := 45) (k1 := 12) (N := 10) (n := 10) (by decide) (by decide) (B_45 i2 jv) (B_12 i2 jv) (fun _ _ => rfl)
  obtain ⟨i4, x4, y4, z4⟩ := c5_13_46 (iv := i3) (jv := jv) (fun j hj => by rw [y3 49 (by decide), y2 49 (by decide) (by decide), y1 49 (by decide)]; exact hz j hj)
  refine ⟨i4, ?_, fun k h => ?_, z1.row (fun k a b => ?_), ⟨?_, fun j hj => ?_, fun j hj => ?_⟩, z4.src (fun k a b => ?_)⟩
  · unfold f_X8_copyFrom
    rw [G_1_0, Option.bind_some, G_34_0, Option.bind_some, V_2, x1, Option.bind_some, G_1_1, Option.bind_some, G_34_1, Option.bind_some, V_10, x2, Option.bind_some, G_34_2, Option.bind_some, G_1_2, Option.bind_some, x3, Option.bind_some, G_1_3, Option.bind_some, G_34_3, Option.bind_some, V_13, x4, Option.bind_some]
  · rw [y4 k (by omega), y3 k (by omega), y2 k (by omega) (by omega), y1 k (by omega)]
  · rw [y4 k (by omega), y3 k (by omega), y2 k (by omega) (by omega)]
  · rw [y4 10 (by decide), y3 10 (by decide), z2, y1 43 (by decide)]
  · show i4 11 j = iv 44 j; rw [y4 11 (by decide), y3 11 (by decide), z2' j hj, y1 44 (by decide)]
  · show i4 12 j = iv 45 j; rw [y4 12 (by decide), z3 j hj, y2 45 (by decide) (by decide), y1 45 (by decide)]
  · rw [y3 k (by omega), y2 k (by omega) (by omega), y1 k (by omega)]
theorem c7_2_51 {iv : Nat → Nat → Int32} {jv : Nat → Nat → Int64} : ∃ iv', f_X7_copyFrom 2 51 (hpOf iv jv) = some (hpOf iv' jv) ∧ (∀ k, (k < 2 ∨ 9 < k) → iv' k = iv k) ∧ CpR 51 2 iv iv' := by
  let i0 : Nat → Nat → Int32 := up (up iv 2 0 (iv 51 0)) 2 1 (iv 51 1)
  have y0 : ∀ k, k ≠ 2 → i0 k = iv k := fun k h => by show up (up iv 2 _ _) 2 _ _ k = _; rw [up_ne _ _ _ h, up_ne _ _ _ h]
  have w0 : i0 2 0 = iv 51 0 := by show up (up iv 2 _ _) 2 _ _ 2 0 = _; rw [up_in _ _ (by decide), up_at]
  have w1 : i0 2 1 = iv 51 1 := up_at _ _ _ _
  obtain ⟨i1, x1, y1, z1⟩ := cA_st (iv := i0) (jv := jv) (k0 := 52) (k1 := 3) (N := 8) (n := 8) (by decide) (by decide) (B_52 i0 jv) (B_3 i0 jv) (fun _ _ => rfl)
  obtain ⟨i2, x2, y2, z2⟩ := cA_st (iv := i1) (jv := jv) (k0 := 53) (k1 := 4) (N := 8) (n := 8) (by decide) (by decide) (B_53 i1 jv) (B_4 i1 jv) (fun _ _ => rfl)
  obtain ⟨i3, x3, y3, z3⟩ := cA_st (iv := i2) (jv := jv) (k0 := 54) (k1 := 5) (N := 8) (n := 8) (by decide) (by decide) (B_54 i2 jv) (B_5 i2 jv) (fun _ _ => rfl)
  obtain ⟨i4, x4, y4, z4⟩ := cA_st (iv := i3) (jv := jv) (k0 := 55) (k1 := 6) (N := 8) (n := 8) (by decide) (by decide) (B_55 i3 jv) (B_6 i3 jv) (fun _ _ => rfl)
  obtain ⟨i5, x5, y5, z5⟩ := cA_st (iv := i4) (jv := jv) (k0 := 56) (k1 := 7) (N := 8) (n := 8) (by decide) (by decide) (B_56 i4 jv) (B_7 i4 jv) (fun _ _ => rfl)
  obtain ⟨i6, x6, y6, z6⟩ := cA_st (iv := i5) (jv := jv) (k0 := 57) (k1 := 8) (N := 4) (n := 4) (by decide) (by decide) (B_57 i5 jv) (B_8 i5 jv) (fun _ _ => rfl)
  obtain ⟨i7, x7, y7, z7⟩ := cA_st (iv := i6) (jv := jv) (k0 := 58) (k1 := 9) (N := 4) (n := 4) (by decide) (by decide) (B_58 i6 jv) (B_9 i6 jv) (fun _ _ => rfl)
  refine ⟨i7, ?_, fun k h => ?_, ⟨?_, ?_⟩, fun j hj => ⟨?_, ?_, ?_, ?_, ?_⟩, fun j hj => ⟨?_, ?_⟩⟩
  · unfold f_X7_copyFrom
    rw [G_51_0, Option.bind_some, S_2_0, Option.bind_some, G_51_1, Option.bind_some, up_ne _ _ _ (show 51 ≠ 2 by decide), S_2_1, Option.bind_some, G_51_2, Option.bind_some, G_2_2, Option.bind_some, x1, Option.bind_some, G_51_3, Option.bind_some, G_2_3, Option.bind_some, x2, Option.bind_some, G_51_4, Option.bind_some, G_2_4, Option.bind_some, x3, Option.bind_some, G_51_5, Option.bind_some, G_2_5, Option.bind_some, x4, Option.bind_some, G_51_6, Option.bind_some, G_2_6, Option.bind_some, x5, Option.bind_some, G_51_7, Option.bind_some, G_2_7, Option.bind_some, x6, Option.bind_some, G_51_8, Option.bind_some, G_2_8, Option.bind_some, x7, Option.bind_some]
  · rw [y7 k (by omega), y6 k (by omega), y5 k (by omega), y4 k (by omega), y3 k (by omega), y2 k (by omega), y1 k (by omega), y0 k (by omega)]
  · rw [y7 2 (by decide), y6 2 (by decide), y5 2 (by decide), y4 2 (by decide), y3 2 (by decide), y2 2 (by decide), y1 2 (by decide), w0]
  · rw [y7 2 (by decide), y6 2 (by decide), y5 2 (by decide), y4 2 (by decide), y3 2 (by decide), y2 2 (by decide), y1 2 (by decide), w1]
  · show i7 3 j = iv 52 j; rw [y7 3 (by decide), y6 3 (by decide), y5 3 (by decide), y4 3 (by decide), y3 3 (by decide), y2 3 (by decide), z1 j hj, y0 52 (by decide)]
  · show i7 4 j = iv 53 j; rw [y7 4 (by decide), y6 4 (by decide), y5 4 (by decide), y4 4 (by decide), y3 4 (by decide), z2 j hj, y1 53 (by decide), y0 53 (by decide)]
  · show i7 5 j = iv 54 j; rw [y7 5 (by decide), y6 5 (by decide), y5 5 (by decide), y4 5 (by decide), z3 j hj, y2 54 (by decide), y1 54 (by decide), y0 54 (by decide)]
  · show i7 6 j = iv 55 j; rw [y7 6 (by decide), y6 6 (by decide), y5 6 (by decide), z4 j hj, y3 55 (by decide), y2 55 (by decide), y1 55 (by decide), y0 55 (by decide)]
  · show i7 7 j = iv 56 j; rw [y7 7 (by decide), y6 7 (by decide), z5 j hj, y4 56 (by decide), y3 56 (by decide), y2 56 (by decide), y1 56 (by decide), y0 56 (by decide)]
  · show i7 8 j = iv 57 j; rw [y7 8 (by decide), z6 j hj, y5 57 (by decide), y4 57 (by decide), y3 57 (by decide), y2 57 (by decide), y1 57 (by decide), y0 57 (by decide)]
  · show i7 9 j = iv 58 j; rw [z7 j hj, y6 58 (by decide), y5 58 (by decide), y4 58 (by decide), y3 58 (by decide), y2 58 (by decide), y1 58 (by decide), y0 58 (by decide)]
/-- what a copy carries over -/
theorem RCr.cp {s d : Nat} {iv iv' : Nat → Nat → Int32} {V : Nat → Nat} (k : Vkr V) (h : RCr (iv s) (iv (s + 1)) (iv (s + 2)) (iv (s + 3)) (iv (s + 4)) (iv (s + 5)) (iv (s + 6)) (iv (s + 7)) V) (c : CpR s d iv iv') : RCr (iv' d) (iv' (d + 1)) (iv' (d + 2)) (iv' (d + 3)) (iv' (d + 4)) (iv' (d + 5)) (iv' (d + 6)) (iv' (d + 7)) V := by
  obtain ⟨⟨a0, a1⟩, a2, a3⟩ := h
  obtain ⟨⟨c0, c1⟩, c2, c3⟩ := c
  have k0 := k.1
  have k1 := k.2.1
  refine ⟨⟨by rw [c0]; exact a0, by rw [c1]; exact a1⟩, fun i hi => ?_, fun i hi => ?_⟩
  · obtain ⟨e1, e2, e3, e4, e5⟩ := c2 i (by omega)
    rw [e1, e2, e3, e4, e5]; exact a2 i hi
  · obtain ⟨e1, e2⟩ := c3 i (by omega)
    rw [e1, e2]; exact a3 i hi
theorem RCb.cp {s d : Nat} {iv iv' : Nat → Nat → Int32} {V : Nat → Nat} (k : Vkb V) (h : RCb (iv s) (iv (s + 1)) (iv (s + 2)) V) (c : CpB s d iv iv') : RCb (iv' d) (iv' (d + 1)) (iv' (d + 2)) V := by
  obtain ⟨a0, a1, a2⟩ := h
  obtain ⟨c0, c1, c2⟩ := c
  have k0 := k.1
  exact ⟨by rw [c0]; exact a0, fun j hj => by rw [c1 j (by omega)]; exact a1 j hj, fun j hj => by rw [c2 j hj]; exact a2 j hj⟩
theorem RCp.cp {s d : Nat} {iv iv' : Nat → Nat → Int32} {V : Nat → Nat} (k : Vkp V) (h : RCp (iv s) (iv (s + 1)) (iv (s + 2)) (iv (s + 3)) V) (c : CpP s d iv iv') : RCp (iv' d) (iv' (d + 1)) (iv' (d + 2)) (iv' (d + 3)) V := by
  obtain ⟨⟨a0, a1, a2⟩, a3, a4⟩ := h
  obtain ⟨⟨c0, c1, c2⟩, c3⟩ := c
  have k0 := k.1
  refine ⟨⟨by rw [c0]; exact a0, by rw [c1]; exact a1, by rw [c2]; exact a2⟩, fun j hj => ?_, fun j hj => ?_⟩
  · obtain ⟨e1, e2, e3⟩ := c3 j (by omega)
    rw [e1, e2, e3]; exact a3 j hj
  · rw [(c3 j hj).2.2]; exact a4 j hj
