/-! THE DRAFT: what a BOOK tells, item by item -/
def addP (R : Nat → Nat) (n : Nat) : Nat → Nat := vs (vs (vs (vs R (5 + R 0) n) (13 + R 0) 0) (21 + R 0) 0) 0 (R 0 + 1)
def addG (R : Nat → Nat) (l s : Nat) : Nat → Nat := vs (vs (vs R (29 + R 1) l) (33 + R 1) s) 1 (R 1 + 1)
def addT (R : Nat → Nat) (o a b : Nat) : Nat → Nat := vs (vs R (o + a) (R (o + a) ||| 2 ^ b)) (o + b) (R (o + b) ||| 2 ^ a)
def SymR (R : Nat → Nat) : Prop := ∀ o, (o = 13 ∨ o = 21) → ∀ a, a < R 0 → R (o + a) < 2 ^ R 0 ∧ ∀ b, b < R 0 → (R (o + a)).testBit b = (R (o + b)).testBit a
def DC (iv : Nat → Nat → Int32) (R : Nat → Nat) : Prop := RCr (iv 51) (iv 52) (iv 53) (iv 54) (iv 55) (iv 56) (iv 57) (iv 58) R
def DM (iv : Nat → Nat → Int32) (R : Nat → Nat) : Prop := RMr (iv 80) R
theorem ap_0 (R : Nat → Nat) (n : Nat) : addP R n 0 = R 0 + 1 := vs_at _ _ _
theorem ap_h {R : Nat → Nat} {n i : Nat} (h8 : R 0 < 8) (h : i = 1 ∨ 29 ≤ i) : addP R n i = R i := by
  unfold addP
  rw [vs_ne _ _ (by omega), vs_ne _ _ (by omega), vs_ne _ _ (by omega), vs_ne _ _ (by omega)]
theorem ap_a {R : Nat → Nat} {n i : Nat} (h8 : R 0 < 8) (hi : i < 8) : addP R n (5 + i) = if i = R 0 then n else R (5 + i) := by
  unfold addP
  rw [vs_ne _ _ (by omega), vs_ne _ _ (by omega), vs_ne _ _ (by omega)]
  by_cases e : i = R 0
  · rw [if_pos e, e, vs_at]
  · rw [if_neg e, vs_ne _ _ (by omega)]
theorem ap_b {R : Nat → Nat} {n i : Nat} (h8 : R 0 < 8) (hi : i < 8) : addP R n (13 + i) = if i = R 0 then 0 else R (13 + i) := by
  unfold addP
  rw [vs_ne _ _ (by omega), vs_ne _ _ (by omega)]
  by_cases e : i = R 0
  · rw [if_pos e, e, vs_at]
  · rw [if_neg e, vs_ne _ _ (by omega), vs_ne _ _ (by omega)]
theorem ap_c {R : Nat → Nat} {n i : Nat} (h8 : R 0 < 8) (hi : i < 8) : addP R n (21 + i) = if i = R 0 then 0 else R (21 + i) := by
  unfold addP
  rw [vs_ne _ _ (by omega)]
  by_cases e : i = R 0
  · rw [if_pos e, e, vs_at]
  · rw [if_neg e, vs_ne _ _ (by omega), vs_ne _ _ (by omega), vs_ne _ _ (by omega)]
theorem vk_P {R : Nat → Nat} {n : Nat} (hk : Vkr R) (h8 : R 0 < 8) (hn : n ≤ 146096) : Vkr (addP R n) := by
  obtain ⟨k0, k1, k2, k3⟩ := hk
  refine ⟨by rw [ap_0]; omega, by rw [ap_h h8 (by omega)]; exact k1, fun i hi => ?_, fun i hi => ?_⟩
  · rw [ap_0] at hi
    rw [ap_a h8 (by omega), ap_b h8 (by omega), ap_c h8 (by omega)]
    by_cases e : i = R 0
    · rw [if_pos e, if_pos e, if_pos e]; omega
    · rw [if_neg e, if_neg e, if_neg e]; exact k2 i (by omega)
  · rw [ap_h h8 (by omega)] at hi
    rw [ap_h h8 (by omega), ap_h h8 (by omega)]; exact k3 i hi
theorem sym_P {R : Nat → Nat} {n : Nat} (hs : SymR R) (h8 : R 0 < 8) : SymR (addP R n) := by
  intro o ho a ha
  rw [ap_0] at ha
  have ap : ∀ i, i < 8 → addP R n (o + i) = if i = R 0 then 0 else R (o + i) := by
    intro i hi
    rcases ho with rfl | rfl
    · exact ap_b h8 hi
    · exact ap_c h8 hi
  have p2 : 2 ^ (R 0 + 1) = 2 ^ R 0 * 2 := Nat.pow_succ ..
  rw [ap_0, ap a (by omega)]
  refine ⟨?_, fun b hb => ?_⟩
  · by_cases e : a = R 0
    · rw [if_pos e]; exact Nat.two_pow_pos _
    · rw [if_neg e]; have := (hs o ho a (by omega)).1; omega
  · rw [ap b (by omega)]
    by_cases e : a = R 0
    · rw [if_pos e]
      by_cases e2 : b = R 0
      · rw [if_pos e2, Nat.zero_testBit, Nat.zero_testBit]
      · rw [if_neg e2, Nat.zero_testBit, e, tb_hi (hs o ho b (by omega)).1 (Nat.le_refl _)]
    · rw [if_neg e]
      by_cases e2 : b = R 0
      · rw [if_pos e2, Nat.zero_testBit, e2, tb_hi (hs o ho a (by omega)).1 (Nat.le_refl _)]
      · rw [if_neg e2]; exact (hs o ho a (by omega)).2 b (by omega)
theorem ag_h {R : Nat → Nat} {l s i : Nat} (h4 : R 1 < 4) (h : i = 0 ∨ (5 ≤ i ∧ i < 29)) : addG R l s i = R i := by
  unfold addG
  rw [vs_ne _ _ (by omega), vs_ne _ _ (by omega), vs_ne _ _ (by omega)]
theorem ag_1 (R : Nat → Nat) (l s : Nat) : addG R l s 1 = R 1 + 1 := vs_at _ _ _
theorem ag_a {R : Nat → Nat} {l s i : Nat} (h4 : R 1 < 4) (hi : i < 4) : addG R l s (29 + i) = if i = R 1 then l else R (29 + i) := by
  unfold addG
  rw [vs_ne _ _ (by omega), vs_ne _ _ (by omega)]
  by_cases e : i = R 1
  · rw [if_pos e, e, vs_at]
  · rw [if_neg e, vs_ne _ _ (by omega)]
theorem ag_b {R : Nat → Nat} {l s i : Nat} (h4 : R 1 < 4) (hi : i < 4) : addG R l s (33 + i) = if i = R 1 then s else R (33 + i) := by
  unfold addG
  rw [vs_ne _ _ (by omega)]
  by_cases e : i = R 1
  · rw [if_pos e, e, vs_at]
  · rw [if_neg e, vs_ne _ _ (by omega), vs_ne _ _ (by omega)]
theorem vk_G {R : Nat → Nat} {l s : Nat} (hk : Vkr R) (h4 : R 1 < 4) (hl : l ≤ 4) (h1 : 1 ≤ s) (h8 : s ≤ 8) : Vkr (addG R l s) := by
  obtain ⟨k0, k1, k2, k3⟩ := hk
  refine ⟨by rw [ag_h h4 (by omega)]; exact k0, by rw [ag_1]; omega, fun i hi => ?_, fun i hi => ?_⟩
  · rw [ag_h h4 (by omega)] at hi
    rw [ag_h h4 (by omega), ag_h h4 (by omega), ag_h h4 (by omega)]; exact k2 i hi
  · rw [ag_1] at hi
    rw [ag_a h4 (by omega), ag_b h4 (by omega)]
    by_cases e : i = R 1
    · rw [if_pos e, if_pos e]; omega
    · rw [if_neg e, if_neg e]; exact k3 i (by omega)
theorem sym_G {R : Nat → Nat} {l s : Nat} (hk : Vkr R) (hs : SymR R) (h4 : R 1 < 4) : SymR (addG R l s) := by
  have k0 := hk.1
  intro o ho a ha
  rw [ag_h h4 (by omega)] at ha
  rw [ag_h h4 (by omega), ag_h h4 (by omega)]
  refine ⟨(hs o ho a ha).1, fun b hb => ?_⟩
  rw [ag_h h4 (by omega)]
  exact (hs o ho a ha).2 b hb
theorem at_h {R : Nat → Nat} {o a b i : Nat} (ho : o = 13 ∨ o = 21) (ha : a < 8) (hb : b < 8) (h : i < 13 ∨ 29 ≤ i) : addT R o a b i = R i := by
  unfold addT
  rw [vs_ne _ _ (by omega), vs_ne _ _ (by omega)]
theorem at_o {R : Nat → Nat} {o a b : Nat} (i : Nat) (hab : b ≠ a) : addT R o a b (o + i) = if i = b then R (o + b) ||| 2 ^ a else if i = a then R (o + a) ||| 2 ^ b else R (o + i) := by
  unfold addT
  by_cases e : i = b
  · rw [if_pos e, e, vs_at]
  · rw [if_neg e, vs_ne _ _ (by omega)]
    by_cases e2 : i = a
    · rw [if_pos e2, e2, vs_at]
    · rw [if_neg e2, vs_ne _ _ (by omega)]
theorem at_n {R : Nat → Nat} {o o' a b i : Nat} (ho : o = 13 ∨ o = 21) (ho' : o' = 13 ∨ o' = 21) (hn : o' ≠ o) (ha : a < 8) (hb : b < 8) (hi : i < 8) : addT R o a b (o' + i) = R (o' + i) := by
  unfold addT
  rw [vs_ne _ _ (by omega), vs_ne _ _ (by omega)]
theorem at_lt {R : Nat → Nat} {o a b N : Nat} (hab : b ≠ a) (ha : a < N) (hb : b < N) (h : ∀ i, i < N → R (o + i) < 2 ^ N) : ∀ i, i < N → addT R o a b (o + i) < 2 ^ N := by
  intro i hi
  rw [at_o i hab]
  split
  · exact or_lt (h b hb) (Nat.pow_lt_pow_right (by decide) ha)
  · split
    · exact or_lt (h a ha) (Nat.pow_lt_pow_right (by decide) hb)
    · exact h i hi
theorem vk_T {R : Nat → Nat} {o a b : Nat} (hk : Vkr R) (ho : o = 13 ∨ o = 21) (hab : b ≠ a) (ha : a < R 0) (hb : b < R 0) : Vkr (addT R o a b) := by
  obtain ⟨k0, k1, k2, k3⟩ := hk
  have h256 : ∀ o', (o' = 13 ∨ o' = 21) → ∀ i, i < R 0 → addT R o a b (o' + i) < 256 := by
    intro o' ho' i hi
    have kk : ∀ i, i < R 0 → R (o' + i) < 256 := by
      intro i hi
      rcases ho' with rfl | rfl
      · exact (k2 i hi).2.1
      · exact (k2 i hi).2.2
    by_cases e : o' = o
    · subst e
      rw [at_o i hab]
      split
      · exact or_lt (n := 8) (kk b hb) (pow8 (by omega))
      · split
        · exact or_lt (n := 8) (kk a ha) (pow8 (by omega))
        · exact kk i hi
    · rw [at_n ho ho' e (by omega) (by omega) (by omega)]; exact kk i hi
  refine ⟨by rw [at_h ho (by omega) (by omega) (by omega)]; exact k0, by rw [at_h ho (by omega) (by omega) (by omega)]; exact k1, fun i hi => ?_, fun i hi => ?_⟩
  · rw [at_h ho (by omega) (by omega) (by omega)] at hi
    rw [at_h ho (by omega) (by omega) (by omega)]
    exact ⟨(k2 i hi).1, h256 13 (Or.inl rfl) i hi, h256 21 (Or.inr rfl) i hi⟩
  · rw [at_h ho (by omega) (by omega) (by omega)] at hi
    rw [at_h ho (by omega) (by omega) (by omega), at_h ho (by omega) (by omega) (by omega)]; exact k3 i hi
theorem sym_T {R : Nat → Nat} {o a b : Nat} (hk : Vkr R) (hs : SymR R) (ho : o = 13 ∨ o = 21) (hab : b ≠ a) (ha : a < R 0) (hb : b < R 0) : SymR (addT R o a b) := by
  have k0 := hk.1
  intro o' ho' x hx
  have z0 : addT R o a b 0 = R 0 := at_h ho (by omega) (by omega) (by omega)
  rw [z0] at hx ⊢
  by_cases e : o' = o
  · subst e
    refine ⟨at_lt hab ha hb (fun i hi => (hs o' ho i hi).1) x hx, fun y hy => ?_⟩
    have bit : ∀ i j, i < R 0 → j < R 0 → (addT R o' a b (o' + i)).testBit j = ((R (o' + i)).testBit j || (decide (i = b ∧ j = a) || decide (i = a ∧ j = b))) := by
      intro i j hi hj
      rw [at_o i hab]
      by_cases c1 : i = b
      · rw [if_pos c1, Nat.testBit_or, tb_pow, c1]
        by_cases c2 : a = j
        · simp [c2]
        · simp [c2, hab, Ne.symm c2]
      · rw [if_neg c1]
        by_cases c2 : i = a
        · rw [if_pos c2, Nat.testBit_or, tb_pow, c2]
          by_cases c3 : b = j
          · simp [c3]
          · simp [c3, Ne.symm c3, Ne.symm hab]
        · rw [if_neg c2]; simp [c1, c2]
    rw [bit x y hx hy, bit y x hy hx, (hs o' ho x hx).2 y hy]
    congr 1
    by_cases c1 : x = b ∧ y = a
    · have : y = a ∧ x = b := ⟨c1.2, c1.1⟩
      simp [c1.1, c1.2]
    · by_cases c2 : x = a ∧ y = b
      · simp [c2.1, c2.2]
      · have n1 : ¬ (y = b ∧ x = a) := fun h => c2 ⟨h.2, h.1⟩
        have n2 : ¬ (y = a ∧ x = b) := fun h => c1 ⟨h.2, h.1⟩
        simp [c1, c2, n1, n2]
  · rw [at_n ho ho' e (by omega) (by omega) (by omega)]
    refine ⟨(hs o' ho' x hx).1, fun y hy => ?_⟩
    rw [at_n ho ho' e (by omega) (by omega) (by omega)]
    exact (hs o' ho' x hx).2 y hy
theorem or_bit {x b : Nat} (h : x.testBit b = true) : x ||| 2 ^ b = x := tb_ext (fun i => by
  rw [Nat.testBit_or, tb_pow]
  by_cases e : b = i
  · subst e; rw [h]; rfl
  · simp [e])
theorem at_same {R : Nat → Nat} {o a b : Nat} (hs : SymR R) (ho : o = 13 ∨ o = 21) (hab : b ≠ a) (ha : a < R 0) (hb : b < R 0) (h : (R (o + a)).testBit b = true) : addT R o a b = R := by
  have h' : (R (o + b)).testBit a = true := by rw [← (hs o ho a ha).2 b hb]; exact h
  funext i
  unfold addT
  rw [or_bit h, or_bit h']
  by_cases e : i = o + b
  · rw [e, vs_at]
  · rw [vs_ne _ _ e]
    by_cases e2 : i = o + a
    · rw [e2, vs_at]
    · rw [vs_ne _ _ e2]
section DR
variable {iv : Nat → Nat → Int32} {jv : Nat → Nat → Int64} {R : Nat → Nat}
theorem c_adP (hd : DC iv R) (h8 : R 0 < 8) {n : Nat} (hn : n ≤ 146096) : ∃ iv', f_X7_addPerson 51 (nI n) (hpOf iv jv) = some (nI (R 0), hpOf iv' jv) ∧ (∀ k, (k < 51 ∨ 56 < k) → iv' k = iv k) ∧ DC iv' (addP R n) := by
  obtain ⟨⟨p0, p1⟩, pp, pg⟩ := hd
  have pq : ∀ g, g = R 0 → ∃ iv', f_X7_addPerson 51 (nI n) (hpOf iv jv) = some (nI g, hpOf iv' jv) ∧ (∀ k, (k < 51 ∨ 56 < k) → iv' k = iv k) ∧ (iv' 51 = fun j => if j = 0 then nI (g + 1) else iv 51 j) ∧ (iv' 52 = fun j => if j = g then nI n else iv 52 j) ∧ (iv' 53 = fun j => if j = g then nI (yN n) else iv 53 j) ∧ (iv' 54 = fun j => if j = g then nI (plN n) else iv 54 j) ∧ (iv' 55 = fun j => if j = g then 0 else iv 55 j) ∧ (iv' 56 = fun j => if j = g then 0 else iv 56 j) := by
    intro g hg
    rw [← hg] at p0 h8
    have e4' : nI g < (8 : Int32) := by rw [show (8 : Int32) = nI 8 by decide, nI_ltI (by omega) (by omega)]; exact h8
    have z0 : ¬ nI g < 0 := nI_pos (by omega)
    have z1 : (nI g).toNatClampNeg = g := nI_clamp (by omega)
    have y7 : nI g + 1 = nI (g + 1) := nI_1 g
    let iv1 : Nat → Nat → Int32 := up (up (up (up (up (up iv 52 g (nI n)) 53 g (nI (yN n))) 54 g (nI (plN n))) 55 g 0) 56 g 0) 51 0 (nI (g + 1))
    refine ⟨iv1, ?_, fun k h => ?_, by simp [iv1, up], by simp [iv1, up], by simp [iv1, up], by simp [iv1, up], by simp [iv1, up], by simp [iv1, up]⟩
    · have s1 : (up iv 52 g (nI n)) 51 0 = nI g := by simp [up]; exact p0
      have s2 : (up (up iv 52 g (nI n)) 53 g (nI (yN n))) 51 0 = nI g := by simp [up]; exact p0
      have s3 : (up (up iv 52 g (nI n)) 53 g (nI (yN n))) 53 g = nI (yN n) := up_at _ _ _ _
      have s4 : (up (up (up iv 52 g (nI n)) 53 g (nI (yN n))) 54 g (nI (plN n))) 51 0 = nI g := by simp [up]; exact p0
      have s5 : (up (up (up (up iv 52 g (nI n)) 53 g (nI (yN n))) 54 g (nI (plN n))) 55 g 0) 51 0 = nI g := by simp [up]; exact p0
      have s6 : (up (up (up (up (up iv 52 g (nI n)) 53 g (nI (yN n))) 54 g (nI (plN n))) 55 g 0) 56 g 0) 51 0 = nI g := by simp [up]; exact p0
      simp [f_X7_addPerson, G_51_0, p0, e4', G_51_2, G_51_3, G_51_4, G_51_5, G_51_6, U_52, U_53, U_54, U_55, U_56, A_53, z0, z1, h8, s1, s2, s3, s4, s5, s6, c_yearOf hn, c_placeOf hn, S_51_0, y7, iv1]
    · show up (up (up (up (up (up iv 52 _ _) 53 _ _) 54 _ _) 55 _ _) 56 _ _) 51 _ _ k = _
      rw [up_ne _ _ _ (by omega), up_ne _ _ _ (by omega), up_ne _ _ _ (by omega), up_ne _ _ _ (by omega), up_ne _ _ _ (by omega), up_ne _ _ _ (by omega)]
  obtain ⟨iv', g1, g2, q1, q2, q3, q4, q5, q6⟩ := pq (R 0) rfl
  refine ⟨iv', g1, g2, ⟨?_, ?_⟩, fun i hi => ?_, fun i hi => ?_⟩
  · rw [q1, ap_0]; rfl
  · rw [q1, ap_h h8 (by omega)]; exact p1
  · rw [ap_0] at hi
    rw [ap_a h8 (by omega), ap_b h8 (by omega), ap_c h8 (by omega), q2, q3, q4, q5, q6]; dsimp only
    by_cases e : i = R 0
    · rw [if_pos e, if_pos e, if_pos e, if_pos e, if_pos e, if_pos e, if_pos e, if_pos e]; exact ⟨rfl, rfl, rfl, by decide, by decide⟩
    · rw [if_neg e, if_neg e, if_neg e, if_neg e, if_neg e, if_neg e, if_neg e, if_neg e]; exact pp i (by omega)
  · rw [ap_h h8 (by omega)] at hi
    rw [ap_h h8 (by omega), ap_h h8 (by omega), g2 57 (by omega), g2 58 (by omega)]; exact pg i hi
theorem c_adG (hk : Vkr R) (hd : DC iv R) (h4 : R 1 < 4) {l s : Nat} : ∃ iv', f_X7_addGate 51 (nI l) (nI s) (hpOf iv jv) = some (nI (R 1), hpOf iv' jv) ∧ (∀ k, k ≠ 51 → k ≠ 57 → k ≠ 58 → iv' k = iv k) ∧ DC iv' (addG R l s) := by
  obtain ⟨⟨p0, p1⟩, pp, pg⟩ := hd
  have i4 : nI (R 1) < (4 : Int32) := by rw [show (4 : Int32) = nI 4 by decide, nI_ltI (by omega) (by decide)]; exact h4
  let iv1 : Nat → Nat → Int32 := up (up (up iv 57 (R 1) (nI l)) 58 (R 1) (nI s)) 51 1 (nI (R 1 + 1))
  have q1 : iv1 51 = fun j => if j = 1 then nI (R 1 + 1) else iv 51 j := by simp [iv1, up]
  have q2 : iv1 57 = fun j => if j = R 1 then nI l else iv 57 j := by simp [iv1, up]
  have q3 : iv1 58 = fun j => if j = R 1 then nI s else iv 58 j := by simp [iv1, up]
  have qn : ∀ k, k ≠ 51 → k ≠ 57 → k ≠ 58 → iv1 k = iv k := fun k a b c => by
    show up (up (up iv 57 _ _) 58 _ _) 51 _ _ k = _
    rw [up_ne _ _ _ a, up_ne _ _ _ c, up_ne _ _ _ b]
  refine ⟨iv1, ?_, qn, ⟨?_, ?_⟩, fun i hi => ?_, fun i hi => ?_⟩
  · unfold f_X7_addGate
    rw [G_51_1, Option.bind_some, p1, if_pos i4, G_51_7, Option.bind_some, Option.bind_some, u_57 iv jv h4, Option.bind_some, G_51_8, Option.bind_some, G_51_1, Option.bind_some, up_ne _ _ _ (by decide), p1, u_58 _ jv h4, Option.bind_some, G_51_1, Option.bind_some, up_ne _ _ _ (by decide), up_ne _ _ _ (by decide), p1, nI_1, S_51_1, Option.bind_some]
  · rw [q1, ag_h h4 (by omega)]; exact p0
  · rw [q1, ag_1]; rfl
  · rw [ag_h h4 (by omega)] at hi
    have k8 := hk.1
    rw [qn 52 (by decide) (by decide) (by decide), qn 53 (by decide) (by decide) (by decide), qn 54 (by decide) (by decide) (by decide), qn 55 (by decide) (by decide) (by decide), qn 56 (by decide) (by decide) (by decide)]
    rw [ag_h h4 (by omega), ag_h h4 (by omega), ag_h h4 (by omega)]; exact pp i hi
  · rw [ag_1] at hi
    rw [ag_a h4 (by omega), ag_b h4 (by omega), q2, q3]; dsimp only
    by_cases e : i = R 1
    · rw [if_pos e, if_pos e, if_pos e, if_pos e]; exact ⟨rfl, rfl⟩
    · rw [if_neg e, if_neg e, if_neg e, if_neg e]; exact pg i (by omega)
theorem tie_a2 {k p : Nat} (hk : k < 2) (hp : p < 8) : aI (hpOf iv jv) (55 + k) 0 (nI p) = some (iv (55 + k) p) := by
  rcases (show k = 0 ∨ k = 1 by omega) with rfl | rfl
  · exact a_55 iv jv hp
  · exact a_56 iv jv hp
theorem tie_u2 {k p : Nat} (hk : k < 2) (hp : p < 8) (x : Int32) : uI (hpOf iv jv) (55 + k) (nI p) x = some (hpOf (up iv (55 + k) p x) jv) := by
  rcases (show k = 0 ∨ k = 1 by omega) with rfl | rfl
  · exact u_55 iv jv hp x
  · exact u_56 iv jv hp x
theorem c_tie2 {k p q x y : Nat} (hk : k < 2) (hp : p < 8) (hq : q < 8) (hpq : q ≠ p) (hx : iv (55 + k) p = nI x) (hy : iv (55 + k) q = nI y) (x8 : x < 256) : f_X7_tie (55 + k) (nI p) (nI q) (hpOf iv jv) = if x.testBit q then some (0, hpOf iv jv) else some (1, hpOf (up (up iv (55 + k) p (nI (x ||| 2 ^ q))) (55 + k) q (nI (y ||| 2 ^ p))) jv) := by
  unfold f_X7_tie
  rw [tie_a2 hk hp, Option.bind_some, Option.bind_some, hx, bitI x8 hq, iL_n (by omega), nx_or, tie_u2 hk hp, Option.bind_some, tie_a2 hk hq, Option.bind_some, up_in _ _ hpq, hy, iL_n (by omega), nx_or, tie_u2 hk hq, Option.bind_some]
theorem c_adT (hk : Vkr R) (hs : SymR R) (hd : DC iv R) {k a b : Nat} (h2 : k < 2) (ha : a < R 0) (hb : b < R 0) (hab : b ≠ a) : ∃ iv' x, f_X7_tie (55 + k) (nI a) (nI b) (hpOf iv jv) = some (x, hpOf iv' jv) ∧ (∀ c, c ≠ 55 + k → iv' c = iv c) ∧ DC iv' (addT R (13 + 8 * k) a b) := by
  have k0 := hk.1
  have ho : 13 + 8 * k = 13 ∨ 13 + 8 * k = 21 := by omega
  obtain ⟨⟨p0, p1⟩, pp, pg⟩ := id hd
  have ic : ∀ c, c < 2 → ∀ i, i < R 0 → iv (55 + c) i = nI (R (13 + 8 * c + i)) ∧ R (13 + 8 * c + i) < 256 := by
    intro c hc i hi
    rcases (show c = 0 ∨ c = 1 by omega) with rfl | rfl
    · exact ⟨(pp i hi).2.2.2.1, (hk.2.2.1 i hi).2.1⟩
    · exact ⟨(pp i hi).2.2.2.2, (hk.2.2.1 i hi).2.2⟩
  rw [c_tie2 h2 (by omega) (by omega) hab (ic k h2 a ha).1 (ic k h2 b hb).1 (ic k h2 a ha).2]
  by_cases cb : (R (13 + 8 * k + a)).testBit b = true
  · rw [if_pos cb]
    refine ⟨iv, 0, rfl, fun _ _ => rfl, ?_⟩
    rw [at_same hs ho hab ha hb cb]; exact hd
  · rw [if_neg cb]
    let iv1 : Nat → Nat → Int32 := up (up iv (55 + k) a (nI (R (13 + 8 * k + a) ||| 2 ^ b))) (55 + k) b (nI (R (13 + 8 * k + b) ||| 2 ^ a))
    have qn : ∀ j, j ≠ 55 + k → iv1 j = iv j := fun j h => by
      show up (up iv (55 + k) _ _) (55 + k) _ _ j = _
      rw [up_ne _ _ _ h, up_ne _ _ _ h]
    have nc : ∀ c, c < 2 → ∀ i, i < R 0 → iv1 (55 + c) i = nI (addT R (13 + 8 * k) a b (13 + 8 * c + i)) := by
      intro c hc i hi
      by_cases e : c = k
      · subst e
        rw [at_o i hab]
        show up (up iv (55 + c) _ _) (55 + c) _ _ (55 + c) i = _
        rw [up_row]; dsimp only
        by_cases e1 : i = b
        · rw [if_pos e1, if_pos e1]
        · rw [if_neg e1, if_neg e1, up_row]; dsimp only
          by_cases e2 : i = a
          · rw [if_pos e2, if_pos e2]
          · rw [if_neg e2, if_neg e2]; exact (ic c hc i hi).1
      · rw [qn _ (by omega), at_n ho (by omega) (by omega) (by omega) (by omega) (by omega)]; exact (ic c hc i hi).1
    have h0 : ∀ i, i < 13 ∨ 29 ≤ i → addT R (13 + 8 * k) a b i = R i := fun i hi => at_h ho (by omega) (by omega) hi
    refine ⟨iv1, 1, rfl, qn, ⟨?_, ?_⟩, fun i hi => ?_, fun i hi => ?_⟩
    · rw [h0 0 (by omega), qn 51 (by omega)]; exact p0
    · rw [h0 1 (by omega), qn 51 (by omega)]; exact p1
    · rw [h0 0 (by omega)] at hi
      obtain ⟨w1, w2, w3, -⟩ := pp i hi
      rw [h0 (5 + i) (by omega), qn 52 (by omega), qn 53 (by omega), qn 54 (by omega)]
      exact ⟨w1, w2, w3, nc 0 (by omega) i hi, nc 1 (by omega) i hi⟩
    · rw [h0 1 (by omega)] at hi
      rw [h0 (29 + i) (by omega), h0 (33 + i) (by omega), qn 57 (by omega), qn 58 (by omega)]; exact pg i hi
end DR
theorem dm_P {ρ ρ' : Nat → Int32} {R : Nat → Nat} {n : Nat} (hk : Vkr R) (h : RMr ρ R) (h8 : R 0 < 8) (e : ∀ i, ρ' i = if i = 0 then nI (R 0 + 1) else if i = 21 + R 0 then 0 else if i = 13 + R 0 then 0 else if i = 5 + R 0 then nI n else ρ i) : RMr ρ' (addP R n) := by
  obtain ⟨m0, m1, mp, mg⟩ := h
  have k1 := hk.2.1
  refine ⟨?_, ?_, fun i hi => ?_, fun i hi => ?_⟩
  · rw [e, ap_0, if_pos rfl]
  · rw [e, ap_h h8 (by omega), if_neg (by omega), if_neg (by omega), if_neg (by omega), if_neg (by omega)]; exact m1
  · rw [ap_0] at hi
    rw [ap_a h8 (by omega), ap_b h8 (by omega), ap_c h8 (by omega), e, e, e]
    by_cases c : i = R 0
    · rw [if_pos c, if_pos c, if_pos c]
      refine ⟨?_, ?_, ?_⟩
      · rw [if_neg (by omega), if_neg (by omega), if_neg (by omega), if_pos (by omega)]
      · rw [if_neg (by omega), if_neg (by omega), if_pos (by omega)]; rfl
      · rw [if_neg (by omega), if_pos (by omega)]; rfl
    · obtain ⟨w1, w2, w3⟩ := mp i (by omega)
      rw [if_neg c, if_neg c, if_neg c]
      refine ⟨?_, ?_, ?_⟩
      · rw [if_neg (by omega), if_neg (by omega), if_neg (by omega), if_neg (by omega)]; exact w1
      · rw [if_neg (by omega), if_neg (by omega), if_neg (by omega), if_neg (by omega)]; exact w2
      · rw [if_neg (by omega), if_neg (by omega), if_neg (by omega), if_neg (by omega)]; exact w3
  · rw [ap_h h8 (by omega)] at hi
    rw [ap_h h8 (by omega), ap_h h8 (by omega), e, e, if_neg (by omega), if_neg (by omega), if_neg (by omega), if_neg (by omega), if_neg (by omega), if_neg (by omega), if_neg (by omega), if_neg (by omega)]; exact mg i hi
theorem dm_G {ρ ρ' : Nat → Int32} {R : Nat → Nat} {l s : Nat} (hk : Vkr R) (h : RMr ρ R) (h4 : R 1 < 4) (e : ∀ i, ρ' i = if i = 1 then nI (R 1 + 1) else if i = 33 + R 1 then nI s else if i = 29 + R 1 then nI l else ρ i) : RMr ρ' (addG R l s) := by
  obtain ⟨m0, m1, mp, mg⟩ := h
  have k0 := hk.1
  refine ⟨?_, ?_, fun i hi => ?_, fun i hi => ?_⟩
  · rw [e, ag_h h4 (by omega), if_neg (by omega), if_neg (by omega), if_neg (by omega)]; exact m0
  · rw [e, ag_1, if_pos rfl]
  · rw [ag_h h4 (by omega)] at hi
    rw [ag_h h4 (by omega), ag_h h4 (by omega), ag_h h4 (by omega), e, e, e, if_neg (by omega), if_neg (by omega), if_neg (by omega), if_neg (by omega), if_neg (by omega), if_neg (by omega), if_neg (by omega), if_neg (by omega), if_neg (by omega)]; exact mp i hi
  · rw [ag_1] at hi
    rw [ag_a h4 (by omega), ag_b h4 (by omega), e, e]
    by_cases c : i = R 1
    · rw [if_pos c, if_pos c]
      refine ⟨?_, ?_⟩
      · rw [if_neg (by omega), if_neg (by omega), if_pos (by omega)]
      · rw [if_neg (by omega), if_pos (by omega)]
    · obtain ⟨w1, w2⟩ := mg i (by omega)
      rw [if_neg c, if_neg c]
      refine ⟨?_, ?_⟩
      · rw [if_neg (by omega), if_neg (by omega), if_neg (by omega)]; exact w1
      · rw [if_neg (by omega), if_neg (by omega), if_neg (by omega)]; exact w2
theorem dm_T {ρ ρ' : Nat → Int32} {R : Nat → Nat} {o a b : Nat} (hk : Vkr R) (h : RMr ρ R) (ho : o = 13 ∨ o = 21) (ha : a < R 0) (hb : b < R 0) (hab : b ≠ a) (e : ∀ i, ρ' i = if i = o + b then nI (R (o + b) ||| 2 ^ a) else if i = o + a then nI (R (o + a) ||| 2 ^ b) else ρ i) : RMr ρ' (addT R o a b) := by
  obtain ⟨m0, m1, mp, mg⟩ := h
  have k0 := hk.1
  have k1 := hk.2.1
  have h0 : ∀ i, i < 13 ∨ 29 ≤ i → addT R o a b i = R i := fun i hi => at_h ho (by omega) (by omega) hi
  have key : ∀ o', (o' = 13 ∨ o' = 21) → ∀ i, i < R 0 → ρ' (o' + i) = nI (addT R o a b (o' + i)) := by
    intro o' ho' i hi
    have mm : ρ (o' + i) = nI (R (o' + i)) := by
      rcases ho' with rfl | rfl
      · exact (mp i hi).2.1
      · exact (mp i hi).2.2
    rw [e]
    by_cases c : o' = o
    · subst c
      rw [at_o i hab]
      by_cases e1 : i = b
      · rw [if_pos (by omega), if_pos e1]
      · rw [if_neg (by omega), if_neg e1]
        by_cases e2 : i = a
        · rw [if_pos (by omega), if_pos e2]
        · rw [if_neg (by omega), if_neg e2]; exact mm
    · rw [if_neg (by omega), if_neg (by omega), at_n ho ho' c (by omega) (by omega) (by omega)]; exact mm
  refine ⟨?_, ?_, fun i hi => ?_, fun i hi => ?_⟩
  · rw [h0 0 (by omega), e, if_neg (by omega), if_neg (by omega)]; exact m0
  · rw [h0 1 (by omega), e, if_neg (by omega), if_neg (by omega)]; exact m1
  · rw [h0 0 (by omega)] at hi
    refine ⟨?_, key 13 (Or.inl rfl) i hi, key 21 (Or.inr rfl) i hi⟩
    rw [h0 (5 + i) (by omega), e, if_neg (by omega), if_neg (by omega)]; exact (mp i hi).1
  · rw [h0 1 (by omega)] at hi
    rw [h0 (29 + i) (by omega), h0 (33 + i) (by omega), e, e, if_neg (by omega), if_neg (by omega), if_neg (by omega), if_neg (by omega)]; exact mg i hi
