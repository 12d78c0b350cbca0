theorem dm_k : ∀ m, m < 13 → 1 ≤ m → ∀ l : Bool, (if nI m = 2 then (if (if l = true then (1 : Int32) else 0) = 0 then (some ((nI (mpN (m + 1)) - nI (mpN m)) - 1)) else (some (nI (mpN (m + 1)) - nI (mpN m)))) else (some (nI (mpN (m + 1)) - nI (mpN m)))) = some (nI (mlN l m)) := by decide +kernel
theorem dmc {y m : Nat} (h : 1800 ≤ y) (h2 : y < 2203) (hm : m < 13) (h1 : 1 ≤ m) : f_X1_daysOfMonth (nI y) (nI m) = some (nI (mlN (lpN y) m)) := by
  unfold f_X1_daysOfMonth
  rw [nI_1, pm_c (m + 1) (by omega) (by omega), Option.bind_some, pm_c m (by omega) h1, Option.bind_some, lpc h h2]
  exact dm_k m hm h1 (lpN y)
theorem num_k : ∀ l : Bool, ∀ m, m < 13 → ∀ d, d < 32 → (1 ≤ m ∧ 1 ≤ d ∧ d ≤ mlN l m) → (if mpN m + d - 1 ≤ 59 then mpN m + d - 1 else if l = true then mpN m + d - 1 else mpN m + d - 1 - 1) = smN l m + d - 1 ∧ mpN m + d - 1 < 366 ∧ smN l m < 366 := by decide +kernel
theorem num_c {y m d : Nat} (h : 1800 ≤ y) (h2 : y < 2203) (hm : m < 13) (h1 : 1 ≤ m) (hd : 1 ≤ d) (hd2 : d ≤ mlN (lpN y) m) : f_X1_numberOf (nI y) (nI m) (nI d) = some (nI (fdN y + smN (lpN y) m + d - 1)) := by
  have l := ml_le (lpN y) m
  obtain ⟨k1, k2, k3⟩ := num_k (lpN y) m hm d (by omega) ⟨h1, hd, hd2⟩
  have b := fdl h h2
  unfold f_X1_numberOf f_X1_dayInYear
  rw [pm_c m (by omega) h1, Option.bind_some, nI_add, show (1 : Int32) = nI 1 by decide, pk_sub (by omega), show (59 : Int32) = nI 59 by decide, iteE (by omega) (by omega), fdc h h2, lpc h h2, nI_add]
  congr 1
  by_cases c1 : mpN m + d - 1 ≤ 59
  · rw [if_pos c1] at k1 ⊢
    rw [k1]; congr 1; omega
  · rw [if_neg c1] at k1 ⊢
    by_cases c2 : lpN y = true
    · rw [if_pos c2] at k1 ⊢
      rw [if_neg (by decide), k1]; congr 1; omega
    · rw [if_neg c2] at k1 ⊢
      rw [if_pos (by decide), pk_sub (by omega), nI_add, k1]; congr 1; omega
theorem num_mL {y m d f : Nat} (h : 1800 ≤ y) (h2 : y < 2203) (hm : m < 13) (hd : 1 ≤ d) (hd2 : d ≤ 31) (hf : f < 150000) : ∀ (j N k : Nat) (s t : Int32), m = k + j → 1 ≤ k → smN (lpN y) k ≤ 31 * k → s = nI (f + smN (lpN y) k) → t = nI k → f_X11_numberOf_L8 (N + j + 1) (nI y) (nI m) (nI d) s t = some (nI (f + smN (lpN y) m + d - 1)) := by
  intro j
  induction j with
  | zero =>
    intro N k s t e hk hs es et
    subst es et
    rw [f_X11_numberOf_L8, iteE (by omega) (by omega), if_pos (by omega), nI_add, show (1 : Int32) = nI 1 by decide, pk_sub (by omega), show m = k by omega]
  | succ j ih =>
    intro N k s t e hk hs es et
    subst es et
    have l := ml_le (lpN y) k
    have e2 : smN (lpN y) (k + 1) = smN (lpN y) k + mlN (lpN y) k := by rw [smN, if_neg (by omega)]
    rw [show N + (j + 1) + 1 = (N + j + 1) + 1 by omega, f_X11_numberOf_L8, iteE (by omega) (by omega), if_neg (by omega), mlm h h2 (by omega), nI_add, nI_1, show f + smN (lpN y) k + mlN (lpN y) k = f + smN (lpN y) (k + 1) by omega]
    exact ih N (k + 1) _ _ (by omega) (by omega) (by omega) rfl rfl
theorem num_m {y m d : Nat} (h : 1800 ≤ y) (h2 : y < 2203) (hm : m < 13) (h1 : 1 ≤ m) (hd : 1 ≤ d) (hd2 : d ≤ 31) : f_X11_numberOf (nI y) (nI m) (nI d) = some (nI (fdN y + smN (lpN y) m + d - 1)) := by
  unfold f_X11_numberOf
  rw [fdm h h2, show NN = (200000 - m) + (m - 1) + 1 by show 200000 = _; omega]
  have e1 : smN (lpN y) 1 = 0 := by simp [smN]
  exact num_mL h h2 hm hd hd2 (fdl h h2) (m - 1) (200000 - m) 1 _ _ (by omega) (by omega) (by omega) (by rw [e1, Nat.add_zero]) (by decide)
theorem isYearC (a : Int32) : f_X1_isYear a = if 1800 ≤ a ∧ a ≤ 2199 then 1 else 0 := by
  unfold f_X1_isYear
  by_cases c1 : a < 1800
  · rw [if_pos c1, if_neg (fun h => Int32.not_lt.mpr h.1 c1)]
  · by_cases c2 : 2199 < a
    · rw [if_neg c1, if_pos c2, if_neg (fun h => Int32.not_lt.mpr h.2 c2)]
    · rw [if_neg c1, if_neg c2, if_pos ⟨nlt c1, nlt c2⟩]
theorem in_lo {a : Int32} {lo hi : Nat} (hl : lo ≤ hi) (h2 : hi < 2 ^ 31) (h : nI lo ≤ a ∧ a ≤ nI hi) : ∃ n, lo ≤ n ∧ n ≤ hi ∧ a = nI n := by
  obtain ⟨n, hn, rfl⟩ := in01 h2 ⟨Int32.le_trans (nI_pos' (by omega)) h.1, h.2⟩
  exact ⟨n, (nI_leI (by omega) (by omega)).mp h.1, hn, rfl⟩
theorem has_date (a b c : Int32) : f_X1_has a b c = some (f_X11_isDate a b c) := by
  unfold f_X1_has f_X11_isDate
  rw [isYearC, f_in a 1800 2199 (by decide) (by decide), f_in b 1 12 (by decide) (by decide)]
  by_cases ca : 1800 ≤ a ∧ a ≤ 2199
  · by_cases cb : 1 ≤ b ∧ b ≤ 12
    · have b1 : ¬ b < 1 := Int32.not_lt.mpr cb.1
      have b2 : ¬ 12 < b := Int32.not_lt.mpr cb.2
      by_cases cc : c < 1
      · simp [ca, cb, cc]
      · obtain ⟨y, y1, y2, rfl⟩ := in_lo (lo := 1800) (hi := 2199) (by decide) (by decide) ca
        obtain ⟨m, m1, m2, rfl⟩ := in_lo (lo := 1) (hi := 12) (by decide) (by decide) cb
        rw [dmc y1 (by omega) (by omega) m1, mlm y1 (by omega) (by omega)]
        by_cases cd : nI (mlN (lpN y) m) < c
        · simp [ca, cb, cc, cd, b1, b2]
        · simp [ca, cb, cc, cd, b1, b2]
    · by_cases g1 : b < 1
      · simp [ca, cb, g1]
      · have g2 : 12 < b := Int32.not_le.mp (fun h => cb ⟨nlt g1, h⟩)
        simp [ca, cb, g1, g2]
  · simp [ca]
theorem op_day (a b c : Int32) : OpOK (f_X10_day 0 a b c) (f_X11_day 72 a b c) := by
  rintro hp ⟨iv, jv, V, W, Y, rfl, h1, h2, h3, h4⟩
  by_cases v : f_X11_isDate a b c = 0
  · refine both_bad h1 h2 h3 h4 (t := -2) ?_ (fun iv' _ => ?_)
    · simp [f_X10_day, has_date, v, V_0, c_bad]
    · simp [f_X11_day, v, V_72, m_bad]
  · have w : (1800 ≤ a ∧ a ≤ 2199) ∧ (1 ≤ b ∧ b ≤ 12) ∧ ¬ c < 1 ∧ ¬ f_X11_monthLong a b < c := by
      unfold f_X11_isDate at v
      rw [f_in a 1800 2199 (by decide) (by decide), f_in b 1 12 (by decide) (by decide)] at v
      by_cases ca : 1800 ≤ a ∧ a ≤ 2199
      · by_cases cb : 1 ≤ b ∧ b ≤ 12
        · by_cases cc : c < 1
          · exact absurd (by simp [cc]) v
          · by_cases cd : f_X11_monthLong a b < c
            · exact absurd (by simp [cd]) v
            · exact ⟨ca, cb, cc, cd⟩
        · exact absurd (by simp [cb]) v
      · exact absurd (by simp [ca]) v
    obtain ⟨ca, cb, cc, cd⟩ := w
    have keep : InvH (hpOf iv jv) := ⟨iv, jv, V, W, Y, rfl, h1, h2, h3, h4⟩
    obtain ⟨y, y1, y2, rfl⟩ := in_lo (lo := 1800) (hi := 2199) (by decide) (by decide) ca
    obtain ⟨m, m1, m2, rfl⟩ := in_lo (lo := 1) (hi := 12) (by decide) (by decide) cb
    rw [mlm y1 (by omega) (by omega)] at cd
    have l := ml_le (lpN y) m
    obtain ⟨d, d1, d2, rfl⟩ := in_lo (lo := 1) (hi := mlN (lpN y) m) (a := c) (by
      have g := Int32.le_trans (nlt cc) (nlt cd)
      exact (nI_leI (a := 1) (by omega) (by omega)).mp g) (by omega) ⟨nlt cc, nlt cd⟩
    refine ⟨nI (fdN y + smN (lpN y) m + d - 1), iv, jv, hpOf iv jv, ?_, ?_, keep⟩
    · unfold f_X10_day
      rw [has_date, Option.bind_some, if_neg v, num_c y1 (by omega) (by omega) m1 d1 d2, Option.bind_some]
    · unfold f_X11_day
      rw [if_neg v, num_m y1 (by omega) (by omega) m1 d1 (by omega), Option.bind_some]
theorem op_person (a : Int32) : OpOK (f_X10_person 0 a) (f_X11_person 72 a) := by
  rintro hp ⟨iv, jv, V, W, Y, rfl, h1, h2, h3, h4⟩
  by_cases ca : 0 ≤ a ∧ a ≤ 146096
  · obtain ⟨n, hn, ea⟩ := in01 (hi := 146096) (by decide) ca
    obtain ⟨kk, ⟨⟨p0, p1⟩, pp, pg⟩, m0, m1, mp, mg⟩ := id h1
    have p0' : iv 2 0 = nI (V 0) := p0
    by_cases hf : V 0 = 8
    · have e4 : (8 : Int32) ≤ iv 2 0 := by rw [p0', hf]; decide
      refine both_full h1 h2 h3 h4 (t := -4) ?_ (fun iv' hiv => ?_)
      · simp [f_X10_person, isDayC, ca, G_0_0, G_1_0, G_2_0, e4, V_0, c_full]
      · have e5 : iv' 73 0 = 8 := by rw [hiv 73 (by decide), m0, hf]; decide
        simp [f_X11_person, inDay, ca, G_72_0, A_73, e5, V_72, m_full]
    · have hg : V 0 < 8 := by have := kk.1; omega
      generalize hG : V 0 = g at *
      have e4 : ¬ (8 : Int32) ≤ nI g := by rw [show (8 : Int32) = nI 8 by decide, nI_leI (by omega) (by omega)]; omega
      have e4' : nI g < (8 : Int32) := Int32.not_le.mp e4
      have z0 : ¬ nI g < 0 := nI_pos (by omega)
      have z1 : (nI g).toNatClampNeg = g := nI_clamp (by omega)
      have y1 : (5 : Int32) + nI g = nI (5 + g) := by rw [show (5 : Int32) = nI 5 by decide, nI_add]
      have y2 : (13 : Int32) + nI g = nI (13 + g) := by rw [show (13 : Int32) = nI 13 by decide, nI_add]
      have y3 : (21 : Int32) + nI g = nI (21 + g) := by rw [show (21 : Int32) = nI 21 by decide, nI_add]
      have n1 : 0 ≤ nI (5 + g) := nI_pos' (by omega)
      have n2 : 0 ≤ nI (13 + g) := nI_pos' (by omega)
      have n3 : 0 ≤ nI (21 + g) := nI_pos' (by omega)
      have l1 : (nI (5 + g)).toNatClampNeg = 5 + g := nI_clamp (by omega)
      have l2 : (nI (13 + g)).toNatClampNeg = 13 + g := nI_clamp (by omega)
      have l3 : (nI (21 + g)).toNatClampNeg = 21 + g := nI_clamp (by omega)
      have y7 : nI g + 1 = nI (g + 1) := nI_1 g
      have y8 : nI (g + 1) - 1 = nI g := nI_pred g
      let iv1 : Nat → Nat → Int32 := up (up (up (up (up (up iv 3 g a) 4 g (nI (yN n))) 5 g (nI (plN n))) 6 g 0) 7 g 0) 2 0 (nI (g + 1))
      let iv2 : Nat → Nat → Int32 := up (up (up (up iv1 73 (5 + g) a) 73 (13 + g) 0) 73 (21 + g) 0) 73 0 (nI (g + 1))
      have q : ∀ k, k ≠ 2 → k ≠ 3 → k ≠ 4 → k ≠ 5 → k ≠ 6 → k ≠ 7 → k ≠ 73 → iv2 k = iv k := fun k x y z w v u t => by simp [iv2, iv1, up, x, y, z, w, v, u, t]
      have q2 : iv2 2 = fun j => if j = 0 then nI (g + 1) else iv 2 j := by simp [iv2, iv1, up]
      have q3 : iv2 3 = fun j => if j = g then a else iv 3 j := by simp [iv2, iv1, up]
      have q4 : iv2 4 = fun j => if j = g then nI (yN n) else iv 4 j := by simp [iv2, iv1, up]
      have q5 : iv2 5 = fun j => if j = g then nI (plN n) else iv 5 j := by simp [iv2, iv1, up]
      have q6 : iv2 6 = fun j => if j = g then 0 else iv 6 j := by simp [iv2, iv1, up]
      have q7 : iv2 7 = fun j => if j = g then 0 else iv 7 j := by simp [iv2, iv1, up]
      have q73 : iv2 73 = fun j => if j = 0 then nI (g + 1) else if j = 21 + g then 0 else if j = 13 + g then 0 else if j = 5 + g then a else iv 73 j := by simp [iv2, iv1, up]
      refine ⟨nI g, iv1, jv, hpOf iv2 jv, ?_, ?_, ⟨iv2, jv, vs (vs (vs (vs V (5 + g) n) (13 + g) 0) (21 + g) 0) 0 (g + 1), W, Y, rfl, ?_, ?_, ?_, ?_⟩⟩
      · have s1 : (up iv 3 g a) 2 0 = nI g := by simp [up]; exact p0'
        have s2 : (up (up iv 3 g a) 4 g (nI (yN n))) 2 0 = nI g := by simp [up]; exact p0'
        have s3 : (up (up iv 3 g a) 4 g (nI (yN n))) 4 g = nI (yN n) := up_at _ _ _ _
        have s4 : (up (up (up iv 3 g a) 4 g (nI (yN n))) 5 g (nI (plN n))) 2 0 = nI g := by simp [up]; exact p0'
        have s5 : (up (up (up (up iv 3 g a) 4 g (nI (yN n))) 5 g (nI (plN n))) 6 g 0) 2 0 = nI g := by simp [up]; exact p0'
        have s6 : (up (up (up (up (up iv 3 g a) 4 g (nI (yN n))) 5 g (nI (plN n))) 6 g 0) 7 g 0) 2 0 = nI g := by simp [up]; exact p0'
        have cy : f_X1_yearOf a = some (nI (yN n)) := by rw [ea]; exact c_yearOf hn
        have cp : f_X1_placeOf a (nI (yN n)) = nI (plN n) := by rw [ea]; exact c_placeOf hn
        simp [f_X10_person, isDayC, ca, G_0_0, G_1_0, G_2_0, p0', e4, V_2, f_X7_addPerson, e4', G_2_2, G_2_3, G_2_4, G_2_5, G_2_6, U_3, U_4, U_5, U_6, U_7, A_4, z0, z1, hg, s1, s2, s3, s4, s5, s6, cy, cp, S_2_0, y7, iv1]
      · have s0 : iv1 73 0 = nI g := by simp [iv1, up]; exact m0
        have s4 : ¬ nI g = 8 := by rw [show (8 : Int32) = nI 8 by decide, nI_eq (by omega) (by omega)]; omega
        have s1 : (up iv1 73 (5 + g) a) 73 0 = nI g := by rw [up_in _ _ (by omega)]; exact s0
        have s2 : (up (up iv1 73 (5 + g) a) 73 (13 + g) 0) 73 0 = nI g := by rw [up_in _ _ (by omega)]; exact s1
        have s3 : (up (up (up iv1 73 (5 + g) a) 73 (13 + g) 0) 73 (21 + g) 0) 73 0 = nI g := by rw [up_in _ _ (by omega)]; exact s2
        have s5 : (up (up (up (up iv1 73 (5 + g) a) 73 (13 + g) 0) 73 (21 + g) 0) 73 0 (nI (g + 1))) 73 0 = nI (g + 1) := up_at _ _ _ _
        simp [f_X11_person, inDay, ca, G_72_0, A_73, U_73, s0, s4, y1, y2, y3, n1, n2, n3, l1, l2, l3, s1, s2, s3, s5, y7, y8, show 5 + g < 277 by omega, show 13 + g < 277 by omega, show 21 + g < 277 by omega, iv2]
      · have v0 : vs (vs (vs (vs V (5 + g) n) (13 + g) 0) (21 + g) 0) 0 (g + 1) 0 = g + 1 := vs_at _ _ _
        have v1 : vs (vs (vs (vs V (5 + g) n) (13 + g) 0) (21 + g) 0) 0 (g + 1) 1 = V 1 := by rw [vs_ne _ _ (by omega), vs_ne _ _ (by omega), vs_ne _ _ (by omega), vs_ne _ _ (by omega)]
        have vg : ∀ i, 29 ≤ i → vs (vs (vs (vs V (5 + g) n) (13 + g) 0) (21 + g) 0) 0 (g + 1) i = V i := fun i hi => by rw [vs_ne _ _ (by omega), vs_ne _ _ (by omega), vs_ne _ _ (by omega), vs_ne _ _ (by omega)]
        have va : ∀ i, i < 8 → vs (vs (vs (vs V (5 + g) n) (13 + g) 0) (21 + g) 0) 0 (g + 1) (5 + i) = if i = g then n else V (5 + i) := by
          intro i hi
          rw [vs_ne _ _ (by omega), vs_ne _ _ (by omega), vs_ne _ _ (by omega)]
          by_cases e : i = g
          · rw [if_pos e, e, vs_at]
          · rw [if_neg e, vs_ne _ _ (by omega)]
        have vb : ∀ i, i < 8 → vs (vs (vs (vs V (5 + g) n) (13 + g) 0) (21 + g) 0) 0 (g + 1) (13 + i) = if i = g then 0 else V (13 + i) := by
          intro i hi
          rw [vs_ne _ _ (by omega), vs_ne _ _ (by omega)]
          by_cases e : i = g
          · rw [if_pos e, e, vs_at]
          · rw [if_neg e, vs_ne _ _ (by omega), vs_ne _ _ (by omega)]
        have vc : ∀ i, i < 8 → vs (vs (vs (vs V (5 + g) n) (13 + g) 0) (21 + g) 0) 0 (g + 1) (21 + i) = if i = g then 0 else V (21 + i) := by
          intro i hi
          rw [vs_ne _ _ (by omega)]
          by_cases e : i = g
          · rw [if_pos e, e, vs_at]
          · rw [if_neg e, vs_ne _ _ (by omega), vs_ne _ _ (by omega), vs_ne _ _ (by omega)]
        have k1 := kk.2.1
        refine ⟨⟨by rw [v0]; omega, by rw [v1]; exact kk.2.1, fun i hi => ?_, fun i hi => ?_⟩, ⟨⟨?_, ?_⟩, fun i hi => ?_, fun i hi => ?_⟩, ?_, ?_, fun i hi => ?_, fun i hi => ?_⟩
        · rw [v0] at hi; rw [va i (by omega), vb i (by omega), vc i (by omega)]
          by_cases e : i = g
          · rw [if_pos e, if_pos e, if_pos e]; omega
          · rw [if_neg e, if_neg e, if_neg e]; exact kk.2.2.1 i (by omega)
        · rw [v1] at hi; rw [vg _ (by omega), vg _ (by omega)]; exact kk.2.2.2 i hi
        · rw [q2, v0]; rfl
        · rw [q2, v1]; exact p1
        · rw [v0] at hi; rw [va i (by omega), vb i (by omega), vc i (by omega), q3, q4, q5, q6, q7]; dsimp only
          by_cases e : i = g
          · rw [if_pos e, if_pos e, if_pos e, if_pos e, if_pos e, if_pos e, if_pos e, if_pos e]; exact ⟨ea, rfl, rfl, by decide, by decide⟩
          · rw [if_neg e, if_neg e, if_neg e, if_neg e, if_neg e, if_neg e, if_neg e, if_neg e]; exact pp i (by omega)
        · rw [v1] at hi; rw [vg _ (by omega), vg _ (by omega), q 8 (by decide) (by decide) (by decide) (by decide) (by decide) (by decide) (by decide), q 9 (by decide) (by decide) (by decide) (by decide) (by decide) (by decide) (by decide)]; exact pg i hi
        · rw [q73, v0]; rfl
        · rw [q73, v1]; dsimp only; rw [if_neg (by omega), if_neg (by omega), if_neg (by omega), if_neg (by omega)]; exact m1
        · rw [v0] at hi; rw [va i (by omega), vb i (by omega), vc i (by omega), q73]; dsimp only
          by_cases e : i = g
          · subst e
            refine ⟨?_, ?_, ?_⟩
            · rw [if_neg (by omega), if_neg (by omega), if_neg (by omega), if_pos rfl, if_pos rfl]; exact ea
            · rw [if_neg (by omega), if_neg (by omega), if_pos rfl, if_pos rfl]; decide
            · rw [if_neg (by omega), if_pos rfl, if_pos rfl]; decide
          · obtain ⟨w1, w2, w3⟩ := mp i (by omega)
            refine ⟨?_, ?_, ?_⟩
            · rw [if_neg (by omega), if_neg (by omega), if_neg (by omega), if_neg (by omega), if_neg e]; exact w1
            · rw [if_neg (by omega), if_neg (by omega), if_neg (by omega), if_neg (by omega), if_neg e]; exact w2
            · rw [if_neg (by omega), if_neg (by omega), if_neg (by omega), if_neg (by omega), if_neg e]; exact w3
        · rw [v1] at hi; rw [vg _ (by omega), vg _ (by omega), q73]; dsimp only
          rw [if_neg (by omega), if_neg (by omega), if_neg (by omega), if_neg (by omega), if_neg (by omega), if_neg (by omega), if_neg (by omega), if_neg (by omega)]; exact mg i hi
      · exact h2.rows (fun k _ _ => q k (by omega) (by omega) (by omega) (by omega) (by omega) (by omega) (by omega)) (fun i hi => by rw [q73]; dsimp only; rw [if_neg (by omega), if_neg (by omega), if_neg (by omega), if_neg (by omega)])
      · exact h3.rows (fun k _ _ => q k (by omega) (by omega) (by omega) (by omega) (by omega) (by omega) (by omega)) (fun i hi => by rw [q73]; dsimp only; rw [if_neg (by omega), if_neg (by omega), if_neg (by omega), if_neg (by omega)])
      · exact h4.rows (fun k hk => q k (by omega) (by omega) (by omega) (by omega) (by omega) (by omega) (by omega)) (by rw [q 72 (by decide) (by decide) (by decide) (by decide) (by decide) (by decide) (by decide)]) (by rw [q 72 (by decide) (by decide) (by decide) (by decide) (by decide) (by decide) (by decide)]) rfl rfl
  · refine both_bad h1 h2 h3 h4 (t := -2) ?_ (fun iv' _ => ?_)
    · simp [f_X10_person, isDayC, ca, V_0, c_bad]
    · simp [f_X11_person, inDay, ca, V_72, m_bad]
