theorem ge_lit {a : Int32} {x : Nat} (hx : x + 1 < 2 ^ 31) (h0 : ¬ a < 0) : nI (x + 1) ≤ a ↔ ¬ a ≤ nI x := by
  obtain ⟨j, hj, rfl⟩ := nI_of h0
  rw [nI_leI (by omega) hj, nI_leI hj (by omega)]; omega
theorem op_gate (a b : Int32) : OpOK (f_X10_gate 0 a b) (f_X11_gate 72 a b) := by
  rintro hp ⟨iv, jv, V, W, Y, rfl, h1, h2, h3, h4⟩
  by_cases c : (0 ≤ a ∧ a ≤ 4) ∧ 1 ≤ b ∧ b ≤ 8
  · obtain ⟨n, hn, ea⟩ := in01 (hi := 4) (by decide) c.1
    obtain ⟨x, hx, eb⟩ := in01 (hi := 8) (by decide) ⟨Int32.le_trans (by decide) c.2.1, c.2.2⟩
    have hx1 : 1 ≤ x := by
      have := c.2.1
      rw [eb, show (1 : Int32) = nI 1 by decide, nI_leI (by omega) (by omega)] at this
      exact this
    have l1 : f_X7_isLaw a = 1 := by
      unfold f_X7_isLaw
      rw [if_neg (Int32.not_lt.mpr c.1.1), if_neg (Int32.not_lt.mpr c.1.2)]
    have l2 : f_X7_isSeats b = 1 := by
      unfold f_X7_isSeats
      rw [if_neg (Int32.not_lt.mpr c.2.1), if_neg (Int32.not_lt.mpr c.2.2)]
    obtain ⟨kk, ⟨⟨p0, p1⟩, pp, pg⟩, m0, m1, mp, mg⟩ := id h1
    have p1' : iv 2 1 = nI (V 1) := p1
    by_cases hf : V 1 = 4
    · have e4 : (4 : Int32) ≤ iv 2 1 := by rw [p1', hf]; decide
      refine both_full h1 h2 h3 h4 (t := -4) ?_ (fun iv' hiv => ?_)
      · simp [f_X10_gate, l1, l2, G_0_0, G_1_0, G_2_1, e4, V_0, c_full]
      · have e5 : iv' 73 1 = 4 := by rw [hiv 73 (by decide), m1, hf]; decide
        simp [f_X11_gate, f_in a 0 4 (LO := 0) (HI := 4) (by decide) (by decide), f_in b 1 8 (LO := 1) (HI := 8) (by decide) (by decide), c.1, c.2, G_72_0, A_73, e5, V_72, m_full]
    · have hg : V 1 < 4 := by have := kk.2.1; omega
      generalize hG : V 1 = g at *
      have e4 : ¬ (4 : Int32) ≤ nI g := by rw [show (4 : Int32) = nI 4 by decide, nI_leI (by omega) (by omega)]; omega
      have e4' : nI g < (4 : Int32) := Int32.not_le.mp e4
      have z0 : ¬ nI g < 0 := nI_pos (by omega)
      have z1 : (nI g).toNatClampNeg = g := nI_clamp (by omega)
      have y1 : (29 : Int32) + nI g = nI (29 + g) := by rw [show (29 : Int32) = nI 29 by decide, nI_add]
      have y2 : (33 : Int32) + nI g = nI (33 + g) := by rw [show (33 : Int32) = nI 33 by decide, nI_add]
      have y3 : ¬ nI (29 + g) < 0 := nI_pos (by omega)
      have y4 : (nI (29 + g)).toNatClampNeg = 29 + g := nI_clamp (by omega)
      have y5 : ¬ nI (33 + g) < 0 := nI_pos (by omega)
      have y6 : (nI (33 + g)).toNatClampNeg = 33 + g := nI_clamp (by omega)
      have y7 : nI g + 1 = nI (g + 1) := nI_1 g
      have y8 : nI (g + 1) - 1 = nI g := nI_pred g
      let iv1 : Nat → Nat → Int32 := up (up (up iv 8 g a) 9 g b) 2 1 (nI (g + 1))
      let iv2 : Nat → Nat → Int32 := up (up (up iv1 73 (29 + g) a) 73 (33 + g) b) 73 1 (nI (g + 1))
      have q : ∀ k, k ≠ 2 → k ≠ 8 → k ≠ 9 → k ≠ 73 → iv2 k = iv k := fun k x y z w => by simp [iv2, iv1, up, x, y, z, w]
      have q2 : iv2 2 = fun j => if j = 1 then nI (g + 1) else iv 2 j := by simp [iv2, iv1, up]
      have q8 : iv2 8 = fun j => if j = g then a else iv 8 j := by simp [iv2, iv1, up]
      have q9 : iv2 9 = fun j => if j = g then b else iv 9 j := by simp [iv2, iv1, up]
      have q73 : iv2 73 = fun j => if j = 1 then nI (g + 1) else if j = 33 + g then b else if j = 29 + g then a else iv 73 j := by simp [iv2, iv1, up]
      refine ⟨nI g, iv1, jv, hpOf iv2 jv, ?_, ?_, ⟨iv2, jv, vs (vs (vs V (29 + g) n) (33 + g) x) 1 (g + 1), W, Y, rfl, ?_, ?_, ?_, ?_⟩⟩
      · have s1 : (up iv 8 g a) 2 1 = nI g := by rw [up_ne _ _ _ (by decide)]; exact p1'
        have s2 : (up (up iv 8 g a) 9 g b) 2 1 = nI g := by rw [up_ne _ _ _ (by decide)]; exact s1
        simp [f_X10_gate, l1, l2, G_0_0, G_1_0, G_2_1, p1', e4, V_2, f_X7_addGate, e4', G_2_7, G_2_8, U_8, U_9, z0, z1, hg, s1, s2, S_2_1, y7, iv1]
      · have s0 : iv1 73 1 = nI g := by simp [iv1, up]; exact m1
        have s4 : ¬ nI g = 4 := by rw [show (4 : Int32) = nI 4 by decide, nI_eq (by omega) (by omega)]; omega
        have s1 : (up iv1 73 (29 + g) a) 73 1 = nI g := by rw [up_in _ _ (by omega)]; exact s0
        have s2 : (up (up iv1 73 (29 + g) a) 73 (33 + g) b) 73 1 = nI g := by rw [up_in _ _ (by omega)]; exact s1
        have s3 : (up (up (up iv1 73 (29 + g) a) 73 (33 + g) b) 73 1 (nI (g + 1))) 73 1 = nI (g + 1) := up_at _ _ _ _
        simp [f_X11_gate, f_in a 0 4 (LO := 0) (HI := 4) (by decide) (by decide), f_in b 1 8 (LO := 1) (HI := 8) (by decide) (by decide), c.1, c.2, G_72_0, A_73, U_73, s0, s4, y1, y2, y3, y4, y5, y6, s1, s2, s3, y7, y8, show 29 + g < 277 by omega, show 33 + g < 277 by omega, iv2]
      · have v0 : vs (vs (vs V (29 + g) n) (33 + g) x) 1 (g + 1) 0 = V 0 := by rw [vs_ne _ _ (by omega), vs_ne _ _ (by omega), vs_ne _ _ (by omega)]
        have vp : ∀ i, 5 ≤ i → i < 29 → vs (vs (vs V (29 + g) n) (33 + g) x) 1 (g + 1) i = V i := fun i h5 h6 => by rw [vs_ne _ _ (by omega), vs_ne _ _ (by omega), vs_ne _ _ (by omega)]
        have v1 : vs (vs (vs V (29 + g) n) (33 + g) x) 1 (g + 1) 1 = g + 1 := vs_at _ _ _
        have vl : ∀ i, i < 4 → vs (vs (vs V (29 + g) n) (33 + g) x) 1 (g + 1) (29 + i) = if i = g then n else V (29 + i) := by
          intro i hi
          rw [vs_ne _ _ (by omega), vs_ne _ _ (by omega)]
          by_cases e : i = g
          · rw [if_pos e, e, vs_at]
          · rw [if_neg e, vs_ne _ _ (by omega)]
        have vz : ∀ i, i < 4 → vs (vs (vs V (29 + g) n) (33 + g) x) 1 (g + 1) (33 + i) = if i = g then x else V (33 + i) := by
          intro i hi
          rw [vs_ne _ _ (by omega)]
          by_cases e : i = g
          · rw [if_pos e, e, vs_at]
          · rw [if_neg e, vs_ne _ _ (by omega), vs_ne _ _ (by omega)]
        have k0 := kk.1
        refine ⟨⟨by rw [v0]; exact kk.1, by rw [v1]; omega, fun i hi => ?_, fun i hi => ?_⟩, ⟨⟨?_, ?_⟩, fun i hi => ?_, fun i hi => ?_⟩, ?_, ?_, fun i hi => ?_, fun i hi => ?_⟩
        · rw [v0] at hi; rw [vp _ (by omega) (by omega), vp _ (by omega) (by omega), vp _ (by omega) (by omega)]; exact kk.2.2.1 i hi
        · rw [v1] at hi; rw [vl i (by omega), vz i (by omega)]
          by_cases e : i = g
          · rw [if_pos e, if_pos e]; omega
          · rw [if_neg e, if_neg e]; have := kk.2.2.2 i (by omega); exact this
        · rw [q2, v0]; exact p0
        · rw [q2, v1]; rfl
        · rw [v0] at hi; rw [vp _ (by omega) (by omega), vp _ (by omega) (by omega), vp _ (by omega) (by omega), q 3 (by decide) (by decide) (by decide) (by decide), q 4 (by decide) (by decide) (by decide) (by decide), q 5 (by decide) (by decide) (by decide) (by decide), q 6 (by decide) (by decide) (by decide) (by decide), q 7 (by decide) (by decide) (by decide) (by decide)]; exact pp i hi
        · rw [v1] at hi; rw [vl i (by omega), vz i (by omega), q8, q9]; dsimp only
          by_cases e : i = g
          · rw [if_pos e, if_pos e, if_pos e, if_pos e]; exact ⟨ea, eb⟩
          · rw [if_neg e, if_neg e, if_neg e, if_neg e]; exact pg i (by omega)
        · rw [q73, v0]; dsimp only; rw [if_neg (by omega), if_neg (by omega), if_neg (by omega)]; exact m0
        · rw [q73, v1]; rfl
        · rw [v0] at hi; rw [vp _ (by omega) (by omega), vp _ (by omega) (by omega), vp _ (by omega) (by omega), q73]; dsimp only
          rw [if_neg (by omega), if_neg (by omega), if_neg (by omega), if_neg (by omega), if_neg (by omega), if_neg (by omega), if_neg (by omega), if_neg (by omega), if_neg (by omega)]; exact mp i hi
        · rw [v1] at hi; rw [vl i (by omega), vz i (by omega), q73]; dsimp only
          by_cases e : i = g
          · rw [if_neg (by omega), if_neg (by omega), if_pos (by omega), if_pos e, if_neg (by omega), if_pos (by omega), if_pos e]; exact ⟨ea, eb⟩
          · rw [if_neg (by omega), if_neg (by omega), if_neg (by omega), if_neg e, if_neg (by omega), if_neg (by omega), if_neg (by omega), if_neg e]; exact mg i (by omega)
      · exact h2.rows (fun k _ _ => q k (by omega) (by omega) (by omega) (by omega)) (fun i hi => by rw [q73]; dsimp only; rw [if_neg (by omega), if_neg (by omega), if_neg (by omega)])
      · exact h3.rows (fun k _ _ => q k (by omega) (by omega) (by omega) (by omega)) (fun i hi => by rw [q73]; dsimp only; rw [if_neg (by omega), if_neg (by omega), if_neg (by omega)])
      · exact h4.rows (fun k hk => q k (by omega) (by omega) (by omega) (by omega)) (by rw [q 72 (by decide) (by decide) (by decide) (by decide)]) (by rw [q 72 (by decide) (by decide) (by decide) (by decide)]) rfl rfl
  · refine both_bad h1 h2 h3 h4 (t := -2) ?_ (fun iv' _ => ?_)
    · by_cases ca : 0 ≤ a ∧ a ≤ 4
      · have l1 : f_X7_isLaw a = 1 := by
          unfold f_X7_isLaw
          rw [if_neg (Int32.not_lt.mpr ca.1), if_neg (Int32.not_lt.mpr ca.2)]
        have l2 : f_X7_isSeats b = 0 := by
          unfold f_X7_isSeats
          by_cases g1 : b < 1
          · rw [if_pos g1]
          · rw [if_neg g1, if_pos (Int32.not_le.mp (fun h => c ⟨ca, nlt g1, h⟩))]
        simp [f_X10_gate, l1, l2, V_0, c_bad]
      · have l1 : f_X7_isLaw a = 0 := by
          unfold f_X7_isLaw
          by_cases g1 : a < 0
          · rw [if_pos g1]
          · rw [if_neg g1, if_pos (Int32.not_le.mp (fun h => ca ⟨nlt g1, h⟩))]
        simp [f_X10_gate, l1, V_0, c_bad]
    · by_cases ca : 0 ≤ a ∧ a ≤ 4
      · have cb : ¬ (1 ≤ b ∧ b ≤ 8) := fun h => c ⟨ca, h⟩
        simp [f_X11_gate, f_in a 0 4 (LO := 0) (HI := 4) (by decide) (by decide), f_in b 1 8 (LO := 1) (HI := 8) (by decide) (by decide), ca, cb, V_72, m_bad]
      · simp [f_X11_gate, f_in a 0 4 (LO := 0) (HI := 4) (by decide) (by decide), ca, V_72, m_bad]
