theorem nZ0 : nZ 0 = 0 := by decide +kernel
theorem nZ1 : nZ 1 = 1 := by decide +kernel
theorem op_passing (a b z : Int32) (hz : z = 0 ∨ z = 1) : OpOK (f_X10_passing 0 a b z) (f_X11_passing 72 a b z) := by
  rintro hp ⟨iv, jv, V, W, Y, rfl, h1, h2, h3, h4⟩
  have ez : nZ z = z := by rcases hz with rfl | rfl; exact nZ0; exact nZ1
  by_cases c : (1 ≤ a ∧ a ≤ 31) ∧ 0 ≤ b ∧ b ≤ 99
  · obtain ⟨n, hn, ea⟩ := in01 (hi := 31) (by decide) ⟨Int32.le_trans (by decide) c.1.1, c.1.2⟩
    have hn1 : 1 ≤ n := by
      have := c.1.1
      rw [ea, show (1 : Int32) = nI 1 by decide, nI_leI (by omega) (by omega)] at this
      exact this
    obtain ⟨x, hx, eb⟩ := in01 (hi := 99) (by decide) c.2
    have g1 : ¬ a < 1 := Int32.not_lt.mpr c.1.1
    have g2 : ¬ 32 ≤ a := by rw [ea, show (32 : Int32) = nI 32 by decide, nI_leI (by omega) (by omega)]; omega
    have g3 : ¬ b < 0 := Int32.not_lt.mpr c.2.1
    obtain ⟨k1, ⟨⟨p3, p4, -⟩, pp, pz⟩, m3, m4, mp⟩ := id h3
    have p3' : iv 13 0 = nI (Y 3) := p3
    by_cases hf : Y 3 = 10
    · have e4 : (10 : Int32) ≤ iv 13 0 := by rw [p3', hf]; decide
      refine both_full h1 h2 h3 h4 (t := -4) ?_ (fun iv' hiv => ?_)
      · simp [f_X10_passing, g1, g2, g3, c.2.2, G_0_0, G_1_3, G_13_0, e4, V_0, c_full]
      · have e5 : iv' 73 3 = 10 := by rw [hiv 73 (by decide), m3, hf]; decide
        simp [f_X11_passing, f_in a 1 31 (LO := 1) (HI := 31) (by decide) (by decide), f_in b 0 99 (LO := 0) (HI := 99) (by decide) (by decide), c.1, c.2, G_72_0, A_73, e5, V_72, m_full]
    · have hg : Y 3 < 10 := by have := k1.1; omega
      generalize hG : Y 3 = g at *
      have e4 : ¬ (10 : Int32) ≤ nI g := by rw [show (10 : Int32) = nI 10 by decide, nI_leI (by omega) (by omega)]; omega
      have e4' : nI g < (10 : Int32) := Int32.not_le.mp e4
      have z0 : ¬ nI g < 0 := nI_pos (by omega)
      have z1 : (nI g).toNatClampNeg = g := nI_clamp (by omega)
      have t3 : (3 : Int32) * nI g = nI (3 * g) := by rw [show (3 : Int32) = nI 3 by decide, pk_mul]
      have y1 : (47 : Int32) + nI (3 * g) = nI (47 + 3 * g) := by rw [show (47 : Int32) = nI 47 by decide, nI_add]
      have y2 : (48 : Int32) + nI (3 * g) = nI (48 + 3 * g) := by rw [show (48 : Int32) = nI 48 by decide, nI_add]
      have y3 : (49 : Int32) + nI (3 * g) = nI (49 + 3 * g) := by rw [show (49 : Int32) = nI 49 by decide, nI_add]
      have n1 : 0 ≤ nI (47 + 3 * g) := nI_pos' (by omega)
      have n2 : 0 ≤ nI (48 + 3 * g) := nI_pos' (by omega)
      have n3 : 0 ≤ nI (49 + 3 * g) := nI_pos' (by omega)
      have l1 : (nI (47 + 3 * g)).toNatClampNeg = 47 + 3 * g := nI_clamp (by omega)
      have l2 : (nI (48 + 3 * g)).toNatClampNeg = 48 + 3 * g := nI_clamp (by omega)
      have l3 : (nI (49 + 3 * g)).toNatClampNeg = 49 + 3 * g := nI_clamp (by omega)
      have y7 : nI g + 1 = nI (g + 1) := nI_1 g
      let iv1 : Nat → Nat → Int32 := up (up (up (up (up iv 14 g a) 15 g b) 16 g z) 13 2 (-1)) 13 0 (nI (g + 1))
      let iv2 : Nat → Nat → Int32 := up (up (up (up iv1 73 (47 + 3 * g) a) 73 (48 + 3 * g) b) 73 (49 + 3 * g) z) 73 3 (nI (g + 1))
      have q : ∀ k, k ≠ 13 → k ≠ 14 → k ≠ 15 → k ≠ 16 → k ≠ 73 → iv2 k = iv k := fun k x y z w v => by simp [iv2, iv1, up, x, y, z, w, v]
      have q13 : iv2 13 = fun j => if j = 0 then nI (g + 1) else if j = 2 then -1 else iv 13 j := by simp [iv2, iv1, up]
      have q14 : iv2 14 = fun j => if j = g then a else iv 14 j := by simp [iv2, iv1, up]
      have q15 : iv2 15 = fun j => if j = g then b else iv 15 j := by simp [iv2, iv1, up]
      have q16 : iv2 16 = fun j => if j = g then z else iv 16 j := by simp [iv2, iv1, up]
      have q73 : iv2 73 = fun j => if j = 3 then nI (g + 1) else if j = 49 + 3 * g then z else if j = 48 + 3 * g then b else if j = 47 + 3 * g then a else iv 73 j := by simp [iv2, iv1, up]
      obtain ⟨zz, hzz, ezz⟩ : ∃ zz : Nat, zz ≤ 1 ∧ z = nI zz := by
        rcases hz with rfl | rfl
        · exact ⟨0, by omega, by decide⟩
        · exact ⟨1, by omega, by decide⟩
      refine ⟨nI g, iv1, jv, hpOf iv2 jv, ?_, ?_, ⟨iv2, jv, V, W, vs (vs (vs (vs Y (47 + 3 * g) n) (48 + 3 * g) x) (49 + 3 * g) zz) 3 (g + 1), rfl, ?_, ?_, ?_, ?_⟩⟩
      · have s1 : (up iv 14 g a) 13 0 = nI g := by rw [up_ne _ _ _ (by decide)]; exact p3'
        have s2 : (up (up iv 14 g a) 15 g b) 13 0 = nI g := by rw [up_ne _ _ _ (by decide)]; exact s1
        have s3 : (up (up (up (up iv 14 g a) 15 g b) 16 g z) 13 2 (-1)) 13 0 = nI g := by rw [up_in _ _ (by decide), up_ne _ _ _ (by decide)]; exact s2
        simp [f_X10_passing, g1, g2, g3, c.2.2, G_0_0, G_1_3, G_13_0, p3', e4, V_13, f_X5_append, e4', G_13_3, G_13_4, G_13_5, U_14, U_15, U_16, z0, z1, hg, s1, s2, s3, ez, S_13_2, S_13_0, y7, iv1]
      · have s0 : iv1 73 3 = nI g := by simp [iv1, up]; exact m3
        have s4 : ¬ nI g = 10 := by rw [show (10 : Int32) = nI 10 by decide, nI_eq (by omega) (by omega)]; omega
        have s3 : (up (up (up iv1 73 (47 + 3 * g) a) 73 (48 + 3 * g) b) 73 (49 + 3 * g) z) 73 3 = nI g := by
          rw [up_in _ _ (by omega), up_in _ _ (by omega), up_in _ _ (by omega)]; exact s0
        rcases hz with rfl | rfl
        · simp [f_X11_passing, f_X11_passing_J97, f_in a 1 31 (LO := 1) (HI := 31) (by decide) (by decide), f_in b 0 99 (LO := 0) (HI := 99) (by decide) (by decide), c.1, c.2, G_72_0, A_73, U_73, s0, s4, t3, y1, y2, y3, n1, n2, n3, l1, l2, l3, s3, y7, show 47 + 3 * g < 277 by omega, show 48 + 3 * g < 277 by omega, show 49 + 3 * g < 277 by omega, iv2]
        · simp [f_X11_passing, f_X11_passing_J97, f_in a 1 31 (LO := 1) (HI := 31) (by decide) (by decide), f_in b 0 99 (LO := 0) (HI := 99) (by decide) (by decide), c.1, c.2, G_72_0, A_73, U_73, s0, s4, t3, y1, y2, y3, n1, n2, n3, l1, l2, l3, s3, y7, show 47 + 3 * g < 277 by omega, show 48 + 3 * g < 277 by omega, show 49 + 3 * g < 277 by omega, iv2]
      · exact h1.rows (fun k _ _ => q k (by omega) (by omega) (by omega) (by omega) (by omega)) (fun i hi => by rw [q73]; dsimp only; rw [if_neg (by omega), if_neg (by omega), if_neg (by omega), if_neg (by omega)])
      · exact h2.rows (fun k _ _ => q k (by omega) (by omega) (by omega) (by omega) (by omega)) (fun i hi => by rw [q73]; dsimp only; rw [if_neg (by omega), if_neg (by omega), if_neg (by omega), if_neg (by omega)])
      · have v3 : vs (vs (vs (vs Y (47 + 3 * g) n) (48 + 3 * g) x) (49 + 3 * g) zz) 3 (g + 1) 3 = g + 1 := vs_at _ _ _
        have v4 : vs (vs (vs (vs Y (47 + 3 * g) n) (48 + 3 * g) x) (49 + 3 * g) zz) 3 (g + 1) 4 = Y 4 := by rw [vs_ne _ _ (by omega), vs_ne _ _ (by omega), vs_ne _ _ (by omega), vs_ne _ _ (by omega)]
        have va : ∀ i, vs (vs (vs (vs Y (47 + 3 * g) n) (48 + 3 * g) x) (49 + 3 * g) zz) 3 (g + 1) (47 + 3 * i) = if i = g then n else Y (47 + 3 * i) := by
          intro i
          rw [vs_ne _ _ (by omega), vs_ne _ _ (by omega), vs_ne _ _ (by omega)]
          by_cases e : i = g
          · rw [if_pos e, e, vs_at]
          · rw [if_neg e, vs_ne _ _ (by omega)]
        have vb : ∀ i, vs (vs (vs (vs Y (47 + 3 * g) n) (48 + 3 * g) x) (49 + 3 * g) zz) 3 (g + 1) (48 + 3 * i) = if i = g then x else Y (48 + 3 * i) := by
          intro i
          rw [vs_ne _ _ (by omega), vs_ne _ _ (by omega)]
          by_cases e : i = g
          · rw [if_pos e, e, vs_at]
          · rw [if_neg e, vs_ne _ _ (by omega), vs_ne _ _ (by omega)]
        have vc : ∀ i, vs (vs (vs (vs Y (47 + 3 * g) n) (48 + 3 * g) x) (49 + 3 * g) zz) 3 (g + 1) (49 + 3 * i) = if i = g then zz else Y (49 + 3 * i) := by
          intro i
          rw [vs_ne _ _ (by omega)]
          by_cases e : i = g
          · rw [if_pos e, e, vs_at]
          · rw [if_neg e, vs_ne _ _ (by omega), vs_ne _ _ (by omega), vs_ne _ _ (by omega)]
        refine ⟨⟨by rw [v3]; omega, by rw [v4]; exact k1.2.1, fun i hi => ?_⟩, ⟨⟨?_, ?_, Or.inl ?_⟩, fun i hi => ?_, fun i hi => ?_⟩, ?_, ?_, fun i hi => ?_⟩
        · rw [v3] at hi; rw [va, vb, vc]
          by_cases e : i = g
          · rw [if_pos e, if_pos e, if_pos e]; exact ⟨hn1, hn, hx, hzz⟩
          · rw [if_neg e, if_neg e, if_neg e]; exact k1.2.2 i (by omega)
        · rw [q13, v3]; rfl
        · rw [q13, v4]; exact p4
        · rw [q13]; rfl
        · rw [v3] at hi; rw [va, vb, vc, q14, q15, q16]; dsimp only
          by_cases e : i = g
          · rw [if_pos e, if_pos e, if_pos e, if_pos e, if_pos e, if_pos e]; exact ⟨ea, eb, ezz⟩
          · rw [if_neg e, if_neg e, if_neg e, if_neg e, if_neg e, if_neg e]; exact pp i (by omega)
        · rw [q16]; dsimp only
          by_cases e : i = g
          · rw [if_pos e]; exact hz
          · rw [if_neg e]; exact pz i hi
        · rw [q73, v3]; rfl
        · rw [q73, v4]; dsimp only; rw [if_neg (by omega), if_neg (by omega), if_neg (by omega), if_neg (by omega)]; exact m4
        · rw [v3] at hi; rw [va, vb, vc, q73]; dsimp only
          by_cases e : i = g
          · subst e
            refine ⟨?_, ?_, ?_⟩
            · rw [if_neg (by omega), if_neg (by omega), if_neg (by omega), if_pos rfl, if_pos rfl]; exact ea
            · rw [if_neg (by omega), if_neg (by omega), if_pos rfl, if_pos rfl]; exact eb
            · rw [if_neg (by omega), if_pos rfl, if_pos rfl]; exact ezz
          · obtain ⟨w1, w2, w3⟩ := mp i (by omega)
            refine ⟨?_, ?_, ?_⟩
            · rw [if_neg (by omega), if_neg (by omega), if_neg (by omega), if_neg (by omega), if_neg e]; exact w1
            · rw [if_neg (by omega), if_neg (by omega), if_neg (by omega), if_neg (by omega), if_neg e]; exact w2
            · rw [if_neg (by omega), if_neg (by omega), if_neg (by omega), if_neg (by omega), if_neg e]; exact w3
      · exact h4.rows (fun k hk => q k (by omega) (by omega) (by omega) (by omega) (by omega)) (by rw [q 72 (by decide) (by decide) (by decide) (by decide) (by decide)]) (by rw [q 72 (by decide) (by decide) (by decide) (by decide) (by decide)]) rfl rfl
  · refine both_bad h1 h2 h3 h4 (t := -2) ?_ (fun iv' _ => ?_)
    · by_cases g1 : a < 1
      · simp [f_X10_passing, g1, V_0, c_bad]
      · by_cases g2 : 32 ≤ a
        · simp [f_X10_passing, g1, g2, V_0, c_bad]
        · by_cases g3 : b < 0
          · simp [f_X10_passing, g1, g2, g3, V_0, c_bad]
          · have g4 : ¬ b ≤ 99 := fun h => c ⟨⟨nlt g1, by
              have g0 : ¬ a < 0 := fun h => g1 (Int32.lt_trans h (by decide))
              rw [show (32 : Int32) = nI (31 + 1) by decide, ge_lit (by omega) g0] at g2
              exact Classical.not_not.mp g2⟩, nlt g3, h⟩
            simp [f_X10_passing, g1, g2, g3, g4, V_0, c_bad]
    · by_cases ca : 1 ≤ a ∧ a ≤ 31
      · have cb : ¬ (0 ≤ b ∧ b ≤ 99) := fun h => c ⟨ca, h⟩
        simp [f_X11_passing, f_in a 1 31 (LO := 1) (HI := 31) (by decide) (by decide), f_in b 0 99 (LO := 0) (HI := 99) (by decide) (by decide), ca, cb, V_72, m_bad]
      · simp [f_X11_passing, f_in a 1 31 (LO := 1) (HI := 31) (by decide) (by decide), ca, V_72, m_bad]
