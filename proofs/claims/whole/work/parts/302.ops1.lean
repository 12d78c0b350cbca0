theorem nlt {a b : Int32} (h : ¬ a < b) : b ≤ a := Int32.not_lt.mp h
theorem op_status (a : Int32) : OpOK (f_X10_status 0 a) (f_X11_status 72 a) := by
  rintro hp ⟨iv, jv, V, W, Y, rfl, h1, h2, h3, h4⟩
  obtain ⟨r0, r1, r2⟩ := h4.2.2.2.1
  have keep : InvH (hpOf iv jv) := ⟨iv, jv, V, W, Y, rfl, h1, h2, h3, h4⟩
  by_cases c : 0 ≤ a ∧ a ≤ 2
  · obtain ⟨n, hn, rfl⟩ := in01 (hi := 2) (by decide) c
    have hm : ∀ x, f_X11_in (nI x).toInt64 0 2 = if (0 : Int32) ≤ nI x ∧ nI x ≤ 2 then 1 else 0 := fun x => f_in (nI x) 0 2 (by decide) (by decide)
    rcases (show n = 0 ∨ n = 1 ∨ n = 2 by omega) with rfl | rfl | rfl
    · refine ⟨iv 0 11, iv, jv, hpOf iv jv, by simp [f_X10_status, nI_0, G_0_11], ?_, keep⟩
      simp [f_X11_status, show f_X11_in 0 0 2 = 1 by decide +kernel, G_72_7, A_76, nI_0, r0]
    · have e1 : nI 1 = 1 := by decide
      refine ⟨iv 0 12, iv, jv, hpOf iv jv, by simp [f_X10_status, e1, G_0_12], ?_, keep⟩
      simp [f_X11_status, show f_X11_in 1 0 2 = 1 by decide +kernel, G_72_7, A_76, e1, r1]
    · have e1 : nI 2 = 2 := by decide
      refine ⟨iv 0 13, iv, jv, hpOf iv jv, by simp [f_X10_status, e1, G_0_13], ?_, keep⟩
      simp [f_X11_status, show f_X11_in 2 0 2 = 1 by decide +kernel, G_72_7, A_76, e1, r2]
  · have c0 : ¬ a = 0 := fun h => c (by subst h; decide)
    have c1 : ¬ a = 1 := fun h => c (by subst h; decide)
    have c2 : ¬ a = 2 := fun h => c (by subst h; decide)
    refine both_bad h1 h2 h3 h4 (t := -1) ?_ (fun iv' _ => ?_)
    · simp [f_X10_status, c0, c1, c2, V_0, c_refAs]
    · simp [f_X11_status, f_in a 0 2 (LO := 0) (HI := 2) (by decide) (by decide), c, V_72, m_bad]
theorem op_part (a : Int32) : OpOK (f_X10_part 0 a) (f_X11_part 72 a) := by
  rintro hp ⟨iv, jv, V, W, Y, rfl, h1, h2, h3, h4⟩
  obtain ⟨x, y, hx, hy, hy1, e1, e2, e3, e4⟩ := h4.2.2.1
  have keep : InvH (hpOf iv jv) := ⟨iv, jv, V, W, Y, rfl, h1, h2, h3, h4⟩
  by_cases c : 0 ≤ a ∧ a ≤ 1
  · have g1 : ¬ a < 0 := Int32.not_lt.mpr c.1
    by_cases c0 : a = 0
    · refine ⟨nI x, iv, jv, hpOf iv jv, by simp [f_X10_part, g1, c.2, c0, G_0_9, e1], ?_, keep⟩
      simp [f_X11_part, show f_X11_in 0 0 1 = 1 by decide +kernel, c0, G_72_5, e3, lN_i]
    · refine ⟨nI y, iv, jv, hpOf iv jv, by simp [f_X10_part, g1, c.2, c0, G_0_10, e2], ?_, keep⟩
      simp [f_X11_part, f_in a 0 1 (LO := 0) (HI := 1) (by decide) (by decide), c, c0, G_72_6, e4, lN_i]
  · refine both_bad h1 h2 h3 h4 (t := -2) ?_ (fun iv' _ => ?_)
    · by_cases g1 : a < 0
      · simp [f_X10_part, g1, V_0, c_bad]
      · have g2 : ¬ a ≤ 1 := fun h => c ⟨nlt g1, h⟩
        simp [f_X10_part, g1, g2, V_0, c_bad]
    · simp [f_X11_part, f_in a 0 1 (LO := 0) (HI := 1) (by decide) (by decide), c, V_72, m_bad]
theorem op_count (a : Int32) : OpOK (f_X10_count 0 a) (f_X11_count 72 a) := by
  rintro hp ⟨iv, jv, V, W, Y, rfl, h1, h2, h3, h4⟩
  have keep : InvH (hpOf iv jv) := ⟨iv, jv, V, W, Y, rfl, h1, h2, h3, h4⟩
  obtain ⟨-, ⟨⟨p0, p1⟩, -⟩, m0, m1, -⟩ := id h1
  obtain ⟨-, ⟨p2, -⟩, m2, -⟩ := id h2
  obtain ⟨-, ⟨⟨p3, -⟩, -⟩, m3, -⟩ := id h3
  by_cases c : 0 ≤ a ∧ a ≤ 3
  · obtain ⟨n, hn, rfl⟩ := in01 (hi := 3) (by decide) c
    have hm : ∀ x, f_X11_in (nI x).toInt64 0 3 = if (0 : Int32) ≤ nI x ∧ nI x ≤ 3 then 1 else 0 := fun x => f_in (nI x) 0 3 (by decide) (by decide)
    rcases (show n = 0 ∨ n = 1 ∨ n = 2 ∨ n = 3 by omega) with rfl | rfl | rfl | rfl
    · refine ⟨nI (V 0), iv, jv, hpOf iv jv, by simp [f_X10_count, nI_0, G_0_0, G_1_0, G_2_0, p0], ?_, keep⟩
      simp [f_X11_count, show f_X11_in 0 0 3 = 1 by decide +kernel, G_72_0, A_73, nI_0, m0]
    · have e1 : nI 1 = 1 := by decide
      refine ⟨nI (V 1), iv, jv, hpOf iv jv, by simp [f_X10_count, e1, G_0_0, G_1_0, G_2_1, p1], ?_, keep⟩
      simp [f_X11_count, show f_X11_in 1 0 3 = 1 by decide +kernel, G_72_0, A_73, e1, m1]
    · have e1 : nI 2 = 2 := by decide
      refine ⟨nI (W 2), iv, jv, hpOf iv jv, by simp [f_X10_count, e1, G_0_0, G_1_1, G_10_0, p2], ?_, keep⟩
      simp [f_X11_count, show f_X11_in 2 0 3 = 1 by decide +kernel, G_72_0, A_73, e1, m2]
    · have e1 : nI 3 = 3 := by decide
      refine ⟨nI (Y 3), iv, jv, hpOf iv jv, by simp [f_X10_count, e1, G_0_0, G_1_3, G_13_0, p3], ?_, keep⟩
      simp [f_X11_count, show f_X11_in 3 0 3 = 1 by decide +kernel, G_72_0, A_73, e1, m3]
  · have c0 : ¬ a = 0 := fun h => c (by subst h; decide)
    have c1 : ¬ a = 1 := fun h => c (by subst h; decide)
    have c2 : ¬ a = 2 := fun h => c (by subst h; decide)
    have c3 : ¬ a = 3 := fun h => c (by subst h; decide)
    refine both_bad h1 h2 h3 h4 (t := -2) ?_ (fun iv' _ => ?_)
    · simp [f_X10_count, c0, c1, c2, c3, V_0, c_bad]
    · simp [f_X11_count, f_in a 0 3 (LO := 0) (HI := 3) (by decide) (by decide), c, V_72, m_bad]
def vs (V : Nat → Nat) (k x : Nat) : Nat → Nat := fun i => if i = k then x else V i
theorem vs_at (V : Nat → Nat) (k x : Nat) : vs V k x k = x := if_pos rfl
theorem vs_ne (V : Nat → Nat) {k i : Nat} (x : Nat) (h : i ≠ k) : vs V k x i = V i := if_neg h
theorem op_liars (a : Int32) : OpOK (f_X10_liars 0 a) (f_X11_liars 72 a) := by
  rintro hp ⟨iv, jv, V, W, Y, rfl, h1, h2, h3, h4⟩
  by_cases c : 0 ≤ a ∧ a ≤ 3
  · have g1 : ¬ a < 0 := Int32.not_lt.mpr c.1
    obtain ⟨n, hn, e⟩ := in01 (hi := 3) (by decide) c
    obtain ⟨k1, ⟨⟨p3, p4, -⟩, pp, pz⟩, m3, m4, mp⟩ := id h3
    have q : ∀ k, k ≠ 13 → k ≠ 73 → (up (up (up iv 13 1 a) 13 2 (-1)) 73 4 a) k = iv k := fun k x y => by simp [up, x, y]
    have q13 : (up (up (up iv 13 1 a) 13 2 (-1)) 73 4 a) 13 = fun b => if b = 2 then -1 else if b = 1 then a else iv 13 b := by simp [up]
    have q73 : (up (up (up iv 13 1 a) 13 2 (-1)) 73 4 a) 73 = fun b => if b = 4 then a else iv 73 b := by simp [up]
    refine ⟨iv 13 1, (up (up iv 13 1 a) 13 2 (-1)), jv, hpOf (up (up (up iv 13 1 a) 13 2 (-1)) 73 4 a) jv, ?_, ?_, ⟨_, _, V, W, vs Y 4 n, rfl, ?_, ?_, ?_, ?_⟩⟩
    · simp [f_X10_liars, g1, c.2, G_0_0, G_1_3, V_13, f_X5_allow, G_13_1, S_13_1, S_13_2]
    · have e9 : (up (up iv 13 1 a) 13 2 (-1)) 73 4 = iv 13 1 := by simp [up, m4]; exact p4.symm
      simp [f_X11_liars, f_in a 0 3 (LO := 0) (HI := 3) (by decide) (by decide), c, G_72_0, A_73, U_73, e9]
    · exact h1.rows (fun k _ _ => q k (by omega) (by omega)) (fun i hi => by rw [q73]; dsimp only; rw [if_neg (by omega)])
    · exact h2.rows (fun k _ _ => q k (by omega) (by omega)) (fun i hi => by rw [q73]; dsimp only; rw [if_neg (by omega)])
    · have v3 : vs Y 4 n 3 = Y 3 := rfl
      refine ⟨⟨k1.1, by rw [vs_at]; exact hn, fun j hj => ?_⟩, ⟨⟨?_, ?_, Or.inl ?_⟩, fun j hj => ?_, fun j hj => ?_⟩, ?_, ?_, fun j hj => ?_⟩
      · rw [vs_ne _ _ (by omega), vs_ne _ _ (by omega), vs_ne _ _ (by omega)]; exact k1.2.2 j hj
      · rw [q13]; exact p3
      · rw [q13, vs_at]; exact e
      · rw [q13]; rfl
      · rw [vs_ne _ _ (by omega), vs_ne _ _ (by omega), vs_ne _ _ (by omega), q 14 (by decide) (by decide), q 15 (by decide) (by decide), q 16 (by decide) (by decide)]; exact pp j hj
      · rw [q 16 (by decide) (by decide)]; exact pz j hj
      · rw [q73]; exact m3
      · rw [q73, vs_at]; exact e
      · rw [vs_ne _ _ (by omega), vs_ne _ _ (by omega), vs_ne _ _ (by omega), q73]; dsimp only; rw [if_neg (by omega), if_neg (by omega), if_neg (by omega)]; exact mp j hj
    · exact h4.rows (fun k hk => q k (by omega) (by omega)) (by rw [q 72 (by decide) (by decide)]) (by rw [q 72 (by decide) (by decide)]) rfl rfl
  · refine both_bad h1 h2 h3 h4 (t := -2) ?_ (fun iv' _ => ?_)
    · by_cases g1 : a < 0
      · simp [f_X10_liars, g1, V_0, c_bad]
      · have g2 : ¬ a ≤ 3 := fun h => c ⟨nlt g1, h⟩
        simp [f_X10_liars, g1, g2, V_0, c_bad]
    · simp [f_X11_liars, f_in a 0 3 (LO := 0) (HI := 3) (by decide) (by decide), c, V_72, m_bad]
theorem op_forget : OpOK (f_X10_forget 0) (f_X11_forget 72) := by
  rintro hp ⟨iv, jv, V, W, Y, rfl, h1, h2, h3, h4⟩
  obtain ⟨k1, ⟨⟨p3, p4, -⟩, pp, pz⟩, m3, m4, mp⟩ := id h3
  have q : ∀ k, k ≠ 13 → k ≠ 73 → (up (up (up iv 13 0 0) 13 2 (-1)) 73 3 0) k = iv k := fun k x y => by simp [up, x, y]
  have q13 : (up (up (up iv 13 0 0) 13 2 (-1)) 73 3 0) 13 = fun b => if b = 2 then -1 else if b = 0 then 0 else iv 13 b := by simp [up]
  have q73 : (up (up (up iv 13 0 0) 13 2 (-1)) 73 3 0) 73 = fun b => if b = 3 then 0 else iv 73 b := by simp [up]
  refine ⟨iv 13 0, (up (up iv 13 0 0) 13 2 (-1)), jv, hpOf (up (up (up iv 13 0 0) 13 2 (-1)) 73 3 0) jv, ?_, ?_, ⟨_, _, V, W, vs Y 3 0, rfl, ?_, ?_, ?_, ?_⟩⟩
  · simp [f_X10_forget, G_0_0, G_1_3, V_13, f_X5_drop, G_13_0, S_13_0, S_13_2]
  · have e9 : (up (up iv 13 0 0) 13 2 (-1)) 73 3 = iv 13 0 := by simp [up, m3]; exact p3.symm
    simp [f_X11_forget, G_72_0, A_73, U_73, e9]
  · exact h1.rows (fun k _ _ => q k (by omega) (by omega)) (fun i hi => by rw [q73]; dsimp only; rw [if_neg (by omega)])
  · exact h2.rows (fun k _ _ => q k (by omega) (by omega)) (fun i hi => by rw [q73]; dsimp only; rw [if_neg (by omega)])
  · refine ⟨⟨by rw [vs_at]; omega, k1.2.1, fun j hj => absurd hj (by rw [vs_at]; omega)⟩, ⟨⟨?_, ?_, Or.inl ?_⟩, fun j hj => absurd hj (by rw [vs_at]; omega), fun j hj => ?_⟩, ?_, ?_, fun j hj => absurd hj (by rw [vs_at]; omega)⟩
    · rw [q13, vs_at]; rfl
    · rw [q13]; exact p4
    · rw [q13]; rfl
    · rw [q 16 (by decide) (by decide)]; exact pz j hj
    · rw [q73, vs_at]; rfl
    · rw [q73]; exact m4
  · exact h4.rows (fun k hk => q k (by omega) (by omega)) (by rw [q 72 (by decide) (by decide)]) (by rw [q 72 (by decide) (by decide)]) rfl rfl
theorem op_clear : OpOK (f_X10_clear 0) (f_X11_clear 72) := by
  rintro hp ⟨iv, jv, V, W, Y, rfl, h1, h2, h3, h4⟩
  obtain ⟨k1, ⟨p2, pb, pc⟩, m2, mb, mc⟩ := id h2
  have q : ∀ k, k ≠ 10 → k ≠ 73 → (up (up iv 10 0 0) 73 2 0) k = iv k := fun k x y => by simp [up, x, y]
  have q10 : (up (up iv 10 0 0) 73 2 0) 10 = fun b => if b = 0 then 0 else iv 10 b := by simp [up]
  have q73 : (up (up iv 10 0 0) 73 2 0) 73 = fun b => if b = 2 then 0 else iv 73 b := by simp [up]
  refine ⟨iv 10 0, (up iv 10 0 0), jv, hpOf (up (up iv 10 0 0) 73 2 0) jv, ?_, ?_, ⟨_, _, V, vs W 2 0, Y, rfl, ?_, ?_, ?_, ?_⟩⟩
  · simp [f_X10_clear, G_0_0, G_1_1, G_10_0, S_10_0]
  · have e9 : (up iv 10 0 0) 73 2 = iv 10 0 := by simp [up, m2]; exact p2.symm
    simp [f_X11_clear, G_72_0, A_73, U_73, e9]
  · exact h1.rows (fun k _ _ => q k (by omega) (by omega)) (fun i hi => by rw [q73]; dsimp only; rw [if_neg (by omega)])
  · refine ⟨⟨by rw [vs_at]; omega, fun j hj => absurd hj (by rw [vs_at]; omega), fun j hj => ?_⟩, ⟨?_, fun j hj => absurd hj (by rw [vs_at]; omega), fun j hj => ?_⟩, ?_, fun j hj => absurd hj (by rw [vs_at]; omega), fun j hj => ?_⟩
    · rw [vs_ne _ _ (by omega)]; exact k1.2.2 j hj
    · rw [q10, vs_at]; rfl
    · rw [q 12 (by decide) (by decide), vs_ne _ _ (by omega)]; exact pc j hj
    · rw [q73, vs_at]; rfl
    · rw [q73, vs_ne _ _ (by omega)]; dsimp only; rw [if_neg (by omega)]; exact mc j hj
  · exact h3.rows (fun k _ _ => q k (by omega) (by omega)) (fun i hi => by rw [q73]; dsimp only; rw [if_neg (by omega)])
  · exact h4.rows (fun k hk => q k (by omega) (by omega)) (by rw [q 72 (by decide) (by decide)]) (by rw [q 72 (by decide) (by decide)]) rfl rfl
theorem op_crowd (a b : Int32) : OpOK (f_X10_crowd 0 a b) (f_X11_crowd 72 a b) := by
  rintro hp ⟨iv, jv, V, W, Y, rfl, h1, h2, h3, h4⟩
  by_cases c : (0 ≤ a ∧ a ≤ 9) ∧ 0 ≤ b ∧ b ≤ 6
  · obtain ⟨n, hn, ea⟩ := in01 (hi := 9) (by decide) c.1
    obtain ⟨x, hx, eb⟩ := in01 (hi := 6) (by decide) c.2
    have g1 : ¬ a < 0 := Int32.not_lt.mpr c.1.1
    have g2 : ¬ 10 ≤ a := by rw [ea, show (10 : Int32) = nI 10 by decide, nI_leI (by omega) (by omega)]; omega
    have g3 : ¬ b < 0 := Int32.not_lt.mpr c.2.1
    have ca : a.toNatClampNeg = n := by rw [ea]; exact nI_clamp (by omega)
    have c37 : ((37 : Int32) + a) = nI (37 + n) := by rw [ea, show (37 : Int32) = nI 37 by decide, nI_add]
    obtain ⟨k1, ⟨p2, pb, pc⟩, m2, mb, mc⟩ := id h2
    have q : ∀ k, k ≠ 12 → k ≠ 73 → (up (up iv 12 n b) 73 (37 + n) b) k = iv k := fun k x y => by simp [up, x, y]
    have q12 : (up (up iv 12 n b) 73 (37 + n) b) 12 = fun j => if j = n then b else iv 12 j := by simp [up]
    have q73 : (up (up iv 12 n b) 73 (37 + n) b) 73 = fun j => if j = 37 + n then b else iv 73 j := by simp [up]
    refine ⟨iv 12 n, (up iv 12 n b), jv, hpOf (up (up iv 12 n b) 73 (37 + n) b) jv, ?_, ?_, ⟨_, _, V, vs W (37 + n) x, Y, rfl, ?_, ?_, ?_, ?_⟩⟩
    · simp [f_X10_crowd, g1, g2, g3, c.2.2, G_0_0, G_1_2, A_12, U_12, ca, show n < 10 by omega]
    · have e9 : (up iv 12 n b) 73 (37 + n) = iv 12 n := by rw [up_ne _ _ _ (by decide), mc n (by omega)]; exact (pc n (by omega)).symm
      have z1 : ¬ nI (37 + n) < 0 := nI_pos (by omega)
      have z2 : (nI (37 + n)).toNatClampNeg = 37 + n := nI_clamp (by omega)
      have z3 : 37 + n < 277 := by omega
      simp [f_X11_crowd, f_in a 0 9 (LO := 0) (HI := 9) (by decide) (by decide), f_in b 0 6 (LO := 0) (HI := 6) (by decide) (by decide), c.1, c.2, G_72_0, A_73, U_73, c37, z1, z2, z3, e9]
    · exact h1.rows (fun k _ _ => q k (by omega) (by omega)) (fun i hi => by rw [q73]; dsimp only; rw [if_neg (by omega)])
    · refine ⟨⟨by rw [vs_ne _ _ (by omega)]; exact k1.1, fun j hj => ?_, fun j hj => ?_⟩, ⟨?_, fun j hj => ?_, fun j hj => ?_⟩, ?_, fun j hj => ?_, fun j hj => ?_⟩
      · rw [vs_ne _ _ (by omega)] at hj ⊢; exact k1.2.1 j hj
      · by_cases e : j = n
        · rw [e, vs_at]; exact hx
        · rw [vs_ne _ _ (by omega)]; exact k1.2.2 j hj
      · rw [q 10 (by decide) (by decide), vs_ne _ _ (by omega)]; exact p2
      · rw [vs_ne _ _ (by omega)] at hj ⊢; rw [q 11 (by decide) (by decide)]; exact pb j hj
      · rw [q12]; dsimp only
        by_cases e : j = n
        · rw [if_pos e, e, vs_at]; exact eb
        · rw [if_neg e, vs_ne _ _ (by omega)]; exact pc j hj
      · rw [q73, vs_ne _ _ (by omega)]; dsimp only; rw [if_neg (by omega)]; exact m2
      · rw [vs_ne _ _ (by omega)] at hj ⊢; rw [q73]; dsimp only; rw [if_neg (by omega)]; exact mb j hj
      · rw [q73]; dsimp only
        by_cases e : j = n
        · rw [if_pos (by omega), e, vs_at]; exact eb
        · rw [if_neg (by omega), vs_ne _ _ (by omega)]; exact mc j hj
    · exact h3.rows (fun k _ _ => q k (by omega) (by omega)) (fun i hi => by rw [q73]; dsimp only; rw [if_neg (by omega)])
    · exact h4.rows (fun k hk => q k (by omega) (by omega)) (by rw [q 72 (by decide) (by decide)]) (by rw [q 72 (by decide) (by decide)]) rfl rfl
  · refine both_bad h1 h2 h3 h4 (t := -2) ?_ (fun iv' _ => ?_)
    · by_cases g1 : a < 0
      · simp [f_X10_crowd, g1, V_0, c_bad]
      · by_cases g2 : 10 ≤ a
        · simp [f_X10_crowd, g1, g2, V_0, c_bad]
        · by_cases g3 : b < 0
          · simp [f_X10_crowd, g1, g2, g3, V_0, c_bad]
          · have g4 : ¬ b ≤ 6 := fun h => c ⟨⟨nlt g1, by
              obtain ⟨j, hj, e⟩ := nI_of g1
              rw [e, show (10 : Int32) = nI 10 by decide, nI_leI (by omega) hj] at g2
              rw [e, show (9 : Int32) = nI 9 by decide, nI_leI hj (by omega)]; omega⟩, nlt g3, h⟩
            simp [f_X10_crowd, g1, g2, g3, g4, V_0, c_bad]
    · by_cases ca : 0 ≤ a ∧ a ≤ 9
      · have cb : ¬ (0 ≤ b ∧ b ≤ 6) := fun h => c ⟨ca, h⟩
        simp [f_X11_crowd, f_in a 0 9 (LO := 0) (HI := 9) (by decide) (by decide), f_in b 0 6 (LO := 0) (HI := 6) (by decide) (by decide), ca, cb, V_72, m_bad]
      · simp [f_X11_crowd, f_in a 0 9 (LO := 0) (HI := 9) (by decide) (by decide), ca, V_72, m_bad]
