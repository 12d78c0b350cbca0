/-! ITEMS: the reference's -/
def MF2 (iv : Nat → Nat → Int32) (jv : Nat → Nat → Int64) (iv' : Nat → Nat → Int32) (jv' : Nat → Nat → Int64) : Prop := (∀ k, k ≠ 72 → k ≠ 80 → iv' k = iv k) ∧ (∀ i, (i < 14 ∨ 16 < i) → iv' 72 i = iv 72 i) ∧ (∀ k, k ≠ 72 → jv' k = jv k) ∧ ∀ i, i ≠ 17 → jv' 72 i = jv 72 i
theorem MF.two {iv iv' : Nat → Nat → Int32} {jv jv' : Nat → Nat → Int64} (h : MF iv jv iv' jv') : MF2 iv jv iv' jv' := ⟨fun k a _ => h.1 k a, h.2⟩
theorem MF2.trans {iv iv' iv'' : Nat → Nat → Int32} {jv jv' jv'' : Nat → Nat → Int64} (h : MF2 iv jv iv' jv') (g : MF2 iv' jv' iv'' jv'') : MF2 iv jv iv'' jv'' :=
  ⟨fun k a b => by rw [g.1 k a b, h.1 k a b], fun i a => by rw [g.2.1 i a, h.2.1 i a], fun k a => by rw [g.2.2.1 k a, h.2.2.1 k a], fun i a => by rw [g.2.2.2 i a, h.2.2.2 i a]⟩
theorem MF2.sb {W : Nat → Nat} {iv iv' : Nat → Nat → Int32} {jv jv' : Nat → Nat → Int64} (h : MF2 iv jv iv' jv') (h2 : SB 1 73 iv W) : SB 1 73 iv' W := sb59 h2 (fun k hk => h.1 k (by omega) (by omega))
theorem MF2.w80 (iv : Nat → Nat → Int32) (jv : Nat → Nat → Int64) (j : Nat) (x : Int32) : MF2 iv jv (up iv 80 j x) jv := ⟨fun k _ b => up_ne _ _ _ b, fun i _ => by rw [up_ne _ _ _ (by decide)], fun _ _ => rfl, fun _ _ => rfl⟩
theorem MTk.fr {W : Nat → Nat} {iv iv' : Nat → Nat → Int32} {jv : Nat → Nat → Int64} {q : Nat} (h : MTk W iv jv q) (e : iv' 72 = iv 72) : MTk W iv' jv q := by
  unfold MTk at h ⊢
  rw [e]; exact h
def MOut (W : Nat → Nat) (iv : Nat → Nat → Int32) (jv : Nat → Nat → Int64) (iv' : Nat → Nat → Int32) (jv' : Nat → Nat → Int64) (o : Bool × Nat × (Nat → Nat)) : Prop := MF2 iv jv iv' jv' ∧ MTk W iv' jv' o.2.1 ∧ o.2.1 ≤ W 2 ∧ (o.1 = true → DM iv' o.2.2)
section IM
variable {W R : Nat → Nat} {iv : Nat → Nat → Int32} {jv : Nat → Nat → Int64}
theorem m_nq (h2 : SB 1 73 iv W) {q : Nat} (hq : q ≤ W 2) (h3 : iv 72 15 = nI q) (lo hi : Int32) : ∃ iv' jv', f_X11_isNumber 72 lo hi (hpOf iv jv) = some (okI (numQ W q lo hi), hpOf iv' jv') ∧ MF iv jv iv' jv' ∧ MTk W iv' jv' q ∧ (numQ W q lo hi = true → jv' 72 17 = lN (vl W q)) := by
  obtain ⟨iv', jv', x, g1, g2, g3, g4⟩ := m_num (jv := jv) h2 hq h3 lo hi
  refine ⟨iv', jv', ?_, g2, g3, fun h => ?_⟩
  · rcases g4 with ⟨a, b, -⟩ | ⟨a, b⟩
    · rw [g1, b, numQ_b.mpr a]; rfl
    · rw [g1, b]
      cases e : numQ W q lo hi
      · rfl
      · exact absurd (numQ_b.mp e) a
  · rcases g4 with ⟨a, b, c⟩ | ⟨a, b⟩
    · exact c
    · exact absurd (numQ_b.mp h) a
theorem z80_0 (iv : Nat → Nat → Int32) (jv : Nat → Nat → Int64) : aI (hpOf iv jv) 80 0 0 = some (iv 80 0) := a_80 iv jv (i := 0) (by decide)
theorem z80_1 (iv : Nat → Nat → Int32) (jv : Nat → Nat → Int64) : aI (hpOf iv jv) 80 0 1 = some (iv 80 1) := a_80 iv jv (i := 1) (by decide)
theorem v80_0 (iv : Nat → Nat → Int32) (jv : Nat → Nat → Int64) (x : Int32) : uI (hpOf iv jv) 80 0 x = some (hpOf (up iv 80 0 x) jv) := u_80 iv jv (i := 0) (by decide) x
theorem v80_1 (iv : Nat → Nat → Int32) (jv : Nat → Nat → Int64) (x : Int32) : uI (hpOf iv jv) 80 1 x = some (hpOf (up iv 80 1 x) jv) := u_80 iv jv (i := 1) (by decide) x
theorem ite8q {α : Type} {x : Nat} {a b : α} (hx : x ≤ 8) : (if nI x = (8 : Int32) then a else b) = (if 8 ≤ x then a else b) := by
  rw [show (8 : Int32) = nI 8 by decide, iteQ (by omega) (by decide)]
  by_cases c : 8 ≤ x
  · rw [if_pos (by omega), if_pos c]
  · rw [if_neg (by omega), if_neg c]
theorem ite4q {α : Type} {x : Nat} {a b : α} (hx : x ≤ 4) : (if nI x = (4 : Int32) then a else b) = (if 4 ≤ x then a else b) := by
  rw [show (4 : Int32) = nI 4 by decide, iteQ (by omega) (by decide)]
  by_cases c : 4 ≤ x
  · rw [if_pos (by omega), if_pos c]
  · rw [if_neg (by omega), if_neg c]
theorem lit_add (o g : Nat) {x : Int32} (h : x = nI o) : x + nI g = nI (o + g) := by rw [h, nI_add]
theorem m_per (h2 : SB 1 73 iv W) {q : Nat} (hq : q ≤ W 2) (mt : MTk W iv jv q) (hk : Vkr R) (hd : DM iv R) : ∃ iv' jv', f_X11_readPerson 72 (hpOf iv jv) = some (okI (perN W R q).1, hpOf iv' jv') ∧ MOut W iv jv iv' jv' (perN W R q) := by
  have k0 := hk.1
  have p0 : iv 80 0 = nI (R 0) := hd.1
  obtain ⟨-, q1, -⟩ := tE_b hq
  obtain ⟨-, q2, -⟩ := tE_b q1
  obtain ⟨-, q3, -⟩ := tE_b q2
  unfold f_X11_readPerson perN
  rw [G_72_18, Option.bind_some, z80_0, Option.bind_some, p0, ite8q k0]
  by_cases c8 : 8 ≤ R 0
  · rw [if_pos c8, if_pos c8]
    exact ⟨iv, jv, rfl, (MF.refl _ _).two, mt, hq, fun h => by cases h⟩
  · rw [if_neg c8, if_neg c8]
    obtain ⟨i1, j1, a1, a2, a3, a4⟩ := m_nq (jv := jv) h2 q1 mt.2.1 1800 2199
    rw [V_72, a1, Option.bind_some]
    dsimp only
    rw [okI_0]
    by_cases c1 : numQ W (tE W q) 1800 2199 = true
    · rw [if_pos c1, if_pos c1]
      obtain ⟨y1, y2⟩ := vl_r (lo := 1800) (hi := 2199) (by decide) (by decide) c1
      obtain ⟨i2, j2, b1, b2, b3, b4⟩ := m_nq (jv := j1) (a2.sb h2) q2 a3.2.1 1 12
      rw [G_72_17, Option.bind_some, a4 c1, V_72, b1, Option.bind_some]
      dsimp only
      rw [okI_0]
      have f2 := a2.trans b2
      by_cases c2 : numQ W (tE W (tE W q)) 1 12 = true
      · rw [if_pos c2, if_pos c2]
        obtain ⟨m1, m2⟩ := vl_r (lo := 1) (hi := 12) (by decide) (by decide) c2
        obtain ⟨i3, j3, d1, d2, d3, d4⟩ := m_nq (jv := j2) (f2.sb h2) q3 b3.2.1 1 (nI (mlN (lpN (vl W (tE W q))) (vl W (tE W (tE W q)))))
        rw [G_72_17, Option.bind_some, b4 c2, lN_i, lN_i, mlm y1 (by omega) (by omega), V_72, d1, Option.bind_some]
        dsimp only
        rw [okI_0]
        have f3 := f2.trans d2
        by_cases c3 : numQ W (tE W (tE W (tE W q))) 1 (nI (mlN (lpN (vl W (tE W q))) (vl W (tE W (tE W q))))) = true
        · rw [if_pos c3, if_pos c3]
          have ml := ml_le (lpN (vl W (tE W q))) (vl W (tE W (tE W q)))
          obtain ⟨e1, e2⟩ := vl_r (lo := 1) (by decide) (by omega) c3
          have r80 : i3 80 = iv 80 := f3.1 80 (by decide)
          have x0 : i3 80 0 = nI (R 0) := by rw [r80]; exact p0
          have nm := num_m (y := vl W (tE W q)) (m := vl W (tE W (tE W q))) (d := vl W (tE W (tE W (tE W q)))) y1 (by omega) (by omega) m1 e1 (by omega)
          rw [G_72_18, Option.bind_some, Option.bind_some, z80_0, Option.bind_some, x0, G_72_17, Option.bind_some, d4 c3, lN_i, nm, Option.bind_some]
          generalize fdN (vl W (tE W q)) + smN (lpN (vl W (tE W q))) (vl W (tE W (tE W q))) + vl W (tE W (tE W (tE W q))) - 1 = n
          let iv4 : Nat → Nat → Int32 := up (up (up (up i3 80 (5 + R 0) (nI n)) 80 (13 + R 0) 0) 80 (21 + R 0) 0) 80 0 (nI (R 0 + 1))
          have f4 : MF2 i3 j3 iv4 j3 := (((MF2.w80 _ _ _ _).trans (MF2.w80 _ _ _ _)).trans (MF2.w80 _ _ _ _)).trans (MF2.w80 _ _ _ _)
          refine ⟨iv4, j3, ?_, f3.two.trans f4, ?_, q3, fun _ => ?_⟩
          · rw [lit_add 5 (R 0) (by decide), u_80 i3 j3 (by omega), Option.bind_some, G_72_18, Option.bind_some, Option.bind_some, z80_0, Option.bind_some, up_in _ _ (by omega), x0, lit_add 13 (R 0) (by decide), u_80 _ j3 (by omega), Option.bind_some, G_72_18, Option.bind_some, Option.bind_some, z80_0, Option.bind_some, up_in _ _ (by omega), up_in _ _ (by omega), x0, lit_add 21 (R 0) (by decide), u_80 _ j3 (by omega), Option.bind_some, G_72_18, Option.bind_some, z80_0, Option.bind_some, up_in _ _ (by omega), up_in _ _ (by omega), up_in _ _ (by omega), x0, nI_1, v80_0, Option.bind_some]
            rfl
          · exact d3.fr (by show up (up (up (up i3 80 _ _) 80 _ _) 80 _ _) 80 _ _ 72 = _; rw [up_ne _ _ _ (by decide), up_ne _ _ _ (by decide), up_ne _ _ _ (by decide), up_ne _ _ _ (by decide)])
          · refine dm_P (ρ := iv 80) hk hd (by omega) (fun i => ?_)
            show up (up (up (up i3 80 _ _) 80 _ _) 80 _ _) 80 _ _ 80 i = _
            rw [up_row, up_row, up_row, up_row, r80]
        · rw [if_neg c3, if_neg c3]
          exact ⟨i3, j3, rfl, f3.two, d3, q3, fun h => by cases h⟩
      · rw [if_neg c2, if_neg c2]
        exact ⟨i2, j2, rfl, f2.two, b3, q2, fun h => by cases h⟩
    · rw [if_neg c1, if_neg c1]
      exact ⟨i1, j1, rfl, a2.two, a3, q1, fun h => by cases h⟩
theorem m_gat (h2 : SB 1 73 iv W) {q : Nat} (hq : q ≤ W 2) (mt : MTk W iv jv q) (hk : Vkr R) (hd : DM iv R) : ∃ iv' jv', f_X11_readGate 72 (hpOf iv jv) = some (okI (gatN W R q).1, hpOf iv' jv') ∧ MOut W iv jv iv' jv' (gatN W R q) := by
  have k1 := hk.2.1
  have p1 : iv 80 1 = nI (R 1) := hd.2.1
  obtain ⟨-, q1, -⟩ := tE_b hq
  obtain ⟨-, q2, -⟩ := tE_b q1
  unfold f_X11_readGate gatN
  rw [G_72_18, Option.bind_some, z80_1, Option.bind_some, p1, ite4q k1]
  by_cases c8 : 4 ≤ R 1
  · rw [if_pos c8, if_pos c8]
    exact ⟨iv, jv, rfl, (MF.refl _ _).two, mt, hq, fun h => by cases h⟩
  · rw [if_neg c8, if_neg c8]
    obtain ⟨i1, j1, a1, a2, a3, a4⟩ := m_nq (jv := jv) h2 q1 mt.2.1 0 4
    rw [V_72, a1, Option.bind_some]
    dsimp only
    rw [okI_0]
    by_cases c1 : numQ W (tE W q) 0 4 = true
    · rw [if_pos c1, if_pos c1]
      have r80 : i1 80 = iv 80 := a2.1 80 (by decide)
      have x1 : i1 80 1 = nI (R 1) := by rw [r80]; exact p1
      have g1 : MF2 i1 j1 (up i1 80 (29 + R 1) (nI (vl W (tE W q)))) j1 := MF2.w80 _ _ _ _
      obtain ⟨i2, j2, b1, b2, b3, b4⟩ := m_nq (jv := j1) (iv := up i1 80 (29 + R 1) (nI (vl W (tE W q)))) ((a2.two.trans g1).sb h2) q2 (by rw [up_ne _ _ _ (by decide)]; exact a3.2.1) 1 8
      rw [G_72_18, Option.bind_some, Option.bind_some, z80_1, Option.bind_some, x1, G_72_17, Option.bind_some, a4 c1, lN_i, lit_add 29 (R 1) (by decide), u_80 i1 j1 (by omega), Option.bind_some, V_72, b1, Option.bind_some]
      dsimp only
      rw [okI_0]
      have f2 := (a2.two.trans g1).trans b2.two
      by_cases c2 : numQ W (tE W (tE W q)) 1 8 = true
      · rw [if_pos c2, if_pos c2]
        have s80 : i2 80 = up i1 80 (29 + R 1) (nI (vl W (tE W q))) 80 := b2.1 80 (by decide)
        have y1 : i2 80 1 = nI (R 1) := by rw [s80, up_in _ _ (by omega)]; exact x1
        let iv4 : Nat → Nat → Int32 := up (up i2 80 (33 + R 1) (nI (vl W (tE W (tE W q))))) 80 1 (nI (R 1 + 1))
        have f4 : MF2 i2 j2 iv4 j2 := (MF2.w80 _ _ _ _).trans (MF2.w80 _ _ _ _)
        refine ⟨iv4, j2, ?_, f2.trans f4, ?_, q2, fun _ => ?_⟩
        · rw [G_72_18, Option.bind_some, Option.bind_some, z80_1, Option.bind_some, y1, G_72_17, Option.bind_some, b4 c2, lN_i, lit_add 33 (R 1) (by decide), u_80 i2 j2 (by omega), Option.bind_some, G_72_18, Option.bind_some, z80_1, Option.bind_some, up_in _ _ (by omega), y1, nI_1, v80_1, Option.bind_some]
          rfl
        · exact b3.fr (by show up (up i2 80 _ _) 80 _ _ 72 = _; rw [up_ne _ _ _ (by decide), up_ne _ _ _ (by decide)])
        · refine dm_G (ρ := iv 80) hk hd (by omega) (fun i => ?_)
          show up (up i2 80 _ _) 80 _ _ 80 i = _
          rw [up_row, up_row, s80, up_row, r80]
      · rw [if_neg c2, if_neg c2]
        exact ⟨i2, j2, rfl, f2, b3, q2, fun h => by cases h⟩
    · rw [if_neg c1, if_neg c1]
      exact ⟨i1, j1, rfl, a2.two, a3, q1, fun h => by cases h⟩
theorem m_tieI (h2 : SB 1 73 iv W) {q : Nat} (hq : q ≤ W 2) (mt : MTk W iv jv q) (hk : Vkr R) (hd : DM iv R) {o : Nat} {x : Int32} (hx : x = nI o) (ho : o = 13 ∨ o = 21) : ∃ iv' jv', f_X11_readPair 72 x (hpOf iv jv) = some (okI (tieN W R o q).1, hpOf iv' jv') ∧ MOut W iv jv iv' jv' (tieN W R o q) := by
  have k0 := hk.1
  have p0 : iv 80 0 = nI (R 0) := hd.1
  obtain ⟨-, q1, -⟩ := tE_b hq
  obtain ⟨-, q2, -⟩ := tE_b q1
  unfold f_X11_readPair tieN
  obtain ⟨i1, j1, a1, a2, a3, a4⟩ := m_nq (jv := jv) h2 q1 mt.2.1 0 (nI (R 0) - 1)
  rw [G_72_18, Option.bind_some, z80_0, Option.bind_some, p0, V_72, a1, Option.bind_some]
  dsimp only
  rw [okI_0]
  by_cases c1 : numQ W (tE W q) 0 (nI (R 0) - 1) = true
  · rw [if_pos c1, if_pos c1]
    have r80 : i1 80 = iv 80 := a2.1 80 (by decide)
    have x0 : i1 80 0 = nI (R 0) := by rw [r80]; exact p0
    obtain ⟨i2, j2, b1, b2, b3, b4⟩ := m_nq (jv := j1) (a2.sb h2) q2 a3.2.1 0 (nI (R 0) - 1)
    rw [G_72_17, Option.bind_some, a4 c1, G_72_18, Option.bind_some, z80_0, Option.bind_some, x0, V_72, b1, Option.bind_some]
    dsimp only
    rw [okI_0]
    have f2 := a2.trans b2
    by_cases c2 : numQ W (tE W (tE W q)) 0 (nI (R 0) - 1) = true
    · have v1 := vl_p k0 c1
      have v2 := vl_p k0 c2
      have s80 : i2 80 = iv 80 := f2.1 80 (by decide)
      have ce : (lg_cmp (lN (vl W (tE W (tE W q)))) (lN (vl W (tE W q))) = 0) = (vl W (tE W (tE W q)) = vl W (tE W q)) := by rw [cmp_eq, lN_eq (by omega) (by omega)]
      rw [if_pos c2, if_pos c2, G_72_17, Option.bind_some, b4 c2, lN_i, nI_l (by omega)]
      by_cases c3 : vl W (tE W (tE W q)) = vl W (tE W q)
      · rw [if_pos (by rw [ce]; exact c3), if_pos c3]
        exact ⟨i2, j2, rfl, f2.two, b3, q2, fun h => by cases h⟩
      · rw [if_neg (by rw [ce]; exact c3), if_neg c3]
        have mm : ∀ i, i < R 0 → i2 80 (o + i) = nI (R (o + i)) ∧ R (o + i) < 256 := by
          intro i hi
          rw [s80]
          rcases ho with rfl | rfl
          · exact ⟨(hd.2.2.1 i hi).2.1, (hk.2.2.1 i hi).2.1⟩
          · exact ⟨(hd.2.2.1 i hi).2.2, (hk.2.2.1 i hi).2.2⟩
        let a := vl W (tE W q)
        let b := vl W (tE W (tE W q))
        let iv4 : Nat → Nat → Int32 := up (up i2 80 (o + a) (nI (R (o + a) ||| 2 ^ b))) 80 (o + b) (nI (R (o + b) ||| 2 ^ a))
        have f4 : MF2 i2 j2 iv4 j2 := (MF2.w80 _ _ _ _).trans (MF2.w80 _ _ _ _)
        refine ⟨iv4, j2, ?_, f2.two.trans f4, ?_, q2, fun _ => ?_⟩
        · rw [G_72_18, Option.bind_some, lit_add o _ hx, a_80 i2 j2 (by omega), Option.bind_some, (mm a v1).1, Option.bind_some, lN_i, iL_n (by omega), nx_or, u_80 i2 j2 (by omega), Option.bind_some, G_72_18, Option.bind_some, G_72_17, Option.bind_some, b4 c2, lN_i, lit_add o _ hx, a_80 _ j2 (by omega), Option.bind_some, up_in _ _ (by omega), (mm b v2).1, iL_n (by omega), nx_or, u_80 _ j2 (by omega), Option.bind_some]
          rfl
        · exact b3.fr (by show up (up i2 80 _ _) 80 _ _ 72 = _; rw [up_ne _ _ _ (by decide), up_ne _ _ _ (by decide)])
        · refine dm_T (ρ := iv 80) hk hd ho v1 v2 c3 (fun i => ?_)
          show up (up i2 80 _ _) 80 _ _ 80 i = _
          rw [up_row, up_row, s80]
    · rw [if_neg c2, if_neg c2]
      exact ⟨i2, j2, rfl, f2.two, b3, q2, fun h => by cases h⟩
  · rw [if_neg c1, if_neg c1]
    exact ⟨i1, j1, rfl, a2.two, a3, q1, fun h => by cases h⟩
end IM
