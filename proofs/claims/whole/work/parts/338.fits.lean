/-! FITS, UNTOLD: the calls -/
section FC
variable {iv : Nat → Nat → Int32} {jv : Nat → Nat → Int64} {Y : Nat → Nat}
theorem wc_00 (hk : Vkp Y) : wcN Y 0 0 = 0 := cq_0 _ _ (fun j _ hj => by
  have := (hk.2.2 j (by omega)).1
  unfold wdB
  rw [decide_eq_false (show ¬ Y (47 + 3 * j) < 2 ^ 0 by rw [Nat.pow_zero]; omega)]; rfl)
theorem q5_fit (Y : Nat → Nat) (fr : Nat) (n a : Nat) : cq (qfB Y 5 fr) n a = cq (fitN Y) n a := cq_c _ _ (fun x _ _ => by
  unfold qfB fxB
  rw [decide_eq_true (Nat.le_refl 5)]; simp)
theorem fits_le (Y : Nat → Nat) : fitsN Y ≤ 100000 := by rw [fits_cq]; exact cq_le _ _ _
theorem c_all (h3 : SP 1 73 iv Y) : ∃ iv', f_X2_countAll 68 (hpOf iv jv) = some (nI (fitsN Y), hpOf iv' jv) ∧ (∀ k, k ≠ 13 → (k < 68 ∨ 71 < k) → iv' k = iv k) ∧ (∀ i, i ≠ 2 → iv' 13 i = iv 13 i) ∧ iv' 13 2 = nI (fitsN Y) := by
  have fl := fits_le Y
  have gen : iv 13 2 = -1 → ∃ iv', f_X2_countAll 68 (hpOf iv jv) = some (nI (fitsN Y), hpOf iv' jv) ∧ (∀ k, k ≠ 13 → (k < 68 ∨ 71 < k) → iv' k = iv k) ∧ (∀ i, i ≠ 2 → iv' 13 i = iv 13 i) ∧ iv' 13 2 = nI (fitsN Y) := by
    intro z
    obtain ⟨iv1, e1, e2, e3, e4, e5⟩ := c_begin (jv := jv) h3 (-1) (-1)
    have s1 : Scr iv jv iv1 jv := scr_fr (fun k hk => e2 k (by omega) (by omega))
    have st : FST Y 5 0 0 0 iv1 := by
      refine ⟨s1.sp h3, fun i hi => absurd hi (Nat.not_lt_zero _), e5, fun o ho => ?_, fun h => absurd h (by decide)⟩
      rw [e3]
      exact ⟨fun h => absurd h (nI_n1 (by omega)), fun h => by omega⟩
    obtain ⟨iv2, g1, g2⟩ := c_cf (jv := jv) 5 0 7 rfl (by decide) 0 0 iv1 (by decide) (by decide) st (wc_00 h3.1).symm (fun h => by omega)
    rw [q5_fit, nI_0, show (10 : Nat) ^ 5 = 100000 by decide, ← fits_cq] at g1
    refine ⟨up iv2 13 2 (nI (fitsN Y)), ?_, fun k a b => by rw [up_ne _ _ _ a, g2.1 k (by omega) (by omega), e2 k (by omega) (by omega)], fun i hi => by rw [up_in _ _ hi, g2.1 13 (by decide) (by decide), e2 13 (by decide) (by decide)], up_at _ _ _ _⟩
    unfold f_X2_countAll
    rw [G_68_0, Option.bind_some, G_13_2, Option.bind_some, z, if_pos rfl, V_68, e1, Option.bind_some, G_68_0, Option.bind_some, V_68, g1, Option.bind_some]
    dsimp only
    rw [S_13_2, Option.bind_some, G_68_0, Option.bind_some, G_13_2, Option.bind_some, up_at]
  rcases h3.2.1.1.2.2 with z | z
  · exact gen z
  · have z' : iv 13 2 = nI (fitsN Y) := z
    refine ⟨iv, ?_, fun _ _ _ => rfl, fun _ _ => rfl, z'⟩
    unfold f_X2_countAll
    rw [G_68_0, Option.bind_some, G_13_2, Option.bind_some, z', if_neg (nI_n1 (by omega)), Option.bind_some, G_13_2, Option.bind_some, z']
theorem sp_all {iv' : Nat → Nat → Int32} (h3 : SP 1 73 iv Y) (e : ∀ k, k ≠ 13 → (k < 68 ∨ 71 < k) → iv' k = iv k) (e1 : ∀ i, i ≠ 2 → iv' 13 i = iv 13 i) (e2 : iv' 13 2 = nI (fitsN Y)) : SP 1 73 iv' Y := by
  obtain ⟨k1, ⟨⟨p3, p4, -⟩, pp, pz⟩, mm⟩ := h3
  refine ⟨k1, ⟨⟨?_, ?_, Or.inr e2⟩, fun j hj => ?_, fun j hj => ?_⟩, ?_⟩
  · show iv' 13 0 = _; rw [e1 0 (by decide)]; exact p3
  · show iv' 13 1 = _; rw [e1 1 (by decide)]; exact p4
  · show iv' 14 j = _ ∧ iv' 15 j = _ ∧ iv' 16 j = _; rw [e 14 (by decide) (by decide), e 15 (by decide) (by decide), e 16 (by decide) (by decide)]; exact pp j hj
  · show iv' 16 j = 0 ∨ iv' 16 j = 1; rw [e 16 (by decide) (by decide)]; exact pz j hj
  · rw [e 73 (by decide) (by decide)]; exact mm
theorem c_with (h3 : SP 1 73 iv Y) {one r : Nat} (h1 : one < 5) (hr : r < 10) : ∃ iv', f_X2_countWith 68 (nI one) (nI r) (hpOf iv jv) = some (nI (cq (qfB Y one r) 100000 0), hpOf iv' jv) ∧ (∀ k, (k < 68 ∨ 71 < k) → iv' k = iv k) := by
  obtain ⟨iv1, e1, e2, e3, e4, e5⟩ := c_begin (jv := jv) h3 (nI one) (nI r)
  have s1 : Scr iv jv iv1 jv := scr_fr (fun k hk => e2 k (by omega) (by omega))
  have st : FST Y one r 0 0 iv1 := by
    refine ⟨s1.sp h3, fun i hi => absurd hi (Nat.not_lt_zero _), e5, fun o ho => ?_, fun h => ⟨e4, hr⟩⟩
    rw [e3, nI_eq (by omega) (by omega)]
  obtain ⟨iv2, g1, g2⟩ := c_cf (jv := jv) 5 0 7 rfl (by decide) 0 0 iv1 (by decide) (by decide) st (wc_00 h3.1).symm (fun h => by omega)
  rw [nI_0, show (10 : Nat) ^ 5 = 100000 by decide] at g1
  refine ⟨iv2, ?_, fun k a => by rw [g2.1 k (by omega) (by omega), e2 k (by omega) (by omega)]⟩
  unfold f_X2_countWith
  rw [V_68, e1, Option.bind_some, V_68, g1, Option.bind_some]
theorem c_pk2 {m k o a p w : Nat} (k16 : Nat → Int32 → Int32 → Int32 → Int32 → PH → Option (Int32 × PH)) (e : o + k = 4) (ha : a % 10 ^ (k + 1) = 0) (hb : a + 10 ^ (k + 1) ≤ 100000) (hw : w = wcN Y a o) : ∀ (jj N r s : Nat) (iv : Nat → Nat → Int32), r + jj = 9 → FST Y 5 0 a o iv → WRo Y a o iv → iv 69 o = nI r → s < csum (fun r => cq (fitN Y) (10 ^ k) (a + r * 10 ^ k)) (10 - r) r → cq (fitN Y) (a + r * 10 ^ k) 0 + s = m → ∃ r' s' iv', f_X2_pick_L42 k16 (N + jj + 1) 68 (nI s) (nI w) (nI p) (nI o) (nI r) (nI (cq (fitN Y) (10 ^ k) (a + r * 10 ^ k))) (hpOf iv jv) = f_X2_pick_J77 k16 68 (nI s') (nI w) (nI p) (nI o) (nI r') (hpOf iv' jv) ∧ FRo o iv iv' ∧ WRo Y a o iv' ∧ iv' 69 o = nI r' ∧ r' < 10 ∧ s' < cq (fitN Y) (10 ^ k) (a + r' * 10 ^ k) ∧ cq (fitN Y) (a + r' * 10 ^ k) 0 + s' = m := by
  have pk : 10 ^ k ≤ 10000 := by
    rcases (show k = 0 ∨ k = 1 ∨ k = 2 ∨ k = 3 ∨ k = 4 by omega) with rfl | rfl | rfl | rfl | rfl <;> decide
  intro jj
  induction jj with
  | zero =>
    intro N r s iv er hs hwr h69 hlt hm
    have e9 : r = 9 := by omega
    subst e9
    refine ⟨9, s, iv, ?_, FRo.refl _ _, hwr, h69, by decide, ?_, hm⟩
    · rw [f_X2_pick_L42, if_pos (by decide)]
    · simpa [csum] using hlt
  | succ jj ih =>
    intro N r s iv er hs hwr h69 hlt hm
    have gl := cq_le (fitN Y) (10 ^ k) (a + r * 10 ^ k)
    have sl : s < 200000 := by
      have := cq_le (fitN Y) 
      have h1 : csum (fun r => cq (fitN Y) (10 ^ k) (a + r * 10 ^ k)) (10 - r) r ≤ (10 - r) * 10000 := by
        have key : ∀ j r, csum (fun r => cq (fitN Y) (10 ^ k) (a + r * 10 ^ k)) j r ≤ j * 10000 := by
          intro j
          induction j with
          | zero => intro r; exact Nat.zero_le _
          | succ j ih2 =>
            intro r
            have h2 := ih2 (r + 1)
            have h3 := cq_le (fitN Y) (10 ^ k) (a + r * 10 ^ k)
            rw [csum]
            omega
        exact key _ _
      omega
    rw [show N + (jj + 1) + 1 = (N + jj + 1) + 1 by omega, f_X2_pick_L42, show (9 : Int32) = nI 9 by decide, iteE (by omega) (by omega), if_neg (by omega), iteL (by omega) (by omega)]
    by_cases c : s < cq (fitN Y) (10 ^ k) (a + r * 10 ^ k)
    · rw [if_pos c]
      exact ⟨r, s, iv, rfl, FRo.refl _ _, hwr, h69, by omega, c, hm⟩
    · rw [if_neg c]
      obtain ⟨iv1, e1, e2, e3, e4⟩ := c_cb (jv := jv) (c_cf k (o + 1) 7 (by omega) (by omega)) e ha hb hs hw (fun h => by omega) (r := r + 1) (by omega) (fun h => by omega) hwr
      rw [q5_fit] at e1
      have wr1 : WRo Y a o iv1 := fun t ht => by rw [e3 _ (by omega)]; exact hwr t ht
      have hlt' : s - cq (fitN Y) (10 ^ k) (a + r * 10 ^ k) < csum (fun r => cq (fitN Y) (10 ^ k) (a + r * 10 ^ k)) (10 - (r + 1)) (r + 1) := by
        rw [show 10 - r = (10 - (r + 1)) + 1 by omega, csum] at hlt
        omega
      have hm' : cq (fitN Y) (a + (r + 1) * 10 ^ k) 0 + (s - cq (fitN Y) (10 ^ k) (a + r * 10 ^ k)) = m := by
        rw [show a + (r + 1) * 10 ^ k = (a + r * 10 ^ k) + 10 ^ k by rw [Nat.succ_mul]; omega, cq_add, Nat.zero_add]
        omega
      obtain ⟨r', s', iv2, g1, g2, g3, g4, g5, g6, g7⟩ := ih N (r + 1) (s - cq (fitN Y) (10 ^ k) (a + r * 10 ^ k)) iv1 (by omega) (hs.fr e2) wr1 e4 hlt' hm'
      refine ⟨r', s', iv2, ?_, e2.trans g2, g3, g4, g5, g6, g7⟩
      rw [nI_1, V_68, e1, Option.bind_some]
      dsimp only
      rw [pk_sub (by omega)]
      exact g1
theorem c_pk1 {m : Nat} : ∀ (k N o a s p : Nat) (iv : Nat → Nat → Int32), o + k = 5 → k < N → a % 10 ^ k = 0 → a + 10 ^ k ≤ 100000 → a = p * 10 ^ k → FST Y 5 0 a o iv → s < cq (fitN Y) (10 ^ k) a → cq (fitN Y) a 0 + s = m → ∃ x iv', f_X2_pick_L16 N 68 (nI s) (nI (wcN Y a o)) (nI p) (nI o) (hpOf iv jv) = some (nI x, hpOf iv' jv) ∧ fitN Y x = true ∧ cq (fitN Y) x 0 = m ∧ ∀ c, c ≠ 69 → c ≠ 71 → iv' c = iv c := by
  intro k
  induction k with
  | zero =>
    intro N o a s p iv e hN ha hb hp hs hlt hm
    obtain ⟨N, rfl⟩ : ∃ M, N = M + 1 := ⟨N - 1, by omega⟩
    have eo : o = 5 := by omega
    subst eo
    rw [Nat.pow_zero, Nat.mul_one] at hp
    rw [Nat.pow_zero, cq, cq] at hlt
    refine ⟨p, iv, ?_, ?_, ?_, fun _ _ _ => rfl⟩
    · rw [f_X2_pick_L16, if_pos (by decide)]
    · cases q : fitN Y a
      · rw [q] at hlt; exact absurd hlt (Nat.not_lt_zero _)
      · rw [← hp]; exact q
    · rw [← hp]
      have : s = 0 := by split at hlt <;> omega
      omega
  | succ k ih =>
    intro N o a s p iv e hN ha hb hp hs hlt hm
    obtain ⟨N, rfl⟩ : ∃ M, N = M + 1 := ⟨N - 1, by omega⟩
    have pk := Nat.pow_pos (n := k) (show 0 < 10 by decide)
    obtain ⟨iv1, e1, e2, e3, e4⟩ := c_wf (jv := jv) (o := o) (by omega) hs.1 hs.2.1
    have f1 : FRo o iv iv1 := ⟨fun c _ h => e2 c h, fun i _ => by rw [e2 69 (by decide)], fun i hi => e3 i (by omega)⟩
    obtain ⟨iv2, b1, b2, b3, b4⟩ := c_cb (jv := jv) (c_cf k (o + 1) 7 (by omega) (by omega)) (by omega) ha hb (hs.fr f1) rfl (fun h => by omega) (r := 0) (by decide) (fun h => by omega) e4
    rw [q5_fit, nI_0] at b1
    have f2 := f1.trans b2
    have wr2 : WRo Y a o iv2 := fun t ht => by rw [b3 _ (by omega)]; exact e4 t ht
    rw [cq_10] at hlt
    obtain ⟨r, s', iv3, g1, g2, g3, g4, g5, g6, g7⟩ := c_pk2 (jv := jv) (m := m) (p := p) (f_X2_pick_L16 N) (by omega) ha hb rfl 9 (199999 - 9) 0 s iv2 rfl (hs.fr f2) wr2 b4 hlt (by rw [Nat.zero_mul, Nat.add_zero]; exact hm)
    have f3 := f2.trans g2
    obtain ⟨s1, s2, s3⟩ := sub_ok (r := r) (by omega) ha hb g5
    have lo : ∀ i, i < o → figN (a + r * 10 ^ k) i = figN a i := fun i hi => fig_low ha (by omega) (by omega) (by omega)
    have at_ : figN (a + r * 10 ^ k) o = r := fig_at (by omega) ha g5 (Nat.le_refl _) (by omega)
    obtain ⟨t1, t2, t3, t4⟩ := hs.fr f3
    have ws := wc_step hs.1.1 (by omega) g5 lo at_
    have st : FST Y 5 0 (a + r * 10 ^ k) (o + 1) iv3 := by
      refine ⟨t1, fun i hi => ?_, t3, t4⟩
      by_cases c : i = o
      · rw [c, g4, at_]
      · rw [t2 i (by omega), lo i (by omega)]
    obtain ⟨x, iv4, x1, x2, x3, x4⟩ := ih N (o + 1) (a + r * 10 ^ k) s' (10 * p + r) iv3 (by omega) (by omega) s1 s2 (by rw [hp, p10, Nat.add_mul, ← Nat.mul_assoc, Nat.mul_comm p 10]) st g6 g7
    refine ⟨x, iv4, ?_, x2, x3, fun c h1 h2 => by rw [x4 c h1 h2, f3.1 c h1 h2]⟩
    rw [f_X2_pick_L16, show (5 : Int32) = nI 5 by decide, iteE (by omega) (by omega), if_neg (by omega), V_68, e1, Option.bind_some, V_68, b1, Option.bind_some]
    dsimp only
    rw [show f_X2_pick_L42 (f_X2_pick_L16 N) NN 68 (nI s) (nI (wcN Y a o)) (nI p) (nI o) 0 (nI (cq (fitN Y) (10 ^ k) (a + 0 * 10 ^ k))) (hpOf iv2 jv) = _ from g1, f_X2_pick_J77, G_68_3, Option.bind_some, show nI o * 10 = nI (o * 10) from pk_mul o 10, nI_add, a_71 _ jv (by omega), Option.bind_some, Nat.mul_comm o 10, g3 r g5, nI_add, ← ws, show (10 : Int32) * nI p = nI (10 * p) from pk_mul 10 p, nI_add, nI_1]
    exact x1
theorem c_pick (h3 : SP 1 73 iv Y) {m : Nat} (hm : m < fitsN Y) : ∃ x iv', f_X2_pick 68 (nI m) (hpOf iv jv) = some (nI x, hpOf iv' jv) ∧ fitN Y x = true ∧ cq (fitN Y) x 0 = m ∧ ∀ k, (k < 68 ∨ 71 < k) → iv' k = iv k := by
  obtain ⟨iv1, e1, e2, e3, e4, e5⟩ := c_begin (jv := jv) h3 (-1) (-1)
  have s1 : Scr iv jv iv1 jv := scr_fr (fun k hk => e2 k (by omega) (by omega))
  have st : FST Y 5 0 0 0 iv1 := by
    refine ⟨s1.sp h3, fun i hi => absurd hi (Nat.not_lt_zero _), e5, fun o ho => ?_, fun h => absurd h (by decide)⟩
    rw [e3]
    exact ⟨fun h => absurd h (nI_n1 (by omega)), fun h => by omega⟩
  obtain ⟨x, iv2, g1, g2, g3, g4⟩ := c_pk1 (jv := jv) (m := m) 5 NN 0 0 m 0 iv1 rfl (show 5 < 200000 by decide) (by decide) (by decide) rfl st (by rw [fits_cq] at hm; exact hm) (by rw [cq, Nat.zero_add])
  refine ⟨x, iv2, ?_, g2, g3, fun k a => by rw [g4 k (by omega) (by omega), e2 k (by omega) (by omega)]⟩
  rw [wc_00 h3.1, nI_0] at g1
  unfold f_X2_pick
  rw [V_68, e1, Option.bind_some]
  exact g1
end FC
theorem m1_le {a : Int32} (h : (-1 : Int32) ≤ a) : a = -1 ∨ ¬ a < 0 := by
  by_cases c : a < 0
  · refine Or.inl (Int32.toInt_inj.mp ?_)
    rw [Int32.lt_iff_toInt_lt] at c
    rw [Int32.le_iff_toInt_le] at h
    have e1 : (-1 : Int32).toInt = -1 := by decide
    have e0 : (0 : Int32).toInt = 0 := by decide
    rw [e1] at h ⊢
    rw [e0] at c
    omega
  · exact Or.inr c
theorem inv_all {iv iv' : Nat → Nat → Int32} {jv : Nat → Nat → Int64} {V W Y : Nat → Nat} (h1 : SR 1 73 iv V) (h2 : SB 1 73 iv W) (h4 : Rst iv jv) (h3 : SP 1 73 iv' Y) (e : ∀ k, k ≠ 13 → (k < 68 ∨ 71 < k) → iv' k = iv k) : SR 1 73 iv' V ∧ SB 1 73 iv' W ∧ SP 1 73 iv' Y ∧ Rst iv' jv :=
  ⟨h1.rows (fun k _ _ => e k (by omega) (by omega)) (fun i _ => by rw [e 73 (by decide) (by decide)]), h2.rows (fun k _ _ => e k (by omega) (by omega)) (fun i _ => by rw [e 73 (by decide) (by decide)]), h3, h4.rows (fun k hk => e k (by omega) (by omega)) (by rw [e 72 (by decide) (by decide)]) (by rw [e 72 (by decide) (by decide)]) rfl rfl⟩
theorem op_fits (a : Int32) : OpOK (f_X10_fits 0 a) (f_X11_fits 72 a) := by
  rintro hp ⟨iv, jv, V, W, Y, rfl, h1, h2, h3, h4⟩
  by_cases c : (-1 : Int32) ≤ a
  · have fl := fits_le Y
    obtain ⟨iv1, e1, e2, e3, e4⟩ := c_all (jv := jv) h3
    obtain ⟨q1, q2, q3, q4⟩ := inv_all h1 h2 h4 (sp_all h3 e2 e3 e4) e2
    have cl : ∀ iv' : Nat → Nat → Int32, SP 1 73 iv' Y → f_X11_fits 72 a (hpOf iv' jv) = some (fiF (fitN Y) a 100000 0 0, hpOf iv' jv) := fun iv' h => by
      unfold f_X11_fits
      rw [if_pos c, m_fits h]
    have head : f_X10_fits 0 a (hpOf iv jv) = (if a = (-1) then (some (nI (fitsN Y), hpOf iv1 jv)) else (if nI (fitsN Y) ≤ a then (some ((-5), hpOf iv1 jv)) else (vC (hpOf iv1 jv) 68 1 (f_X2_pick 68 a (hpOf iv1 jv))).bind fun q4 => (some (q4.1, q4.2)))) := by
      unfold f_X10_fits
      rw [if_pos c, G_0_8, Option.bind_some, V_68, e1, Option.bind_some]
      dsimp only
      rw [G_0_8, Option.bind_some]
    rcases m1_le c with rfl | g
    · refine ⟨nI (fitsN Y), iv1, jv, hpOf iv1 jv, ?_, ?_, ⟨iv1, jv, V, W, Y, rfl, q1, q2, q3, q4⟩⟩
      · rw [head, if_pos rfl]
      · rw [cl iv1 q3, fi_none _ _ _ _ (by decide), Nat.zero_add, fits_cq]
    · obtain ⟨m, hm, rfl⟩ := nI_of g
      rw [if_neg (nI_n1 hm), iteE (by omega) hm] at head
      have fs := fi_some (fitN Y) hm 100000 0 0 (Nat.zero_le _) (by decide)
      by_cases c2 : fitsN Y ≤ m
      · refine ⟨-5, iv1, jv, hpOf iv1 jv, by rw [head, if_pos c2], ?_, ⟨iv1, jv, V, W, Y, rfl, q1, q2, q3, q4⟩⟩
        rw [cl iv1 q3]
        rcases fs with ⟨x1, x2⟩ | ⟨x, x1, x2, x3, x4, x5⟩
        · rw [x2]
        · exfalso
          rw [fits_cq, show 100000 = x + (1 + (100000 - x - 1)) by omega, cq_add, cq_add, Nat.zero_add, cq, if_pos x3] at c2
          rw [Nat.sub_zero] at x4
          omega
      · obtain ⟨x, iv2, g1, g2, g3, g4⟩ := c_pick (jv := jv) q3 (m := m) (by omega)
        have s2 : Scr iv1 jv iv2 jv := scr_fr (fun k hk => g4 k (by omega))
        refine ⟨nI x, iv2, jv, hpOf iv2 jv, ?_, ?_, s2.inv q1 q2 q3 q4⟩
        · rw [head, if_neg c2, V_68, g1, Option.bind_some]
        · rw [cl iv2 (s2.sp q3)]
          rcases fs with ⟨x1, x2⟩ | ⟨y, x1, x2, x3, x4, x5⟩
          · rw [Nat.zero_add, ← fits_cq] at x1; omega
          · rw [x5, ith_u g2 x3 (by rw [g3]; rw [Nat.sub_zero] at x4; omega)]
  · refine both_bad h1 h2 h3 h4 (t := -10) ?_ (fun iv' _ => ?_)
    · unfold f_X10_fits
      rw [if_neg c, V_0, c_refAs, Option.bind_some]
    · unfold f_X11_fits
      rw [if_neg c, V_72, m_bad, Option.bind_some]
