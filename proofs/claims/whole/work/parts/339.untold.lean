/-! UNTOLD -/
theorem gcd_st {a b : Nat} : Nat.gcd b (a % b) = Nat.gcd a b := by
  rw [Nat.gcd_comm a b, Nat.gcd_rec b a, Nat.gcd_comm]
theorem prod_half {a b n : Nat} (h : a * b < 2 ^ (n + 1)) (hb : b ≤ a) (h0 : b ≠ 0) : b * (a % b) < 2 ^ n := by
  have h1 := Nat.mod_lt a (show 0 < b by omega)
  have h2 := Nat.div_add_mod a b
  have h3 : 1 ≤ a / b := (Nat.le_div_iff_mul_le (by omega)).mpr (by omega)
  have h4 : b * 1 ≤ b * (a / b) := Nat.mul_le_mul_left b h3
  have h5 : 2 * (a % b) ≤ a := by omega
  have h6 : b * (2 * (a % b)) ≤ b * a := Nat.mul_le_mul_left b h5
  rw [Nat.mul_left_comm] at h6
  rw [Nat.mul_comm b a] at h6
  rw [Nat.pow_succ] at h
  omega
theorem rm_n {a b : Nat} (ha : a < 2 ^ 31) (hb : b < 2 ^ 31) (h0 : b ≠ 0) : rmI (nI a) (nI b) = some (nI (a % b)) := by
  unfold rmI
  rw [if_neg (nI_ne0 (by omega) hb), rem_n ha (by omega) hb]
theorem dv_n {a b : Nat} (ha : a < 2 ^ 31) (hb : b < 2 ^ 31) (h0 : b ≠ 0) : dvI (nI a) (nI b) = some (nI (a / b)) := by
  unfold dvI
  rw [if_neg (nI_ne0 (by omega) hb), pk_div ha (by omega) hb]
theorem c_gcd {hp : PH} {x y : Int32} : ∀ n N a b st, a * b < 2 ^ n → b ≤ a → a ≤ 100000 → 1 ≤ a → n + st ≤ 64 → n < N → f_X10_setFraction_L8 N 0 x y (nI a) (nI b) (nI st) hp = f_X10_setFraction_J39 0 x y (nI (Nat.gcd a b)) hp := by
  intro n
  induction n with
  | zero =>
    intro N a b st h hb ha h1 hst hN
    obtain ⟨N, rfl⟩ : ∃ M, N = M + 1 := ⟨N - 1, by omega⟩
    have b0 : b = 0 := by
      rcases Nat.eq_zero_or_pos b with z | z
      · exact z
      · have := Nat.mul_pos (show 0 < a by omega) z
        rw [Nat.pow_zero] at h; omega
    subst b0
    rw [f_X10_setFraction_L8, nI_0, if_pos (rfl : (0 : Int32) = 0), Nat.gcd_zero_right]
    split <;> rfl
  | succ n ih =>
    intro N a b st h hb ha h1 hst hN
    obtain ⟨N, rfl⟩ : ∃ M, N = M + 1 := ⟨N - 1, by omega⟩
    by_cases b0 : b = 0
    · subst b0
      rw [f_X10_setFraction_L8, nI_0, if_pos (rfl : (0 : Int32) = 0), Nat.gcd_zero_right]
      split <;> rfl
    · have h2 := Nat.mod_lt a (show 0 < b by omega)
      rw [f_X10_setFraction_L8, show (64 : Int32) = nI 64 by decide, iteE (by omega) (by omega), if_neg (by omega), if_neg (nI_ne0 (by omega) (by omega)), rm_n (by omega) (by omega) b0, Option.bind_some, nI_1, ih N b (a % b) (st + 1) (prod_half h hb b0) (by omega) (by omega) (by omega) (by omega) (by omega), gcd_st]
theorem m_gcd {hp : PH} {x y : Int32} : ∀ n N a b, a * b < 2 ^ n → b ≤ a → a ≤ 100000 → 1 ≤ a → n < N → f_X11_untold_L101 N 72 x y (nI a) (nI b) hp = f_X11_untold_L101 1 72 x y (nI (Nat.gcd a b)) 0 hp := by
  intro n
  induction n with
  | zero =>
    intro N a b h hb ha h1 hN
    obtain ⟨N, rfl⟩ : ∃ M, N = M + 1 := ⟨N - 1, by omega⟩
    have b0 : b = 0 := by
      rcases Nat.eq_zero_or_pos b with z | z
      · exact z
      · have := Nat.mul_pos (show 0 < a by omega) z
        rw [Nat.pow_zero] at h; omega
    subst b0
    rw [f_X11_untold_L101, f_X11_untold_L101, nI_0, if_pos (rfl : (0 : Int32) = 0), if_pos (rfl : (0 : Int32) = 0), Nat.gcd_zero_right]
  | succ n ih =>
    intro N a b h hb ha h1 hN
    obtain ⟨N, rfl⟩ : ∃ M, N = M + 1 := ⟨N - 1, by omega⟩
    by_cases b0 : b = 0
    · subst b0
      rw [f_X11_untold_L101, f_X11_untold_L101, nI_0, if_pos (rfl : (0 : Int32) = 0), if_pos (rfl : (0 : Int32) = 0), Nat.gcd_zero_right]
    · have h2 := Nat.mod_lt a (show 0 < b by omega)
      have e : f_X11_untold_L101 (N + 1) 72 x y (nI a) (nI b) hp = f_X11_untold_L101 N 72 x y (nI b) (nI (a % b)) hp := by
        rw [f_X11_untold_L101, if_neg (nI_ne0 (by omega) (by omega)), rm_n (by omega) (by omega) b0, Option.bind_some]
      rw [e, ih N b (a % b) (prod_half h hb b0) (by omega) (by omega) (by omega) (by omega), gcd_st]
section UN
variable {iv : Nat → Nat → Int32} {jv : Nat → Nat → Int64} {Y : Nat → Nat}
theorem m_unL (h3 : SP 1 73 iv Y) {one r : Nat} (h1 : one < 5) (hr : r < 10) : ∀ (j N x y c : Nat), c + j = 100000 → f_X11_untold_L39 (N + j + 1) 72 (nI one) (nI r) (nI x) (nI y) (nI c) (hpOf iv jv) = f_X11_untold_L39 1 72 (nI one) (nI r) (nI (x + cq (fitN Y) j c)) (nI (y + cq (qfB Y one r) j c)) 100000 (hpOf iv jv) := by
  intro j
  induction j with
  | zero =>
    intro N x y c e
    have ec : c = 100000 := by omega
    subst ec
    rw [f_X11_untold_L39, f_X11_untold_L39, show nI 100000 = 100000 by decide, if_pos (show (100000 : Int32) ≤ 100000 by decide), if_pos (show (100000 : Int32) ≤ 100000 by decide), cq, cq, Nat.add_zero, Nat.add_zero]
  | succ j ih =>
    intro N x y c e
    have fl := fig_lt c one
    have st : f_X11_untold_L39 (N + j + 1 + 1) 72 (nI one) (nI r) (nI x) (nI y) (nI c) (hpOf iv jv) = f_X11_untold_L39 (N + j + 1) 72 (nI one) (nI r) (nI (x + if fitN Y c then 1 else 0)) (nI (y + if qfB Y one r c then 1 else 0)) (nI (c + 1)) (hpOf iv jv) := by
      have qe : qfB Y one r c = (fitN Y c && figN c one == r) := by
        unfold qfB fxB
        rw [decide_eq_false (show ¬ 5 ≤ one by omega), Bool.false_or]
      rw [f_X11_untold_L39, show (100000 : Int32) = nI 100000 by decide, iteE (by omega) (by omega), if_neg (by omega), V_72, m_fit h3 (by omega), Option.bind_some, fig_m (by omega) h1, Option.bind_some, iteQ (by omega) (by omega), nI_1, nI_1, nI_1, show nI y + 0 = nI (y + 0) from nI_add y 0, qe]
      cases fitN Y c
      · rw [if_neg Bool.false_ne_true, if_pos rfl]; rfl
      · rw [if_pos rfl, if_neg (by decide)]
        by_cases q : figN c one = r
        · rw [if_pos q, q, beq_self_eq_true]; rfl
        · rw [if_neg q, show (figN c one == r) = false by simp [q]]; rfl
    rw [show N + (j + 1) + 1 = N + j + 1 + 1 by omega, st, ih N _ _ (c + 1) (by omega), cq, cq, Nat.add_assoc, Nat.add_assoc]
end UN
theorem op_untold (a b : Int32) : OpOK (f_X10_untold 0 a b) (f_X11_untold 72 a b) := by
  rintro hp ⟨iv, jv, V, W, Y, rfl, h1, h2, h3, h4⟩
  by_cases ca : 0 ≤ a ∧ a ≤ 4
  · by_cases cb : 0 ≤ b ∧ b ≤ 9
    · obtain ⟨one, h1', rfl⟩ := in01 (hi := 4) (by decide) ca
      obtain ⟨r, hr', rfl⟩ := in01 (hi := 9) (by decide) cb
      have g1 : ¬ nI one < 0 := Int32.not_lt.mpr ca.1
      have g2 : ¬ (5 : Int32) ≤ nI one := by rw [show (5 : Int32) = nI 5 by decide, nI_leI (by omega) (by omega)]; omega
      have g3 : ¬ nI r < 0 := Int32.not_lt.mpr cb.1
      have i1 : f_X11_in (nI one).toInt64 0 4 = 1 := by rw [f_in (nI one) 0 4 (LO := 0) (HI := 4) (by decide) (by decide), if_pos ca]
      have i2 : f_X11_in (nI r).toInt64 0 9 = 1 := by rw [f_in (nI r) 0 9 (LO := 0) (HI := 9) (by decide) (by decide), if_pos cb]
      have fl := fits_le Y
      obtain ⟨iv1, e1, e2, e3, e4⟩ := c_all (jv := jv) h3
      obtain ⟨q1, q2, q3, q4⟩ := inv_all h1 h2 h4 (sp_all h3 e2 e3 e4) e2
      have head : f_X11_untold 72 (nI one) (nI r) = f_X11_untold_L39 NN 72 (nI one) (nI r) 0 0 0 := by
        funext hp
        unfold f_X11_untold
        rw [i1, if_neg (by decide), i2, if_neg (by decide)]
      have hm : ∀ iv' : Nat → Nat → Int32, SP 1 73 iv' Y → f_X11_untold 72 (nI one) (nI r) (hpOf iv' jv) = f_X11_untold_L39 1 72 (nI one) (nI r) (nI (fitsN Y)) (nI (cq (qfB Y one r) 100000 0)) 100000 (hpOf iv' jv) := by
        intro iv' h
        have := m_unL (jv := jv) h (one := one) (r := r) (by omega) (by omega) 100000 99999 0 0 0 rfl
        rw [Nat.zero_add, Nat.zero_add, ← fits_cq] at this
        rw [head]; exact this
      have ce : f_X10_untold 0 (nI one) (nI r) (hpOf iv jv) = (if nI (fitsN Y) = 0 then (vC (hpOf iv1 jv) 0 9 (f_X10_refuse 0 (-3) (hpOf iv1 jv))).bind fun q9 => (some (q9.1, q9.2)) else (vC (hpOf iv1 jv) 68 1 (f_X2_countWith 68 (nI one) (nI r) (hpOf iv1 jv))).bind fun q7 => (vC q7.2 0 9 (f_X10_setFraction 0 q7.1 (nI (fitsN Y)) q7.2)).bind fun q8 => (some (1, q8))) := by
        unfold f_X10_untold
        rw [if_neg g1, if_neg g2, if_neg g3, if_pos cb.2, G_0_8, Option.bind_some, V_68, e1, Option.bind_some]
        dsimp only
        rw [G_0_8, Option.bind_some]
      rw [nI_0I (by omega)] at ce
      by_cases z : fitsN Y = 0
      · refine ⟨-3, (up iv1 0 12 (iv1 0 12 + 1)), jv, hpOf (up (up iv1 0 12 (iv1 0 12 + 1)) 76 1 (iv1 76 1 + 1)) jv, ?_, ?_, InvH.refuse q1 q2 q3 q4 1 (by decide)⟩
        · rw [ce, if_pos z, V_0, c_no, Option.bind_some]
        · have s : SP 1 73 (up iv1 0 12 (iv1 0 12 + 1)) Y := q3.rows (fun k _ _ => up_ne _ _ _ (by omega)) (fun i _ => by rw [up_ne _ _ _ (by decide)])
          rw [hm _ s, f_X11_untold_L39, if_pos (by decide), nI_0I (by omega), if_pos z, V_72, m_no, Option.bind_some, up_ne (k := 0) (a := 76) iv1 _ _ (by decide)]
      · obtain ⟨iv2, w1, w2⟩ := c_with (jv := jv) q3 (one := one) (r := r) (by omega) (by omega)
        have s2 : Scr iv1 jv iv2 jv := scr_fr (fun k hk => w2 k (by omega))
        generalize hS : cq (qfB Y one r) 100000 0 = S at *
        generalize hA : fitsN Y = A at *
        have sa : S ≤ A := by
          rw [← hS, ← hA, fits_cq]
          refine cq_mono _ _ (fun x _ _ h => ?_)
          unfold qfB at h
          exact (Bool.and_eq_true_iff.mp h).1
        let G := Nat.gcd A S
        have G1 : 0 < G := Nat.gcd_pos_of_pos_left _ (by omega)
        have GA : G ≤ A := Nat.le_of_dvd (by omega) (Nat.gcd_dvd_left A S)
        have pl : A * S < 2 ^ 34 := by
          have : A * S ≤ 100000 * 100000 := Nat.mul_le_mul (by omega) (by omega)
          have : (100000 * 100000 : Nat) < 2 ^ 34 := by decide
          omega
        have d1 : S / G ≤ S := Nat.div_le_self _ _
        have d2 : A / G ≤ A := Nat.div_le_self _ _
        have d3 : 1 ≤ A / G := Nat.div_pos GA G1
        let iv3 : Nat → Nat → Int32 := up (up iv2 0 9 (nI (S / G))) 0 10 (nI (A / G))
        let jv3 : Nat → Nat → Int64 := up (up jv 72 5 (lN (S / G))) 72 6 (lN (A / G))
        have r0 : ∀ k, k ≠ 0 → iv3 k = iv2 k := fun k h => by
          show up (up iv2 0 _ _) 0 _ _ k = _
          rw [up_ne _ _ _ h, up_ne _ _ _ h]
        have r1 : ∀ i, i ≠ 9 → i ≠ 10 → iv3 0 i = iv2 0 i := fun i x y => by
          show up (up iv2 0 _ _) 0 _ _ 0 i = _
          rw [up_in _ _ y, up_in _ _ x]
        obtain ⟨t4, t5, t6, t7, t8⟩ := s2.rst q4
        have sp3 : SP 1 73 iv3 Y := (s2.sp q3).rows (fun k _ _ => r0 k (by omega)) (fun i _ => by rw [r0 73 (by decide)])
        refine ⟨1, iv3, jv, hpOf iv3 jv3, ?_, ?_, ⟨iv3, jv3, V, W, Y, rfl, (s2.sr q1).rows (fun k _ _ => r0 k (by omega)) (fun i _ => by rw [r0 73 (by decide)]), (s2.sb q2).rows (fun k _ _ => r0 k (by omega)) (fun i _ => by rw [r0 73 (by decide)]), sp3, ?_⟩⟩
        · have gg := c_gcd (hp := hpOf iv2 jv) (x := nI S) (y := nI A) 34 NN A S 0 pl sa (by omega) (by omega) (by decide) (show 34 < 200000 by decide)
          rw [ce, if_neg z, V_68, w1, Option.bind_some]
          dsimp only
          rw [V_0, f_X10_setFraction, ← nI_0, gg, f_X10_setFraction_J39, if_neg (nI_nle G1 (by omega)), dv_n (by omega) (show G < 2 ^ 31 by omega) (by omega), Option.bind_some, S_0_9, Option.bind_some, dv_n (by omega) (show G < 2 ^ 31 by omega) (by omega), Option.bind_some, S_0_10, Option.bind_some, Option.bind_some]
        · have mm : S % A ≤ A := Nat.le_of_lt (Nat.mod_lt _ (by omega))
          have pl2 : A * (S % A) < 2 ^ 34 := by
            have : A * (S % A) ≤ 100000 * 100000 := Nat.mul_le_mul (by omega) (by omega)
            have : (100000 * 100000 : Nat) < 2 ^ 34 := by decide
            omega
          have gg := m_gcd (hp := hpOf iv3 jv) (x := nI A) (y := nI S) 34 199999 A (S % A) pl2 mm (by omega) (by omega) (by decide)
          have ge : Nat.gcd A (S % A) = G := by rw [gcd_st, Nat.gcd_comm]
          rw [hm iv3 sp3, f_X11_untold_L39, if_pos (by decide), nI_0I (by omega), if_neg z, show NN = 199999 + 1 from rfl, f_X11_untold_L101, if_neg (nI_ne0 (by omega) (by omega)), rm_n (by omega) (by omega) z, Option.bind_some, gg, ge, f_X11_untold_L101, if_pos rfl, dv_n (by omega) (show G < 2 ^ 31 by omega) (by omega), Option.bind_some, S_72_5, Option.bind_some, dv_n (by omega) (show G < 2 ^ 31 by omega) (by omega), Option.bind_some, S_72_6, Option.bind_some, nI_l (by omega), nI_l (by omega)]
        · refine ⟨?_, ?_, ⟨S / G, A / G, by omega, by omega, d3, ?_, up_at _ _ _ _, ?_, up_at _ _ _ _⟩, ?_, fun j hj => ?_⟩
          · rw [r0 50 (by decide), r0 72 (by decide)]
            exact t4.rows (fun k _ _ => r0 k (by omega)) (r0 74 (by decide))
          · rw [r0 50 (by decide), r0 72 (by decide)]
            exact t5.rows (fun k _ _ => r0 k (by omega)) (r0 75 (by decide))
          · show up (up iv2 0 9 _) 0 10 _ 0 9 = _
            rw [up_in _ _ (by decide), up_at]
          · show up (up jv 72 5 _) 72 6 _ 72 5 = _
            rw [up_in _ _ (by decide), up_at]
          · unfold refS
            rw [r0 76 (by decide), r1 11 (by decide) (by decide), r1 12 (by decide) (by decide), r1 13 (by decide) (by decide)]; exact t7
          · rw [r0 33 (by decide), r0 49 (by decide)]; exact t8 j hj
    · refine both_bad h1 h2 h3 h4 (t := -2) ?_ (fun iv' _ => ?_)
      · unfold f_X10_untold
        have g1 : ¬ a < 0 := Int32.not_lt.mpr ca.1
        obtain ⟨one, h1', rfl⟩ := in01 (hi := 4) (by decide) ca
        have g2 : ¬ (5 : Int32) ≤ nI one := by rw [show (5 : Int32) = nI 5 by decide, nI_leI (by omega) (by omega)]; omega
        rw [if_neg g1, if_neg g2, V_0, c_bad, Option.bind_some]
        by_cases g3 : b < 0
        · rw [if_pos g3]
        · rw [if_neg g3, if_neg (fun h => cb ⟨nlt g3, h⟩)]
      · unfold f_X11_untold
        rw [f_in a 0 4 (LO := 0) (HI := 4) (by decide) (by decide), if_pos ca, if_neg (by decide), f_in b 0 9 (LO := 0) (HI := 9) (by decide) (by decide), if_neg cb, if_pos rfl, V_72, m_bad, Option.bind_some]
  · refine both_bad h1 h2 h3 h4 (t := -2) ?_ (fun iv' _ => ?_)
    · unfold f_X10_untold
      rw [V_0, c_bad, Option.bind_some]
      by_cases g1 : a < 0
      · rw [if_pos g1]
      · have g2 : (5 : Int32) ≤ a := by
          obtain ⟨j, hj, e⟩ := nI_of g1
          subst e
          rw [show (5 : Int32) = nI 5 by decide, nI_leI (by omega) hj]
          have : ¬ nI j ≤ 4 := fun h => ca ⟨nlt g1, h⟩
          rw [show (4 : Int32) = nI 4 by decide, nI_leI hj (by omega)] at this
          omega
        rw [if_neg g1, if_pos g2]
    · unfold f_X11_untold
      rw [f_in a 0 4 (LO := 0) (HI := 4) (by decide) (by decide), if_neg ca, if_pos rfl, V_72, m_bad, Option.bind_some]
