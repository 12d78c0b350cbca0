/-! PAIR, TYPE -/
section PAIR
variable (iv : Nat → Nat → Int32) (jv : Nat → Nat → Int64)
theorem tie_a {k p : Nat} (hk : k < 2) (hp : p < 8) : aI (hpOf iv jv) (6 + k) 0 (nI p) = some (iv (6 + k) p) := by
  rcases (show k = 0 ∨ k = 1 by omega) with rfl | rfl
  · exact a_6 iv jv hp
  · exact a_7 iv jv hp
theorem tie_u {k p : Nat} (hk : k < 2) (hp : p < 8) (x : Int32) : uI (hpOf iv jv) (6 + k) (nI p) x = some (hpOf (up iv (6 + k) p x) jv) := by
  rcases (show k = 0 ∨ k = 1 by omega) with rfl | rfl
  · exact u_6 iv jv hp x
  · exact u_7 iv jv hp x
end PAIR
theorem c_tie {iv : Nat → Nat → Int32} {jv : Nat → Nat → Int64} {k p q x y : Nat} (hk : k < 2) (hp : p < 8) (hq : q < 8) (hpq : q ≠ p) (hx : iv (6 + k) p = nI x) (hy : iv (6 + k) q = nI y) (x8 : x < 256) : f_X7_tie (6 + k) (nI p) (nI q) (hpOf iv jv) = if x.testBit q then some (0, hpOf iv jv) else some (1, hpOf (up (up iv (6 + k) p (nI (x ||| 2 ^ q))) (6 + k) q (nI (y ||| 2 ^ p))) jv) := by
  unfold f_X7_tie
  rw [tie_a iv jv hk hp, Option.bind_some, Option.bind_some, hx, bitI x8 hq, iL_n (by omega), nx_or, tie_u iv jv hk hp, Option.bind_some, tie_a _ jv hk hq, Option.bind_some, up_in _ _ hpq, hy, iL_n (by omega), nx_or, tie_u _ jv hk hq, Option.bind_some]
theorem ix_p : ∀ k, k < 2 → (13 : Int32) + 8 * nI k = nI (13 + 8 * k) := by decide +kernel
theorem op_pair (a b w : Int32) : OpOK (f_X10_pair 0 a b w) (f_X11_pair 72 a b w) := by
  rintro hp ⟨iv, jv, V, W, Y, rfl, h1, h2, h3, h4⟩
  by_cases ca : 0 ≤ a ∧ a ≤ nI (V 0) - 1
  · by_cases cb : 0 ≤ b ∧ b ≤ nI (V 0) - 1
    · by_cases ce : a = b
      · refine both_bad h1 h2 h3 h4 (t := -2) ?_ (fun iv' e => ?_)
        · simp [f_X10_pair, G_0_0, G_1_0, V_2, c_hasPerson h1, cb, ce, V_0, c_bad]
        · simp [f_X11_pair, V_72, m_isPerson (m_sr h1 e), cb, ce, m_bad]
      · by_cases cw : 0 ≤ w ∧ w ≤ 1
        · have g1 : ¬ w < 0 := Int32.not_lt.mpr cw.1
          obtain ⟨kk, ⟨⟨p0, p1⟩, pp, pg⟩, m0, m1, mp, mg⟩ := id h1
          have v8 := kk.1
          obtain ⟨p, hp, rfl⟩ := (hasP v8).mp ca
          obtain ⟨q, hq, rfl⟩ := (hasP v8).mp cb
          obtain ⟨k, hk, rfl⟩ := in01 (hi := 1) (by decide) cw
          have hk2 : k < 2 := by omega
          have hpq : q ≠ p := fun e => ce (by rw [e])
          have ic : ∀ c, c < 2 → ∀ i, i < V 0 → iv (6 + c) i = nI (V (13 + 8 * c + i)) := by
            intro c hc i hi
            rcases (show c = 0 ∨ c = 1 by omega) with rfl | rfl
            · exact (pp i hi).2.2.2.1
            · exact (pp i hi).2.2.2.2
          have im : ∀ c, c < 2 → ∀ i, i < V 0 → iv 73 (13 + 8 * c + i) = nI (V (13 + 8 * c + i)) := by
            intro c hc i hi
            rcases (show c = 0 ∨ c = 1 by omega) with rfl | rfl
            · exact (mp i hi).2.1
            · exact (mp i hi).2.2
          have iv8 : ∀ c, c < 2 → ∀ i, i < V 0 → V (13 + 8 * c + i) < 256 := by
            intro c hc i hi
            rcases (show c = 0 ∨ c = 1 by omega) with rfl | rfl
            · exact (kk.2.2.1 i hi).2.1
            · exact (kk.2.2.1 i hi).2.2
          have xv := iv8 k hk2 p hp
          have yv := iv8 k hk2 q hq
          have ct := c_tie (iv := iv) (jv := jv) hk2 (by omega) (by omega) hpq (ic k hk2 p hp) (ic k hk2 q hq) xv
          have hc : f_X10_pair 0 (nI p) (nI q) (nI k) (hpOf iv jv) = f_X10_pair_J65 0 (nI p) (nI q) (6 + k) (hpOf iv jv) := by
            rcases (show k = 0 ∨ k = 1 by omega) with rfl | rfl
            · simp [f_X10_pair, G_0_0, G_1_0, V_2, c_hasPerson h1, ca, cb, ce, nI_0, G_2_5]
            · simp [f_X10_pair, G_0_0, G_1_0, V_2, c_hasPerson h1, ca, cb, ce, show nI 1 = 1 by decide, G_2_6]
          have hm : ∀ iv', iv' 73 = iv 73 → f_X11_pair 72 (nI p) (nI q) (nI k) (hpOf iv' jv) = if (V (13 + 8 * k + p)).testBit q then some (-3, hpOf (up iv' 76 1 (iv' 76 1 + 1)) jv) else some (1, hpOf (up (up iv' 73 (13 + 8 * k + p) (nI (V (13 + 8 * k + p) ||| 2 ^ q))) 73 (13 + 8 * k + q) (nI (V (13 + 8 * k + q) ||| 2 ^ p))) jv) := by
            intro iv' e
            have r0 : f_X11_isPerson 72 (nI p) (hpOf iv' jv) = some 1 := by
              unfold f_X11_isPerson
              rw [G_72_0, Option.bind_some, z73_0, Option.bind_some, e, m0, in_n _ v8, if_pos ca]; rfl
            have r0' : f_X11_isPerson 72 (nI q) (hpOf iv' jv) = some 1 := by
              unfold f_X11_isPerson
              rw [G_72_0, Option.bind_some, z73_0, Option.bind_some, e, m0, in_n _ v8, if_pos cb]; rfl
            have r1 : iv' 73 (13 + 8 * k + p) = nI (V (13 + 8 * k + p)) := by rw [e]; exact im k hk2 p hp
            have r2 : iv' 73 (13 + 8 * k + q) = nI (V (13 + 8 * k + q)) := by rw [e]; exact im k hk2 q hq
            unfold f_X11_pair
            rw [V_72, r0, Option.bind_some, if_neg (by decide), V_72, r0', Option.bind_some, if_neg (by decide), if_neg ce, f_in (nI k) 0 1 (LO := 0) (HI := 1) (by decide) (by decide), if_pos cw, if_neg (by decide), G_72_0, Option.bind_some, ix_p k hk2, nI_add, nI_add, a_73 iv' jv (by omega), Option.bind_some, Option.bind_some, a_73 iv' jv (by omega), Option.bind_some, r1, hasI xv (by omega), iL_n (by omega), nx_or, u_73 iv' jv (by omega), Option.bind_some, G_72_0, Option.bind_some, a_73 _ jv (by omega), Option.bind_some, up_in _ _ (by omega), r2, iL_n (by omega), nx_or, u_73 _ jv (by omega), Option.bind_some, V_72, m_no, Option.bind_some]
          by_cases ht : (V (13 + 8 * k + p)).testBit q = true
          · refine both_no h1 h2 h3 h4 (t := -3) ?_ (fun iv' e => ?_)
            · rw [hc, f_X10_pair_J65, ct, if_pos ht, Option.bind_some, if_pos rfl, V_0, c_no, Option.bind_some]
            · rw [hm iv' (e 73 (by omega)), if_pos ht]
          · let x := V (13 + 8 * k + p) ||| 2 ^ q
            let y := V (13 + 8 * k + q) ||| 2 ^ p
            have x8 : x < 256 := or_lt (n := 8) xv (pow8 (by omega))
            have y8 : y < 256 := or_lt (n := 8) yv (pow8 (by omega))
            let iv1 : Nat → Nat → Int32 := up (up iv (6 + k) p (nI x)) (6 + k) q (nI y)
            let iv2 : Nat → Nat → Int32 := up (up iv1 73 (13 + 8 * k + p) (nI x)) 73 (13 + 8 * k + q) (nI y)
            let V' : Nat → Nat := vs (vs V (13 + 8 * k + p) x) (13 + 8 * k + q) y
            have q1 : ∀ j, j ≠ 6 + k → iv1 j = iv j := fun j u => by
              show up (up iv (6 + k) _ _) (6 + k) _ _ j = _
              rw [up_ne _ _ _ u, up_ne _ _ _ u]
            have qq : ∀ j, j ≠ 6 + k → j ≠ 73 → iv2 j = iv j := fun j u v => by
              show up (up iv1 73 _ _) 73 _ _ j = _
              rw [up_ne _ _ _ v, up_ne _ _ _ v]; exact q1 j u
            have q6 : ∀ i, iv2 (6 + k) i = if i = q then nI y else if i = p then nI x else iv (6 + k) i := fun i => by
              show up (up (up (up iv (6 + k) p (nI x)) (6 + k) q (nI y)) 73 _ _) 73 _ _ (6 + k) i = _
              rw [up_ne _ _ _ (by omega), up_ne _ _ _ (by omega), up_row, up_row]
            have q73 : ∀ i, iv2 73 i = if i = 13 + 8 * k + q then nI y else if i = 13 + 8 * k + p then nI x else iv 73 i := fun i => by
              show up (up iv1 73 _ _) 73 _ _ 73 i = _
              rw [up_row, up_row, q1 73 (by omega)]
            have hV : ∀ i, V' i = if i = 13 + 8 * k + q then y else if i = 13 + 8 * k + p then x else V i := fun i => rfl
            have hVn : ∀ i, (i < 13 ∨ 29 ≤ i) → V' i = V i := fun i hi => by rw [hV, if_neg (by omega), if_neg (by omega)]
            have nc : ∀ c, c < 2 → ∀ i, i < V 0 → iv2 (6 + c) i = nI (V' (13 + 8 * c + i)) ∧ iv2 73 (13 + 8 * c + i) = nI (V' (13 + 8 * c + i)) ∧ V' (13 + 8 * c + i) < 256 := by
              intro c hc i hi
              have b1 := ic c hc i hi
              have b2 := im c hc i hi
              have b3 := iv8 c hc i hi
              by_cases e : c = k
              · subst e
                rw [q6, q73, hV]
                by_cases e1 : i = q
                · subst e1
                  rw [if_pos rfl, if_pos rfl, if_pos rfl]; exact ⟨rfl, rfl, y8⟩
                · by_cases e2 : i = p
                  · subst e2
                    rw [if_neg e1, if_pos rfl, if_neg (by omega), if_pos rfl, if_neg (by omega), if_pos rfl]; exact ⟨rfl, rfl, x8⟩
                  · rw [if_neg e1, if_neg e2, if_neg (by omega), if_neg (by omega), if_neg (by omega), if_neg (by omega)]; exact ⟨b1, b2, b3⟩
              · rw [qq (6 + c) (by omega) (by omega), q73, hV, if_neg (by omega), if_neg (by omega), if_neg (by omega), if_neg (by omega)]; exact ⟨b1, b2, b3⟩
            refine ⟨1, iv1, jv, hpOf iv2 jv, ?_, ?_, ⟨iv2, jv, V', W, Y, rfl, ?_, ?_, ?_, ?_⟩⟩
            · rw [hc, f_X10_pair_J65, ct, if_neg ht, Option.bind_some, if_neg (show ¬ (1 : Int32) = 0 by decide)]
            · rw [hm iv1 (q1 73 (by omega)), if_neg ht]
            · refine ⟨⟨by rw [hVn 0 (by omega)]; exact v8, by rw [hVn 1 (by omega)]; exact kk.2.1, fun i hi => ?_, fun i hi => ?_⟩, ⟨⟨?_, ?_⟩, fun i hi => ?_, fun i hi => ?_⟩, ?_, ?_, fun i hi => ?_, fun i hi => ?_⟩
              · rw [hVn 0 (by omega)] at hi
                rw [hVn (5 + i) (by omega)]
                exact ⟨(kk.2.2.1 i hi).1, (nc 0 (by omega) i hi).2.2, (nc 1 (by omega) i hi).2.2⟩
              · rw [hVn 1 (by omega)] at hi
                rw [hVn (29 + i) (by omega), hVn (33 + i) (by omega)]; exact kk.2.2.2 i hi
              · rw [hVn 0 (by omega), qq 2 (by omega) (by omega)]; exact p0
              · rw [hVn 1 (by omega), qq 2 (by omega) (by omega)]; exact p1
              · rw [hVn 0 (by omega)] at hi
                obtain ⟨w1, w2, w3, -⟩ := pp i hi
                rw [hVn (5 + i) (by omega), qq 3 (by omega) (by omega), qq 4 (by omega) (by omega), qq 5 (by omega) (by omega)]
                exact ⟨w1, w2, w3, (nc 0 (by omega) i hi).1, (nc 1 (by omega) i hi).1⟩
              · rw [hVn 1 (by omega)] at hi
                rw [hVn (29 + i) (by omega), hVn (33 + i) (by omega), qq 8 (by omega) (by omega), qq 9 (by omega) (by omega)]; exact pg i hi
              · rw [hVn 0 (by omega), q73, if_neg (by omega), if_neg (by omega)]; exact m0
              · rw [hVn 1 (by omega), q73, if_neg (by omega), if_neg (by omega)]; exact m1
              · rw [hVn 0 (by omega)] at hi
                refine ⟨?_, (nc 0 (by omega) i hi).2.1, (nc 1 (by omega) i hi).2.1⟩
                rw [hVn (5 + i) (by omega), q73, if_neg (by omega), if_neg (by omega)]; exact (mp i hi).1
              · rw [hVn 1 (by omega)] at hi
                have := kk.2.1
                rw [hVn (29 + i) (by omega), hVn (33 + i) (by omega), q73, q73, if_neg (by omega), if_neg (by omega), if_neg (by omega), if_neg (by omega)]; exact mg i hi
            · exact h2.rows (fun k _ _ => qq k (by omega) (by omega)) (fun i hi => by rw [q73, if_neg (by omega), if_neg (by omega)])
            · exact h3.rows (fun k _ _ => qq k (by omega) (by omega)) (fun i hi => by rw [q73, if_neg (by omega), if_neg (by omega)])
            · exact h4.rows (fun k hk => qq k (by omega) (by omega)) (by rw [qq 72 (by omega) (by omega)]) (by rw [qq 72 (by omega) (by omega)]) rfl rfl
        · refine both_bad h1 h2 h3 h4 (t := -2) ?_ (fun iv' e => ?_)
          · by_cases g1 : w < 0
            · simp [f_X10_pair, G_0_0, G_1_0, V_2, c_hasPerson h1, ca, cb, ce, g1, V_0, c_bad]
            · have g2 : ¬ w ≤ 1 := fun h => cw ⟨nlt g1, h⟩
              simp [f_X10_pair, G_0_0, G_1_0, V_2, c_hasPerson h1, ca, cb, ce, g1, g2, V_0, c_bad]
          · simp [f_X11_pair, V_72, m_isPerson (m_sr h1 e), ca, cb, ce, f_in w 0 1 (LO := 0) (HI := 1) (by decide) (by decide), cw, m_bad]
    · refine both_bad h1 h2 h3 h4 (t := -2) ?_ (fun iv' e => ?_)
      · simp [f_X10_pair, G_0_0, G_1_0, V_2, c_hasPerson h1, ca, cb, V_0, c_bad]
      · simp [f_X11_pair, V_72, m_isPerson (m_sr h1 e), ca, cb, m_bad]
  · refine both_bad h1 h2 h3 h4 (t := -2) ?_ (fun iv' e => ?_)
    · simp [f_X10_pair, G_0_0, G_1_0, V_2, c_hasPerson h1, ca, V_0, c_bad]
    · simp [f_X11_pair, V_72, m_isPerson (m_sr h1 e), ca, m_bad]
/-! TYPE -/
theorem by_ok (x : Int64) : ∃ b, b ≤ 255 ∧ (x &&& 255).toInt32 = nI b := by
  refine ⟨(x &&& 255).toBitVec.toNat, ?_, ?_⟩
  · rw [Int64.toBitVec_and, BitVec.toNat_and]; exact Nat.le_trans Nat.and_le_right (by decide)
  · have e : x &&& 255 = lN (x &&& 255).toBitVec.toNat := Int64.toBitVec_inj.mp (by show _ = BitVec.ofNat 64 _; rw [BitVec.ofNat_toNat, BitVec.setWidth_eq])
    exact (congrArg Int64.toInt32 e).trans (lN_i _)
def byI (v : Int64) (m : Nat) : Int32 := Int64.toInt32 ((jR v (8 * nI m)) &&& 255)
theorem c_apL {jv : Nat → Nat → Int64} (v : Int64) : ∀ (j n L : Nat) (iv : Nat → Nat → Int32), iv 10 0 = nI L → L + j ≤ 200 → ∃ iv', f_X0_append_L5 (n + j + 1) 10 v (nI j + (-1)) (hpOf iv jv) = some (nI (L + j), hpOf iv' jv) ∧ (∀ k, k ≠ 10 → k ≠ 11 → iv' k = iv k) ∧ iv' 10 0 = nI (L + j) ∧ (∀ i, i < L → iv' 11 i = iv 11 i) ∧ ∀ t, t < j → iv' 11 (L + t) = byI v (j - 1 - t) := by
  intro j
  induction j with
  | zero =>
    intro n L iv e h
    refine ⟨iv, ?_, fun _ _ _ => rfl, e, fun _ _ => rfl, fun t ht => absurd ht (by omega)⟩
    rw [f_X0_append_L5, if_pos (by decide), G_10_0, Option.bind_some, e]; rfl
  | succ j ih =>
    intro n L iv e h
    obtain ⟨iv', g1, g2, g3, g4, g5⟩ := ih n (L + 1) (up (up iv 11 L (byI v j)) 10 0 (nI (L + 1))) (up_at _ _ _ _) (by omega)
    refine ⟨iv', ?_, fun k x y => by rw [g2 k x y, up_ne _ _ _ x, up_ne _ _ _ y], by rw [g3, show L + 1 + j = L + (j + 1) by omega], fun i hi => ?_, fun t ht => ?_⟩
    · rw [show n + (j + 1) + 1 = (n + j + 1) + 1 by omega, f_X0_append_L5, pk_m1, if_neg (nI_pos (by omega)), G_10_0, Option.bind_some, e, show (200 : Int32) = nI 200 by decide, iteE (by omega) (by omega), if_neg (by omega), G_10_1, Option.bind_some, Option.bind_some, u_11 iv jv (by omega), Option.bind_some, G_10_0, Option.bind_some, up_ne _ _ _ (by decide), e, nI_1, S_10_0, Option.bind_some]
      rw [show L + (j + 1) = L + 1 + j by omega]
      exact g1
    · rw [g4 i (by omega), up_ne _ _ _ (by decide), up_in _ _ (by omega)]
    · by_cases c : t = 0
      · subst c
        rw [g4 (L + 0) (by omega), up_ne _ _ _ (by decide), Nat.add_zero, up_at, show j + 1 - 1 - 0 = j by omega]
      · have := g5 (t - 1) (by omega)
        rw [show L + 1 + (t - 1) = L + t by omega] at this
        rw [this, show j - 1 - (t - 1) = j + 1 - 1 - t by omega]
theorem m_tyL {jv : Nat → Nat → Int64} (v : Int64) : ∀ (j n L : Nat) (iv : Nat → Nat → Int32), iv 73 2 = nI L → L + j ≤ 200 → ∃ iv', f_X11_type_L43 (n + j + 1) 72 v (nI j + (-1)) (hpOf iv jv) = some (nI (L + j), hpOf iv' jv) ∧ (∀ k, k ≠ 73 → iv' k = iv k) ∧ iv' 73 2 = nI (L + j) ∧ (∀ i, i ≠ 2 → (i < 77 + L ∨ 77 + L + j ≤ i) → iv' 73 i = iv 73 i) ∧ ∀ t, t < j → iv' 73 (77 + L + t) = byI v (j - 1 - t) := by
  intro j
  induction j with
  | zero =>
    intro n L iv e h
    refine ⟨iv, ?_, fun _ _ => rfl, e, fun _ _ _ => rfl, fun t ht => absurd ht (by omega)⟩
    rw [f_X11_type_L43, if_pos (by decide), G_72_0, Option.bind_some, show (2 : Int32) = nI 2 by decide, a_73 iv jv (by omega), Option.bind_some, e]; rfl
  | succ j ih =>
    intro n L iv e h
    obtain ⟨iv', g1, g2, g3, g4, g5⟩ := ih n (L + 1) (up (up iv 73 (77 + L) (byI v j)) 73 2 (nI (L + 1))) (up_at _ _ _ _) (by omega)
    refine ⟨iv', ?_, fun k x => by rw [g2 k x, up_ne _ _ _ x, up_ne _ _ _ x], by rw [g3, show L + 1 + j = L + (j + 1) by omega], fun i h0 hi => ?_, fun t ht => ?_⟩
    · rw [show n + (j + 1) + 1 = (n + j + 1) + 1 by omega, f_X11_type_L43, pk_m1, if_neg (nI_pos (by omega)), G_72_0, Option.bind_some, Option.bind_some, show (2 : Int32) = nI 2 by decide, a_73 iv jv (by omega), Option.bind_some, e, show (77 : Int32) = nI 77 by decide, nI_add, u_73 iv jv (by omega), Option.bind_some, G_72_0, Option.bind_some, a_73 _ jv (by omega), Option.bind_some, up_in _ _ (by omega), e, nI_1, u_73 _ jv (by omega), Option.bind_some]
      rw [show L + (j + 1) = L + 1 + j by omega]
      exact g1
    · rw [g4 i h0 (by omega), up_in _ _ h0, up_in _ _ (by omega)]
    · by_cases c : t = 0
      · subst c
        rw [g4 (77 + L + 0) (by omega) (by omega), up_in _ _ (by omega), Nat.add_zero, up_at, show j + 1 - 1 - 0 = j by omega]
      · have := g5 (t - 1) (by omega)
        rw [show 77 + (L + 1) + (t - 1) = 77 + L + t by omega] at this
        rw [this, show j - 1 - (t - 1) = j + 1 - 1 - t by omega]
theorem op_type (v : Int64) (a : Int32) : OpOK (f_X10_type 0 v a) (f_X11_type 72 v a) := by
  rintro hp ⟨iv, jv, V, W, Y, rfl, h1, h2, h3, h4⟩
  by_cases c : 1 ≤ a ∧ a ≤ 8
  · obtain ⟨n, hn0, hn, rfl⟩ := in_lo (lo := 1) (hi := 8) (by decide) (by decide) c
    obtain ⟨k1, ⟨p2, pb, pc⟩, m2, mb, mc⟩ := id h2
    have p2' : iv 10 0 = nI (W 2) := p2
    have l2 := k1.1
    have g1 : ¬ nI n < 1 := Int32.not_lt.mpr c.1
    have hz : f_X11_in (nI n).toInt64 1 8 = 1 := by rw [f_in (nI n) 1 8 (LO := 1) (HI := 8) (by decide) (by decide), if_pos c]
    have z2 : (2 : Int32) = nI 2 := by decide
    by_cases cf : W 2 + n ≤ 200
    · obtain ⟨iv1, e1, e2, e3, e4, e5⟩ := c_apL (jv := jv) v n (199999 - n) (W 2) iv p2' cf
      have m2' : iv1 73 2 = nI (W 2) := by rw [e2 73 (by decide) (by decide)]; exact m2
      obtain ⟨iv2, f1, f2, f3, f4, f5⟩ := m_tyL (jv := jv) v n (199999 - n) (W 2) iv1 m2' cf
      rw [show 199999 - n + n + 1 = NN by show _ = 200000; omega] at e1 f1
      have en : nI n - 1 = nI n + (-1) := by
        rw [show n = (n - 1) + 1 by omega, nI_pred, pk_m1]
      let W' : Nat → Nat := fun i => if i = 2 then W 2 + n else if 77 + W 2 ≤ i ∧ i < 77 + W 2 + n then (byI v (n - 1 - (i - (77 + W 2)))).toNatClampNeg else W i
      have bv : ∀ m, (byI v m).toNatClampNeg ≤ 255 ∧ byI v m = nI (byI v m).toNatClampNeg := by
        intro m
        obtain ⟨b, hb, e⟩ := by_ok (jR v (8 * nI m))
        have e' : byI v m = nI b := e
        rw [e', nI_clamp (by omega)]; exact ⟨hb, rfl⟩
      have w2 : W' 2 = W 2 + n := if_pos rfl
      have wo : ∀ i, i ≠ 2 → (i < 77 + W 2 ∨ 77 + W 2 + n ≤ i) → W' i = W i := fun i u w => by show (if _ then _ else _) = _; rw [if_neg u, if_neg (by omega)]
      have wi : ∀ t, t < n → W' (77 + W 2 + t) = (byI v (n - 1 - t)).toNatClampNeg := fun t ht => by
        show (if _ then _ else _) = _
        rw [if_neg (by omega), if_pos (by omega), show 77 + W 2 + t - (77 + W 2) = t by omega]
      have q : ∀ k, k ≠ 10 → k ≠ 11 → k ≠ 73 → iv2 k = iv k := fun k x y z => by rw [f2 k z, e2 k x y]
      have q73 : ∀ i, i ≠ 2 → (i < 77 + W 2 ∨ 77 + W 2 + n ≤ i) → iv2 73 i = iv 73 i := fun i u w => by rw [f4 i u w, e2 73 (by decide) (by decide)]
      refine ⟨nI (W 2 + n), iv1, jv, hpOf iv2 jv, ?_, ?_, ⟨iv2, jv, V, W', Y, rfl, ?_, ?_, ?_, ?_⟩⟩
      · unfold f_X10_type f_X0_append
        rw [if_neg g1, if_pos c.2, G_0_0, Option.bind_some, G_1_1, Option.bind_some, G_10_0, Option.bind_some, p2', nI_add, show (200 : Int32) = nI 200 by decide, iteL (by omega) (by omega), if_neg (by omega), Option.bind_some, G_1_1, Option.bind_some, V_10, en, e1, Option.bind_some]
      · unfold f_X11_type
        rw [hz, if_neg (by decide), G_72_0, Option.bind_some, z2, a_73 iv1 jv (by omega), Option.bind_some, m2', nI_add, show (200 : Int32) = nI 200 by decide, iteE (by omega) (by omega), if_pos cf, en]
        exact f1
      · exact h1.rows (fun k _ _ => q k (by omega) (by omega) (by omega)) (fun i hi => q73 i (by omega) (by omega))
      · refine ⟨⟨by rw [w2]; exact cf, fun j hj => ?_, fun j hj => ?_⟩, ⟨?_, fun j hj => ?_, fun j hj => ?_⟩, ?_, fun j hj => ?_, fun j hj => ?_⟩
        · rw [w2] at hj
          by_cases e : j < W 2
          · rw [wo _ (by omega) (by omega)]; exact k1.2.1 j e
          · have := wi (j - W 2) (by omega)
            rw [show 77 + W 2 + (j - W 2) = 77 + j by omega] at this
            rw [this]; exact (bv _).1
        · rw [wo _ (by omega) (by omega)]; exact k1.2.2 j hj
        · rw [w2, f2 10 (by decide)]; exact e3
        · rw [w2] at hj
          rw [f2 11 (by decide)]
          by_cases e : j < W 2
          · rw [wo _ (by omega) (by omega), e4 j e]; exact pb j e
          · have := wi (j - W 2) (by omega)
            rw [show 77 + W 2 + (j - W 2) = 77 + j by omega] at this
            have u := e5 (j - W 2) (by omega)
            rw [show W 2 + (j - W 2) = j by omega] at u
            rw [this, u]; exact (bv _).2
        · rw [q 12 (by decide) (by decide) (by decide), wo _ (by omega) (by omega)]; exact pc j hj
        · rw [w2]; exact f3
        · rw [w2] at hj
          by_cases e : j < W 2
          · rw [wo _ (by omega) (by omega), q73 _ (by omega) (by omega)]; exact mb j e
          · have := wi (j - W 2) (by omega)
            rw [show 77 + W 2 + (j - W 2) = 77 + j by omega] at this
            have u := f5 (j - W 2) (by omega)
            rw [show 77 + W 2 + (j - W 2) = 77 + j by omega] at u
            rw [this, u]; exact (bv _).2
        · rw [q73 _ (by omega) (by omega), wo _ (by omega) (by omega)]; exact mc j hj
      · exact h3.rows (fun k _ _ => q k (by omega) (by omega) (by omega)) (fun i hi => q73 i (by omega) (by omega))
      · exact h4.rows (fun k hk => q k (by omega) (by omega) (by omega)) (by rw [q 72 (by decide) (by decide) (by decide)]) (by rw [q 72 (by decide) (by decide) (by decide)]) rfl rfl
    · refine both_full h1 h2 h3 h4 (t := -4) ?_ (fun iv' e => ?_)
      · unfold f_X10_type
        rw [if_neg g1, if_pos c.2, G_0_0, Option.bind_some, G_1_1, Option.bind_some, G_10_0, Option.bind_some, p2', nI_add, show (200 : Int32) = nI 200 by decide, iteL (by omega) (by omega), if_pos (by omega), V_0, c_full, Option.bind_some]
      · have m2' : iv' 73 2 = nI (W 2) := by rw [e 73 (by decide)]; exact m2
        unfold f_X11_type
        rw [hz, if_neg (by decide), G_72_0, Option.bind_some, z2, a_73 iv' jv (by omega), Option.bind_some, m2', nI_add, show (200 : Int32) = nI 200 by decide, iteE (by omega) (by omega), if_neg cf, V_72, m_full, Option.bind_some]
  · refine both_bad h1 h2 h3 h4 (t := -2) ?_ (fun iv' _ => ?_)
    · by_cases g1 : a < 1
      · simp [f_X10_type, g1, V_0, c_bad]
      · have g2 : ¬ a ≤ 8 := fun h => c ⟨nlt g1, h⟩
        simp [f_X10_type, g1, g2, V_0, c_bad]
    · simp [f_X11_type, f_in a 1 8 (LO := 1) (HI := 8) (by decide) (by decide), c, V_72, m_bad]
