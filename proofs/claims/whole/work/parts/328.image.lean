/-! IMAGES -/
theorem Z_72_3 (iv : Nat → Nat → Int32) (jv : Nat → Nat → Int64) {x : Int32} (h : x = 0 ∨ x = 1) : pZ (hpOf iv jv) 72 10 3 x = some (hpOf (up iv 72 3 x) jv) := by
  unfold pZ
  rw [if_pos h]; exact S_72_3 iv jv x
theorem Z_72_4 (iv : Nat → Nat → Int32) (jv : Nat → Nat → Int64) {x : Int32} (h : x = 0 ∨ x = 1) : pZ (hpOf iv jv) 72 10 4 x = some (hpOf (up iv 72 4 x) jv) := by
  unfold pZ
  rw [if_pos h]; exact S_72_4 iv jv x
theorem RMb.rho2 {ρ ρ' : Nat → Int32} {V : Nat → Nat} (h : RMb ρ V) (hk : Vkb V) (e : ∀ i, i < 277 → ρ' i = ρ i) : RMb ρ' V := by
  obtain ⟨h0, h1, h2⟩ := h
  have k0 := hk.1
  refine ⟨by rw [e 2 (by omega)]; exact h0, fun i hi => ?_, fun i hi => ?_⟩
  · rw [e (77 + i) (by omega)]; exact h1 i hi
  · rw [e (37 + i) (by omega)]; exact h2 i hi
theorem tail_0 {iv : Nat → Nat → Int32} {jv : Nat → Nat → Int64} (n : Nat) (h3 : iv 72 3 = 0 ∨ iv 72 3 = 1) (h4 : iv 72 4 = 0 ∨ iv 72 4 = 1) : f_X11_image_L19 (n + 1) 72 0 277 (hpOf iv jv) = some (1, hpOf (up iv 72 3 1) jv) := by
  have q4 : (up iv 72 3 1) 72 4 = iv 72 4 := up_in _ _ (by decide)
  have j : f_X11_image_J100 72 0 1 72 (hpOf iv jv) = some (1, hpOf (up iv 72 3 1) jv) := by
    rw [f_X11_image_J100, Z_72_3 iv jv (Or.inr rfl), Option.bind_some, G_72_4, Option.bind_some, q4]
    rcases h4 with h | h
    · rw [h, if_pos rfl, if_neg (show ¬ (0 : Int32) = 1 by decide), Z_72_4 _ jv (Or.inl rfl), Option.bind_some, up_same (q4.trans h)]
    · rw [h, if_neg (show ¬ (1 : Int32) = 0 by decide), Z_72_4 _ jv (Or.inr rfl), Option.bind_some, up_same (q4.trans h)]
  rw [f_X11_image_L19, if_pos (show (277 : Int32) ≤ 277 by decide), G_72_3, Option.bind_some, if_pos (rfl : (0 : Int32) = 0), j]
  split <;> rfl
theorem tail_1 {iv : Nat → Nat → Int32} {jv : Nat → Nat → Int64} (n : Nat) (h3 : iv 72 3 = 0 ∨ iv 72 3 = 1) (h4 : iv 72 4 = 0 ∨ iv 72 4 = 1) : f_X11_image_L19 (n + 1) 72 1 277 (hpOf iv jv) = some (1, hpOf (up iv 72 4 1) jv) := by
  have j : ∀ x, (x = 0 ∨ x = 1) → iv 72 3 = x → f_X11_image_J100 72 1 x 72 (hpOf iv jv) = some (1, hpOf (up iv 72 4 1) jv) := by
    intro x hx e
    rw [f_X11_image_J100, Z_72_3 iv jv hx, Option.bind_some, up_same e, G_72_4, Option.bind_some, if_pos (rfl : (1 : Int32) = 1), Z_72_4 _ jv (Or.inr rfl), Option.bind_some]
    split <;> rfl
  rw [f_X11_image_L19, if_pos (show (277 : Int32) ≤ 277 by decide), G_72_3, Option.bind_some]
  rcases h3 with h | h
  · rw [h, if_pos rfl, if_neg (show ¬ (1 : Int32) = 0 by decide)]
    exact j 0 (Or.inl rfl) h
  · rw [h, if_neg (show ¬ (1 : Int32) = 0 by decide)]
    exact j 1 (Or.inr rfl) h
theorem m_img0 {jv : Nat → Nat → Int64} : ∀ (j n p : Nat) (iv : Nat → Nat → Int32), p + j = 277 → (iv 72 3 = 0 ∨ iv 72 3 = 1) → (iv 72 4 = 0 ∨ iv 72 4 = 1) → ∃ iv', f_X11_image_L19 (n + j + 1) 72 0 (nI p) (hpOf iv jv) = some (1, hpOf iv' jv) ∧ (∀ k, k ≠ 72 → k ≠ 74 → iv' k = iv k) ∧ (∀ i, i ≠ 3 → iv' 72 i = iv 72 i) ∧ iv' 72 3 = 1 ∧ (∀ q, q < p → iv' 74 q = iv 74 q) ∧ ∀ q, p ≤ q → q < 277 → iv' 74 q = iv 73 q := by
  intro j
  induction j with
  | zero =>
    intro n p iv e h3 h4
    have ep : p = 277 := by omega
    subst ep
    refine ⟨up iv 72 3 1, ?_, fun k h _ => up_ne _ _ _ h, fun i h => up_in _ _ h, up_at _ _ _ _, fun q _ => by rw [up_ne _ _ _ (by decide)], fun q h1 h2 => by omega⟩
    exact tail_0 n h3 h4
  | succ j ih =>
    intro n p iv e h3 h4
    obtain ⟨iv', g1, g2, g3, g4, g5, g6⟩ := ih n (p + 1) (up iv 74 p (iv 73 p)) (by omega) (by rw [up_ne _ _ _ (by decide)]; exact h3) (by rw [up_ne _ _ _ (by decide)]; exact h4)
    refine ⟨iv', ?_, fun k a b => by rw [g2 k a b, up_ne _ _ _ b], fun i h => by rw [g3 i h, up_ne _ _ _ (by decide)], g4, fun q hq => by rw [g5 q (by omega), up_in _ _ (by omega)], fun q h1 h2 => ?_⟩
    · rw [show n + (j + 1) + 1 = (n + j + 1) + 1 by omega, f_X11_image_L19, show (277 : Int32) = nI 277 by decide, iteE (by omega) (by omega), if_neg (by omega), G_72_1, Option.bind_some, if_pos rfl, G_72_0, Option.bind_some, a_73 iv jv (by omega), Option.bind_some, f_X11_image_J50, u_74 iv jv (by omega), Option.bind_some, G_72_2, Option.bind_some, if_neg (by decide), Option.bind_some, a_75 _ jv (by omega), Option.bind_some, u_75 _ jv (by omega), Option.bind_some, up_same rfl, nI_1]
      exact g1
    · by_cases c : q = p
      · subst c
        rw [g5 q (by omega), up_at]
      · rw [g6 q (by omega) h2, up_ne _ _ _ (by decide)]
theorem m_frm0 {jv : Nat → Nat → Int64} : ∀ (j n p : Nat) (iv : Nat → Nat → Int32), p + j = 277 → ∃ iv', f_X11_from_L45 (n + j + 1) 72 0 (nI p) (hpOf iv jv) = some (1, hpOf iv' jv) ∧ (∀ k, k ≠ 73 → iv' k = iv k) ∧ (∀ q, q < p → iv' 73 q = iv 73 q) ∧ ∀ q, p ≤ q → q < 277 → iv' 73 q = iv 74 q := by
  intro j
  induction j with
  | zero =>
    intro n p iv e
    have ep : p = 277 := by omega
    subst ep
    refine ⟨iv, ?_, fun k _ => rfl, fun q _ => rfl, fun q h1 h2 => by omega⟩
    rw [f_X11_from_L45, if_pos (by decide)]
  | succ j ih =>
    intro n p iv e
    obtain ⟨iv', g1, g2, g3, g4⟩ := ih n (p + 1) (up iv 73 p (iv 74 p)) (by omega)
    refine ⟨iv', ?_, fun k a => by rw [g2 k a, up_ne _ _ _ a], fun q hq => by rw [g3 q (by omega), up_in _ _ (by omega)], fun q h1 h2 => ?_⟩
    · rw [show n + (j + 1) + 1 = (n + j + 1) + 1 by omega, f_X11_from_L45, show (277 : Int32) = nI 277 by decide, iteE (by omega) (by omega), if_neg (by omega), G_72_0, Option.bind_some, if_pos rfl, G_72_1, Option.bind_some, a_74 iv jv (by omega), Option.bind_some, u_73 iv jv (by omega), Option.bind_some, nI_1]
      exact g1
    · by_cases c : q = p
      · subst c
        rw [g3 q (by omega), up_at]
      · rw [g4 q (by omega) h2, up_ne _ _ _ (by decide)]
theorem m_img1 {jv : Nat → Nat → Int64} : ∀ (j n p : Nat) (iv : Nat → Nat → Int32), p + j = 277 → (iv 72 3 = 0 ∨ iv 72 3 = 1) → (iv 72 4 = 0 ∨ iv 72 4 = 1) → ∃ iv', f_X11_image_L19 (n + j + 1) 72 1 (nI p) (hpOf iv jv) = some (1, hpOf iv' jv) ∧ (∀ k, k ≠ 72 → k ≠ 75 → iv' k = iv k) ∧ (∀ i, i ≠ 4 → iv' 72 i = iv 72 i) ∧ iv' 72 4 = 1 ∧ (∀ q, q < p → iv' 75 q = iv 75 q) ∧ ∀ q, p ≤ q → q < 277 → iv' 75 q = iv 73 q := by
  intro j
  induction j with
  | zero =>
    intro n p iv e h3 h4
    have ep : p = 277 := by omega
    subst ep
    refine ⟨up iv 72 4 1, ?_, fun k h _ => up_ne _ _ _ h, fun i h => up_in _ _ h, up_at _ _ _ _, fun q _ => by rw [up_ne _ _ _ (by decide)], fun q h1 h2 => by omega⟩
    exact tail_1 n h3 h4
  | succ j ih =>
    intro n p iv e h3 h4
    obtain ⟨iv', g1, g2, g3, g4, g5, g6⟩ := ih n (p + 1) (up iv 75 p (iv 73 p)) (by omega) (by rw [up_ne _ _ _ (by decide)]; exact h3) (by rw [up_ne _ _ _ (by decide)]; exact h4)
    refine ⟨iv', ?_, fun k a b => by rw [g2 k a b, up_ne _ _ _ b], fun i h => by rw [g3 i h, up_ne _ _ _ (by decide)], g4, fun q hq => by rw [g5 q (by omega), up_in _ _ (by omega)], fun q h1 h2 => ?_⟩
    · rw [show n + (j + 1) + 1 = (n + j + 1) + 1 by omega, f_X11_image_L19, show (277 : Int32) = nI 277 by decide, iteE (by omega) (by omega), if_neg (by omega), G_72_1, Option.bind_some, if_neg (by decide), Option.bind_some, a_74 iv jv (by omega), Option.bind_some, f_X11_image_J50, u_74 iv jv (by omega), Option.bind_some, up_same rfl, G_72_2, Option.bind_some, if_pos rfl, G_72_0, Option.bind_some, a_73 iv jv (by omega), Option.bind_some, u_75 iv jv (by omega), Option.bind_some, nI_1]
      exact g1
    · by_cases c : q = p
      · subst c
        rw [g5 q (by omega), up_at]
      · rw [g6 q (by omega) h2, up_ne _ _ _ (by decide)]
theorem m_frm1 {jv : Nat → Nat → Int64} : ∀ (j n p : Nat) (iv : Nat → Nat → Int32), p + j = 277 → ∃ iv', f_X11_from_L45 (n + j + 1) 72 1 (nI p) (hpOf iv jv) = some (1, hpOf iv' jv) ∧ (∀ k, k ≠ 73 → iv' k = iv k) ∧ (∀ q, q < p → iv' 73 q = iv 73 q) ∧ ∀ q, p ≤ q → q < 277 → iv' 73 q = iv 75 q := by
  intro j
  induction j with
  | zero =>
    intro n p iv e
    have ep : p = 277 := by omega
    subst ep
    refine ⟨iv, ?_, fun k _ => rfl, fun q _ => rfl, fun q h1 h2 => by omega⟩
    rw [f_X11_from_L45, if_pos (by decide)]
  | succ j ih =>
    intro n p iv e
    obtain ⟨iv', g1, g2, g3, g4⟩ := ih n (p + 1) (up iv 73 p (iv 75 p)) (by omega)
    refine ⟨iv', ?_, fun k a => by rw [g2 k a, up_ne _ _ _ a], fun q hq => by rw [g3 q (by omega), up_in _ _ (by omega)], fun q h1 h2 => ?_⟩
    · rw [show n + (j + 1) + 1 = (n + j + 1) + 1 by omega, f_X11_from_L45, show (277 : Int32) = nI 277 by decide, iteE (by omega) (by omega), if_neg (by omega), G_72_0, Option.bind_some, if_neg (by decide), G_72_2, Option.bind_some, a_75 iv jv (by omega), Option.bind_some, u_73 iv jv (by omega), Option.bind_some, nI_1]
      exact g1
    · by_cases c : q = p
      · subst c
        rw [g3 q (by omega), up_at]
      · rw [g4 q (by omega) h2, up_ne _ _ _ (by decide)]
theorem img01 {f m : Int32} {b r : Nat} {iv : Nat → Nat → Int32} (h : imgS f m b r iv) : (f = 0 ∨ f = 1) ∧ (m = 0 ∨ m = 1) := by
  rcases h with ⟨h1, h2⟩ | ⟨h1, h2, -⟩
  · exact ⟨Or.inl h1, Or.inl h2⟩
  · exact ⟨Or.inr h1, Or.inr h2⟩
theorem img_0 {iv : Nat → Nat → Int32} {jv : Nat → Nat → Int64} {V W Y : Nat → Nat} (h1 : SR 1 73 iv V) (h2 : SB 1 73 iv W) (h3 : SP 1 73 iv Y) (h4 : Rst iv jv) : ∃ iv1 hp2, f_X10_image 0 0 (hpOf iv jv) = some (1, hpOf iv1 jv) ∧ f_X11_image 72 0 (hpOf iv1 jv) = some (1, hp2) ∧ InvH hp2 := by
  obtain ⟨g0, g1, fr, rf, z⟩ := id h4
  obtain ⟨i1, x1, y1, r1, b1, p1⟩ := c8_18_1 (iv := iv) (jv := jv) (fun j hj => h3.2.1.2.2 j hj)
  have j72 : (up i1 50 0 1) 72 = iv 72 := by rw [up_ne _ _ _ (by decide), y1 72 (by decide)]
  have j73 : (up i1 50 0 1) 73 = iv 73 := by rw [up_ne _ _ _ (by decide), y1 73 (by decide)]
  obtain ⟨i2, e1, e2, e3, e4, -, e6⟩ := m_img0 (jv := jv) 277 (199999 - 277) 0 (up i1 50 0 1) rfl (by rw [j72]; exact (img01 g0).2) (by rw [j72]; exact (img01 g1).2)
  have q : ∀ k, k ≠ 72 → k ≠ 74 → k ≠ 50 → (k ≤ 18 ∨ 33 < k) → i2 k = iv k := fun k a b c d => by rw [e2 k a b, up_ne _ _ _ c, y1 k d]
  have qb : ∀ k, 18 < k → k ≤ 33 → i2 k = i1 k := fun k a b => by rw [e2 k (by omega) (by omega), up_ne _ _ _ (by omega)]
  have qr : ∀ i, i < 277 → i2 74 i = iv 73 i := fun i hi => by rw [e6 i (Nat.zero_le _) hi, j73]
  have q50 : i2 50 = fun j => if j = 0 then 1 else iv 50 j := by rw [e2 50 (by decide) (by decide), up_row, y1 50 (by decide)]
  have uz : uZ (hpOf i1 jv) 50 0 1 = some (hpOf (up i1 50 0 1) jv) := by
    have := u_50 i1 jv (i := 0) (by decide) 1
    rw [nZ1] at this
    exact this
  refine ⟨up i1 50 0 1, hpOf i2 jv, ?_, ?_, ⟨i2, jv, V, W, Y, rfl, ?_, ?_, ?_, ?_⟩⟩
  · unfold f_X10_image
    rw [if_neg (by decide), if_pos (by decide), G_0_1, Option.bind_some, Q_17_0, Option.bind_some, G_0_0, Option.bind_some, V_18, x1, Option.bind_some, G_0_2, Option.bind_some, uz, Option.bind_some]
  · unfold f_X11_image
    rw [show f_X11_in (Int32.toInt64 0) 0 1 = 1 by decide +kernel, if_neg (by decide)]
    exact e1
  · exact h1.rows (fun k _ _ => q k (by omega) (by omega) (by omega) (by omega)) (fun i _ => by rw [q 73 (by decide) (by decide) (by decide) (by decide)])
  · exact h2.rows (fun k _ _ => q k (by omega) (by omega) (by omega) (by omega)) (fun i _ => by rw [q 73 (by decide) (by decide) (by decide) (by decide)])
  · exact h3.rows (fun k _ _ => q k (by omega) (by omega) (by omega) (by omega)) (fun i _ => by rw [q 73 (by decide) (by decide) (by decide) (by decide)])
  · have hn : imgS (i2 50 0) (i2 72 3) 18 74 i2 := by
      refine Or.inr ⟨?_, e4, V, W, Y, ⟨h1.1, RCr.cp (s := 2) (d := 19) h1.1 h1.2.1 (r1.row (fun k a b => qb k (by omega) (by omega))), h1.2.2.rho h1.1 (fun i hi => qr i (by omega))⟩, ⟨h2.1, RCb.cp (s := 10) (d := 27) h2.1 h2.2.1 (b1.row (fun k a b => qb k (by omega) (by omega))), h2.2.2.rho2 h2.1 qr⟩, ⟨h3.1, RCp.cp (s := 13) (d := 30) h3.1 h3.2.1 (p1.row (fun k a b => qb k (by omega) (by omega))), h3.2.2.rho h3.1 (fun i hi => qr i (by omega))⟩⟩
      rw [q50]; rfl
    have ho : imgS (i2 50 1) (i2 72 4) 34 75 i2 := by
      rw [q50, e3 4 (by decide), j72]
      exact g1.rows (fun k a b => q k (by omega) (by omega) (by omega) (by omega)) (q 75 (by decide) (by decide) (by decide) (by decide))
    have q0 := q 0 (by decide) (by decide) (by decide) (by decide)
    refine ⟨hn, ho, ?_, ?_, fun j hj => ⟨?_, ?_⟩⟩
    · obtain ⟨a, b, f1, f2, f3, f4, f5, f6, f7⟩ := fr
      exact ⟨a, b, f1, f2, f3, by rw [q0]; exact f4, by rw [q0]; exact f5, f6, f7⟩
    · unfold refS
      rw [q0, q 76 (by decide) (by decide) (by decide) (by decide)]; exact rf
    · rw [qb 33 (by decide) (by decide)]; show i1 (30 + 3) j = 0 ∨ _ = 1; rw [(p1.2 j hj).2.2]; exact h3.2.1.2.2 j hj
    · rw [q 49 (by decide) (by decide) (by decide) (by decide)]; exact (z j hj).2
theorem frm_0 {iv : Nat → Nat → Int32} {jv : Nat → Nat → Int64} {V W Y : Nat → Nat} (h1 : SR 1 73 iv V) (h2 : SB 1 73 iv W) (h3 : SP 1 73 iv Y) (h4 : Rst iv jv) : Both (f_X10_from 0 0) (f_X11_from 72 0) (hpOf iv jv) := by
  obtain ⟨g0, g1, fr, rf, z⟩ := id h4
  have a50 : ∀ iv : Nat → Nat → Int32, aI (hpOf iv jv) 50 1 0 = some (iv 50 0) := fun iv => a_50 iv jv (i := 0) (by decide)
  have hin : f_X11_in (Int32.toInt64 0) 0 1 = 1 := by decide +kernel
  rcases g0 with ⟨k1, k2⟩ | ⟨k1, k2, V', W', Y', s1, s2, s3⟩
  · refine both_no h1 h2 h3 h4 (t := -3) ?_ (fun iv' e => ?_)
    · unfold f_X10_from
      rw [if_neg (by decide), if_pos (by decide), G_0_2, Option.bind_some, a50, Option.bind_some, k1, if_pos rfl, V_0, c_no, Option.bind_some]
    · unfold f_X11_from
      rw [hin, if_neg (by decide), if_pos rfl, G_72_3, Option.bind_some, e 72 (by decide), k2, if_pos rfl, V_72, m_no, Option.bind_some]
  · obtain ⟨i1, x1, y1, r1, b1, p1⟩ := c8_1_18 (iv := iv) (jv := jv) (fun j hj => (z j hj).1)
    obtain ⟨i2, e1, e2, -, e4⟩ := m_frm0 (jv := jv) 277 (199999 - 277) 0 i1 rfl
    have q : ∀ k, k ≠ 73 → (k ≤ 1 ∨ 16 < k) → i2 k = iv k := fun k a b => by rw [e2 k a, y1 k b]
    have qb : ∀ k, 1 < k → k ≤ 16 → i2 k = i1 k := fun k a b => e2 k (by omega)
    have qr : ∀ i, i < 277 → i2 73 i = iv 74 i := fun i hi => by rw [e4 i (Nat.zero_le _) hi, y1 74 (by decide)]
    refine ⟨1, i1, jv, hpOf i2 jv, ?_, ?_, ⟨i2, jv, V', W', Y', rfl, ?_, ?_, ?_, ?_⟩⟩
    · unfold f_X10_from
      rw [if_neg (by decide), if_pos (by decide), G_0_2, Option.bind_some, a50, Option.bind_some, k1, if_neg (by decide), G_0_0, Option.bind_some, G_0_1, Option.bind_some, Q_17_0, Option.bind_some, V_1, x1, Option.bind_some]
    · unfold f_X11_from
      rw [hin, if_neg (by decide), if_pos rfl, G_72_3, Option.bind_some, y1 72 (by decide), k2, if_neg (by decide)]
      exact e1
    · exact ⟨s1.1, RCr.cp (s := 19) (d := 2) s1.1 s1.2.1 (r1.row (fun k a b => qb k (by omega) (by omega))), s1.2.2.rho s1.1 (fun i hi => qr i (by omega))⟩
    · exact ⟨s2.1, RCb.cp (s := 27) (d := 10) s2.1 s2.2.1 (b1.row (fun k a b => qb k (by omega) (by omega))), s2.2.2.rho2 s2.1 qr⟩
    · exact ⟨s3.1, RCp.cp (s := 30) (d := 13) s3.1 s3.2.1 (p1.row (fun k a b => qb k (by omega) (by omega))), s3.2.2.rho s3.1 (fun i hi => qr i (by omega))⟩
    · exact h4.rows (fun k hk => q k (by omega) (by omega)) (by rw [q 72 (by decide) (by decide)]) (by rw [q 72 (by decide) (by decide)]) rfl rfl
theorem img_1 {iv : Nat → Nat → Int32} {jv : Nat → Nat → Int64} {V W Y : Nat → Nat} (h1 : SR 1 73 iv V) (h2 : SB 1 73 iv W) (h3 : SP 1 73 iv Y) (h4 : Rst iv jv) : ∃ iv1 hp2, f_X10_image 0 1 (hpOf iv jv) = some (1, hpOf iv1 jv) ∧ f_X11_image 72 1 (hpOf iv1 jv) = some (1, hp2) ∧ InvH hp2 := by
  obtain ⟨g0, g1, fr, rf, z⟩ := id h4
  obtain ⟨i1, x1, y1, r1, b1, p1⟩ := c8_34_1 (iv := iv) (jv := jv) (fun j hj => h3.2.1.2.2 j hj)
  have j72 : (up i1 50 1 1) 72 = iv 72 := by rw [up_ne _ _ _ (by decide), y1 72 (by decide)]
  have j73 : (up i1 50 1 1) 73 = iv 73 := by rw [up_ne _ _ _ (by decide), y1 73 (by decide)]
  obtain ⟨i2, e1, e2, e3, e4, -, e6⟩ := m_img1 (jv := jv) 277 (199999 - 277) 0 (up i1 50 1 1) rfl (by rw [j72]; exact (img01 g0).2) (by rw [j72]; exact (img01 g1).2)
  have q : ∀ k, k ≠ 72 → k ≠ 75 → k ≠ 50 → (k ≤ 34 ∨ 49 < k) → i2 k = iv k := fun k a b c d => by rw [e2 k a b, up_ne _ _ _ c, y1 k d]
  have qb : ∀ k, 34 < k → k ≤ 49 → i2 k = i1 k := fun k a b => by rw [e2 k (by omega) (by omega), up_ne _ _ _ (by omega)]
  have qr : ∀ i, i < 277 → i2 75 i = iv 73 i := fun i hi => by rw [e6 i (Nat.zero_le _) hi, j73]
  have q50 : i2 50 = fun j => if j = 1 then 1 else iv 50 j := by rw [e2 50 (by decide) (by decide), up_row, y1 50 (by decide)]
  have uz : uZ (hpOf i1 jv) 50 1 1 = some (hpOf (up i1 50 1 1) jv) := by
    have := u_50 i1 jv (i := 1) (by decide) 1
    rw [nZ1] at this
    exact this
  refine ⟨up i1 50 1 1, hpOf i2 jv, ?_, ?_, ⟨i2, jv, V, W, Y, rfl, ?_, ?_, ?_, ?_⟩⟩
  · unfold f_X10_image
    rw [if_neg (by decide), if_pos (by decide), G_0_1, Option.bind_some, Q_17_1, Option.bind_some, G_0_0, Option.bind_some, V_34, x1, Option.bind_some, G_0_2, Option.bind_some, uz, Option.bind_some]
  · unfold f_X11_image
    rw [show f_X11_in (Int32.toInt64 1) 0 1 = 1 by decide +kernel, if_neg (by decide)]
    exact e1
  · exact h1.rows (fun k _ _ => q k (by omega) (by omega) (by omega) (by omega)) (fun i _ => by rw [q 73 (by decide) (by decide) (by decide) (by decide)])
  · exact h2.rows (fun k _ _ => q k (by omega) (by omega) (by omega) (by omega)) (fun i _ => by rw [q 73 (by decide) (by decide) (by decide) (by decide)])
  · exact h3.rows (fun k _ _ => q k (by omega) (by omega) (by omega) (by omega)) (fun i _ => by rw [q 73 (by decide) (by decide) (by decide) (by decide)])
  · have hn : imgS (i2 50 1) (i2 72 4) 34 75 i2 := by
      refine Or.inr ⟨?_, e4, V, W, Y, ⟨h1.1, RCr.cp (s := 2) (d := 35) h1.1 h1.2.1 (r1.row (fun k a b => qb k (by omega) (by omega))), h1.2.2.rho h1.1 (fun i hi => qr i (by omega))⟩, ⟨h2.1, RCb.cp (s := 10) (d := 43) h2.1 h2.2.1 (b1.row (fun k a b => qb k (by omega) (by omega))), h2.2.2.rho2 h2.1 qr⟩, ⟨h3.1, RCp.cp (s := 13) (d := 46) h3.1 h3.2.1 (p1.row (fun k a b => qb k (by omega) (by omega))), h3.2.2.rho h3.1 (fun i hi => qr i (by omega))⟩⟩
      rw [q50]; rfl
    have ho : imgS (i2 50 0) (i2 72 3) 18 74 i2 := by
      rw [q50, e3 3 (by decide), j72]
      exact g0.rows (fun k a b => q k (by omega) (by omega) (by omega) (by omega)) (q 74 (by decide) (by decide) (by decide) (by decide))
    have q0 := q 0 (by decide) (by decide) (by decide) (by decide)
    refine ⟨ho, hn, ?_, ?_, fun j hj => ⟨?_, ?_⟩⟩
    · obtain ⟨a, b, f1, f2, f3, f4, f5, f6, f7⟩ := fr
      exact ⟨a, b, f1, f2, f3, by rw [q0]; exact f4, by rw [q0]; exact f5, f6, f7⟩
    · unfold refS
      rw [q0, q 76 (by decide) (by decide) (by decide) (by decide)]; exact rf
    · rw [q 33 (by decide) (by decide) (by decide) (by decide)]; exact (z j hj).1
    · rw [qb 49 (by decide) (by decide)]; show i1 (46 + 3) j = 0 ∨ _ = 1; rw [(p1.2 j hj).2.2]; exact h3.2.1.2.2 j hj
theorem frm_1 {iv : Nat → Nat → Int32} {jv : Nat → Nat → Int64} {V W Y : Nat → Nat} (h1 : SR 1 73 iv V) (h2 : SB 1 73 iv W) (h3 : SP 1 73 iv Y) (h4 : Rst iv jv) : Both (f_X10_from 0 1) (f_X11_from 72 1) (hpOf iv jv) := by
  obtain ⟨g0, g1, fr, rf, z⟩ := id h4
  have a50 : ∀ iv : Nat → Nat → Int32, aI (hpOf iv jv) 50 1 1 = some (iv 50 1) := fun iv => a_50 iv jv (i := 1) (by decide)
  have hin : f_X11_in (Int32.toInt64 1) 0 1 = 1 := by decide +kernel
  rcases g1 with ⟨k1, k2⟩ | ⟨k1, k2, V', W', Y', s1, s2, s3⟩
  · refine both_no h1 h2 h3 h4 (t := -3) ?_ (fun iv' e => ?_)
    · unfold f_X10_from
      rw [if_neg (by decide), if_pos (by decide), G_0_2, Option.bind_some, a50, Option.bind_some, k1, if_pos rfl, V_0, c_no, Option.bind_some]
    · unfold f_X11_from
      rw [hin, if_neg (by decide), if_neg (by decide), G_72_4, Option.bind_some, e 72 (by decide), k2, if_pos rfl, V_72, m_no, Option.bind_some]
  · obtain ⟨i1, x1, y1, r1, b1, p1⟩ := c8_1_34 (iv := iv) (jv := jv) (fun j hj => (z j hj).2)
    obtain ⟨i2, e1, e2, -, e4⟩ := m_frm1 (jv := jv) 277 (199999 - 277) 0 i1 rfl
    have q : ∀ k, k ≠ 73 → (k ≤ 1 ∨ 16 < k) → i2 k = iv k := fun k a b => by rw [e2 k a, y1 k b]
    have qb : ∀ k, 1 < k → k ≤ 16 → i2 k = i1 k := fun k a b => e2 k (by omega)
    have qr : ∀ i, i < 277 → i2 73 i = iv 75 i := fun i hi => by rw [e4 i (Nat.zero_le _) hi, y1 75 (by decide)]
    refine ⟨1, i1, jv, hpOf i2 jv, ?_, ?_, ⟨i2, jv, V', W', Y', rfl, ?_, ?_, ?_, ?_⟩⟩
    · unfold f_X10_from
      rw [if_neg (by decide), if_pos (by decide), G_0_2, Option.bind_some, a50, Option.bind_some, k1, if_neg (by decide), G_0_0, Option.bind_some, G_0_1, Option.bind_some, Q_17_1, Option.bind_some, V_1, x1, Option.bind_some]
    · unfold f_X11_from
      rw [hin, if_neg (by decide), if_neg (by decide), G_72_4, Option.bind_some, y1 72 (by decide), k2, if_neg (by decide)]
      exact e1
    · exact ⟨s1.1, RCr.cp (s := 35) (d := 2) s1.1 s1.2.1 (r1.row (fun k a b => qb k (by omega) (by omega))), s1.2.2.rho s1.1 (fun i hi => qr i (by omega))⟩
    · exact ⟨s2.1, RCb.cp (s := 43) (d := 10) s2.1 s2.2.1 (b1.row (fun k a b => qb k (by omega) (by omega))), s2.2.2.rho2 s2.1 qr⟩
    · exact ⟨s3.1, RCp.cp (s := 46) (d := 13) s3.1 s3.2.1 (p1.row (fun k a b => qb k (by omega) (by omega))), s3.2.2.rho s3.1 (fun i hi => qr i (by omega))⟩
    · exact h4.rows (fun k hk => q k (by omega) (by omega)) (by rw [q 72 (by decide) (by decide)]) (by rw [q 72 (by decide) (by decide)]) rfl rfl
theorem lt_2 {a : Int32} (g : ¬ a < 0) : a < 2 ↔ a ≤ 1 := by
  obtain ⟨j, hj, e⟩ := nI_of g
  rw [e, show (2 : Int32) = nI 2 by decide, show (1 : Int32) = nI 1 by decide, nI_ltI hj (by decide), nI_leI hj (by decide)]
  omega
theorem in_01 {a : Int32} (c : 0 ≤ a ∧ a ≤ 1) : a = 0 ∨ a = 1 := by
  obtain ⟨n, hn, rfl⟩ := in01 (hi := 1) (by decide) c
  rcases (show n = 0 ∨ n = 1 by omega) with rfl | rfl
  · exact Or.inl nI_0
  · exact Or.inr (by decide)
theorem op_image (a : Int32) : OpOK (f_X10_image 0 a) (f_X11_image 72 a) := by
  rintro hp ⟨iv, jv, V, W, Y, rfl, h1, h2, h3, h4⟩
  by_cases c : 0 ≤ a ∧ a ≤ 1
  · rcases in_01 c with rfl | rfl
    · obtain ⟨x, y, z⟩ := img_0 h1 h2 h3 h4
      exact ⟨1, x, jv, y, z⟩
    · obtain ⟨x, y, z⟩ := img_1 h1 h2 h3 h4
      exact ⟨1, x, jv, y, z⟩
  · refine both_bad h1 h2 h3 h4 (t := -2) ?_ (fun iv' _ => ?_)
    · by_cases g1 : a < 0
      · simp [f_X10_image, g1, V_0, c_bad]
      · have g2 : ¬ a < 2 := fun h => c ⟨nlt g1, (lt_2 g1).mp h⟩
        unfold f_X10_image
        rw [if_neg g1, if_neg g2, V_0, c_bad, Option.bind_some]
    · simp [f_X11_image, f_in a 0 1 (LO := 0) (HI := 1) (by decide) (by decide), c, V_72, m_bad]
theorem op_from (a : Int32) : OpOK (f_X10_from 0 a) (f_X11_from 72 a) := by
  rintro hp ⟨iv, jv, V, W, Y, rfl, h1, h2, h3, h4⟩
  by_cases c : 0 ≤ a ∧ a ≤ 1
  · rcases in_01 c with rfl | rfl
    · exact frm_0 h1 h2 h3 h4
    · exact frm_1 h1 h2 h3 h4
  · refine both_bad h1 h2 h3 h4 (t := -2) ?_ (fun iv' _ => ?_)
    · by_cases g1 : a < 0
      · simp [f_X10_from, g1, V_0, c_bad]
      · have g2 : ¬ a < 2 := fun h => c ⟨nlt g1, (lt_2 g1).mp h⟩
        unfold f_X10_from
        rw [if_neg g1, if_neg g2, V_0, c_bad, Option.bind_some]
    · simp [f_X11_from, f_in a 0 1 (LO := 0) (HI := 1) (by decide) (by decide), c, V_72, m_bad]
