/-! FITS: what the class lays (undecided, wrongs) -/
def undB (Y : Nat → Nat) (o j : Nat) : Bool := !(Y (47 + 3 * j) / 2 ^ o == 0)
def undN (Y : Nat → Nat) (o : Nat) : Nat := cq (undB Y o) (Y 3) 0
def selB (Y : Nat → Nat) (o j : Nat) : Bool := Y (47 + 3 * j) / 2 ^ o == 1
def nfN (Y : Nat → Nat) (a o j : Nat) : Nat := (10 - (Y (48 + 3 * j) + sfF (Y (47 + 3 * j)) a o 0) % 10) % 10
def wrX (Y : Nat → Nat) (a o r j : Nat) : Bool := (r == nfN Y a o j) == (Y (49 + 3 * j) == 0)
def wzB (Y : Nat → Nat) (a o r j : Nat) : Bool := selB Y o j && wrX Y a o r j
section WF
variable {jv : Nat → Nat → Int64} {Y : Nat → Nat}
theorem c_beg1 {o : Nat} (ho : o < 5) (k12 : Nat → Int32 → PH → Option PH) : ∀ (jj N j u : Nat) (iv : Nat → Nat → Int32), j + jj = Y 3 → SP 1 73 iv Y → iv 70 o = nI u → ∃ iv', f_X2_begin_L27 k12 (N + jj + 1) 68 (nI o) (nI j) (hpOf iv jv) = k12 68 (nI (o + 1)) (hpOf iv' jv) ∧ (∀ k, k ≠ 70 → iv' k = iv k) ∧ (∀ i, i ≠ o → iv' 70 i = iv 70 i) ∧ iv' 70 o = nI (u + cq (undB Y o) jj j) := by
  intro jj
  induction jj with
  | zero =>
    intro N j u iv e h3 hu
    have k3 := h3.1.1
    have p3 : iv 13 0 = nI (Y 3) := h3.2.1.1.1
    refine ⟨iv, ?_, fun _ _ => rfl, fun _ _ => rfl, by rw [hu]; rfl⟩
    rw [f_X2_begin_L27, G_68_0, Option.bind_some, G_13_0, Option.bind_some, p3, iteE (by omega) (by omega), if_pos (by omega), nI_1]
  | succ jj ih =>
    intro N j u iv e h3 hu
    have k3 := h3.1.1
    have p3 : iv 13 0 = nI (Y 3) := h3.2.1.1.1
    have b1 : iv 14 j = nI (Y (47 + 3 * j)) := (h3.2.1.2.1 j (by omega)).1
    obtain ⟨l0, l1, l2, l3⟩ := h3.1.2.2 j (by omega)
    have dl : Y (47 + 3 * j) / 2 ^ o ≤ Y (47 + 3 * j) := Nat.div_le_self _ _
    have go : ∀ v : Nat, v = (if undB Y o j then 1 else 0) → ∃ iv', f_X2_begin_L27 k12 (N + jj + 1) 68 (nI o) (nI (j + 1)) (hpOf (up iv 70 o (nI (u + v))) jv) = k12 68 (nI (o + 1)) (hpOf iv' jv) ∧ (∀ k, k ≠ 70 → iv' k = iv k) ∧ (∀ i, i ≠ o → iv' 70 i = iv 70 i) ∧ iv' 70 o = nI (u + cq (undB Y o) (jj + 1) j) := by
      intro v hv
      have s1 : Scr iv jv (up iv 70 o (nI (u + v))) jv := scr_up 70 o _ (by omega)
      obtain ⟨iv', g1, g2, g3, g4⟩ := ih N (j + 1) (u + v) (up iv 70 o (nI (u + v))) (by omega) (s1.sp h3) (up_at _ _ _ _)
      refine ⟨iv', g1, fun k h => by rw [g2 k h, up_ne _ _ _ h], fun i h => by rw [g3 i h, up_in _ _ h], ?_⟩
      rw [g4, cq, ← hv, Nat.add_assoc]
    rw [show N + (jj + 1) + 1 = (N + jj + 1) + 1 by omega, f_X2_begin_L27, G_68_0, Option.bind_some, G_13_0, Option.bind_some, p3, iteE (by omega) (by omega), if_neg (by omega), G_68_2, Option.bind_some, a_70 iv jv ho, Option.bind_some, Option.bind_some, G_13_3, Option.bind_some, a_14 iv jv (by omega), Option.bind_some, b1, iS_n (by omega) (by omega), nI_0I (by omega), hu, nI_1, nI_1, show nI u + 0 = nI (u + 0) from nI_add u 0, u_70 iv jv ho, Option.bind_some, u_70 iv jv ho, Option.bind_some]
    by_cases c : Y (47 + 3 * j) / 2 ^ o = 0
    · rw [if_pos c]
      exact go 0 (by unfold undB; rw [c]; rfl)
    · rw [if_neg c]
      exact go 1 (by unfold undB; rw [if_pos (by simp [c])])
theorem c_beg2 : ∀ (jj N o : Nat) (iv : Nat → Nat → Int32), o + jj = 5 → SP 1 73 iv Y → (∀ i, i < o → iv 70 i = nI (undN Y i)) → ∃ iv', f_X2_begin_L12 (N + jj + 1) 68 (nI o) (hpOf iv jv) = some (hpOf iv' jv) ∧ (∀ k, k ≠ 70 → iv' k = iv k) ∧ ∀ i, i < 5 → iv' 70 i = nI (undN Y i) := by
  intro jj
  induction jj with
  | zero =>
    intro N o iv e h3 hu
    refine ⟨iv, ?_, fun _ _ => rfl, fun i hi => hu i (by omega)⟩
    rw [f_X2_begin_L12, show (5 : Int32) = nI 5 by decide, iteE (by omega) (by omega), if_pos (by omega)]
  | succ jj ih =>
    intro N o iv e h3 hu
    have k3 := h3.1.1
    have s1 : Scr iv jv (up iv 70 o 0) jv := scr_up 70 o _ (by omega)
    obtain ⟨iv1, e1, e2, e3, e4⟩ := c_beg1 (jv := jv) (o := o) (by omega) (f_X2_begin_L12 (N + jj + 1)) (Y 3) (199999 - Y 3) 0 0 (up iv 70 o 0) (by omega) (s1.sp h3) (up_at _ _ _ _)
    have s2 : Scr iv jv iv1 jv := scr_row 70 (by omega) (fun k h => by rw [e2 k h, up_ne _ _ _ h])
    obtain ⟨iv2, g1, g2, g3⟩ := ih N (o + 1) iv1 (by omega) (s2.sp h3) (fun i hi => by
      by_cases c : i = o
      · rw [c, e4, Nat.zero_add]; rfl
      · rw [e3 i c, up_in _ _ c]; exact hu i (by omega))
    refine ⟨iv2, ?_, fun k h => by rw [g2 k h, e2 k h, up_ne _ _ _ h], g3⟩
    rw [← NNj (by omega), nI_0] at e1
    rw [show N + (jj + 1) + 1 = (N + jj + 1) + 1 by omega, f_X2_begin_L12, show (5 : Int32) = nI 5 by decide, iteE (by omega) (by omega), if_neg (by omega), G_68_2, Option.bind_some, u_70 iv jv (by omega), Option.bind_some, e1]
    exact g1
theorem c_begin {iv : Nat → Nat → Int32} (h3 : SP 1 73 iv Y) (x y : Int32) : ∃ iv', f_X2_begin 68 x y (hpOf iv jv) = some (hpOf iv' jv) ∧ (∀ k, k ≠ 68 → k ≠ 70 → iv' k = iv k) ∧ iv' 68 4 = x ∧ iv' 68 5 = y ∧ ∀ i, i < 5 → iv' 70 i = nI (undN Y i) := by
  have s1 : Scr iv jv (up (up iv 68 4 x) 68 5 y) jv := scr_row 68 (by omega) (fun k h => by rw [up_ne _ _ _ h, up_ne _ _ _ h])
  obtain ⟨iv1, e1, e2, e3⟩ := c_beg2 (jv := jv) 5 (199999 - 5) 0 (up (up iv 68 4 x) 68 5 y) rfl (s1.sp h3) (fun i hi => by omega)
  refine ⟨iv1, ?_, fun k a b => by rw [e2 k b, up_ne _ _ _ a, up_ne _ _ _ a], by rw [e2 68 (by decide), up_in _ _ (by decide), up_at], by rw [e2 68 (by decide), up_at], e3⟩
  unfold f_X2_begin
  rw [S_68_4, Option.bind_some, S_68_5, Option.bind_some]
  exact e1
/-- the figures ahead of o are those of the code a -/
def FIG (iv : Nat → Nat → Int32) (a o : Nat) : Prop := ∀ i, i < o → iv 69 i = nI (figN a i)
theorem c_need1 {iv : Nat → Nat → Int32} (h3 : SP 1 73 iv Y) {a o j : Nat} (ho : o < 5) (hf : FIG iv a o) (hj : j < Y 3) : ∀ (jj N i y : Nat), i + jj = o → y + 9 * jj ≤ 1000 → f_X2_neededFigure_L13 (N + jj + 1) 68 (nI j) (nI o) (nI y) (nI i) (hpOf iv jv) = some (nI ((10 - (y + sfF (Y (47 + 3 * j)) a jj i) % 10) % 10)) := by
  have k3 := h3.1.1
  have b1 : iv 14 j = nI (Y (47 + 3 * j)) := (h3.2.1.2.1 j hj).1
  obtain ⟨l0, l1, l2, l3⟩ := h3.1.2.2 j hj
  intro jj
  induction jj with
  | zero =>
    intro N i y e hy
    rw [f_X2_neededFigure_L13, iteE (by omega) (by omega), if_pos (by omega), show (10 : Int32) = nI 10 by decide, rem_n (by omega) (by decide) (by decide), pk_sub (by omega), rem_n (by omega) (by decide) (by decide), sfF, Nat.add_zero]
  | succ jj ih =>
    intro N i y e hy
    have fl := fig_lt a i
    rw [show N + (jj + 1) + 1 = (N + jj + 1) + 1 by omega, f_X2_neededFigure_L13, iteE (by omega) (by omega), if_neg (by omega), G_68_0, Option.bind_some, G_13_3, Option.bind_some, a_14 iv jv (by omega), Option.bind_some, b1, bitI (show Y (47 + 3 * j) < 256 by omega) (by omega), G_68_1, Option.bind_some, a_69 iv jv (by omega), Option.bind_some, hf i (by omega), nI_add, nI_1, ih N (i + 1) _ (by omega) (by omega), ih N (i + 1) _ (by omega) (by omega), sfF]
    cases (Y (47 + 3 * j)).testBit i
    · rw [if_neg Bool.false_ne_true, if_neg Bool.false_ne_true, Nat.zero_add]
    · rw [if_pos rfl, if_pos rfl, Nat.add_assoc]
theorem c_need {iv : Nat → Nat → Int32} (h3 : SP 1 73 iv Y) {a o j : Nat} (ho : o < 5) (hf : FIG iv a o) (hj : j < Y 3) : f_X2_neededFigure 68 (nI j) (nI o) (hpOf iv jv) = some (nI (nfN Y a o j)) := by
  have k3 := h3.1.1
  have b2 : iv 15 j = nI (Y (48 + 3 * j)) := (h3.2.1.2.1 j hj).2.1
  obtain ⟨l0, l1, l2, l3⟩ := h3.1.2.2 j hj
  have := c_need1 (jv := jv) h3 ho hf hj o (199999 - o) 0 (Y (48 + 3 * j)) (by omega) (by omega)
  rw [← NNj (by omega), nI_0] at this
  unfold f_X2_neededFigure
  rw [G_68_0, Option.bind_some, G_13_4, Option.bind_some, a_15 iv jv (by omega), Option.bind_some, b2]
  exact this
theorem c_wf3 {o l : Nat} (ho : o < 5) : ∀ (jj N r : Nat) (iv : Nat → Nat → Int32), r + jj = 10 → ∃ iv', f_X2_weighFigures_L126 (N + jj + 1) 68 (nI (10 * o)) (nI l) (nI r) (hpOf iv jv) = some (hpOf iv' jv) ∧ (∀ k, k ≠ 71 → iv' k = iv k) ∧ (∀ i, (i < 10 * o + r ∨ 10 * o + 10 ≤ i) → iv' 71 i = iv 71 i) ∧ ∀ t, r ≤ t → t < 10 → iv' 71 (10 * o + t) = iv 71 (10 * o + t) + nI l := by
  intro jj
  induction jj with
  | zero =>
    intro N r iv e
    refine ⟨iv, ?_, fun _ _ => rfl, fun _ _ => rfl, fun t a b => by omega⟩
    rw [f_X2_weighFigures_L126, show (10 : Int32) = nI 10 by decide, iteE (by omega) (by omega), if_pos (by omega)]
  | succ jj ih =>
    intro N r iv e
    obtain ⟨iv', g1, g2, g3, g4⟩ := ih N (r + 1) (up iv 71 (10 * o + r) (iv 71 (10 * o + r) + nI l)) (by omega)
    refine ⟨iv', ?_, fun k h => by rw [g2 k h, up_ne _ _ _ h], fun i hi => by rw [g3 i (by omega), up_in _ _ (by omega)], fun t a b => ?_⟩
    · rw [show N + (jj + 1) + 1 = (N + jj + 1) + 1 by omega, f_X2_weighFigures_L126, show (10 : Int32) = nI 10 by decide, iteE (by omega) (by omega), if_neg (by omega), G_68_3, Option.bind_some, nI_add, a_71 iv jv (by omega), Option.bind_some, u_71 iv jv (by omega), Option.bind_some, nI_1]
      exact g1
    · by_cases c : t = r
      · subst c
        rw [g3 _ (by omega), up_at]
      · rw [g4 t (by omega) b, up_in _ _ (by omega)]
theorem wz_1 {Y : Nat → Nat} {a o r j : Nat} (hs : Y (47 + 3 * j) / 2 ^ o = 1) (hl : Y (49 + 3 * j) = 1) : wzB Y a o r j = !(r == nfN Y a o j) := by
  unfold wzB selB wrX
  rw [hs, hl]
  cases (r == nfN Y a o j) <;> rfl
theorem wz_0 {Y : Nat → Nat} {a o r j : Nat} (hs : Y (47 + 3 * j) / 2 ^ o = 1) (hl : Y (49 + 3 * j) = 0) : wzB Y a o r j = (r == nfN Y a o j) := by
  unfold wzB selB wrX
  rw [hs, hl]
  cases (r == nfN Y a o j) <;> rfl
theorem wz_n {Y : Nat → Nat} {a o r j : Nat} (hs : ¬ Y (47 + 3 * j) / 2 ^ o = 1) : wzB Y a o r j = false := by
  unfold wzB selB
  simp [hs]
theorem nf_lt (Y : Nat → Nat) (a o j : Nat) : nfN Y a o j < 10 := Nat.mod_lt _ (by decide)
theorem m1_add (x : Int32) (l : Nat) : x + (-1) + nI (l + 1) = x + nI l := by
  rw [show l + 1 = 1 + l by omega, ← nI_add, ← Int32.add_assoc, Int32.add_assoc x, show (-1 : Int32) + nI 1 = 0 by decide, Int32.add_zero]
theorem p1_add {x : Int32} {l c : Nat} (h : x + nI l = nI c) : x + 1 + nI l = nI (c + 1) := by
  rw [Int32.add_assoc, Int32.add_comm 1, ← Int32.add_assoc, h, nI_1]
theorem l1_add {x : Int32} {l c : Nat} (h : x + nI l = nI c) : x + nI (l + 1) = nI (c + 1) := by
  rw [← nI_1, ← Int32.add_assoc, h, nI_1]
theorem c_wf2 {a o : Nat} (ho : o < 5) : ∀ (jj N j l : Nat) (iv : Nat → Nat → Int32) (cr : Nat → Nat), j + jj = Y 3 → SP 1 73 iv Y → FIG iv a o → (∀ r, r < 10 → iv 71 (10 * o + r) + nI l = nI (cr r)) → ∃ iv', f_X2_weighFigures_L33 (N + jj + 1) 68 (nI o) (nI (10 * o)) (nI l) (nI j) (hpOf iv jv) = some (hpOf iv' jv) ∧ (∀ k, k ≠ 71 → iv' k = iv k) ∧ (∀ i, (i < 10 * o ∨ 10 * o + 10 ≤ i) → iv' 71 i = iv 71 i) ∧ ∀ r, r < 10 → iv' 71 (10 * o + r) = nI (cr r + cq (wzB Y a o r) jj j) := by
  intro jj
  induction jj with
  | zero =>
    intro N j l iv cr e h3 hf hc
    have k3 := h3.1.1
    have p3 : iv 13 0 = nI (Y 3) := h3.2.1.1.1
    obtain ⟨iv', g1, g2, g3, g4⟩ := c_wf3 (jv := jv) (l := l) ho 10 (199999 - 10) 0 iv rfl
    refine ⟨iv', ?_, g2, fun i hi => g3 i (by omega), fun r hr => ?_⟩
    · rw [f_X2_weighFigures_L33, G_68_0, Option.bind_some, G_13_0, Option.bind_some, p3, iteE (by omega) (by omega), if_pos (by omega)]
      exact g1
    · rw [g4 r (by omega) hr, hc r hr, cq, Nat.add_zero]
  | succ jj ih =>
    intro N j l iv cr e h3 hf hc
    have k3 := h3.1.1
    have p3 : iv 13 0 = nI (Y 3) := h3.2.1.1.1
    obtain ⟨b1', -, b3'⟩ := h3.2.1.2.1 j (by omega)
    have b1 : iv 14 j = nI (Y (47 + 3 * j)) := b1'
    have b3 : iv 16 j = nI (Y (49 + 3 * j)) := b3'
    obtain ⟨l0, l1, l2, l3⟩ := h3.1.2.2 j (by omega)
    have dl : Y (47 + 3 * j) / 2 ^ o ≤ Y (47 + 3 * j) := Nat.div_le_self _ _
    rw [show N + (jj + 1) + 1 = (N + jj + 1) + 1 by omega, f_X2_weighFigures_L33, G_68_0, Option.bind_some, G_13_0, Option.bind_some, p3, iteE (by omega) (by omega), if_neg (by omega), Option.bind_some, G_13_3, Option.bind_some, a_14 iv jv (by omega), Option.bind_some, b1, iS_n (by omega) (by omega)]
    by_cases c : Y (47 + 3 * j) / 2 ^ o = 1
    · have nl := nf_lt Y a o j
      have step : ∀ (x : Int32) (l' : Nat) (cr' : Nat → Nat), (∀ r, r < 10 → cr' r = cr r + if wzB Y a o r j then 1 else 0) → (∀ r, r < 10 → (up iv 71 (10 * o + nfN Y a o j) x) 71 (10 * o + r) + nI l' = nI (cr' r)) → ∃ iv', f_X2_weighFigures_L33 (N + jj + 1) 68 (nI o) (nI (10 * o)) (nI l') (nI (j + 1)) (hpOf (up iv 71 (10 * o + nfN Y a o j) x) jv) = some (hpOf iv' jv) ∧ (∀ k, k ≠ 71 → iv' k = iv k) ∧ (∀ i, (i < 10 * o ∨ 10 * o + 10 ≤ i) → iv' 71 i = iv 71 i) ∧ ∀ r, r < 10 → iv' 71 (10 * o + r) = nI (cr r + cq (wzB Y a o r) (jj + 1) j) := by
        intro x l' cr' hcr hx
        have s1 : Scr iv jv (up iv 71 (10 * o + nfN Y a o j) x) jv := scr_up 71 _ _ (by omega)
        obtain ⟨iv', g1, g2, g3, g4⟩ := ih N (j + 1) l' (up iv 71 (10 * o + nfN Y a o j) x) cr' (by omega) (s1.sp h3) (fun i hi => by rw [up_ne _ _ _ (by decide)]; exact hf i hi) hx
        refine ⟨iv', g1, fun k h => by rw [g2 k h, up_ne _ _ _ h], fun i hi => by rw [g3 i hi, up_in _ _ (by omega)], fun r hr => ?_⟩
        rw [g4 r hr, hcr r hr, cq, Nat.add_assoc]
      rw [c, show (if nI 1 = 1 then _ else f_X2_weighFigures_L33 (N + jj + 1) 68 (nI o) (nI (10 * o)) (nI l) (nI j + 1) (hpOf iv jv)) = _ from if_pos (by decide), G_68_3, Option.bind_some, V_68, c_need h3 ho hf (by omega), Option.bind_some, nI_add, a_71 iv jv (by omega), Option.bind_some, Option.bind_some, G_13_5, Option.bind_some, a_16 iv jv (by omega), Option.bind_some, b3, nI_0I (by omega)]
      have J : ∀ s0 : Int32, f_X2_weighFigures_J94 (f_X2_weighFigures_L33 (N + jj + 1)) 68 (nI o) (nI (10 * o)) (nI l) (nI j) s0 (iv 71 (10 * o + nfN Y a o j)) (nI (10 * o + nfN Y a o j)) 71 (hpOf iv jv) = f_X2_weighFigures_L33 (N + jj + 1) 68 (nI o) (nI (10 * o)) (nI (l + Y (49 + 3 * j))) (nI (j + 1)) (hpOf (up iv 71 (10 * o + nfN Y a o j) (iv 71 (10 * o + nfN Y a o j) + s0)) jv) := by
        intro s0
        rw [f_X2_weighFigures_J94, u_71 iv jv (by omega), Option.bind_some, G_68_0, Option.bind_some, G_13_5, Option.bind_some, a_16 _ jv (by omega), Option.bind_some, up_ne _ _ _ (by decide), b3, nI_0I (by omega), nI_1, nI_1, show nI l + 0 = nI (l + 0) from nI_add l 0]
        rcases (show Y (49 + 3 * j) = 0 ∨ Y (49 + 3 * j) = 1 by omega) with q | q
        · rw [q, if_pos rfl]
        · rw [q, if_neg (by decide)]
      rw [J, J]
      rcases (show Y (49 + 3 * j) = 0 ∨ Y (49 + 3 * j) = 1 by omega) with q | q
      · rw [if_pos q, q]
        refine step _ _ (fun r => cr r + if wzB Y a o r j then 1 else 0) (fun r hr => rfl) (fun r hr => ?_)
        rw [wz_0 c q]
        by_cases e2 : r = nfN Y a o j
        · rw [e2, up_at, beq_self_eq_true, if_pos rfl, Nat.add_zero]
          have := hc (nfN Y a o j) nl
          exact p1_add this
        · rw [up_in _ _ (by omega), if_neg (by simp [e2])]
          exact hc r hr
      · rw [if_neg (by omega), q]
        refine step _ _ (fun r => cr r + if wzB Y a o r j then 1 else 0) (fun r hr => rfl) (fun r hr => ?_)
        rw [wz_1 c q]
        by_cases e2 : r = nfN Y a o j
        · rw [e2, up_at, beq_self_eq_true, m1_add]
          exact hc (nfN Y a o j) nl
        · rw [up_in _ _ (by omega), if_pos (by simp [e2])]
          exact l1_add (hc r hr)
    · rw [show (1 : Int32) = nI 1 by decide, iteQ (by omega) (by decide), if_neg c, nI_add]
      obtain ⟨iv', g1, g2, g3, g4⟩ := ih N (j + 1) l iv cr (by omega) h3 hf hc
      refine ⟨iv', g1, g2, g3, fun r hr => ?_⟩
      rw [g4 r hr, cq, wz_n c, if_neg Bool.false_ne_true, Nat.zero_add]
theorem c_wf1 {a o : Nat} (ho : o < 5) : ∀ (jj N r : Nat) (iv : Nat → Nat → Int32), r + jj = 10 → SP 1 73 iv Y → FIG iv a o → (∀ t, t < r → iv 71 (10 * o + t) = 0) → ∃ iv', f_X2_weighFigures_L7 (N + jj + 1) 68 (nI o) (nI (10 * o)) (nI r) (hpOf iv jv) = some (hpOf iv' jv) ∧ (∀ k, k ≠ 71 → iv' k = iv k) ∧ (∀ i, (i < 10 * o ∨ 10 * o + 10 ≤ i) → iv' 71 i = iv 71 i) ∧ ∀ r, r < 10 → iv' 71 (10 * o + r) = nI (cq (wzB Y a o r) (Y 3) 0) := by
  intro jj
  induction jj with
  | zero =>
    intro N r iv e h3 hf hz
    have k3 := h3.1.1
    obtain ⟨iv', g1, g2, g3, g4⟩ := c_wf2 (jv := jv) (a := a) ho (Y 3) (199999 - Y 3) 0 0 iv (fun _ => 0) (by omega) h3 hf (fun r hr => by rw [hz r (by omega)]; rfl)
    refine ⟨iv', ?_, g2, g3, fun r hr => by rw [g4 r hr, Nat.zero_add]⟩
    rw [← NNj (by omega), nI_0] at g1
    rw [f_X2_weighFigures_L7, show (10 : Int32) = nI 10 by decide, iteE (by omega) (by omega), if_pos (by omega)]
    exact g1
  | succ jj ih =>
    intro N r iv e h3 hf hz
    have s1 : Scr iv jv (up iv 71 (10 * o + r) 0) jv := scr_up 71 _ _ (by omega)
    obtain ⟨iv', g1, g2, g3, g4⟩ := ih N (r + 1) (up iv 71 (10 * o + r) 0) (by omega) (s1.sp h3) (fun i hi => by rw [up_ne _ _ _ (by decide)]; exact hf i hi) (fun t ht => by
      by_cases c : t = r
      · rw [c, up_at]
      · rw [up_in _ _ (by omega)]; exact hz t (by omega))
    refine ⟨iv', ?_, fun k h => by rw [g2 k h, up_ne _ _ _ h], fun i hi => by rw [g3 i hi, up_in _ _ (by omega)], g4⟩
    rw [show N + (jj + 1) + 1 = (N + jj + 1) + 1 by omega, f_X2_weighFigures_L7, show (10 : Int32) = nI 10 by decide, iteE (by omega) (by omega), if_neg (by omega), G_68_3, Option.bind_some, nI_add, u_71 iv jv (by omega), Option.bind_some, nI_1]
    exact g1
theorem c_wf {a o : Nat} (ho : o < 5) {iv : Nat → Nat → Int32} (h3 : SP 1 73 iv Y) (hf : FIG iv a o) : ∃ iv', f_X2_weighFigures 68 (nI o) (hpOf iv jv) = some (hpOf iv' jv) ∧ (∀ k, k ≠ 71 → iv' k = iv k) ∧ (∀ i, (i < 10 * o ∨ 10 * o + 10 ≤ i) → iv' 71 i = iv 71 i) ∧ ∀ r, r < 10 → iv' 71 (10 * o + r) = nI (cq (wzB Y a o r) (Y 3) 0) := by
  obtain ⟨iv', g1, g2, g3, g4⟩ := c_wf1 (jv := jv) ho 10 (199999 - 10) 0 iv rfl h3 hf (fun t ht => by omega)
  refine ⟨iv', ?_, g2, g3, g4⟩
  unfold f_X2_weighFigures
  rw [show (10 : Int32) = nI 10 by decide, pk_mul, Nat.mul_comm]
  exact g1
end WF
