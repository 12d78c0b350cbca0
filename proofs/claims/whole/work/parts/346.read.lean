/-! READ -/
theorem kM_0 {W : Nat → Nat} {q : Nat} : kM W q = 0 ↔ tK W q = 0 := by unfold kM; split <;> omega
theorem kM_1 {W : Nat → Nat} {q : Nat} : kM W q = 1 ↔ tK W q = 1 := by unfold kM; split <;> omega
theorem kM_3 {W : Nat → Nat} {q : Nat} : kM W q = 3 ↔ tK W q = 3 := by unfold kM; split <;> omega
theorem kM_le (W : Nat → Nat) (q : Nat) : kM W q ≤ 4 := by have := tK_le W q; unfold kM; split <;> omega
theorem con_b {W R : Nat → Nat} {q : Nat} (hq : q ≤ W 2) : q ≤ (conN W R q).2.1 ∧ (conN W R q).2.1 ≤ W 2 := by
  have e : ∀ q, q ≤ W 2 → q ≤ tE W q ∧ tE W q ≤ W 2 := fun q h => by
    have h1 := tS_b h
    have h2 := tE_b h
    omega
  have h1 := e q hq
  have h2 := e (tE W q) h1.2
  have h3 := e (tE W (tE W q)) h2.2
  have tie : ∀ o, q ≤ (tieN W R o q).2.1 ∧ (tieN W R o q).2.1 ≤ W 2 := by
    intro o
    unfold tieN
    repeat' split
    all_goals (dsimp only; omega)
  unfold conN
  split
  · unfold perN
    repeat' split
    all_goals (dsimp only; omega)
  · split
    · unfold gatN
      repeat' split
      all_goals (dsimp only; omega)
    · split
      · exact tie 13
      · split
        · exact tie 21
        · dsimp only; omega
theorem ite1q {α : Type} {x : Nat} {a b : α} (hx : x < 2 ^ 31) : (if nI x = (1 : Int32) then a else b) = (if x = 1 then a else b) := by
  rw [show (1 : Int32) = nI 1 by decide, iteQ hx (by decide)]
def rdF (W : Nat → Nat) : Nat → Nat → Nat → (Nat → Nat) → Int32 × (Nat → Nat) × Bool
  | 0, _, i, R => (nI i, R, true)
  | n + 1, q, i, R => if tK W q = 0 then (nI i, R, true) else
      if (conN W R q).1 = true then
        (if tK W (tE W (conN W R q).2.1) = 3 then rdF W n (tE W (tE W (conN W R q).2.1)) (i + 1) (conN W R q).2.2 else (-10 - nI (tS W (tE W (conN W R q).2.1)), R, false))
      else (-10 - nI (tS W (conN W R q).2.1), R, false)
section RD
variable {W : Nat → Nat}
theorem c_rdL {jv : Nat → Nat → Int64} : ∀ (n N q i : Nat) (R : Nat → Nat) (iv : Nat → Nat → Int32), i ≤ q → q ≤ W 2 → W 2 - q ≤ n → SB 1 73 iv W → CT W iv q → Vkr R → SymR R → DC iv R → ∃ iv', f_X6_takeBook_L18 (N + n + 1) 59 (nI i) (hpOf iv jv) = some ((rdF W n q i R).1, hpOf iv' jv) ∧ (∀ k, (k < 51 ∨ 59 < k) → iv' k = iv k) ∧ ((rdF W n q i R).2.2 = true → DC iv' (rdF W n q i R).2.1) := by
  have stop : ∀ (N q i : Nat) (iv : Nat → Nat → Int32), i ≤ 200 → CT W iv q → tK W q = 0 → f_X6_takeBook_L18 (N + 1) 59 (nI i) (hpOf iv jv) = some (nI i, hpOf iv jv) := by
    intro N q i iv hi ct h0
    rw [f_X6_takeBook_L18, show (200 : Int32) = nI 200 by decide, iteL (by decide) (by omega), if_neg (by omega), G_59_4, Option.bind_some, ct.2.2, h0, nI_0, if_pos rfl]
  intro n
  induction n with
  | zero =>
    intro N q i R iv hi hq hn h2 ct hk hs hd
    have k2 := h2.1.1
    have b := tS_b hq
    have h0 : tK W q = 0 := by unfold tK; rw [if_neg (by omega)]
    exact ⟨iv, stop N q i iv (by omega) ct h0, fun _ _ => rfl, fun _ => hd⟩
  | succ n ih =>
    intro N q i R iv hi hq hn h2 ct hk hs hd
    have k2 := h2.1.1
    rw [rdF]
    by_cases c0 : tK W q = 0
    · rw [if_pos c0]
      exact ⟨iv, stop (N + n + 1) q i iv (by omega) ct c0, fun _ _ => rfl, fun _ => hd⟩
    · rw [if_neg c0]
      have kl := tK_le W q
      obtain ⟨i1, a1, a2, a3, a4, a5⟩ := c_con (jv := jv) h2 hq ct hk hs hd
      have s1 : SB 1 73 i1 W := sb59 h2 (fun k hk => a2 k (by omega))
      have cb := con_b (R := R) hq
      obtain ⟨t1, t2, t3⟩ := tE_b cb.2
      have u1 := tS_b cb.2
      rw [show N + (n + 1) + 1 = (N + n + 1) + 1 by omega, f_X6_takeBook_L18, show (200 : Int32) = nI 200 by decide, iteL (by decide) (by omega), if_neg (by omega), G_59_4, Option.bind_some, ct.2.2, if_neg (nI_ne0 (by omega) (by omega)), V_59, a1, Option.bind_some]
      dsimp only
      rw [okI_0]
      by_cases c1 : (conN W R q).1 = true
      · rw [if_pos c1, if_pos c1]
        obtain ⟨i2, b1, b2, b3⟩ := c_token (jv := jv) s1 t2 a3.2.1
        have s2 : SB 1 73 i2 W := sb59 s1 (fun k hk => b2 k (by omega))
        obtain ⟨v1, v2, v3⟩ := tE_b t2
        have u2 := tS_b t2
        have kl2 := tK_le W (tE W (conN W R q).2.1)
        rw [V_59, f_X6_takeSemicolon, V_59, b1, Option.bind_some, G_59_4, Option.bind_some, b3.2.2, show (if nI (tK W (tE W (conN W R q).2.1)) = 3 then (some ((1 : Int32), hpOf i2 jv)) else (some (0, hpOf i2 jv))) = some (okI (decide (tK W (tE W (conN W R q).2.1) = 3)), hpOf i2 jv) from by
          rw [show (3 : Int32) = nI 3 by decide, iteQ (by omega) (by decide)]
          by_cases c : tK W (tE W (conN W R q).2.1) = 3
          · rw [if_pos c, decide_eq_true c]; rfl
          · rw [if_neg c, decide_eq_false c]; rfl, Option.bind_some]
        dsimp only
        rw [okI_0]
        by_cases c2 : tK W (tE W (conN W R q).2.1) = 3
        · rw [if_pos (decide_eq_true c2), if_pos c2]
          have v3' := v3 (by omega)
          obtain ⟨i3, d1, d2, d3⟩ := c_token (jv := jv) s2 v2 b3.2.1
          have s3 : SB 1 73 i3 W := sb59 s2 (fun k hk => d2 k (by omega))
          obtain ⟨kk, ss⟩ := con_ok hk hs c1
          obtain ⟨i4, g1, g2, g3⟩ := ih N (tE W (tE W (conN W R q).2.1)) (i + 1) (conN W R q).2.2 i3 (by omega) v2 (by omega) s3 d3 kk ss ((a5 c1).fr (fun k x y => by rw [d2 k (by omega), b2 k (by omega)]))
          refine ⟨i4, ?_, fun k h => by rw [g2 k h, d2 k (by omega), b2 k (by omega), a2 k h], g3⟩
          rw [V_59, d1, Option.bind_some, nI_1]; exact g1
        · rw [if_neg (fun h => c2 (of_decide_eq_true h)), if_neg c2, G_59_2, Option.bind_some, b3.1]
          exact ⟨i2, rfl, fun k h => by rw [b2 k (by omega), a2 k h], fun h => by cases h⟩
      · rw [if_neg c1, if_neg c1, G_59_2, Option.bind_some, a3.1]
        exact ⟨i1, rfl, a2, fun h => by cases h⟩
def R0 : Nat → Nat := fun _ => 0
theorem vk_0 : Vkr R0 := ⟨Nat.zero_le _, Nat.zero_le _, fun i hi => absurd hi (Nat.not_lt_zero _), fun i hi => absurd hi (Nat.not_lt_zero _)⟩
theorem sym_0 : SymR R0 := fun _ _ a ha => absurd ha (Nat.not_lt_zero _)
theorem c_book {iv : Nat → Nat → Int32} {jv : Nat → Nat → Int64} (h2 : SB 1 73 iv W) : ∃ iv', f_X6_takeBook 59 (hpOf iv jv) = some ((rdF W (W 2) 0 0 R0).1, hpOf iv' jv) ∧ (∀ k, (k < 51 ∨ 59 < k) → iv' k = iv k) ∧ ((rdF W (W 2) 0 0 R0).2.2 = true → DC iv' (rdF W (W 2) 0 0 R0).2.1) := by
  have k2 := h2.1.1
  let i1 : Nat → Nat → Int32 := up (up (up iv 51 0 0) 51 1 0) 59 3 0
  have e1 : ∀ k, k ≠ 51 → k ≠ 59 → i1 k = iv k := fun k a b => by
    show up (up (up iv 51 _ _) 51 _ _) 59 _ _ k = _
    rw [up_ne _ _ _ b, up_ne _ _ _ a, up_ne _ _ _ a]
  have s1 : SB 1 73 i1 W := sb59 h2 (fun k hk => e1 k (by omega) (by omega))
  obtain ⟨i2, b1, b2, b3⟩ := c_token (jv := jv) s1 (q := 0) (Nat.zero_le _) (up_at _ _ _ _)
  have s2 : SB 1 73 i2 W := sb59 s1 (fun k hk => b2 k (by omega))
  have d0 : DC i2 R0 := by
    refine ⟨⟨?_, ?_⟩, fun i hi => absurd hi (Nat.not_lt_zero _), fun i hi => absurd hi (Nat.not_lt_zero _)⟩
    · rw [b2 51 (by decide)]
      show up (up (up iv 51 0 0) 51 1 0) 59 3 0 51 0 = _
      rw [up_ne _ _ _ (by decide), up_in _ _ (by decide), up_at]; rfl
    · rw [b2 51 (by decide)]
      show up (up (up iv 51 0 0) 51 1 0) 59 3 0 51 1 = _
      rw [up_ne _ _ _ (by decide), up_at]; rfl
  obtain ⟨i3, g1, g2, g3⟩ := c_rdL (jv := jv) (W 2) (199999 - W 2) 0 0 R0 i2 (Nat.le_refl _) (Nat.zero_le _) (by omega) s2 b3 vk_0 sym_0 d0
  rw [← NNj (by omega), nI_0] at g1
  refine ⟨i3, ?_, fun k h => by rw [g2 k h, b2 k (by omega), e1 k (by omega) (by omega)], g3⟩
  unfold f_X6_takeBook
  rw [G_59_1, Option.bind_some, V_51, f_X7_empty, S_51_0, Option.bind_some, S_51_1, Option.bind_some, Option.bind_some, S_59_3, Option.bind_some, V_59, show f_X6_takeToken 59 (hpOf (up (up (up iv 51 0 0) 51 1 0) 59 3 0) jv) = _ from b1, Option.bind_some]
  exact g1
/-- the reference's item -/
theorem m_tail {R : Nat → Nat} {iv i1 : Nat → Nat → Int32} {jv j1 : Nat → Nat → Int64} (h2 : SB 1 73 iv W) {o : Bool × Nat × (Nat → Nat)} (m : MOut W iv jv i1 j1 o) : ∃ iv' jv', (if o.1 = true then ((vC (hpOf i1 j1) 72 10 (f_X11_nextToken 72 (hpOf i1 j1))).bind fun q13 => (f_X11_readItem_J90 72 1 q13)) else f_X11_readItem_J90 72 0 (hpOf i1 j1)) = some (okI (o.1 && decide (tK W (tE W o.2.1) = 3)), hpOf iv' jv') ∧ MF2 iv jv iv' jv' ∧ MTk W iv' jv' (if o.1 = true then tE W o.2.1 else o.2.1) ∧ (o.1 = true → DM iv' o.2.2) := by
  obtain ⟨m1, m2, m3, m4⟩ := m
  by_cases c : o.1 = true
  · rw [if_pos c, if_pos c, c, Bool.true_and]
    obtain ⟨-, t2, -⟩ := tE_b m3
    obtain ⟨i2, j2, a1, a2, a3⟩ := m_token (jv := j1) (m1.sb h2) t2 m2.2.1
    have kl := kM_le W (tE W o.2.1)
    rw [V_72, a1, Option.bind_some, f_X11_readItem_J90, if_neg (by decide), G_72_16, Option.bind_some, a3.2.2.1, show (3 : Int32) = nI 3 by decide, iteQ (by omega) (by decide)]
    refine ⟨i2, j2, ?_, m1.trans a2.two, a3, fun _ => ?_⟩
    · by_cases d : tK W (tE W o.2.1) = 3
      · rw [if_pos (kM_3.mpr d), decide_eq_true d]; rfl
      · rw [if_neg (fun h => d (kM_3.mp h)), decide_eq_false d]; rfl
    · unfold DM
      rw [a2.1 80 (by decide)]; exact m4 c
  · have c' : o.1 = false := by
      cases h : o.1
      · rfl
      · exact absurd h c
    rw [if_neg c, if_neg c, c', Bool.false_and, f_X11_readItem_J90, if_pos rfl]
    exact ⟨i1, j1, rfl, m1, m2, fun h => by cases h⟩
theorem tl_if {α : Type} (b : Bool) {x z : α} {y : Int32 → α} : (if okI b = 0 then y (okI b) else (if okI b = 1 then x else z)) = if b = true then x else y 0 := by cases b <;> rfl
theorem m_item {R : Nat → Nat} {iv : Nat → Nat → Int32} {jv : Nat → Nat → Int64} (h2 : SB 1 73 iv W) {q : Nat} (hq : q ≤ W 2) (mt : MTk W iv jv q) (h1 : tK W q = 1) (hk : Vkr R) (hd : DM iv R) : ∃ iv' jv', f_X11_readItem 72 (hpOf iv jv) = some (okI ((conN W R q).1 && decide (tK W (tE W (conN W R q).2.1) = 3)), hpOf iv' jv') ∧ MF2 iv jv iv' jv' ∧ MTk W iv' jv' (if (conN W R q).1 = true then tE W (conN W R q).2.1 else (conN W R q).2.1) ∧ ((conN W R q).1 = true → DM iv' (conN W R q).2.2) := by
  obtain ⟨v0, v1, v2, v3⟩ := cd_v
  have w : ∀ {K : Int64} {j : Nat}, j < 4 → K = lN (cdN j (tl j)) → ∀ {α : Type} {x y : α}, (if lg_cmp (woN W q) K = 0 then x else y) = if wdQ W j q = true then x else y := by
    intro K j hj hK α x y
    by_cases c : wdQ W j q = true
    · rw [if_pos c, if_pos ((m_word hj hK h1).mpr c)]
    · rw [if_neg c, if_neg (fun h => c ((m_word hj hK h1).mp h))]
  have ok0 : ∀ b : Bool, b = true → okI b = 1 := fun b h => by rw [h]; rfl
  unfold f_X11_readItem
  rw [G_72_17, Option.bind_some, mt.2.2.2, w (by decide) v0, Option.bind_some, w (by decide) v1, Option.bind_some, w (by decide) v2, Option.bind_some, w (by decide) v3]
  have cn : ∀ o, conN W R q = o → MOut W iv jv iv jv (false, q, R) ∨ True := fun _ _ => Or.inr trivial
  by_cases c0 : wdQ W 0 q = true
  · have ce : conN W R q = perN W R q := by unfold conN; rw [if_pos c0]
    obtain ⟨i1, j1, a1, a2⟩ := m_per (jv := jv) h2 hq mt hk hd
    have tl := m_tail (R := R) h2 a2
    rw [if_pos c0, V_72, a1, Option.bind_some, ce]
    dsimp only
    rw [okI_0]
    by_cases b : (perN W R q).1 = true
    · rw [if_pos b, ok0 _ b]; rw [if_pos b] at tl; exact tl
    · rw [if_neg b]; rw [if_neg b] at tl
      rw [show okI (perN W R q).1 = 0 from by cases h : (perN W R q).1; rfl; exact absurd h b]; exact tl
  · rw [if_neg c0]
    by_cases c1 : wdQ W 1 q = true
    · have ce : conN W R q = gatN W R q := by unfold conN; rw [if_neg c0, if_pos c1]
      obtain ⟨i1, j1, a1, a2⟩ := m_gat (jv := jv) h2 hq mt hk hd
      have tl := m_tail (R := R) h2 a2
      rw [if_pos c1, V_72, a1, Option.bind_some, ce]
      dsimp only
      rw [okI_0]
      by_cases b : (gatN W R q).1 = true
      · rw [if_pos b, ok0 _ b]; rw [if_pos b] at tl; exact tl
      · rw [if_neg b]; rw [if_neg b] at tl
        rw [show okI (gatN W R q).1 = 0 from by cases h : (gatN W R q).1; rfl; exact absurd h b]; exact tl
    · rw [if_neg c1]
      by_cases c2 : wdQ W 2 q = true
      · have ce : conN W R q = tieN W R 13 q := by unfold conN; rw [if_neg c0, if_neg c1, if_pos c2]
        obtain ⟨i1, j1, a1, a2⟩ := m_tieI (jv := jv) (x := 13) (o := 13) h2 hq mt hk hd (by decide) (Or.inl rfl)
        have tl := m_tail (R := R) h2 a2
        rw [if_pos c2, V_72, a1, Option.bind_some, ce]
        dsimp only
        rw [okI_0]
        by_cases b : (tieN W R 13 q).1 = true
        · rw [if_pos b, ok0 _ b]; rw [if_pos b] at tl; exact tl
        · rw [if_neg b]; rw [if_neg b] at tl
          rw [show okI (tieN W R 13 q).1 = 0 from by cases h : (tieN W R 13 q).1; rfl; exact absurd h b]; exact tl
      · rw [if_neg c2]
        by_cases c3 : wdQ W 3 q = true
        · have ce : conN W R q = tieN W R 21 q := by unfold conN; rw [if_neg c0, if_neg c1, if_neg c2, if_pos c3]
          obtain ⟨i1, j1, a1, a2⟩ := m_tieI (jv := jv) (x := 21) (o := 21) h2 hq mt hk hd (by decide) (Or.inr rfl)
          have tl := m_tail (R := R) h2 a2
          rw [if_pos c3, V_72, a1, Option.bind_some, ce]
          dsimp only
          rw [okI_0]
          by_cases b : (tieN W R 21 q).1 = true
          · rw [if_pos b]; rw [if_pos b] at tl; exact tl
          · rw [if_neg b]; rw [if_neg b] at tl; exact tl
        · have ce : conN W R q = (false, q, R) := by unfold conN; rw [if_neg c0, if_neg c1, if_neg c2, if_neg c3]
          rw [if_neg c3, ce, f_X11_readItem_J90, if_pos rfl]
          exact ⟨iv, jv, rfl, (MF.refl _ _).two, mt, fun h => by cases h⟩
def MF3 (iv : Nat → Nat → Int32) (jv : Nat → Nat → Int64) (iv' : Nat → Nat → Int32) (jv' : Nat → Nat → Int64) : Prop := (∀ k, k ≠ 72 → k ≠ 73 → k ≠ 80 → iv' k = iv k) ∧ (∀ i, (i < 14 ∨ 16 < i) → iv' 72 i = iv 72 i) ∧ jv' 72 5 = jv 72 5 ∧ jv' 72 6 = jv 72 6 ∧ ∀ i, ((2 ≤ i ∧ i < 5) ∨ 37 ≤ i) → iv' 73 i = iv 73 i
theorem MF2.three {iv iv' : Nat → Nat → Int32} {jv jv' : Nat → Nat → Int64} (h : MF2 iv jv iv' jv') : MF3 iv jv iv' jv' := ⟨fun k a _ c => h.1 k a c, h.2.1, h.2.2.2 5 (by decide), h.2.2.2 6 (by decide), fun i _ => by rw [h.1 73 (by decide) (by decide)]⟩
theorem MF3.trans {iv iv' iv'' : Nat → Nat → Int32} {jv jv' jv'' : Nat → Nat → Int64} (h : MF3 iv jv iv' jv') (g : MF3 iv' jv' iv'' jv'') : MF3 iv jv iv'' jv'' :=
  ⟨fun k a b c => by rw [g.1 k a b c, h.1 k a b c], fun i a => by rw [g.2.1 i a, h.2.1 i a], by rw [g.2.2.1, h.2.2.1], by rw [g.2.2.2.1, h.2.2.2.1], fun i a => by rw [g.2.2.2.2 i a, h.2.2.2.2 i a]⟩
theorem m_cpL {jv : Nat → Nat → Int64} (x : Int32) : ∀ (j N p : Nat) (iv : Nat → Nat → Int32), p + j = 37 → ∃ iv', f_X11_read_L98 (N + j + 1) 72 x (nI p) (hpOf iv jv) = some (x, hpOf iv' jv) ∧ (∀ k, k ≠ 73 → iv' k = iv k) ∧ (∀ i, (i < p ∨ 37 ≤ i) → iv' 73 i = iv 73 i) ∧ ∀ i, p ≤ i → i < 37 → iv' 73 i = iv 80 i := by
  intro j
  induction j with
  | zero =>
    intro N p iv e
    refine ⟨iv, ?_, fun _ _ => rfl, fun _ _ => rfl, fun i a b => by omega⟩
    rw [f_X11_read_L98, show (37 : Int32) = nI 37 by decide, iteE (by omega) (by omega), if_pos (by omega)]
  | succ j ih =>
    intro N p iv e
    obtain ⟨iv', g1, g2, g3, g4⟩ := ih N (p + 1) (up iv 73 p (iv 80 p)) (by omega)
    refine ⟨iv', ?_, fun k h => by rw [g2 k h, up_ne _ _ _ h], fun i h => by rw [g3 i (by omega), up_in _ _ (by omega)], fun i a b => ?_⟩
    · rw [show N + (j + 1) + 1 = (N + j + 1) + 1 by omega, f_X11_read_L98, show (37 : Int32) = nI 37 by decide, iteE (by omega) (by omega), if_neg (by omega), G_72_0, Option.bind_some, G_72_18, Option.bind_some, a_80 iv jv (by omega), Option.bind_some, u_73 iv jv (by omega), Option.bind_some, nI_1]
      exact g1
    · by_cases c : i = p
      · subst c; rw [g3 i (by omega), up_at]
      · rw [g4 i (by omega) b, up_ne _ _ _ (by decide)]
theorem m_rdL : ∀ (n N q i : Nat) (R : Nat → Nat) (iv : Nat → Nat → Int32) (jv : Nat → Nat → Int64), q ≤ W 2 → W 2 - q ≤ n → SB 1 73 iv W → MTk W iv jv q → Vkr R → SymR R → DM iv R → ∃ iv' jv', f_X11_read_L32 (N + n + 1) 72 (nI i) (hpOf iv jv) = some ((rdF W n q i R).1, hpOf iv' jv') ∧ MF3 iv jv iv' jv' ∧ ((rdF W n q i R).2.2 = true → RMr (iv' 73) (rdF W n q i R).2.1) ∧ ((rdF W n q i R).2.2 = false → iv' 73 = iv 73) := by
  have stop : ∀ (N q i : Nat) (R : Nat → Nat) (iv : Nat → Nat → Int32) (jv : Nat → Nat → Int64), MTk W iv jv q → tK W q = 0 → Vkr R → DM iv R → ∃ iv' jv', f_X11_read_L32 (N + 1) 72 (nI i) (hpOf iv jv) = some (nI i, hpOf iv' jv') ∧ MF3 iv jv iv' jv' ∧ RMr (iv' 73) R := by
    intro N q i R iv jv mt h0 hk hd
    have v0 : ∀ (iv : Nat → Nat → Int32) (x : Int32), uI (hpOf iv jv) 73 0 x = some (hpOf (up iv 73 0 x) jv) := fun iv x => u_73 iv jv (i := 0) (by decide) x
    have v1 : ∀ (iv : Nat → Nat → Int32) (x : Int32), uI (hpOf iv jv) 73 1 x = some (hpOf (up iv 73 1 x) jv) := fun iv x => u_73 iv jv (i := 1) (by decide) x
    obtain ⟨i2, g1, g2, g3, g4⟩ := m_cpL (jv := jv) (nI i) 32 (199999 - 32) 5 (up (up iv 73 0 (iv 80 0)) 73 1 (iv 80 1)) rfl
    have e80 : (up (up iv 73 0 (iv 80 0)) 73 1 (iv 80 1)) 80 = iv 80 := by rw [up_ne _ _ _ (by decide), up_ne _ _ _ (by decide)]
    refine ⟨i2, jv, ?_, ⟨fun k a b c => by rw [g2 k b, up_ne _ _ _ b, up_ne _ _ _ b], fun i _ => by rw [g2 72 (by decide), up_ne _ _ _ (by decide), up_ne _ _ _ (by decide)], rfl, rfl, fun i h => ?_⟩, ?_⟩
    · rw [f_X11_read_L32, G_72_16, Option.bind_some, mt.2.2.1, kM_0.mpr h0, nI_0, if_pos rfl, G_72_0, Option.bind_some, G_72_18, Option.bind_some, z80_0, Option.bind_some, v0, Option.bind_some, G_72_0, Option.bind_some, G_72_18, Option.bind_some, z80_1, Option.bind_some, up_ne _ _ _ (by decide), v1, Option.bind_some]
      exact g1
    · rcases h with h | h
      · rw [g3 i (by omega), up_in _ _ (by omega), up_in _ _ (by omega)]
      · rw [g3 i (by omega), up_in _ _ (by omega), up_in _ _ (by omega)]
    · refine RMr.rho (ρ := iv 80) hd hk (fun i hi => ?_)
      rcases hi with hi | hi
      · rw [g3 i (by omega)]
        rcases (show i = 0 ∨ i = 1 by omega) with rfl | rfl
        · rw [up_in _ _ (by decide), up_at]
        · rw [up_at]
      · rw [g4 i hi.1 hi.2, e80]
  intro n
  induction n with
  | zero =>
    intro N q i R iv jv hq hn h2 mt hk hs hd
    have b := tS_b hq
    have h0 : tK W q = 0 := by unfold tK; rw [if_neg (by omega)]
    obtain ⟨iv', jv', g1, g2, g3⟩ := stop N q i R iv jv mt h0 hk hd
    exact ⟨iv', jv', g1, g2, fun _ => g3, fun h => by cases h⟩
  | succ n ih =>
    intro N q i R iv jv hq hn h2 mt hk hs hd
    rw [rdF]
    by_cases c0 : tK W q = 0
    · rw [if_pos c0]
      obtain ⟨iv', jv', g1, g2, g3⟩ := stop (N + n + 1) q i R iv jv mt c0 hk hd
      exact ⟨iv', jv', g1, g2, fun _ => g3, fun h => by cases h⟩
    · rw [if_neg c0]
      have kl := kM_le W q
      have kn : kM W q ≠ 0 := fun h => c0 (kM_0.mp h)
      have cb := con_b (R := R) hq
      rw [show N + (n + 1) + 1 = (N + n + 1) + 1 by omega, f_X11_read_L32, G_72_16, Option.bind_some, mt.2.2.1, if_neg (nI_ne0 (by omega) (by omega)), Option.bind_some, ite1q (by omega)]
      by_cases k1 : tK W q = 1
      · rw [if_pos (kM_1.mpr k1)]
        obtain ⟨i1, j1, a1, a2, a3, a4⟩ := m_item (jv := jv) h2 hq mt k1 hk hd
        rw [V_72, a1, Option.bind_some]
        dsimp only
        rw [okI_0]
        by_cases c1 : (conN W R q).1 = true
        · rw [if_pos c1] at a3 ⊢
          rw [c1, Bool.true_and]
          obtain ⟨t1, t2, t3⟩ := tE_b cb.2
          have u1 := tS_b cb.2
          obtain ⟨w1, w2, w3⟩ := tE_b t2
          have u2 := tS_b t2
          by_cases c2 : tK W (tE W (conN W R q).2.1) = 3
          · rw [if_pos (decide_eq_true c2), if_pos c2]
            have w3' := w3 (by omega)
            obtain ⟨i2, j2, b1, b2, b3⟩ := m_token (jv := j1) (a2.sb h2) w2 a3.2.1
            obtain ⟨kk, ss⟩ := con_ok hk hs c1
            have f2 := a2.trans b2.two
            obtain ⟨i3, j3, g1, g2, g3, g4⟩ := ih N (tE W (tE W (conN W R q).2.1)) (i + 1) (conN W R q).2.2 i2 j2 w2 (by omega) (f2.sb h2) b3 kk ss (by unfold DM; rw [b2.1 80 (by decide)]; exact a4 c1)
            refine ⟨i3, j3, ?_, f2.three.trans g2, g3, fun h => by rw [g4 h, f2.1 73 (by decide) (by decide)]⟩
            rw [V_72, b1, Option.bind_some, nI_1]; exact g1
          · rw [if_neg (fun h => c2 (of_decide_eq_true h)), if_neg c2, G_72_14, Option.bind_some, a3.1]
            exact ⟨i1, j1, rfl, a2.three, (fun h => by cases h), fun _ => a2.1 73 (by decide) (by decide)⟩
        · rw [if_neg c1] at a3 ⊢
          have c' : (conN W R q).1 = false := by
            cases h : (conN W R q).1
            · rfl
            · exact absurd h c1
          rw [c', Bool.false_and, if_neg Bool.false_ne_true, G_72_14, Option.bind_some, a3.1]
          exact ⟨i1, j1, rfl, a2.three, (fun h => by cases h), fun _ => a2.1 73 (by decide) (by decide)⟩
      · have wf : ∀ j, wdQ W j q = false := fun j => by unfold wdQ; rw [decide_eq_false k1, Bool.false_and]
        have ce : conN W R q = (false, q, R) := by unfold conN; rw [wf 0, wf 1, wf 2, wf 3]; rfl
        rw [if_neg (fun h => k1 (kM_1.mp h)), ce, if_neg Bool.false_ne_true, G_72_14, Option.bind_some, mt.1]
        exact ⟨iv, jv, rfl, (MF.refl _ _).two.three, (fun h => by cases h), fun _ => rfl⟩
theorem m_read : ∀ (j N p : Nat) (iv : Nat → Nat → Int32) (jv : Nat → Nat → Int64), p + j = 37 → SB 1 73 iv W → (∀ i, i < p → iv 80 i = 0) → ∃ iv' jv', f_X11_read_L2 (N + j + 1) 72 (nI p) (hpOf iv jv) = some ((rdF W (W 2) 0 0 R0).1, hpOf iv' jv') ∧ MF3 iv jv iv' jv' ∧ ((rdF W (W 2) 0 0 R0).2.2 = true → RMr (iv' 73) (rdF W (W 2) 0 0 R0).2.1) ∧ ((rdF W (W 2) 0 0 R0).2.2 = false → iv' 73 = iv 73) := by
  intro j
  induction j with
  | zero =>
    intro N p iv jv e h2 hz
    have k2 := h2.1.1
    have f0 : MF iv jv (up iv 72 15 0) jv := MF.wi _ (by decide)
    obtain ⟨i1, j1, a1, a2, a3⟩ := m_token (jv := jv) (f0.sb h2) (q := 0) (Nat.zero_le _) (up_at _ _ _ _)
    have f1 := f0.trans a2
    have d0 : DM i1 R0 := by
      have r80 : i1 80 = iv 80 := f1.1 80 (by decide)
      refine ⟨?_, ?_, fun i hi => absurd hi (Nat.not_lt_zero _), fun i hi => absurd hi (Nat.not_lt_zero _)⟩
      · rw [r80, hz 0 (by omega)]; rfl
      · rw [r80, hz 1 (by omega)]; rfl
    obtain ⟨i2, j2, g1, g2, g3, g4⟩ := m_rdL (W 2) (199999 - W 2) 0 0 R0 i1 j1 (Nat.zero_le _) (by omega) (f1.sb h2) a3 vk_0 sym_0 d0
    rw [← NNj (by omega), nI_0] at g1
    refine ⟨i2, j2, ?_, f1.two.three.trans g2, g3, fun h => by rw [g4 h, f1.1 73 (by decide)]⟩
    rw [f_X11_read_L2, show (37 : Int32) = nI 37 by decide, iteE (by omega) (by omega), if_pos (by omega), S_72_15, Option.bind_some, V_72, a1, Option.bind_some]
    exact g1
  | succ j ih =>
    intro N p iv jv e h2 hz
    have f0 : MF2 iv jv (up iv 80 p 0) jv := MF2.w80 _ _ _ _
    obtain ⟨i2, j2, g1, g2, g3, g4⟩ := ih N (p + 1) (up iv 80 p 0) jv (by omega) (f0.sb h2) (fun i hi => by
      by_cases c : i = p
      · rw [c, up_at]
      · rw [up_in _ _ c]; exact hz i (by omega))
    refine ⟨i2, j2, ?_, f0.three.trans g2, g3, fun h => by rw [g4 h, up_ne _ _ _ (by decide)]⟩
    rw [show N + (j + 1) + 1 = (N + j + 1) + 1 by omega, f_X11_read_L2, show (37 : Int32) = nI 37 by decide, iteE (by omega) (by omega), if_neg (by omega), G_72_18, Option.bind_some, u_80 iv jv (by omega), Option.bind_some, nI_1]
    exact g1
end RD
theorem neg10 : ∀ s, s < 201 → (-10 : Int32) - nI s < 0 := by decide +kernel
theorem rd_res {W : Nat → Nat} (h200 : W 2 ≤ 200) : ∀ n q i (R : Nat → Nat), q ≤ W 2 → i + n ≤ 1000 → Vkr R → SymR R → ((rdF W n q i R).2.2 = true ∧ ¬ (rdF W n q i R).1 < 0 ∧ Vkr (rdF W n q i R).2.1) ∨ ((rdF W n q i R).2.2 = false ∧ (rdF W n q i R).1 < 0) := by
  intro n
  induction n with
  | zero => intro q i R hq hi hk hs; exact Or.inl ⟨rfl, nI_pos (by omega), hk⟩
  | succ n ih =>
    intro q i R hq hi hk hs
    have cb := con_b (R := R) hq
    obtain ⟨t1, t2, t3⟩ := tE_b cb.2
    have u1 := tS_b cb.2
    obtain ⟨w1, w2, w3⟩ := tE_b t2
    have u2 := tS_b t2
    rw [rdF]
    by_cases c0 : tK W q = 0
    · rw [if_pos c0]; exact Or.inl ⟨rfl, nI_pos (by omega), hk⟩
    · rw [if_neg c0]
      by_cases c1 : (conN W R q).1 = true
      · rw [if_pos c1]
        by_cases c2 : tK W (tE W (conN W R q).2.1) = 3
        · rw [if_pos c2]
          obtain ⟨kk, ss⟩ := con_ok hk hs c1
          exact ih _ _ _ w2 (by omega) kk ss
        · rw [if_neg c2]; exact Or.inr ⟨rfl, neg10 _ (by omega)⟩
      · rw [if_neg c1]; exact Or.inr ⟨rfl, neg10 _ (by omega)⟩
theorem op_read : OpOK (f_X10_read 0) (f_X11_read 72) := by
  rintro hp ⟨iv, jv, V, W, Y, rfl, h1, h2, h3, h4⟩
  have k2 := h2.1.1
  obtain ⟨i1, e1, e2, e3⟩ := c_book (jv := jv) h2
  have res := rd_res k2 (W 2) 0 0 R0 (Nat.zero_le _) (by omega) vk_0 sym_0
  have s1 : SB 1 73 i1 W := sb59 h2 (fun k hk => e2 k (by omega))
  rcases res with ⟨r1, r2, r3⟩ | ⟨r1, r2⟩
  · obtain ⟨i2, g1, g2, g3⟩ := c7_2_51 (iv := i1) (jv := jv)
    have q2 : ∀ k, (k < 2 ∨ 9 < k) → (k < 51 ∨ 59 < k) → i2 k = iv k := fun k a b => by rw [g2 k (by omega), e2 k b]
    have s2 : SB 1 73 i2 W := h2.rows (fun k a b => q2 k (by omega) (by omega)) (fun i _ => by rw [q2 73 (by decide) (by decide)])
    obtain ⟨i3, j3, m1, m2, m3, m4⟩ := m_read 37 (199999 - 37) 0 i2 jv rfl s2 (fun i hi => by omega)
    have q3 : ∀ k, k ≠ 72 → k ≠ 73 → k ≠ 80 → (k < 2 ∨ 9 < k) → (k < 51 ∨ 59 < k) → i3 k = iv k := fun k a b c d e => by rw [m2.1 k a b c, q2 k d e]
    have q73 : ∀ i, ((2 ≤ i ∧ i < 5) ∨ 37 ≤ i) → i3 73 i = iv 73 i := fun i hi => by rw [m2.2.2.2.2 i hi, q2 73 (by decide) (by decide)]
    refine ⟨(rdF W (W 2) 0 0 R0).1, i2, jv, hpOf i3 j3, ?_, m1, ⟨i3, j3, (rdF W (W 2) 0 0 R0).2.1, W, Y, rfl, ?_, ?_, ?_, ?_⟩⟩
    · unfold f_X10_read
      rw [G_0_4, Option.bind_some, V_59, e1, Option.bind_some]
      dsimp only
      rw [if_neg r2, G_0_0, Option.bind_some, G_1_0, Option.bind_some, G_0_3, Option.bind_some, V_2, g1, Option.bind_some]
    · exact ⟨r3, RCr.cp (s := 51) (d := 2) r3 (e3 r1) (g3.row (fun k a b => m2.1 k (by omega) (by omega) (by omega))), m3 r1⟩
    · exact h2.rows (fun k a b => q3 k (by omega) (by omega) (by omega) (by omega) (by omega)) (fun i hi => q73 i (by omega))
    · exact h3.rows (fun k a b => q3 k (by omega) (by omega) (by omega) (by omega) (by omega)) (fun i hi => q73 i (by omega))
    · exact h4.rows (fun k hk => q3 k (by omega) (by omega) (by omega) (by omega) (by omega)) (by rw [m2.2.1 3 (by decide), q2 72 (by decide) (by decide)]) (by rw [m2.2.1 4 (by decide), q2 72 (by decide) (by decide)]) m2.2.2.1 m2.2.2.2.1
  · obtain ⟨i3, j3, m1, m2, m3, m4⟩ := m_read 37 (199999 - 37) 0 i1 jv rfl s1 (fun i hi => by omega)
    have q3 : ∀ k, k ≠ 72 → k ≠ 80 → (k < 51 ∨ 59 < k) → i3 k = iv k := fun k a c e => by
      by_cases b : k = 73
      · rw [b, m4 r1, e2 73 (by decide)]
      · rw [m2.1 k a b c, e2 k e]
    refine ⟨(rdF W (W 2) 0 0 R0).1, i1, jv, hpOf i3 j3, ?_, m1, ⟨i3, j3, V, W, Y, rfl, ?_, ?_, ?_, ?_⟩⟩
    · unfold f_X10_read
      rw [G_0_4, Option.bind_some, V_59, e1, Option.bind_some]
      dsimp only
      rw [if_pos r2]
    · exact h1.rows (fun k a b => q3 k (by omega) (by omega) (by omega)) (fun i hi => by rw [q3 73 (by decide) (by decide) (by decide)])
    · exact h2.rows (fun k a b => q3 k (by omega) (by omega) (by omega)) (fun i hi => by rw [q3 73 (by decide) (by decide) (by decide)])
    · exact h3.rows (fun k a b => q3 k (by omega) (by omega) (by omega)) (fun i hi => by rw [q3 73 (by decide) (by decide) (by decide)])
    · exact h4.rows (fun k hk => q3 k (by omega) (by omega) (by omega)) (by rw [m2.2.1 3 (by decide), e2 72 (by decide)]) (by rw [m2.2.1 4 (by decide), e2 72 (by decide)]) m2.2.2.1 m2.2.2.2.1
