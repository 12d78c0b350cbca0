/-! FITS: the class's count -/
theorem fig_low {k a c i : Nat} (ha : a % 10 ^ k = 0) (h1 : a ≤ c) (h2 : c < a + 10 ^ k) (hi : i + k < 5) : figN c i = figN a i := by
  unfold figN
  rcases (show k = 0 ∨ k = 1 ∨ k = 2 ∨ k = 3 ∨ k = 4 by omega) with rfl | rfl | rfl | rfl | rfl <;> rcases (show i = 0 ∨ i = 1 ∨ i = 2 ∨ i = 3 ∨ i = 4 by omega) with rfl | rfl | rfl | rfl | rfl <;> simp only [Nat.reducePow, Nat.reduceSub] at * <;> omega
theorem fig_at {k a r c o : Nat} (ho : o + k = 4) (ha : a % 10 ^ (k + 1) = 0) (hr : r < 10) (h1 : a + r * 10 ^ k ≤ c) (h2 : c < a + r * 10 ^ k + 10 ^ k) : figN c o = r := by
  unfold figN
  rcases (show k = 0 ∨ k = 1 ∨ k = 2 ∨ k = 3 ∨ k = 4 by omega) with rfl | rfl | rfl | rfl | rfl
  · have e : o = 4 := by omega
    subst e
    simp only [Nat.reducePow, Nat.reduceSub, Nat.reduceAdd] at *; omega
  · have e : o = 3 := by omega
    subst e
    simp only [Nat.reducePow, Nat.reduceSub, Nat.reduceAdd] at *; omega
  · have e : o = 2 := by omega
    subst e
    simp only [Nat.reducePow, Nat.reduceSub, Nat.reduceAdd] at *; omega
  · have e : o = 1 := by omega
    subst e
    simp only [Nat.reducePow, Nat.reduceSub, Nat.reduceAdd] at *; omega
  · have e : o = 0 := by omega
    subst e
    simp only [Nat.reducePow, Nat.reduceSub, Nat.reduceAdd] at *; omega
theorem sub_ok {k a r : Nat} (hk : k ≤ 4) (ha : a % 10 ^ (k + 1) = 0) (hb : a + 10 ^ (k + 1) ≤ 100000) (hr : r < 10) : (a + r * 10 ^ k) % 10 ^ k = 0 ∧ a + r * 10 ^ k + 10 ^ k ≤ 100000 ∧ a + r * 10 ^ k + 10 ^ k ≤ a + 10 ^ (k + 1) := by
  rcases (show k = 0 ∨ k = 1 ∨ k = 2 ∨ k = 3 ∨ k = 4 by omega) with rfl | rfl | rfl | rfl | rfl <;> simp only [Nat.reducePow, Nat.reduceAdd] at * <;> omega
theorem sf_c {s c c' : Nat} : ∀ j i, (∀ x, i ≤ x → x < i + j → s.testBit x = true → figN c x = figN c' x) → sfF s c j i = sfF s c' j i := by
  intro j
  induction j with
  | zero => intro i _; rfl
  | succ j ih =>
    intro i h
    rw [sfF, sfF, ih (i + 1) (fun x a b => h x (by omega) (by omega))]
    by_cases e : s.testBit i = true
    · rw [if_pos e, if_pos e, h i (by omega) (by omega) e]
    · rw [if_neg e, if_neg e]
theorem sf_add (s c : Nat) : ∀ m n i, sfF s c (m + n) i = sfF s c m i + sfF s c n (i + m) := by
  intro m
  induction m with
  | zero => intro n i; rw [Nat.zero_add, sfF, Nat.zero_add, Nat.add_zero]
  | succ m ih =>
    intro n i
    rw [show m + 1 + n = (m + n) + 1 by omega, sfF, sfF, ih n (i + 1), show i + 1 + m = i + (m + 1) by omega, Nat.add_assoc]
theorem sf_0 {s c : Nat} : ∀ j i, (∀ x, i ≤ x → s.testBit x = false) → sfF s c j i = 0 := by
  intro j
  induction j with
  | zero => intro i _; rfl
  | succ j ih => intro i h; rw [sfF, h i (Nat.le_refl _), ih (i + 1) (fun x a => h x (by omega))]; rfl
theorem tb_hi {s n x : Nat} (h : s < 2 ^ n) (hx : n ≤ x) : s.testBit x = false := by
  cases e : s.testBit x
  · rfl
  · have := tb_lt h e; omega
theorem sel_lt {s o : Nat} (h : s / 2 ^ o = 1) : 2 ^ o ≤ s ∧ s < 2 ^ (o + 1) := by
  have p : 0 < 2 ^ o := Nat.two_pow_pos o
  have h1 := Nat.div_add_mod s (2 ^ o)
  have h2 := Nat.mod_lt s p
  rw [h, Nat.mul_one] at h1
  rw [Nat.pow_succ]
  omega
theorem sel_of {s o : Nat} (h1 : 2 ^ o ≤ s) (h2 : s < 2 ^ (o + 1)) : s / 2 ^ o = 1 := by
  have p : 0 < 2 ^ o := Nat.two_pow_pos o
  have h3 := Nat.div_add_mod s (2 ^ o)
  have h4 := Nat.mod_lt s p
  rw [Nat.pow_succ] at h2
  have h5 : 1 ≤ s / 2 ^ o := (Nat.le_div_iff_mul_le p).mpr (by omega)
  have h6 : s / 2 ^ o < 2 := (Nat.div_lt_iff_lt_mul p).mpr (by omega)
  omega
theorem sf_sel {s c a o r : Nat} (ho : o < 5) (hs : s / 2 ^ o = 1) (hl : ∀ i, i < o → figN c i = figN a i) (hr : figN c o = r) : sfF s c 5 0 = sfF s a o 0 + r := by
  have bo : s.testBit o = true := by
    have := tb_eq s o
    rw [hs] at this
    cases e : s.testBit o
    · rw [e] at this; exact absurd this (by decide)
    · rfl
  obtain ⟨-, h2⟩ := sel_lt hs
  have e1 : sfF s c (o + (1 + (4 - o))) 0 = sfF s c 5 0 := by rw [show o + (1 + (4 - o)) = 5 by omega]
  rw [← e1, sf_add, sf_add, Nat.zero_add, sf_0 (s := s) (4 - o) (o + 1) (fun x hx => tb_hi h2 hx), sf_c o 0 (fun x _ b _ => hl x (by omega)), sfF, bo, if_pos rfl, hr, sfF, Nat.add_zero]
theorem wr_low {Y : Nat → Nat} {a c o j : Nat} (hs : Y (47 + 3 * j) < 2 ^ o) (hl : ∀ i, i < o → figN c i = figN a i) : wrN Y c j = wrN Y a j := by
  unfold wrN
  rw [sum_sf, sum_sf, sf_c 5 0 (fun x _ _ hb => hl x (tb_lt hs hb))]
theorem wr_sel {Y : Nat → Nat} {a c o r j : Nat} (ho : o < 5) (hr : r < 10) (hs : Y (47 + 3 * j) / 2 ^ o = 1) (hY : Y (49 + 3 * j) ≤ 1) (hl : ∀ i, i < o → figN c i = figN a i) (hf : figN c o = r) : wrN Y c j = wrX Y a o r j := by
  unfold wrN wrX nfN
  rw [sum_sf, sf_sel ho hs hl hf, ← Nat.add_assoc]
  generalize Y (48 + 3 * j) + sfF (Y (47 + 3 * j)) a o 0 = y
  have e : (y + r) % 10 = 0 ↔ r = (10 - y % 10) % 10 := by omega
  rcases (show Y (49 + 3 * j) = 0 ∨ Y (49 + 3 * j) = 1 by omega) with q | q <;> by_cases c : (y + r) % 10 = 0
  · rw [q, if_pos c, ← e.mp c]; simp
  · rw [q, if_neg c]; simp [mt e.mpr c]
  · rw [q, if_pos c, ← e.mp c]; simp
  · rw [q, if_neg c]; simp [mt e.mpr c]
def wdB (Y : Nat → Nat) (c o j : Nat) : Bool := decide (Y (47 + 3 * j) < 2 ^ o) && wrN Y c j
def wcN (Y : Nat → Nat) (c o : Nat) : Nat := cq (wdB Y c o) (Y 3) 0
theorem wc_low {Y : Nat → Nat} {a c o : Nat} (hl : ∀ i, i < o → figN c i = figN a i) : wcN Y c o = wcN Y a o := by
  refine cq_c _ _ (fun j _ _ => ?_)
  unfold wdB
  by_cases h : Y (47 + 3 * j) < 2 ^ o
  · rw [wr_low h hl]
  · simp [h]
theorem wc_step {Y : Nat → Nat} (hk : Vkp Y) {a c o r : Nat} (ho : o < 5) (hr : r < 10) (hl : ∀ i, i < o → figN c i = figN a i) (hf : figN c o = r) : wcN Y c (o + 1) = wcN Y a o + cq (wzB Y a o r) (Y 3) 0 := by
  rw [← wc_low hl]
  refine cq_or _ _ (fun j _ hj => ?_)
  have hY := (hk.2.2 j (by omega)).2.2.2
  have p2 : 2 ^ o < 2 ^ (o + 1) := Nat.pow_lt_pow_right (by decide) (by omega)
  unfold wdB
  by_cases h1 : Y (47 + 3 * j) < 2 ^ o
  · have ns : ¬ Y (47 + 3 * j) / 2 ^ o = 1 := fun h => by have := sel_lt h; omega
    rw [wz_n ns, decide_eq_true h1, decide_eq_true (show Y (47 + 3 * j) < 2 ^ (o + 1) by omega)]; simp
  · rw [decide_eq_false h1]
    by_cases h2 : Y (47 + 3 * j) < 2 ^ (o + 1)
    · have hs := sel_of (Nat.le_of_not_lt h1) h2
      rw [decide_eq_true h2, wr_sel ho hr hs hY hl hf]
      unfold wzB selB
      rw [hs]; simp
    · have ns : ¬ Y (47 + 3 * j) / 2 ^ o = 1 := fun h => by have := sel_lt h; omega
      rw [wz_n ns, decide_eq_false h2]; simp
theorem cq_le2 {q q1 q2 : Nat → Bool} : ∀ n a, (∀ i, a ≤ i → i < a + n → q i = true → q1 i = true ∨ q2 i = true) → cq q n a ≤ cq q1 n a + cq q2 n a := by
  intro n
  induction n with
  | zero => intro a _; exact Nat.le_refl _
  | succ n ih =>
    intro a h
    have h1 := ih (a + 1) (fun i x y => h i (by omega) (by omega))
    have h2 := h a (by omega) (by omega)
    rw [cq, cq, cq]
    by_cases e : q a = true
    · rcases h2 e with e1 | e1
      · rw [if_pos e, if_pos e1]; omega
      · rw [if_pos e, if_pos e1]; omega
    · rw [if_neg e]; omega
theorem wr_ge (Y : Nat → Nat) (c o : Nat) : wcN Y c o ≤ wrC Y c := by
  refine cq_mono _ _ (fun j _ _ h => ?_)
  unfold wdB at h
  exact (Bool.and_eq_true_iff.mp h).2
theorem wr_und (Y : Nat → Nat) (c o : Nat) : wrC Y c ≤ wcN Y c o + undN Y o := by
  refine cq_le2 _ _ (fun j _ _ h => ?_)
  unfold wdB undB
  by_cases h1 : Y (47 + 3 * j) < 2 ^ o
  · exact Or.inl (by rw [decide_eq_true h1, h]; rfl)
  · refine Or.inr ?_
    have p : 0 < 2 ^ o := Nat.two_pow_pos o
    have : 1 ≤ Y (47 + 3 * j) / 2 ^ o := (Nat.le_div_iff_mul_le p).mpr (by omega)
    simp; omega
theorem wr_5 {Y : Nat → Nat} (hk : Vkp Y) (c : Nat) : wcN Y c 5 = wrC Y c := by
  refine cq_c _ _ (fun j _ hj => ?_)
  have := (hk.2.2 j (by omega)).2.1
  unfold wdB
  rw [decide_eq_true (show Y (47 + 3 * j) < 2 ^ 5 by omega)]; rfl
def fxB (fo fr c : Nat) : Bool := decide (5 ≤ fo) || figN c fo == fr
def qfB (Y : Nat → Nat) (fo fr c : Nat) : Bool := fitN Y c && fxB fo fr c
def fwF (fo : Nat) : Nat → Nat → Nat
  | 0, _ => 1
  | k + 1, o => (if o = fo then 1 else 10) * fwF fo k (o + 1)
theorem cs_all {g : Nat → Nat} {x : Nat} (h : ∀ r, r < 10 → g r = x) : csum g 10 0 = 10 * x := by
  simp only [csum]
  rw [h 0 (by decide), h (0 + 1) (by decide), h (0 + 1 + 1) (by decide), h (0 + 1 + 1 + 1) (by decide), h (0 + 1 + 1 + 1 + 1) (by decide), h (0 + 1 + 1 + 1 + 1 + 1) (by decide), h (0 + 1 + 1 + 1 + 1 + 1 + 1) (by decide), h (0 + 1 + 1 + 1 + 1 + 1 + 1 + 1) (by decide), h (0 + 1 + 1 + 1 + 1 + 1 + 1 + 1 + 1) (by decide), h (0 + 1 + 1 + 1 + 1 + 1 + 1 + 1 + 1 + 1) (by decide)]
  omega
theorem cs_out {g : Nat → Nat} {z : Nat} (h : ∀ r, r < 10 → r ≠ z → g r = 0) : ∀ j r, z < r → r + j ≤ 10 → csum g j r = 0 := by
  intro j
  induction j with
  | zero => intro r _ _; rfl
  | succ j ih => intro r hr hj; rw [csum, h r (by omega) (by omega), ih (r + 1) (by omega) (by omega)]
theorem cs_one {g : Nat → Nat} {z : Nat} (h : ∀ r, r < 10 → r ≠ z → g r = 0) : ∀ j r, r ≤ z → z < r + j → r + j ≤ 10 → csum g j r = g z := by
  intro j
  induction j with
  | zero => intro r a b _; omega
  | succ j ih =>
    intro r a b hj
    rw [csum]
    by_cases e : r = z
    · subst e
      rw [cs_out h j (r + 1) (by omega) (by omega)]; rfl
    · rw [h r (by omega) e, ih (r + 1) (by omega) (by omega) (by omega), Nat.zero_add]
theorem p10 (k : Nat) : 10 ^ (k + 1) = 10 * 10 ^ k := by rw [Nat.pow_succ, Nat.mul_comm]
theorem cq_10 (q : Nat → Bool) (k a : Nat) : cq q (10 ^ (k + 1)) a = csum (fun r => cq q (10 ^ k) (a + r * 10 ^ k)) 10 0 := by
  have := cq_split q (10 ^ k) a 10 0
  rw [Nat.zero_mul, Nat.add_zero] at this
  rw [p10, this]
theorem fx_all {fo fr : Nat} (hfr : fo < 5 → fr < 10) : ∀ k o a, o + k = 5 → a % 10 ^ k = 0 → a + 10 ^ k ≤ 100000 → (fo < o → figN a fo = fr) → cq (fxB fo fr) (10 ^ k) a = fwF fo k o := by
  intro k
  induction k with
  | zero =>
    intro o a e ha hb hf
    rw [Nat.pow_zero, cq, cq, fwF]
    unfold fxB
    by_cases c : 5 ≤ fo
    · rw [decide_eq_true c]; rfl
    · rw [hf (by omega)]; simp
  | succ k ih =>
    intro o a e ha hb hf
    rw [cq_10, fwF]
    by_cases c : o = fo
    · rw [if_pos c, Nat.one_mul, cs_one (z := fr) ?_ 10 0 (Nat.zero_le _) (by have := hfr (by omega); omega) (Nat.le_refl _)]
      · obtain ⟨s1, s2, -⟩ := sub_ok (r := fr) (by omega) ha hb (hfr (by omega))
        refine ih (o + 1) _ (by omega) s1 s2 (fun h => ?_)
        rw [← c]
        exact fig_at (by omega) ha (hfr (by omega)) (Nat.le_refl _) (by have := Nat.pow_pos (n := k) (show 0 < 10 by decide); omega)
      · intro r h10 hr
        refine cq_0 _ _ (fun x a1 a2 => ?_)
        unfold fxB
        rw [decide_eq_false (show ¬ 5 ≤ fo by omega), ← c, fig_at (by omega) ha h10 a1 a2]
        simp [hr]
    · rw [if_neg c]
      refine cs_all (fun r hr => ?_)
      obtain ⟨s1, s2, s3⟩ := sub_ok (r := r) (by omega) ha hb hr
      refine ih (o + 1) _ (by omega) s1 s2 (fun h => ?_)
      rw [fig_low ha (by omega) (by have := Nat.pow_pos (n := k) (show 0 < 10 by decide); omega) (by omega)]
      exact hf (by omega)
