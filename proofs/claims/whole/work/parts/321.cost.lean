/-! PARTS: the least cost of a set, the best company of its least -/
def lsN (s : Nat) : Nat := if s.testBit 0 then 0 else if s.testBit 1 then 1 else if s.testBit 2 then 2 else if s.testBit 3 then 3 else if s.testBit 4 then 4 else if s.testBit 5 then 5 else if s.testBit 6 then 6 else 7
theorem ls_ok : ∀ s, s < 256 → s ≠ 0 → s.testBit (lsN s) = true ∧ lsN s < 8 := by decide +kernel
theorem ls_neg : ∀ s, s < 256 → s ≠ 0 → nI s &&& (0 - nI s) = nI (2 ^ lsN s) := by decide +kernel
theorem ls_dec : ∀ s, s < 256 → s ≠ 0 → nI s &&& (nI s - 1) = nI (dif s (2 ^ lsN s)) := by decide +kernel
theorem ls_m : ∀ s, s < 256 → s ≠ 0 → f_X11_least (nI s) = some (nI (lsN s)) := by decide +kernel
theorem pc_0 : ∀ s, s < 256 → pcN s = 0 → s = 0 := by decide +kernel
theorem pc_set : ∀ l, l < 256 → ∀ i, i < 8 → l.testBit i = false → pcN (l ||| 2 ^ i) = pcN l + 1 := by decide +kernel
theorem pc_ls : ∀ s, s < 256 → s ≠ 0 → pcN (dif s (2 ^ lsN s)) + 1 = pcN s := by decide +kernel
def MinOf (i : Nat) (Q : Nat → Prop) (v : Nat → Nat) (r : Nat) : Prop := r ≤ i ∧ (∀ t, Q t → r ≤ v t) ∧ (r = i ∨ ∃ t, Q t ∧ r = v t)
theorem MinOf.uniq {i i' : Nat} {Q : Nat → Prop} {v v' : Nat → Nat} {r r' : Nat} (h : MinOf i Q v r) (h' : MinOf i' Q v' r') (hi : i = i') (hv : ∀ t, Q t → v t = v' t) : r = r' := by
  obtain ⟨a1, a2, a3⟩ := h
  obtain ⟨b1, b2, b3⟩ := h'
  apply Nat.le_antisymm
  · rcases b3 with b3 | ⟨t, q, b3⟩
    · omega
    · have := a2 t q; rw [hv t q] at this; omega
  · rcases a3 with a3 | ⟨t, q, a3⟩
    · omega
    · have := b2 t q; rw [← hv t q] at this; omega
theorem MinOf.none {i : Nat} {Q : Nat → Prop} {v : Nat → Nat} (h : ∀ t, ¬ Q t) : MinOf i Q v i := ⟨Nat.le_refl _, fun t q => absurd q (h t), Or.inl rfl⟩
theorem MinOf.same {i : Nat} {Q R : Nat → Prop} {v : Nat → Nat} {r : Nat} (h : MinOf i Q v r) (e : ∀ t, R t ↔ Q t) : MinOf i R v r :=
  ⟨h.1, fun t q => h.2.1 t ((e t).mp q), h.2.2.imp id (fun ⟨t, q, z⟩ => ⟨t, (e t).mpr q, z⟩)⟩
theorem MinOf.step {i : Nat} {Q R : Nat → Prop} {v : Nat → Nat} {r z : Nat} (h : MinOf i Q v r) (e : ∀ t, R t ↔ Q t ∨ t = z) : MinOf i R v (min r (v z)) := by
  obtain ⟨a1, a2, a3⟩ := h
  refine ⟨Nat.le_trans (Nat.min_le_left _ _) a1, fun t q => ?_, ?_⟩
  · rcases (e t).mp q with q | q
    · exact Nat.le_trans (Nat.min_le_left _ _) (a2 t q)
    · subst q; exact Nat.min_le_right _ _
  · rcases Nat.le_total r (v z) with c | c
    · rw [Nat.min_eq_left c]
      exact a3.imp id (fun ⟨t, q, y⟩ => ⟨t, (e t).mpr (Or.inl q), y⟩)
    · rw [Nat.min_eq_right c]
      exact Or.inr ⟨z, (e z).mpr (Or.inr rfl), rfl⟩
theorem MinOf.map {i : Nat} {Q R : Nat → Prop} {v u : Nat → Nat} {r : Nat} (h : MinOf i Q v r) (f g : Nat → Nat) (hf : ∀ t, Q t → R (f t) ∧ u (f t) = v t) (hg : ∀ t, R t → Q (g t) ∧ v (g t) = u t) : MinOf i R u r := by
  obtain ⟨a1, a2, a3⟩ := h
  refine ⟨a1, fun t q => ?_, a3.imp id (fun ⟨t, q, y⟩ => ⟨f t, (hf t q).1, by rw [(hf t q).2]; exact y⟩)⟩
  have := a2 (g t) (hg t q).1
  rw [(hg t q).2] at this; exact this
/-- a company for the least of s, inside s -/
def Good (w : Nat → Nat) (s t : Nat) : Prop := t < 256 ∧ dif t s = 0 ∧ t.testBit (lsN s) = true ∧ w t = 0
def goodB (w : Nat → Nat) (s t : Nat) : Bool := dif t s == 0 && t.testBit (lsN s) && w t == 0
def costF (w : Nat → Nat) : Nat → Nat → Nat
  | 0, _ => 0
  | n + 1, s => if s = 0 then 0 else (List.range 256).foldl (fun b t => if goodB w s t then min b (1 + costF w n (dif s t)) else b) (16 + costF w n (dif s (2 ^ lsN s)))
theorem fold_min (i : Nat) (q : Nat → Bool) (v : Nat → Nat) : ∀ n, MinOf i (fun t => t < n ∧ q t = true) v ((List.range n).foldl (fun b t => if q t then min b (v t) else b) i) := by
  intro n
  induction n with
  | zero => exact MinOf.none (fun t h => absurd h.1 (by omega))
  | succ n ih =>
    rw [List.range_succ, List.foldl_append]
    show MinOf _ _ _ (if q n then min _ (v n) else _)
    cases c : q n
    · rw [if_neg (by decide)]
      refine ih.same (fun t => ?_)
      constructor
      · rintro ⟨h1, h2⟩
        refine ⟨?_, h2⟩
        rcases Nat.lt_or_ge t n with h | h
        · exact h
        · rw [show t = n by omega, c] at h2; exact absurd h2 (by decide)
      · rintro ⟨h1, h2⟩; exact ⟨by omega, h2⟩
    · rw [if_pos rfl]
      refine ih.step (fun t => ?_)
      constructor
      · rintro ⟨h1, h2⟩
        rcases Nat.lt_or_ge t n with h | h
        · exact Or.inl ⟨h, h2⟩
        · exact Or.inr (by omega)
      · rintro (⟨h1, h2⟩ | h)
        · exact ⟨by omega, h2⟩
        · subst h; exact ⟨by omega, c⟩
theorem good_b (w : Nat → Nat) (s t : Nat) : Good w s t ↔ t < 256 ∧ goodB w s t = true := by
  unfold Good goodB
  rw [Bool.and_eq_true, Bool.and_eq_true, beq_iff_eq, beq_iff_eq, and_assoc]
theorem costF_min (w : Nat → Nat) (n : Nat) {s : Nat} (hs : s ≠ 0) : MinOf (16 + costF w n (dif s (2 ^ lsN s))) (Good w s) (fun t => 1 + costF w n (dif s t)) (costF w (n + 1) s) := by
  rw [costF, if_neg hs]
  exact (fold_min _ (goodB w s) (fun t => 1 + costF w n (dif s t)) 256).same (good_b w s)
theorem dif_lt {s t i : Nat} (hs : s < 256) (h1 : s.testBit i = true) (h2 : t.testBit i = true) : dif s t < s := by
  rcases Nat.lt_or_ge (dif s t) s with h | h
  · exact h
  · have e : dif s t = s := Nat.le_antisymm (dif_le s t) h
    have := dif_bit t (a := s) (by omega) i
    rw [e, h1, h2] at this
    exact absurd this (by decide)
theorem dif_ls {s : Nat} (hs : s < 256) (h0 : s ≠ 0) : dif s (2 ^ lsN s) < s := dif_lt (i := lsN s) hs (ls_ok s hs h0).1 (by rw [tb_pow]; simp)
theorem good_lt {w : Nat → Nat} {s t : Nat} (hs : s < 256) (h0 : s ≠ 0) (h : Good w s t) : dif s t < s := dif_lt (i := lsN s) hs (ls_ok s hs h0).1 h.2.2.1
theorem costF_st (w : Nat → Nat) : ∀ n m s, s < 256 → s ≤ n → s ≤ m → costF w n s = costF w m s := by
  intro n
  induction n with
  | zero =>
    intro m s _ h1 h2
    have : s = 0 := by omega
    subst this
    cases m with
    | zero => rfl
    | succ m => rw [costF, costF, if_pos rfl]
  | succ n ih =>
    intro m s h8 h1 h2
    by_cases h0 : s = 0
    · subst h0
      cases m with
      | zero => rw [costF, costF, if_pos rfl]
      | succ m => rw [costF, costF, if_pos rfl, if_pos rfl]
    · cases m with
      | zero => omega
      | succ m =>
        refine (costF_min w n h0).uniq (costF_min w m h0) ?_ (fun t q => ?_)
        · have := dif_ls h8 h0
          rw [ih m _ (by omega) (by omega) (by omega)]
        · have := good_lt h8 h0 q
          show 1 + _ = 1 + _
          rw [ih m _ (by omega) (by omega) (by omega)]
def costN (w : Nat → Nat) (s : Nat) : Nat := costF w 256 s
theorem cost_0 (w : Nat → Nat) : costN w 0 = 0 := by unfold costN; rw [costF, if_pos rfl]
theorem cost_min (w : Nat → Nat) {s : Nat} (h8 : s < 256) (hs : s ≠ 0) : MinOf (16 + costN w (dif s (2 ^ lsN s))) (Good w s) (fun t => 1 + costN w (dif s t)) (costN w s) := by
  have h := costF_min w 255 hs
  have e : ∀ x, x < s → costF w 255 x = costN w x := fun x hx => costF_st w 255 256 x (by omega) (by omega) (by omega)
  rw [e _ (dif_ls h8 hs)] at h
  refine ⟨h.1, fun t q => ?_, h.2.2.imp id (fun ⟨t, q, z⟩ => ⟨t, q, ?_⟩)⟩
  · have g : costF w (255 + 1) s ≤ 1 + costF w 255 (dif s t) := h.2.1 t q
    rw [e _ (good_lt h8 hs q)] at g; exact g
  · show costN w s = 1 + costN w (dif s t)
    rw [← e _ (good_lt h8 hs q)]; exact z
theorem cost_le (w : Nat → Nat) : ∀ n s, s ≤ n → s < 256 → costN w s ≤ 16 * s := by
  intro n
  induction n with
  | zero => intro s h _; have : s = 0 := by omega
            subst this; rw [cost_0]; omega
  | succ n ih =>
    intro s h h8
    by_cases h0 : s = 0
    · subst h0; rw [cost_0]; omega
    · have := (cost_min w h8 h0).1
      have l := dif_ls h8 h0
      have := ih _ (show dif s (2 ^ lsN s) ≤ n by omega) (by omega)
      omega
theorem cost_b (w : Nat → Nat) {s : Nat} (h : s < 256) : costN w s ≤ 4096 := by
  have := cost_le w s s (Nat.le_refl _) h; omega
/-- the cost rests on the answers for the set's parts alone -/
theorem cost_c {w w' : Nat → Nat} : ∀ n s, s ≤ n → s < 256 → (∀ t, t < 256 → dif t s = 0 → w t = w' t) → costN w s = costN w' s := by
  intro n
  induction n with
  | zero => intro s h _ _; have : s = 0 := by omega
            subst this; rw [cost_0, cost_0]
  | succ n ih =>
    intro s h h8 hw
    by_cases h0 : s = 0
    · subst h0; rw [cost_0, cost_0]
    · have sub : ∀ u, ∀ t, t < 256 → dif t (dif s u) = 0 → w t = w' t := by
        intro u t ht hd
        refine hw t ht (tb_ext (fun i => ?_))
        have := congrArg (fun z => z.testBit i) hd
        simp only [Nat.zero_testBit] at this ⊢
        rw [dif_bit _ (by omega), dif_bit _ (by omega)] at this
        rw [dif_bit _ (by omega)]
        cases hb : t.testBit i
        · rfl
        · rw [hb] at this
          cases hs : s.testBit i
          · rw [hs] at this; simp at this
          · rfl
      have gd : ∀ t, Good w' s t ↔ Good w s t := by
        intro t
        unfold Good
        constructor
        · rintro ⟨a, b, c, d⟩; exact ⟨a, b, c, by rw [hw t a b]; exact d⟩
        · rintro ⟨a, b, c, d⟩; exact ⟨a, b, c, by rw [← hw t a b]; exact d⟩
      refine (cost_min w h8 h0).uniq ((cost_min w' h8 h0).same (fun t => (gd t).symm)) ?_ (fun t q => ?_)
      · have l := dif_ls h8 h0
        rw [ih _ (show dif s (2 ^ lsN s) ≤ n by omega) (by omega) (sub _)]
      · have l := good_lt h8 h0 q
        show 1 + _ = 1 + _
        rw [ih _ (show dif s t ≤ n by omega) (by omega) (sub _)]
/-- the best company for the least of s: a good one that comes to the least cost, the first -/
def bstB (w : Nat → Nat) (s t : Nat) : Bool := goodB w s t && (1 + costN w (dif s t) == costN w s)
def bstF (w : Nat → Nat) (s : Nat) : Nat → Nat → Nat
  | 0, _ => 0
  | j + 1, t => if bstB w s t then t else bstF w s j (t + 1)
def bstN (w : Nat → Nat) (s : Nat) : Nat := bstF w s s 1
theorem bst_skip {w : Nat → Nat} {s : Nat} : ∀ n j t, t + n ≤ 2 ^ lsN s → bstF w s (j + n) t = bstF w s j (t + n) := by
  intro n
  induction n with
  | zero => intro j t _; rfl
  | succ n ih =>
    intro j t h
    have no : bstB w s t = false := by
      unfold bstB goodB
      have : t.testBit (lsN s) = false := Nat.testBit_lt_two_pow (by omega)
      rw [this]; simp
    rw [show j + (n + 1) = (j + n) + 1 by omega, bstF, no, if_neg (by decide), ih j (t + 1) (by omega), show t + 1 + n = t + (n + 1) by omega]
theorem bst_ls {w : Nat → Nat} {s : Nat} (h8 : s < 256) (h0 : s ≠ 0) : bstN w s = bstF w s (s + 1 - 2 ^ lsN s) (2 ^ lsN s) := by
  have l := ls_ok s h8 h0
  have p : 2 ^ lsN s ≤ s := Nat.ge_two_pow_of_testBit l.1
  have p1 : 1 ≤ 2 ^ lsN s := Nat.one_le_two_pow
  have := bst_skip (w := w) (s := s) (2 ^ lsN s - 1) (s + 1 - 2 ^ lsN s) 1 (by omega)
  unfold bstN
  rw [show s + 1 - 2 ^ lsN s + (2 ^ lsN s - 1) = s by omega, show 1 + (2 ^ lsN s - 1) = 2 ^ lsN s by omega] at this
  exact this
theorem bst_spec {w : Nat → Nat} {s : Nat} : ∀ j t, 1 ≤ t → (bstF w s j t = 0 ∧ ∀ u, t ≤ u → u < t + j → bstB w s u = false) ∨ (bstB w s (bstF w s j t) = true ∧ t ≤ bstF w s j t ∧ bstF w s j t < t + j) := by
  intro j
  induction j with
  | zero => intro t _; exact Or.inl ⟨rfl, fun u a b => by omega⟩
  | succ j ih =>
    intro t ht
    rw [bstF]
    cases c : bstB w s t
    · rw [if_neg (by decide)]
      rcases ih (t + 1) (by omega) with ⟨h1, h2⟩ | ⟨h1, h2, h3⟩
      · refine Or.inl ⟨h1, fun u a b => ?_⟩
        by_cases e : u = t
        · rw [e]; exact c
        · exact h2 u (by omega) (by omega)
      · exact Or.inr ⟨h1, by omega, by omega⟩
    · rw [if_pos rfl]
      exact Or.inr ⟨c, by omega, by omega⟩
theorem bst_case {w : Nat → Nat} {s : Nat} (h8 : s < 256) (h0 : s ≠ 0) : (bstN w s = 0 ∧ costN w s = 16 + costN w (dif s (2 ^ lsN s))) ∨ (bstN w s ≠ 0 ∧ bstN w s ≤ s ∧ goodB w s (bstN w s) = true ∧ costN w s = 1 + costN w (dif s (bstN w s))) := by
  rcases bst_spec (w := w) (s := s) s 1 (by omega) with ⟨h1, h2⟩ | ⟨h1, h2, h3⟩
  · refine Or.inl ⟨h1, ?_⟩
    rcases (cost_min w h8 h0).2.2 with h | ⟨t, q, h⟩
    · exact h
    · have tb := (good_b w s t).mp q
      have ts : t ≤ s := by
        have e : t = t &&& s := by
          apply tb_ext; intro i
          have := congrArg (fun z => z.testBit i) q.2.1
          simp only [Nat.zero_testBit] at this
          rw [dif_bit _ (by omega)] at this
          rw [Nat.testBit_and]
          cases hb : t.testBit i
          · rfl
          · rw [hb] at this
            cases hs : s.testBit i
            · rw [hs] at this; exact absurd this (by decide)
            · rfl
        rw [e]; exact Nat.and_le_right
      have t1 : 1 ≤ t := by
        rcases Nat.eq_zero_or_pos t with z | z
        · have := q.2.2.1; rw [z, Nat.zero_testBit] at this; cases this
        · exact z
      have := h2 t t1 (by omega)
      unfold bstB at this
      rw [tb.2, Bool.true_and] at this
      have h' : costN w s = 1 + costN w (dif s t) := h
      rw [h'] at this
      simp at this
  · refine Or.inr ⟨?_, ?_, ?_, ?_⟩
    · show bstF w s s 1 ≠ 0; omega
    · show bstF w s s 1 ≤ s; omega
    · unfold bstB at h1; rw [Bool.and_eq_true] at h1; exact h1.1
    · unfold bstB at h1; rw [Bool.and_eq_true, beq_iff_eq] at h1; exact h1.2.symm
theorem part_le {t s : Nat} (ht : t < 256) (h : dif t s = 0) : t ≤ s := by
  have e : t = t &&& s := by
    apply tb_ext; intro i
    have := congrArg (fun z => z.testBit i) h
    simp only [Nat.zero_testBit] at this
    rw [dif_bit _ (by omega)] at this
    rw [Nat.testBit_and]
    cases hb : t.testBit i
    · rfl
    · rw [hb] at this
      cases hs : s.testBit i
      · rw [hs] at this; exact absurd this (by decide)
      · rfl
  rw [e]; exact Nat.and_le_right
theorem part_bit {t s : Nat} (ht : t < 256) (h : dif t s = 0) {i : Nat} (hi : t.testBit i = true) : s.testBit i = true := by
  have := congrArg (fun z => z.testBit i) h
  simp only [Nat.zero_testBit] at this
  rw [dif_bit _ (by omega), hi] at this
  cases hs : s.testBit i
  · rw [hs] at this; exact absurd this (by decide)
  · rfl
theorem part_of {t s : Nat} (ht : t < 256) (h : ∀ i, t.testBit i = true → s.testBit i = true) : dif t s = 0 := by
  apply tb_ext; intro i
  rw [dif_bit _ (by omega), Nat.zero_testBit]
  cases hb : t.testBit i
  · rfl
  · rw [h i hb]; rfl
theorem part_tr {a b c : Nat} (ha : a < 256) (hb : b < 256) (h1 : dif a b = 0) (h2 : dif b c = 0) : dif a c = 0 := part_of ha (fun _ hi => part_bit hb h2 (part_bit ha h1 hi))
theorem part_dif {s t : Nat} (hs : s < 256) : dif (dif s t) s = 0 := by
  have := dif_le s t
  refine part_of (by omega) (fun i hi => ?_)
  rw [dif_bit _ (by omega)] at hi
  cases h : s.testBit i
  · rw [h] at hi; cases hi
  · rfl
theorem part_self (s : Nat) (hs : s < 256) : dif s s = 0 := part_of hs (fun _ h => h)
theorem xor_dif {s t : Nat} (hs : s < 256) (ht : t < 256) (h : dif t s = 0) : s ^^^ t = dif s t := by
  apply tb_ext; intro i
  rw [dif_bit _ (by omega), Nat.testBit_xor]
  cases hb : t.testBit i
  · cases s.testBit i <;> rfl
  · rw [part_bit ht h hb]; rfl
