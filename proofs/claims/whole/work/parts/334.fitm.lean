/-! FITS: counting; the reference's side -/
def cq (q : Nat → Bool) : Nat → Nat → Nat
  | 0, _ => 0
  | n + 1, a => (if q a then 1 else 0) + cq q n (a + 1)
theorem cq_add (q : Nat → Bool) : ∀ m n a, cq q (m + n) a = cq q m a + cq q n (a + m) := by
  intro m
  induction m with
  | zero => intro n a; rw [Nat.zero_add, cq, Nat.zero_add, Nat.add_zero]
  | succ m ih =>
    intro n a
    rw [show m + 1 + n = (m + n) + 1 by omega, cq, cq, ih n (a + 1), show a + 1 + m = a + (m + 1) by omega]
    omega
theorem cq_le (q : Nat → Bool) : ∀ n a, cq q n a ≤ n := by
  intro n
  induction n with
  | zero => intro a; exact Nat.le_refl _
  | succ n ih => intro a; have := ih (a + 1); rw [cq]; split <;> omega
theorem cq_c {q q' : Nat → Bool} : ∀ n a, (∀ i, a ≤ i → i < a + n → q i = q' i) → cq q n a = cq q' n a := by
  intro n
  induction n with
  | zero => intro a _; rfl
  | succ n ih =>
    intro a h
    rw [cq, cq, h a (by omega) (by omega), ih (a + 1) (fun i x y => h i (by omega) (by omega))]
theorem cq_mono {q q' : Nat → Bool} : ∀ n a, (∀ i, a ≤ i → i < a + n → q i = true → q' i = true) → cq q n a ≤ cq q' n a := by
  intro n
  induction n with
  | zero => intro a _; exact Nat.le_refl _
  | succ n ih =>
    intro a h
    have h1 := ih (a + 1) (fun i x y => h i (by omega) (by omega))
    have h2 := h a (by omega) (by omega)
    rw [cq, cq]
    by_cases e : q a = true
    · rw [if_pos e, if_pos (h2 e)]; omega
    · rw [if_neg e]; omega
theorem cq_or {q q1 q2 : Nat → Bool} : ∀ n a, (∀ i, a ≤ i → i < a + n → (if q i then 1 else 0) = (if q1 i then 1 else 0) + (if q2 i then 1 else 0)) → cq q n a = cq q1 n a + cq q2 n a := by
  intro n
  induction n with
  | zero => intro a _; rfl
  | succ n ih =>
    intro a h
    rw [cq, cq, cq, h a (by omega) (by omega), ih (a + 1) (fun i x y => h i (by omega) (by omega))]
    omega
theorem cq_0 {q : Nat → Bool} : ∀ n a, (∀ i, a ≤ i → i < a + n → q i = false) → cq q n a = 0 := by
  intro n
  induction n with
  | zero => intro a _; rfl
  | succ n ih =>
    intro a h
    rw [cq, h a (by omega) (by omega), ih (a + 1) (fun i x y => h i (by omega) (by omega))]; rfl
theorem cq_range (q : Nat → Bool) : ∀ n, (List.range n).countP q = cq q n 0 := by
  intro n
  induction n with
  | zero => rfl
  | succ n ih =>
    rw [List.range_succ, List.countP_append, ih, cq_add q n 1 0, Nat.zero_add]
    rw [List.countP_singleton]
    rfl
def csum (g : Nat → Nat) : Nat → Nat → Nat
  | 0, _ => 0
  | j + 1, r => g r + csum g j (r + 1)
theorem csum_c {g g' : Nat → Nat} : ∀ j r, (∀ i, r ≤ i → i < r + j → g i = g' i) → csum g j r = csum g' j r := by
  intro j
  induction j with
  | zero => intro r _; rfl
  | succ j ih => intro r h; rw [csum, csum, h r (by omega) (by omega), ih (r + 1) (fun i x y => h i (by omega) (by omega))]
theorem cq_split (q : Nat → Bool) (m a : Nat) : ∀ j r, cq q (j * m) (a + r * m) = csum (fun r => cq q m (a + r * m)) j r := by
  intro j
  induction j with
  | zero => intro r; rw [Nat.zero_mul]; rfl
  | succ j ih =>
    intro r
    rw [csum, Nat.succ_mul, Nat.add_comm, cq_add, ← ih (r + 1), Nat.succ_mul, Nat.add_assoc]
theorem fits_cq (V : Nat → Nat) : fitsN V = cq (fitN V) 100000 0 := cq_range _ _
def wrC (V : Nat → Nat) (c : Nat) : Nat := cq (wrN V c) (V 3) 0
theorem fit_cq (V : Nat → Nat) (c : Nat) : fitN V c = decide (wrC V c ≤ V 4) := by
  unfold fitN wrC
  rw [cq_range]
def sfF (s c : Nat) : Nat → Nat → Nat
  | 0, _ => 0
  | j + 1, i => (if s.testBit i then figN c i else 0) + sfF s c j (i + 1)
theorem sum_sf (V : Nat → Nat) (c j : Nat) : sumN V c j = V (48 + 3 * j) + sfF (V (47 + 3 * j)) c 5 0 := by
  have e : ∀ i, (V (47 + 3 * j) / 2 ^ i % 2 = 1) = ((V (47 + 3 * j)).testBit i = true) := fun i => by
    rw [tb_eq]
    cases (V (47 + 3 * j)).testBit i <;> simp
  unfold sumN
  simp only [e]
  rfl
theorem fig_lt (c i : Nat) : figN c i < 10 := Nat.mod_lt _ (by decide)
theorem sf_le (s c : Nat) : ∀ j i, sfF s c j i ≤ 9 * j := by
  intro j
  induction j with
  | zero => intro i; exact Nat.le_refl _
  | succ j ih =>
    intro i
    have := ih (i + 1)
    have := fig_lt c i
    rw [sfF]
    split <;> omega
theorem fig_mL {i : Nat} (hi : i < 5) : ∀ (j n x : Nat), i + j ≤ 4 → x < 2 ^ 31 → f_X11_figure_L4 (n + j + 1) (nI i) (nI x) (nI (i + j)) = some (nI (x / 10 ^ j % 10)) := by
  intro j
  induction j with
  | zero =>
    intro n x e hx
    rw [f_X11_figure_L4, iteE (by omega) (by omega), if_pos (by omega), show (10 : Int32) = nI 10 by decide, rem_n hx (by decide) (by decide), Nat.pow_zero, Nat.div_one]
  | succ j ih =>
    intro n x e hx
    rw [show n + (j + 1) + 1 = (n + j + 1) + 1 by omega, f_X11_figure_L4, iteE (by omega) (by omega), if_neg (by omega), show (10 : Int32) = nI 10 by decide, pk_div hx (by decide) (by decide), show i + (j + 1) = (i + j) + 1 by omega, pk_m1, ih n (x / 10) (by omega) (by omega), Nat.div_div_eq_div_mul, Nat.pow_succ, Nat.mul_comm]
theorem fig_m {c i : Nat} (hc : c < 100000) (hi : i < 5) : f_X11_figure (nI c) (nI i) = some (nI (figN c i)) := by
  have := fig_mL hi (4 - i) (199999 - (4 - i)) c (by omega) (by omega)
  rw [← NNj (by omega), show i + (4 - i) = 4 by omega] at this
  exact this
section FITM
variable {iv : Nat → Nat → Int32} {jv : Nat → Nat → Int64} {Y : Nat → Nat}
theorem m_fi1 (h3 : SP 1 73 iv Y) {c j w : Nat} (hc : c < 100000) (hj : j < Y 3) (k4 : Nat → Int32 → Int32 → Int32 → PH → Option Int32) : ∀ (jj N i s : Nat), i + jj = 5 → s ≤ 1000 → f_X11_fitsAll_L30 k4 (N + jj + 1) 72 (nI c) (nI w) (nI j) (nI s) (nI i) (hpOf iv jv) = if (s + sfF (Y (47 + 3 * j)) c jj i) % 10 = 0 then f_X11_fitsAll_J90 k4 72 (nI c) (nI j) 1 (nI w) (hpOf iv jv) else f_X11_fitsAll_J90 k4 72 (nI c) (nI j) 0 (nI w) (hpOf iv jv) := by
  obtain ⟨⟨k3, k4', kp⟩, -, m3, m4, mp⟩ := h3
  obtain ⟨l0, l1, l2, l3⟩ := kp j hj
  obtain ⟨b1, b2, b3⟩ := mp j hj
  have t47 : (47 : Int32) + 3 * nI j = nI (47 + 3 * j) := by rw [show (47 : Int32) = nI 47 by decide, show (3 : Int32) = nI 3 by decide, pk_mul, nI_add]
  have go : ∀ (jj N i s : Nat), i + jj = 5 → s + 9 * jj ≤ 2000 → f_X11_fitsAll_L30 k4 (N + jj + 1) 72 (nI c) (nI w) (nI j) (nI s) (nI i) (hpOf iv jv) = if (s + sfF (Y (47 + 3 * j)) c jj i) % 10 = 0 then f_X11_fitsAll_J90 k4 72 (nI c) (nI j) 1 (nI w) (hpOf iv jv) else f_X11_fitsAll_J90 k4 72 (nI c) (nI j) 0 (nI w) (hpOf iv jv) := by
    intro jj
    induction jj with
    | zero =>
      intro N i s e hs
      rw [f_X11_fitsAll_L30, show (5 : Int32) = nI 5 by decide, iteE (by omega) (by omega), if_pos (by omega), show (10 : Int32) = nI 10 by decide, rem_n (by omega) (by decide) (by decide), nI_0I (by omega)]; rfl
    | succ jj ih =>
      intro N i s e hs
      have fl := fig_lt c i
      rw [show N + (jj + 1) + 1 = (N + jj + 1) + 1 by omega, f_X11_fitsAll_L30, show (5 : Int32) = nI 5 by decide, iteE (by omega) (by omega), if_neg (by omega), G_72_0, Option.bind_some, t47, a_73 iv jv (by omega), Option.bind_some, b1, hasI (show Y (47 + 3 * j) < 256 by omega) (by omega), fig_m hc (by omega), Option.bind_some, nI_add, nI_1, show nI s + 0 = nI (s + 0) from nI_add s 0, ih N (i + 1) _ (by omega) (by omega), ih N (i + 1) _ (by omega) (by omega), sfF]
      cases (Y (47 + 3 * j)).testBit i
      · rw [if_neg Bool.false_ne_true, if_neg Bool.false_ne_true, Nat.add_zero, Nat.zero_add]
      · rw [if_pos rfl, if_pos rfl, Nat.add_assoc]
  intro jj N i s e hs
  exact go jj N i s e (by omega)
theorem m_fi2 (h3 : SP 1 73 iv Y) {c : Nat} (hc : c < 100000) : ∀ (jj N j w : Nat), j + jj = Y 3 → w + jj ≤ 1000 → f_X11_fitsAll_L4 (N + jj + 1) 72 (nI c) (nI w) (nI j) (hpOf iv jv) = some (if w + cq (wrN Y c) jj j ≤ Y 4 then 1 else 0) := by
  obtain ⟨⟨k3, k4', kp⟩, -, m3, m4, mp⟩ := id h3
  have z3 : aI (hpOf iv jv) 73 0 3 = some (iv 73 3) := a_73 iv jv (i := 3) (by decide)
  have z4 : aI (hpOf iv jv) 73 0 4 = some (iv 73 4) := a_73 iv jv (i := 4) (by decide)
  intro jj
  induction jj with
  | zero =>
    intro N j w e hw
    rw [f_X11_fitsAll_L4, G_72_0, Option.bind_some, z3, Option.bind_some, m3, iteE (by omega) (by omega), if_pos (by omega), Option.bind_some, z4, Option.bind_some, m4, iteL (by omega) (by omega), cq, Nat.add_zero]
    by_cases q : w ≤ Y 4
    · rw [if_neg (by omega), if_pos q]
    · rw [if_pos (by omega), if_neg q]
  | succ jj ih =>
    intro N j w e hw
    obtain ⟨l0, l1, l2, l3⟩ := kp j (by omega)
    obtain ⟨b1, b2, b3⟩ := mp j (by omega)
    have t48 : (48 : Int32) + 3 * nI j = nI (48 + 3 * j) := by rw [show (48 : Int32) = nI 48 by decide, show (3 : Int32) = nI 3 by decide, pk_mul, nI_add]
    have t49 : (49 : Int32) + 3 * nI j = nI (49 + 3 * j) := by rw [show (49 : Int32) = nI 49 by decide, show (3 : Int32) = nI 3 by decide, pk_mul, nI_add]
    have st := m_fi1 (jv := jv) h3 hc (j := j) (w := w) (by omega) (f_X11_fitsAll_L4 (N + jj + 1)) 5 (199999 - 5) 0 (Y (48 + 3 * j)) rfl (by omega)
    rw [← NNj (by omega), nI_0, ← sum_sf] at st
    have J : ∀ s0 : Nat, s0 < 2 → f_X11_fitsAll_J90 (f_X11_fitsAll_L4 (N + jj + 1)) 72 (nI c) (nI j) (nI s0) (nI w) (hpOf iv jv) = some (if w + (if (s0 != Y (49 + 3 * j)) = true then 1 else 0) + cq (wrN Y c) jj (j + 1) ≤ Y 4 then 1 else 0) := by
      intro s0 h0
      rw [f_X11_fitsAll_J90, G_72_0, Option.bind_some, t49, a_73 iv jv (by omega), Option.bind_some, b3, iteQ (by omega) (by omega), nI_1, nI_1, show nI w + 0 = nI (w + 0) from nI_add w 0, ih N (j + 1) _ (by omega) (by omega), ih N (j + 1) _ (by omega) (by omega)]
      by_cases q : s0 = Y (49 + 3 * j)
      · have z : (s0 != Y (49 + 3 * j)) = false := by simp [q]
        rw [if_pos q, z]; rfl
      · have z : (s0 != Y (49 + 3 * j)) = true := by simp [q]
        rw [if_neg q, z]; rfl
    rw [show N + (jj + 1) + 1 = (N + jj + 1) + 1 by omega, f_X11_fitsAll_L4, G_72_0, Option.bind_some, z3, Option.bind_some, m3, iteE (by omega) (by omega), if_neg (by omega), Option.bind_some, t48, a_73 iv jv (by omega), Option.bind_some, b2, st, cq, ← Nat.add_assoc]
    unfold wrN
    by_cases q : sumN Y c j % 10 = 0
    · rw [if_pos q]
      simp only [if_pos q]
      exact J 1 (by decide)
    · rw [if_neg q]
      simp only [if_neg q]
      exact J 0 (by decide)
theorem m_fit (h3 : SP 1 73 iv Y) {c : Nat} (hc : c < 100000) : f_X11_fitsAll 72 (nI c) (hpOf iv jv) = some (if fitN Y c then 1 else 0) := by
  have k3 := h3.1.1
  have := m_fi2 (jv := jv) h3 hc (Y 3) (199999 - Y 3) 0 0 (by omega) (by omega)
  rw [← NNj (by omega), nI_0, Nat.zero_add] at this
  rw [fit_cq]
  unfold f_X11_fitsAll wrC
  rw [this]
  by_cases q : cq (wrN Y c) (Y 3) 0 ≤ Y 4
  · rw [if_pos q, if_pos (by simp [q])]
  · rw [if_neg q, if_neg (by simp [q])]
def fiF (q : Nat → Bool) (i : Int32) : Nat → Nat → Nat → Int32
  | 0, n, _ => if i = -1 then nI n else -5
  | j + 1, n, c => if q c then (if nI n = i then nI c else fiF q i j (n + 1) (c + 1)) else fiF q i j n (c + 1)
theorem m_fiL (h3 : SP 1 73 iv Y) (i : Int32) : ∀ (j N n c : Nat), c + j = 100000 → f_X11_fits_L16 (N + j + 1) 72 i (nI n) (nI c) (hpOf iv jv) = some (fiF (fitN Y) i j n c, hpOf iv jv) := by
  intro j
  induction j with
  | zero =>
    intro N n c e
    rw [f_X11_fits_L16, show (100000 : Int32) = nI 100000 by decide, iteE (by omega) (by omega), if_pos (by omega), fiF]
    split <;> rfl
  | succ j ih =>
    intro N n c e
    rw [show N + (j + 1) + 1 = (N + j + 1) + 1 by omega, f_X11_fits_L16, show (100000 : Int32) = nI 100000 by decide, iteE (by omega) (by omega), if_neg (by omega), V_72, m_fit h3 (by omega), Option.bind_some, nI_1, nI_1, ih N n (c + 1) (by omega), ih N (n + 1) (c + 1) (by omega), fiF]
    cases fitN Y c
    · rw [if_neg Bool.false_ne_true, if_pos rfl, if_neg Bool.false_ne_true]
    · rw [if_pos rfl, if_neg (by decide), if_pos rfl]
      split <;> rfl
theorem nI_n1 {n : Nat} (h : n < 2 ^ 31) : ¬ nI n = -1 := fun e => by
  have := nI_pos (n := n) h
  rw [e] at this
  exact this (by decide)
theorem fi_none (q : Nat → Bool) : ∀ j n c, n + j < 2 ^ 30 → fiF q (-1) j n c = nI (n + cq q j c) := by
  intro j
  induction j with
  | zero => intro n c h; rw [fiF, if_pos rfl, cq, Nat.add_zero]
  | succ j ih =>
    intro n c h
    rw [fiF, cq, if_neg (nI_n1 (n := n) (by omega)), ih (n + 1) (c + 1) (by omega), ih n (c + 1) (by omega)]
    cases q c
    · rw [if_neg Bool.false_ne_true, if_neg Bool.false_ne_true, Nat.zero_add]
    · rw [if_pos rfl, if_pos rfl, Nat.add_assoc]
theorem fi_some (q : Nat → Bool) {m : Nat} (hm : m < 2 ^ 31) : ∀ j n c, n ≤ m → n + j < 2 ^ 30 → (n + cq q j c ≤ m ∧ fiF q (nI m) j n c = -5) ∨ ∃ e, c ≤ e ∧ e < c + j ∧ q e = true ∧ n + cq q (e - c) c = m ∧ fiF q (nI m) j n c = nI e := by
  intro j
  induction j with
  | zero => intro n c h1 h2; exact Or.inl ⟨h1, by rw [fiF, if_neg (nI_n1 hm)]⟩
  | succ j ih =>
    intro n c h1 h2
    rw [fiF, cq, iteQ (show n < 2 ^ 31 by omega) hm]
    by_cases qc : q c = true
    · rw [if_pos qc, if_pos qc]
      by_cases e : n = m
      · rw [if_pos e]
        exact Or.inr ⟨c, by omega, by omega, qc, by rw [Nat.sub_self, cq]; exact e, rfl⟩
      · rw [if_neg e]
        rcases ih (n + 1) (c + 1) (by omega) (by omega) with ⟨a, b⟩ | ⟨x, x1, x2, x3, x4, x5⟩
        · exact Or.inl ⟨by omega, b⟩
        · refine Or.inr ⟨x, by omega, by omega, x3, ?_, x5⟩
          rw [show x - c = (x - (c + 1)) + 1 by omega, cq, if_pos qc]; omega
    · rw [if_neg qc, if_neg qc]
      rcases ih n (c + 1) (by omega) (by omega) with ⟨a, b⟩ | ⟨x, x1, x2, x3, x4, x5⟩
      · exact Or.inl ⟨by omega, b⟩
      · refine Or.inr ⟨x, by omega, by omega, x3, ?_, x5⟩
        rw [show x - c = (x - (c + 1)) + 1 by omega, cq, if_neg qc]; omega
/-- the i-th is one alone -/
theorem ith_u {q : Nat → Bool} {x y : Nat} (hx : q x = true) (hy : q y = true) (e : cq q x 0 = cq q y 0) : x = y := by
  have key : ∀ a b, a < b → q a = true → cq q a 0 < cq q b 0 := by
    intro a b h ha
    rw [show b = a + (1 + (b - a - 1)) by omega, cq_add, cq_add, Nat.zero_add, cq, if_pos ha]
    omega
  rcases Nat.lt_trichotomy x y with h | h | h
  · have := key x y h hx; omega
  · exact h
  · have := key y x h hy; omega
theorem m_fits (h3 : SP 1 73 iv Y) (i : Int32) : f_X11_fits_L16 NN 72 i 0 0 (hpOf iv jv) = some (fiF (fitN Y) i 100000 0 0, hpOf iv jv) := by
  have := m_fiL (jv := jv) h3 i 100000 99999 0 0 rfl
  exact this
end FITM
