/-! TOKENS -/
def kbN (b : Nat) : Nat := if 97 ≤ b ∧ b ≤ 122 then 1 else if 48 ≤ b ∧ b ≤ 57 then 2 else if b = 59 then 3 else 4
theorem kb_c : ∀ b, b < 256 → f_X6_kindOf (nI b) = nI (kbN b) := by decide +kernel
theorem kb_l : ∀ b, b < 256 → f_X11_in (Int32.toInt64 (nI b)) 97 122 = if kbN b = 1 then 1 else 0 := by decide +kernel
theorem kb_d : ∀ b, b < 256 → f_X11_in (Int32.toInt64 (nI b)) 48 57 = if kbN b = 2 then 1 else 0 := by decide +kernel
theorem kb_le (b : Nat) : 1 ≤ kbN b ∧ kbN b ≤ 4 := by
  unfold kbN
  split
  · omega
  · split
    · omega
    · split <;> omega
def bkN (W : Nat → Nat) : Nat → Nat → Nat
  | 0, p => p
  | n + 1, p => if W (77 + p) = 32 then bkN W n (p + 1) else p
def rnN (W : Nat → Nat) (k : Nat) : Nat → Nat → Nat
  | 0, p => p
  | n + 1, p => if kbN (W (77 + p)) = k then rnN W k n (p + 1) else p
theorem bk_b (W : Nat → Nat) : ∀ n p, p ≤ bkN W n p ∧ bkN W n p ≤ p + n := by
  intro n
  induction n with
  | zero => intro p; exact ⟨Nat.le_refl _, Nat.le_refl _⟩
  | succ n ih => intro p; have := ih (p + 1); rw [bkN]; split <;> omega
theorem rn_b (W : Nat → Nat) (k : Nat) : ∀ n p, p ≤ rnN W k n p ∧ rnN W k n p ≤ p + n := by
  intro n
  induction n with
  | zero => intro p; exact ⟨Nat.le_refl _, Nat.le_refl _⟩
  | succ n ih => intro p; have := ih (p + 1); rw [rnN]; split <;> omega
theorem rn_in (W : Nat → Nat) (k : Nat) : ∀ n p x, p ≤ x → x < rnN W k n p → kbN (W (77 + x)) = k := by
  intro n
  induction n with
  | zero => intro p x a b; rw [rnN] at b; omega
  | succ n ih =>
    intro p x a b
    rw [rnN] at b
    by_cases c : kbN (W (77 + p)) = k
    · rw [if_pos c] at b
      by_cases e : x = p
      · rw [e]; exact c
      · exact ih (p + 1) x (by omega) b
    · rw [if_neg c] at b; omega
def tS (W : Nat → Nat) (q : Nat) : Nat := bkN W (W 2 - q) q
def tK (W : Nat → Nat) (q : Nat) : Nat := if tS W q < W 2 then kbN (W (77 + tS W q)) else 0
def tE (W : Nat → Nat) (q : Nat) : Nat := if tK W q = 0 then tS W q else if tK W q = 1 ∨ tK W q = 2 then rnN W (tK W q) (W 2 - tS W q) (tS W q) else tS W q + 1
theorem tS_b {W : Nat → Nat} {q : Nat} (h : q ≤ W 2) : q ≤ tS W q ∧ tS W q ≤ W 2 := by
  have := bk_b W (W 2 - q) q
  unfold tS
  omega
theorem tK_le (W : Nat → Nat) (q : Nat) : tK W q ≤ 4 := by
  unfold tK
  split
  · exact (kb_le _).2
  · omega
theorem tK_pos {W : Nat → Nat} {q : Nat} (h : tK W q ≠ 0) : tS W q < W 2 ∧ tK W q = kbN (W (77 + tS W q)) := by
  unfold tK at h ⊢
  by_cases c : tS W q < W 2
  · rw [if_pos c]; exact ⟨c, rfl⟩
  · rw [if_neg c] at h; exact absurd rfl h
theorem tE_b {W : Nat → Nat} {q : Nat} (h : q ≤ W 2) : tS W q ≤ tE W q ∧ tE W q ≤ W 2 ∧ (tK W q ≠ 0 → tS W q < tE W q) := by
  obtain ⟨a, b⟩ := tS_b h
  unfold tE
  by_cases c : tK W q = 0
  · rw [if_pos c]; exact ⟨Nat.le_refl _, b, fun h => absurd c h⟩
  · obtain ⟨l, e⟩ := tK_pos c
    rw [if_neg c]
    have r := rn_b W (tK W q) (W 2 - tS W q) (tS W q)
    by_cases d : tK W q = 1 ∨ tK W q = 2
    · rw [if_pos d]
      refine ⟨r.1, by omega, fun _ => ?_⟩
      rw [show W 2 - tS W q = (W 2 - tS W q - 1) + 1 by omega, rnN, if_pos e.symm]
      have := (rn_b W (tK W q) (W 2 - tS W q - 1) (tS W q + 1)).1
      omega
    · rw [if_neg d]; exact ⟨by omega, by omega, fun _ => by omega⟩
theorem tE_in {W : Nat → Nat} {q : Nat} (hk : tK W q = 1 ∨ tK W q = 2) {x : Nat} (h1 : tS W q ≤ x) (h2 : x < tE W q) : kbN (W (77 + x)) = tK W q := by
  unfold tE at h2
  rw [if_neg (by omega), if_pos hk] at h2
  exact rn_in W _ _ _ x h1 h2
/-- the class's token, taken at q -/
def CT (W : Nat → Nat) (iv : Nat → Nat → Int32) (q : Nat) : Prop := iv 59 2 = nI (tS W q) ∧ iv 59 3 = nI (tE W q) ∧ iv 59 4 = nI (tK W q)
section TOK
variable {jv : Nat → Nat → Int64} {W : Nat → Nat}
theorem sb59 {iv iv' : Nat → Nat → Int32} (h2 : SB 1 73 iv W) (e : ∀ k, (k < 51 ∨ (72 < k ∧ k < 77)) → iv' k = iv k) : SB 1 73 iv' W := h2.rows (fun k _ _ => e k (by omega)) (fun i _ => by rw [e 73 (by omega)])
theorem c_tkR {k : Nat} (hk : k = 1 ∨ k = 2) : ∀ (n N p : Nat) (iv : Nat → Nat → Int32), p + n = W 2 → SB 1 73 iv W → iv 59 3 = nI p → iv 59 4 = nI k → f_X6_takeToken_L85 (N + n + 1) 59 (hpOf iv jv) = some (hpOf (up iv 59 3 (nI (rnN W k n p))) jv) := by
  intro n
  induction n with
  | zero =>
    intro N p iv e h2 h3 h4
    have k2 := h2.1.1
    have p2 : iv 10 0 = nI (W 2) := h2.2.1.1
    rw [f_X6_takeToken_L85, G_59_3, Option.bind_some, G_59_0, Option.bind_some, G_10_0, Option.bind_some, h3, p2, iteE (by omega) (by omega), if_pos (by omega), rnN, up_same h3]
  | succ n ih =>
    intro N p iv e h2 h3 h4
    have k2 := h2.1.1
    have p2 : iv 10 0 = nI (W 2) := h2.2.1.1
    have bl := h2.1.2.1 p (by omega)
    have kl := kb_le (W (77 + p))
    rw [show N + (n + 1) + 1 = (N + n + 1) + 1 by omega, f_X6_takeToken_L85, G_59_3, Option.bind_some, G_59_0, Option.bind_some, G_10_0, Option.bind_some, h3, p2, iteE (by omega) (by omega), if_neg (by omega), Option.bind_some, Option.bind_some, V_10, c_at h2 (by omega), Option.bind_some, if_pos (by omega), G_59_4, Option.bind_some, h4, kb_c _ (by omega), iteQ (by omega) (by omega), Option.bind_some, S_59_3, Option.bind_some, nI_1, rnN]
    by_cases c : kbN (W (77 + p)) = k
    · rw [if_pos c, if_pos c, ih N (p + 1) (up iv 59 3 (nI (p + 1))) (by omega) (sb59 h2 (fun k hk => up_ne _ _ _ (by omega))) (up_at _ _ _ _) (by rw [up_in _ _ (by decide)]; exact h4), up_up]
    · rw [if_neg c, if_neg c, up_same h3]
theorem c_tkJ {iv : Nat → Nat → Int32} (h2 : SB 1 73 iv W) {q : Nat} (hq : q ≤ W 2) (h3 : iv 59 3 = nI (tS W q)) : ∃ iv', f_X6_takeToken_J43 59 (hpOf iv jv) = some (hpOf iv' jv) ∧ (∀ k, k ≠ 59 → iv' k = iv k) ∧ CT W iv' q := by
  have k2 := h2.1.1
  obtain ⟨b1, b2⟩ := tS_b hq
  have kl := tK_le W q
  let i1 := up iv 59 2 (nI (tS W q))
  have e1 : ∀ k, k ≠ 59 → i1 k = iv k := fun k h => up_ne _ _ _ h
  have s1 : SB 1 73 i1 W := sb59 h2 (fun k hk => e1 k (by omega))
  have kd : f_X6_kindOf (if tS W q < W 2 then nI (W (77 + tS W q)) else -1) = nI (tK W q) := by
    unfold tK
    by_cases c : tS W q < W 2
    · rw [if_pos c, if_pos c]; exact kb_c _ (by have := h2.1.2.1 _ c; omega)
    · rw [if_neg c, if_neg c]; decide
  let i2 := up i1 59 4 (nI (tK W q))
  have e2 : ∀ k, k ≠ 59 → i2 k = iv k := fun k h => by rw [show i2 k = i1 k from up_ne _ _ _ h, e1 k h]
  have s2 : SB 1 73 i2 W := sb59 h2 (fun k hk => e2 k (by omega))
  have v3 : i2 59 3 = nI (tS W q) := by
    show up (up iv 59 2 _) 59 4 _ 59 3 = _
    rw [up_in _ _ (by decide), up_in _ _ (by decide), h3]
  have v4 : i2 59 4 = nI (tK W q) := up_at _ _ _ _
  have v2 : i2 59 2 = nI (tS W q) := by
    show up (up iv 59 2 _) 59 4 _ 59 2 = _
    rw [up_in _ _ (by decide), up_at]
  have start : f_X6_takeToken_J43 59 (hpOf iv jv) = (if nI (tK W q) = 1 then (f_X6_takeToken_L85 NN 59 (hpOf i2 jv)) else (if nI (tK W q) = 2 then (f_X6_takeToken_L85 NN 59 (hpOf i2 jv)) else (if nI (tK W q) = 0 then some (hpOf i2 jv) else some (hpOf (up i2 59 3 (nI (tS W q + 1))) jv)))) := by
    have v4' : up (up iv 59 2 (nI (tS W q))) 59 4 (nI (tK W q)) 59 4 = nI (tK W q) := v4
    have v3' : up (up iv 59 2 (nI (tS W q))) 59 4 (nI (tK W q)) 59 3 = nI (tS W q) := v3
    unfold f_X6_takeToken_J43
    rw [G_59_3, Option.bind_some, h3, S_59_2, Option.bind_some, G_59_0, Option.bind_some, G_59_2, Option.bind_some, up_at, V_10, c_at s1 (by omega), Option.bind_some, kd, S_59_4, Option.bind_some, G_59_4, Option.bind_some, Option.bind_some, Option.bind_some, G_59_3, Option.bind_some, v4', v3', nI_1, S_59_3, Option.bind_some]
  have fin : ∀ x, x = tE W q → ∃ iv', some (hpOf (up i2 59 3 (nI x)) jv) = some (hpOf iv' jv) ∧ (∀ k, k ≠ 59 → iv' k = iv k) ∧ CT W iv' q := by
    intro x hx
    refine ⟨up i2 59 3 (nI x), rfl, fun k h => by rw [up_ne _ _ _ h, e2 k h], ?_, ?_, ?_⟩
    · rw [up_in _ _ (by decide)]; exact v2
    · rw [up_at, hx]
    · rw [up_in _ _ (by decide)]; exact v4
  rw [start, show (1 : Int32) = nI 1 by decide, iteQ (by omega) (by decide), show (2 : Int32) = nI 2 by decide, iteQ (by omega) (by decide), nI_0I (by omega)]
  by_cases c12 : tK W q = 1 ∨ tK W q = 2
  · have r := c_tkR (jv := jv) c12 (W 2 - tS W q) (199999 - (W 2 - tS W q)) (tS W q) i2 (by omega) s2 v3 v4
    rw [← NNj (by omega)] at r
    have ee : rnN W (tK W q) (W 2 - tS W q) (tS W q) = tE W q := by
      unfold tE
      rw [if_neg (by omega), if_pos c12]
    by_cases c1 : tK W q = 1
    · rw [if_pos c1, r]; exact fin _ ee
    · rw [if_neg c1, if_pos (by omega), r]; exact fin _ ee
  · rw [if_neg (by omega), if_neg (by omega)]
    by_cases c0 : tK W q = 0
    · rw [if_pos c0]
      have := fin (tS W q) (by unfold tE; rw [if_pos c0])
      rw [up_same v3] at this
      exact this
    · rw [if_neg c0]
      exact fin _ (by unfold tE; rw [if_neg c0, if_neg c12])
theorem c_tkS : ∀ (n N p : Nat) (iv : Nat → Nat → Int32), p + n = W 2 → SB 1 73 iv W → iv 59 3 = nI p → f_X6_takeToken_L0 (N + n + 1) 59 (hpOf iv jv) = f_X6_takeToken_J43 59 (hpOf (up iv 59 3 (nI (bkN W n p))) jv) := by
  intro n
  induction n with
  | zero =>
    intro N p iv e h2 h3
    have k2 := h2.1.1
    have p2 : iv 10 0 = nI (W 2) := h2.2.1.1
    rw [f_X6_takeToken_L0, G_59_3, Option.bind_some, G_59_0, Option.bind_some, G_10_0, Option.bind_some, h3, p2, iteE (by omega) (by omega), if_pos (by omega), bkN, up_same h3]
  | succ n ih =>
    intro N p iv e h2 h3
    have k2 := h2.1.1
    have p2 : iv 10 0 = nI (W 2) := h2.2.1.1
    have bl := h2.1.2.1 p (by omega)
    rw [show N + (n + 1) + 1 = (N + n + 1) + 1 by omega, f_X6_takeToken_L0, G_59_3, Option.bind_some, G_59_0, Option.bind_some, G_10_0, Option.bind_some, h3, p2, iteE (by omega) (by omega), if_neg (by omega), Option.bind_some, Option.bind_some, V_10, c_at h2 (by omega), Option.bind_some, if_pos (show p < W 2 by omega), show (32 : Int32) = nI 32 by decide, iteQ (by omega) (by decide), Option.bind_some, S_59_3, Option.bind_some, nI_1, bkN]
    by_cases c : W (77 + p) = 32
    · rw [if_pos c, if_pos c, ih N (p + 1) (up iv 59 3 (nI (p + 1))) (by omega) (sb59 h2 (fun k hk => up_ne _ _ _ (by omega))) (up_at _ _ _ _), up_up]
    · rw [if_neg c, if_neg c, up_same h3]
theorem c_token {iv : Nat → Nat → Int32} (h2 : SB 1 73 iv W) {q : Nat} (hq : q ≤ W 2) (h3 : iv 59 3 = nI q) : ∃ iv', f_X6_takeToken 59 (hpOf iv jv) = some (hpOf iv' jv) ∧ (∀ k, k ≠ 59 → iv' k = iv k) ∧ CT W iv' q := by
  have k2 := h2.1.1
  have r := c_tkS (jv := jv) (W 2 - q) (199999 - (W 2 - q)) q iv (by omega) h2 h3
  rw [← NNj (by omega)] at r
  obtain ⟨iv', g1, g2, g3⟩ := c_tkJ (jv := jv) (iv := up iv 59 3 (nI (tS W q))) (sb59 h2 (fun k hk => up_ne _ _ _ (by omega))) hq (up_at _ _ _ _)
  exact ⟨iv', r.trans g1, fun k h => by rw [g2 k h, up_ne _ _ _ h], g3⟩
/-- a number's value -/
def nvN (W : Nat → Nat) (s : Nat) : Nat → Nat
  | 0 => 0
  | c + 1 => 10 * nvN W s c + W (77 + (s + c)) - 48
def vl (W : Nat → Nat) (q : Nat) : Nat := nvN W (tS W q) (tE W q - tS W q)
theorem kb2 {b : Nat} (h : kbN b = 2) : 48 ≤ b ∧ b ≤ 57 := by
  unfold kbN at h
  split at h
  · omega
  · split at h
    · assumption
    · split at h <;> omega
theorem kb1 {b : Nat} (h : kbN b = 1) : 97 ≤ b ∧ b ≤ 122 := by
  unfold kbN at h
  split at h
  · assumption
  · split at h
    · omega
    · split at h <;> omega
theorem nv_lt {W : Nat → Nat} {s : Nat} : ∀ c, (∀ i, i < c → kbN (W (77 + (s + i))) = 2) → c ≤ 4 → nvN W s c < 10 ^ c := by
  intro c
  induction c with
  | zero => intro _ _; exact Nat.one_pos
  | succ c ih =>
    intro h hc
    have h1 := ih (fun i hi => h i (by omega)) (by omega)
    obtain ⟨h2, h3⟩ := kb2 (h c (by omega))
    rw [nvN, Nat.pow_succ]
    omega
theorem vl_lt {W : Nat → Nat} {q : Nat} (hk : tK W q = 2) (hl : tE W q - tS W q ≤ 4) : vl W q < 10000 := by
  have h1 := nv_lt (W := W) (s := tS W q) (tE W q - tS W q) (fun i hi => by rw [tE_in (Or.inr hk) (by omega) (by omega)]; exact hk) hl
  have h2 : 10 ^ (tE W q - tS W q) ≤ 10 ^ 4 := Nat.pow_le_pow_right (by decide) hl
  unfold vl
  have : (10 : Nat) ^ 4 = 10000 := by decide
  omega
def numB (W : Nat → Nat) (q : Nat) (lo hi : Int32) : Prop := (tK W q = 2 ∧ tE W q - tS W q ≤ 4) ∧ lo ≤ nI (vl W q) ∧ nI (vl W q) ≤ hi
theorem c_numL {q : Nat} (hq : q ≤ W 2) (hk : tK W q = 2) (hl : tE W q - tS W q ≤ 4) (lo hi : Int32) : ∀ (j N c : Nat) (iv : Nat → Nat → Int32), c + j = tE W q - tS W q → SB 1 73 iv W → iv 59 3 = nI (tE W q) → iv 59 5 = nI (nvN W (tS W q) c) → f_X6_takeNumber_L37 (N + j + 1) 59 lo hi (nI (tS W q + c)) (hpOf iv jv) = some (if lo ≤ nI (vl W q) ∧ nI (vl W q) ≤ hi then 1 else 0, hpOf (up iv 59 5 (nI (vl W q))) jv) := by
  obtain ⟨b1, b2, b3⟩ := tE_b hq
  intro j
  induction j with
  | zero =>
    intro N c iv e h2 h3 h5
    have k2 := h2.1.1
    have ec : c = tE W q - tS W q := by omega
    have h5' : iv 59 5 = nI (vl W q) := by rw [h5, ec]; rfl
    rw [f_X6_takeNumber_L37, G_59_3, Option.bind_some, h3, iteE (by omega) (by omega), if_pos (by omega), G_59_5, Option.bind_some, Option.bind_some, h5', up_same h5']
    by_cases c1 : nI (vl W q) < lo
    · rw [if_pos c1, if_neg (fun h => Int32.not_lt.mpr h.1 c1)]
    · by_cases c2 : hi < nI (vl W q)
      · rw [if_neg c1, if_pos c2, if_neg (fun h => Int32.not_lt.mpr h.2 c2)]
      · rw [if_neg c1, if_neg c2, if_pos ⟨nlt c1, nlt c2⟩]
  | succ j ih =>
    intro N c iv e h2 h3 h5
    have k2 := h2.1.1
    have kc := kb2 ((tE_in (Or.inr hk) (x := tS W q + c) (by omega) (by omega)).trans hk)
    have nl := nv_lt (W := W) (s := tS W q) c (fun i hi => by rw [tE_in (Or.inr hk) (by omega) (by omega)]; exact hk) (by omega)
    have p4 : 10 ^ c ≤ 10 ^ 4 := Nat.pow_le_pow_right (by decide) (by omega)
    have p4' : (10 : Nat) ^ 4 = 10000 := by decide
    rw [show N + (j + 1) + 1 = (N + j + 1) + 1 by omega, f_X6_takeNumber_L37, G_59_3, Option.bind_some, h3, iteE (by omega) (by omega), if_neg (by omega), G_59_5, Option.bind_some, G_59_0, Option.bind_some, V_10, c_at h2 (by omega), Option.bind_some, if_pos (by omega), h5, show (10 : Int32) = nI 10 by decide, pk_mul, nI_add, show (48 : Int32) = nI 48 by decide, pk_sub (by omega), S_59_5, Option.bind_some, nI_1]
    have st := ih N (c + 1) (up iv 59 5 (nI (10 * nvN W (tS W q) c + W (77 + (tS W q + c)) - 48))) (by omega) (sb59 h2 (fun k hk => up_ne _ _ _ (by omega))) (by rw [up_in _ _ (by decide)]; exact h3) (up_at _ _ _ _)
    rw [up_up] at st
    exact st
theorem c_num {iv : Nat → Nat → Int32} (h2 : SB 1 73 iv W) {q : Nat} (hq : q ≤ W 2) (h3 : iv 59 3 = nI q) (lo hi : Int32) : ∃ iv' x, f_X6_takeNumber 59 lo hi (hpOf iv jv) = some (x, hpOf iv' jv) ∧ (∀ k, k ≠ 59 → iv' k = iv k) ∧ CT W iv' q ∧ ((numB W q lo hi ∧ x = 1 ∧ iv' 59 5 = nI (vl W q)) ∨ (¬ numB W q lo hi ∧ x = 0)) := by
  obtain ⟨i1, e1, e2, e3⟩ := c_token (jv := jv) h2 hq h3
  obtain ⟨t1, t2, t3⟩ := id e3
  obtain ⟨b1, b2, b3⟩ := tE_b hq
  have b0 := tS_b hq
  have k2 := h2.1.1
  have kl := tK_le W q
  have s1 : SB 1 73 i1 W := sb59 h2 (fun k hk => e2 k (by omega))
  have head : f_X6_takeNumber 59 lo hi (hpOf iv jv) = (if tK W q = 2 then (if tE W q - tS W q ≤ 4 then (f_X6_takeNumber_L37 NN 59 lo hi (nI (tS W q)) (hpOf (up i1 59 5 0) jv)) else (some (0, hpOf i1 jv))) else (some (0, hpOf i1 jv))) := by
    unfold f_X6_takeNumber
    rw [V_59, e1, Option.bind_some, G_59_4, Option.bind_some, t3, show (2 : Int32) = nI 2 by decide, iteQ (by omega) (by decide), G_59_3, Option.bind_some, G_59_2, Option.bind_some, t1, t2, pk_sub b1, show (4 : Int32) = nI 4 by decide, iteE (by omega) (by decide), S_59_5, Option.bind_some, G_59_2, Option.bind_some, up_in _ _ (by decide), t1]
  rw [head]
  by_cases c : tK W q = 2 ∧ tE W q - tS W q ≤ 4
  · have r := c_numL (jv := jv) hq c.1 c.2 lo hi (tE W q - tS W q) (199999 - (tE W q - tS W q)) 0 (up i1 59 5 0) (by omega) (sb59 s1 (fun k hk => up_ne _ _ _ (by omega))) (by rw [up_in _ _ (by decide)]; exact t2) (up_at _ _ _ _)
    rw [← NNj (by omega), Nat.add_zero, up_up] at r
    rw [if_pos c.1, if_pos c.2, r]
    refine ⟨_, _, rfl, fun k h => by rw [up_ne _ _ _ h, e2 k h], ⟨by rw [up_in _ _ (by decide)]; exact t1, by rw [up_in _ _ (by decide)]; exact t2, by rw [up_in _ _ (by decide)]; exact t3⟩, ?_⟩
    by_cases d : lo ≤ nI (vl W q) ∧ nI (vl W q) ≤ hi
    · exact Or.inl ⟨⟨c, d⟩, if_pos d, up_at _ _ _ _⟩
    · exact Or.inr ⟨fun h => d h.2, if_neg d⟩
  · refine ⟨i1, 0, ?_, e2, e3, Or.inr ⟨fun h => c h.1, rfl⟩⟩
    by_cases c1 : tK W q = 2
    · rw [if_pos c1, if_neg (fun h => c ⟨c1, h⟩)]
    · rw [if_neg c1]
end TOK
