/-! CROWDS: TENS, FEWEST TO SPARE -/
def tnT (r : Nat) (f : Nat → Nat → Nat) : Nat → Nat → Nat := fun k s => f k s + if k = 0 then 0 else f (k - 1) ((s + 10 - r) % 10)
def tnI (r : Nat) (f : Nat → Nat → Nat) : Nat → (Nat → Nat → Nat)
  | 0 => f
  | c + 1 => tnT r (tnI r f c)
def tnN (W : Nat → Nat) : Nat → (Nat → Nat → Nat)
  | 0 => fun k s => if k = 0 ∧ s = 0 then 1 else 0
  | r + 1 => tnI r (tnN W r) (W (37 + r))
def ppN (W : Nat → Nat) : Nat → Nat
  | 0 => 0
  | r + 1 => ppN W r + W (37 + r)
theorem tnI_sp (r : Nat) {f : Nat → Nat → Nat} {p : Nat} (h : ∀ k s, p < k → f k s = 0) : ∀ c k s, p + c < k → tnI r f c k s = 0 := by
  intro c
  induction c with
  | zero => intro k s hk; exact h k s (by omega)
  | succ c ih =>
    intro k s hk
    show tnT r (tnI r f c) k s = 0
    unfold tnT
    rw [ih k s (by omega), if_neg (by omega), ih (k - 1) _ (by omega)]
theorem tnI_bd (r : Nat) {f : Nat → Nat → Nat} {p : Nat} (h : ∀ k s, f k s ≤ 2 ^ p) : ∀ c k s, tnI r f c k s ≤ 2 ^ (p + c) := by
  intro c
  induction c with
  | zero => intro k s; exact h k s
  | succ c ih =>
    intro k s
    show tnT r (tnI r f c) k s ≤ 2 ^ (p + c + 1)
    unfold tnT
    have h1 := ih k s
    have h2 := ih (k - 1) ((s + 10 - r) % 10)
    rw [Nat.pow_succ]
    split <;> omega
theorem tnN_sp (W : Nat → Nat) : ∀ r k s, ppN W r < k → tnN W r k s = 0 := by
  intro r
  induction r with
  | zero => intro k s h; exact if_neg (fun e => by have := e.1; subst this; exact absurd h (Nat.not_lt_zero _))
  | succ r ih => intro k s h; exact tnI_sp r ih (W (37 + r)) k s h
theorem tnN_bd (W : Nat → Nat) : ∀ r k s, tnN W r k s ≤ 2 ^ ppN W r := by
  intro r
  induction r with
  | zero => intro k s; show (if _ then 1 else 0) ≤ 1; split <;> omega
  | succ r ih => intro k s; exact tnI_bd r ih (W (37 + r)) k s
theorem pp_le {W : Nat → Nat} (h : Vkb W) : ∀ r, r ≤ 10 → ppN W r ≤ 6 * r := by
  intro r
  induction r with
  | zero => intro _; exact Nat.le_refl _
  | succ r ih =>
    intro hr
    have := ih (by omega)
    have := h.2.2 r (by omega)
    show ppN W r + W (37 + r) ≤ _
    omega
theorem pp_mono (W : Nat → Nat) : ∀ j r, ppN W r ≤ ppN W (r + j) := by
  intro j
  induction j with
  | zero => intro r; exact Nat.le_refl _
  | succ j ih =>
    intro r
    have := ih r
    show _ ≤ ppN W (r + j) + W (37 + (r + j))
    omega
theorem tn_v {W : Nat → Nat} (h : Vkb W) (k s : Nat) : tnN W 10 k s < 2 ^ 63 := by
  have h1 := tnN_bd W 10 k s
  have h2 := pp_le h 10 (Nat.le_refl _)
  have h3 : 2 ^ ppN W 10 ≤ 2 ^ 60 := Nat.pow_le_pow_right (by decide) h2
  have h4 : (2 : Nat) ^ 60 < 2 ^ 63 := by decide
  omega
def JR (g : Nat → Int64) (f : Nat → Nat → Nat) : Prop := ∀ k s, k ≤ 60 → s < 10 → g (10 * k + s) = lN (f k s)
section TENS
variable {iv : Nat → Nat → Int32} {W : Nat → Nat}
theorem c_add1 {r k : Nat} (hr : r < 10) (hk : 1 ≤ k) (hk6 : k ≤ 60) (k2 : Nat → Int32 → Int32 → PH → Option PH) : ∀ (j n s : Nat) (jv : Nat → Nat → Int64), s + j = 10 → ∃ jv', f_X9_addOne_L10 k2 (n + j + 1) 66 (nI r) (nI k) (nI s) (hpOf iv jv) = k2 66 (nI r) (nI k + (-1)) (hpOf iv jv') ∧ (∀ c, c ≠ 67 → jv' c = jv c) ∧ (∀ i, (i < 10 * k + s ∨ 10 * k + 10 ≤ i) → jv' 67 i = jv 67 i) ∧ ∀ t, s ≤ t → t < 10 → jv' 67 (10 * k + t) = jv 67 (10 * k + t) + jv 67 (10 * (k - 1) + (t + 10 - r) % 10) := by
  intro j
  induction j with
  | zero =>
    intro n s jv e
    refine ⟨jv, ?_, fun _ _ => rfl, fun _ _ => rfl, fun t a b => by omega⟩
    rw [f_X9_addOne_L10, show (10 : Int32) = nI 10 by decide, iteE (by omega) (by omega), if_pos (by omega)]
  | succ j ih =>
    intro n s jv e
    obtain ⟨jv', g1, g2, g3, g4⟩ := ih n (s + 1) (up jv 67 (10 * k + s) (jv 67 (10 * k + s) + jv 67 (10 * (k - 1) + (s + 10 - r) % 10))) (by omega)
    refine ⟨jv', ?_, fun c h => by rw [g2 c h, up_ne _ _ _ h], fun i hi => by rw [g3 i (by omega), up_in _ _ (by omega)], fun t a b => ?_⟩
    · have i1 : nI k * 10 + nI s = nI (10 * k + s) := by rw [show (10 : Int32) = nI 10 by decide, pk_mul, nI_add, Nat.mul_comm]
      have i2 : (nI k - 1) * 10 + iR (nI s + 10 - nI r) 10 = nI (10 * (k - 1) + (s + 10 - r) % 10) := by
        rw [show (10 : Int32) = nI 10 by decide, nI_add, pk_sub (by omega), rem_n (by omega) (by decide) (by decide), show (1 : Int32) = nI 1 by decide, pk_sub hk, pk_mul, nI_add, Nat.mul_comm]
      rw [show n + (j + 1) + 1 = (n + j + 1) + 1 by omega, f_X9_addOne_L10, show (if (10 : Int32) ≤ nI s then k2 66 (nI r) (nI k + (-1)) (hpOf iv jv) else _) = _ from if_neg (by rw [show (10 : Int32) = nI 10 by decide, nI_leI (by omega) (by omega)]; omega), G_66_1, Option.bind_some, i1, i2, a_67 iv jv (by omega), Option.bind_some, Option.bind_some, a_67 iv jv (by omega), Option.bind_some, u_67 iv jv (by omega), Option.bind_some, nI_1]
      exact g1
    · by_cases c : t = s
      · subst c
        rw [g3 (10 * k + t) (by omega), up_at]
      · rw [g4 t (by omega) b, up_in _ _ (by omega), up_in _ _ (by omega)]
theorem c_add {r : Nat} (hr : r < 10) : ∀ (k n : Nat) (jv : Nat → Nat → Int64), k ≤ 60 → ∃ jv', f_X9_addOne_L2 (n + k + 1) 66 (nI r) (nI k) (hpOf iv jv) = some (hpOf iv jv') ∧ (∀ c, c ≠ 67 → jv' c = jv c) ∧ (∀ i, (i < 10 ∨ 10 * k + 10 ≤ i) → jv' 67 i = jv 67 i) ∧ ∀ q t, 1 ≤ q → q ≤ k → t < 10 → jv' 67 (10 * q + t) = jv 67 (10 * q + t) + jv 67 (10 * (q - 1) + (t + 10 - r) % 10) := by
  intro k
  induction k with
  | zero =>
    intro n jv hk
    refine ⟨jv, ?_, fun _ _ => rfl, fun _ _ => rfl, fun q t a b => by omega⟩
    rw [f_X9_addOne_L2, lt_1 (by omega), if_pos (by omega)]
  | succ k ih =>
    intro n jv hk
    obtain ⟨j1, e1, e2, e3, e4⟩ := c_add1 (iv := iv) hr (k := k + 1) (by omega) hk (f_X9_addOne_L2 (n + k + 1)) 10 (199999 - 10) 0 jv (by omega)
    obtain ⟨j2, g1, g2, g3, g4⟩ := ih n j1 (by omega)
    refine ⟨j2, ?_, fun c h => by rw [g2 c h, e2 c h], fun i hi => by rw [g3 i (by omega), e3 i (by omega)], fun q t a b c => ?_⟩
    · rw [show n + (k + 1) + 1 = (n + k + 1) + 1 by omega, f_X9_addOne_L2, lt_1 (by omega), if_neg (by omega)]
      rw [← NNj (by omega), nI_0, pk_m1] at e1
      rw [e1]; exact g1
    · by_cases z : q = k + 1
      · subst z
        rw [g3 (10 * (k + 1) + t) (by omega), e4 t (by omega) c]
      · rw [g4 q t a (by omega) c, e3 (10 * q + t) (by omega), e3 (10 * (q - 1) + (t + 10 - r) % 10) (by omega)]
theorem c_add_f {r p : Nat} (hr : r < 10) (hp : p < 60) {f : Nat → Nat → Nat} {jv : Nat → Nat → Int64} (hs : ∀ k s, p < k → f k s = 0) (hj : JR (jv 67) f) : ∃ jv', f_X9_addOne 66 (nI r) (nI (p + 1)) (hpOf iv jv) = some (hpOf iv jv') ∧ (∀ c, c ≠ 67 → jv' c = jv c) ∧ JR (jv' 67) (tnT r f) := by
  obtain ⟨jv', e1, e2, e3, e4⟩ := c_add (iv := iv) hr (p + 1) (199999 - (p + 1)) jv (by omega)
  refine ⟨jv', ?_, e2, fun k s hk h10 => ?_⟩
  · rw [← NNj (by omega)] at e1; exact e1
  · unfold tnT
    by_cases z : k = 0
    · subst z
      rw [e3 (10 * 0 + s) (by omega), if_pos rfl, Nat.add_zero]; exact hj 0 s (by omega) h10
    · rw [if_neg z]
      by_cases y : k ≤ p + 1
      · rw [e4 k s (by omega) y h10, hj k s hk h10, hj (k - 1) _ (by omega) (by omega), lN_add]
      · rw [e3 (10 * k + s) (by omega), hj k s hk h10, hs (k - 1) _ (by omega), Nat.add_zero]
theorem c_cs3 (h2 : SB 1 73 iv W) {r p : Nat} (hr : r < 10) {f : Nat → Nat → Nat} (hs : ∀ k s, p < k → f k s = 0) (hp : p + W (37 + r) ≤ 60) (k35 : Nat → Int32 → Int32 → PH → Option (Int32 × PH)) : ∀ (j n c : Nat) (jv : Nat → Nat → Int64), c + j = W (37 + r) → JR (jv 67) (tnI r f c) → ∃ jv', f_X9_countSets_L43 k35 (n + j + 1) 66 (nI (p + c)) (nI r) (nI c) (hpOf iv jv) = k35 66 (nI (p + W (37 + r))) (nI (r + 1)) (hpOf iv jv') ∧ (∀ c, c ≠ 67 → jv' c = jv c) ∧ JR (jv' 67) (tnI r f (W (37 + r))) := by
  have b1 : iv 12 r = nI (W (37 + r)) := h2.2.1.2.2 r hr
  have k := h2.1.2.2 r hr
  intro j
  induction j with
  | zero =>
    intro n c jv e hj
    have ec : c = W (37 + r) := by omega
    refine ⟨jv, ?_, fun _ _ => rfl, by rw [← ec]; exact hj⟩
    rw [f_X9_countSets_L43, G_66_0, Option.bind_some, a_12 iv jv hr, Option.bind_some, b1, iteE (by omega) (by omega), if_pos (by omega), nI_1, ec]
  | succ j ih =>
    intro n c jv e hj
    obtain ⟨j1, e1, e2, e3⟩ := c_add_f (iv := iv) (p := p + c) hr (by omega) (tnI_sp r hs c) hj
    obtain ⟨j2, g1, g2, g3⟩ := ih n (c + 1) j1 (by omega) e3
    refine ⟨j2, ?_, fun c h => by rw [g2 c h, e2 c h], g3⟩
    rw [show n + (j + 1) + 1 = (n + j + 1) + 1 by omega, f_X9_countSets_L43, G_66_0, Option.bind_some, a_12 iv jv hr, Option.bind_some, b1, iteE (by omega) (by omega), if_neg (by omega), show (60 : Int32) = nI 60 by decide, iteE (by omega) (by omega), if_neg (by omega), V_66, nI_1, e1, Option.bind_some, nI_1]
    exact g1
theorem c_cs2 (h2 : SB 1 73 iv W) : ∀ (j n r : Nat) (jv : Nat → Nat → Int64), r + j = 10 → JR (jv 67) (tnN W r) → ∃ jv', f_X9_countSets_L35 (n + j + 1) 66 (nI (ppN W r)) (nI r) (hpOf iv jv) = some (nI (ppN W 10), hpOf iv jv') ∧ (∀ c, c ≠ 67 → jv' c = jv c) ∧ JR (jv' 67) (tnN W 10) := by
  intro j
  induction j with
  | zero =>
    intro n r jv e hj
    have er : r = 10 := by omega
    subst er
    refine ⟨jv, ?_, fun _ _ => rfl, hj⟩
    rw [f_X9_countSets_L35, if_pos (by decide)]
  | succ j ih =>
    intro n r jv e hj
    have p6 := pp_le h2.1 (r + 1) (by omega)
    have p6' : ppN W r + W (37 + r) ≤ 6 * (r + 1) := p6
    obtain ⟨j1, e1, e2, e3⟩ := c_cs3 (iv := iv) h2 (r := r) (p := ppN W r) (by omega) (tnN_sp W r) (by omega) (f_X9_countSets_L35 (n + j + 1)) (W (37 + r)) (199999 - W (37 + r)) 0 jv (by omega) hj
    obtain ⟨j2, g1, g2, g3⟩ := ih n (r + 1) j1 (by omega) e3
    refine ⟨j2, ?_, fun c h => by rw [g2 c h, e2 c h], g3⟩
    rw [show n + (j + 1) + 1 = (n + j + 1) + 1 by omega, f_X9_countSets_L35, show (10 : Int32) = nI 10 by decide, iteE (by omega) (by omega), if_neg (by omega)]
    rw [← NNj (by omega), nI_0] at e1
    exact e1.trans g1
theorem c_cs1 (h2 : SB 1 73 iv W) : ∀ (j n p : Nat) (jv : Nat → Nat → Int64), p + j = 610 → (∀ i, i < p → jv 67 i = 0) → ∃ jv', f_X9_countSets_L2 (n + j + 1) 66 (nI p) (hpOf iv jv) = some (nI (ppN W 10), hpOf iv jv') ∧ (∀ c, c ≠ 67 → jv' c = jv c) ∧ JR (jv' 67) (tnN W 10) := by
  intro j
  induction j with
  | zero =>
    intro n p jv e hz
    have ep : p = 610 := by omega
    subst ep
    have u0 : uJ (hpOf iv jv) 67 0 1 = some (hpOf iv (up jv 67 0 1)) := u_67 iv jv (i := 0) (by decide) 1
    obtain ⟨j1, e1, e2, e3⟩ := c_cs2 (iv := iv) h2 10 (199999 - 10) 0 (up jv 67 0 1) rfl (fun k s hk h10 => by
      show up jv 67 0 1 67 (10 * k + s) = lN (if k = 0 ∧ s = 0 then 1 else 0)
      by_cases z : 10 * k + s = 0
      · rw [z, up_at, if_pos (by omega)]; rfl
      · rw [up_in _ _ z, hz _ (by omega), if_neg (by omega)]; rfl)
    refine ⟨j1, ?_, fun c h => by rw [e2 c h, up_ne _ _ _ h], e3⟩
    rw [f_X9_countSets_L2, G_66_1, Option.bind_some, Ln_67, Option.bind_some, if_pos (by decide), Option.bind_some, u0, Option.bind_some]
    exact e1
  | succ j ih =>
    intro n p jv e hz
    obtain ⟨j1, e1, e2, e3⟩ := ih n (p + 1) (up jv 67 p 0) (by omega) (fun i hi => by
      by_cases z : i = p
      · rw [z, up_at]
      · rw [up_in _ _ z]; exact hz i (by omega))
    refine ⟨j1, ?_, fun c h => by rw [e2 c h, up_ne _ _ _ h], e3⟩
    rw [show n + (j + 1) + 1 = (n + j + 1) + 1 by omega, f_X9_countSets_L2, G_66_1, Option.bind_some, Ln_67, Option.bind_some, show (610 : Int32) = nI 610 by decide, iteE (by omega) (by omega), if_neg (by omega), Option.bind_some, u_67 iv jv (by omega), Option.bind_some, nI_1]
    exact e1
theorem c_cs {jv : Nat → Nat → Int64} (h2 : SB 1 73 iv W) : ∃ jv', f_X9_countSets 66 (hpOf iv jv) = some (nI (ppN W 10), hpOf iv jv') ∧ (∀ c, c ≠ 67 → jv' c = jv c) ∧ JR (jv' 67) (tnN W 10) := by
  obtain ⟨j1, e1, e2, e3⟩ := c_cs1 (iv := iv) h2 610 (199999 - 610) 0 jv rfl (fun i hi => by omega)
  exact ⟨j1, e1, e2, e3⟩
end TENS
