/-! the reference's WAYS: by binomials -/
def binN : Nat → Nat → Nat
  | _, 0 => 1
  | 0, _ + 1 => 0
  | n + 1, k + 1 => binN n k + binN n (k + 1)
theorem bin_c : ∀ c, c < 7 → ∀ n, n < 7 → n ≤ c → f_X11_choose (nI c) (nI n) = some (nI (binN c n)) ∧ binN c n < 100 := by decide +kernel
theorem bin_0 : ∀ c n, c < n → binN c n = 0 := by
  intro c
  induction c with
  | zero =>
    intro n h
    obtain ⟨m, rfl⟩ : ∃ m, n = m + 1 := ⟨n - 1, by omega⟩
    rfl
  | succ c ih =>
    intro n h
    obtain ⟨m, rfl⟩ : ∃ m, n = m + 1 := ⟨n - 1, by omega⟩
    rw [binN, ih m (by omega), ih (m + 1) (by omega)]
/-- one term, and the first n of them -/
def tmN (r c : Nat) (f : Nat → Nat → Nat) (n k t : Nat) : Nat := if n ≤ k then f (k - n) ((t + n * (10 - r)) % 10) * binN c n else 0
def moN' (r c : Nat) (f : Nat → Nat → Nat) : Nat → (Nat → Nat → Nat)
  | 0 => fun _ _ => 0
  | n + 1 => fun k t => moN' r c f n k t + tmN r c f n k t
theorem mo_pas (r c : Nat) (hr : r < 10) (f : Nat → Nat → Nat) : ∀ n k t, moN' r (c + 1) f (n + 1) k t = moN' r c f (n + 1) k t + if k = 0 then 0 else moN' r c f n (k - 1) ((t + 10 - r) % 10) := by
  intro n
  induction n with
  | zero =>
    intro k t
    show 0 + tmN r (c + 1) f 0 k t = 0 + tmN r c f 0 k t + if k = 0 then 0 else 0
    have : tmN r (c + 1) f 0 k t = tmN r c f 0 k t := by
      unfold tmN
      cases c <;> rfl
    rw [this]
    split <;> rfl
  | succ n ih =>
    intro k t
    show moN' r (c + 1) f (n + 1) k t + tmN r (c + 1) f (n + 1) k t = moN' r c f (n + 1) k t + tmN r c f (n + 1) k t + if k = 0 then 0 else moN' r c f n (k - 1) ((t + 10 - r) % 10) + tmN r c f n (k - 1) ((t + 10 - r) % 10)
    rw [ih k t]
    have tt : tmN r (c + 1) f (n + 1) k t = tmN r c f (n + 1) k t + if k = 0 then 0 else tmN r c f n (k - 1) ((t + 10 - r) % 10) := by
      unfold tmN
      by_cases z : k = 0
      · subst z
        rw [if_neg (by omega), if_neg (by omega), if_pos rfl]
      · rw [if_neg z]
        by_cases y : n + 1 ≤ k
        · have e1 : k - (n + 1) = k - 1 - n := by omega
          have e2 : (t + (n + 1) * (10 - r)) % 10 = ((t + 10 - r) % 10 + n * (10 - r)) % 10 := by
            rw [Nat.add_mul, Nat.one_mul, show t + (n * (10 - r) + (10 - r)) = (t + 10 - r) + n * (10 - r) by omega, Nat.mod_add_mod]
          rw [if_pos y, if_pos y, if_pos (by omega), e1, e2, binN, Nat.mul_add, Nat.add_comm]
        · rw [if_neg y, if_neg y, if_neg (by omega)]
    rw [tt]
    split <;> omega
theorem mo_all (r : Nat) (hr : r < 10) (f : Nat → Nat → Nat) : ∀ c k t, t < 10 → moN' r c f (c + 1) k t = tnI r f c k t := by
  intro c
  induction c with
  | zero =>
    intro k t ht
    show 0 + tmN r 0 f 0 k t = f k t
    unfold tmN
    rw [if_pos (Nat.zero_le _), Nat.zero_mul, Nat.add_zero, Nat.mod_eq_of_lt ht, Nat.zero_add, Nat.sub_zero]
    exact Nat.mul_one _
  | succ c ih =>
    intro k t ht
    have z : tmN r c f (c + 1) k t = 0 := by
      unfold tmN
      rw [bin_0 c (c + 1) (by omega), Nat.mul_zero]; split <;> rfl
    rw [mo_pas r c hr f (c + 1) k t]
    show moN' r c f (c + 1) k t + tmN r c f (c + 1) k t + _ = tnT r (tnI r f c) k t
    rw [z, ih k t ht, ih (k - 1) _ (Nat.mod_lt _ (by decide))]
    unfold tnT
    rfl
section WAYS
variable {iv : Nat → Nat → Int32} {W : Nat → Nat}
theorem m_w1 (h2 : SB 1 73 iv W) {r n k : Nat} (hr : r < 10) (hn : n ≤ W (37 + r)) (hk : k + n ≤ 60) (k32 : Nat → Int32 → PH → Option PH) (k62 : Nat → Int32 → Int32 → PH → Option PH) (k77 : Nat → Int32 → Int32 → Int32 → PH → Option PH) : ∀ (j N s : Nat) (jv : Nat → Nat → Int64), s + j = 10 → ∃ jv', f_X11_layWays_L88 k32 k62 k77 (N + j + 1) 72 (nI r) (nI n) (nI k) (nI s) (hpOf iv jv) = k77 72 (nI r) (nI n) (nI (k + 1)) (hpOf iv jv') ∧ (∀ c, c ≠ 86 → jv' c = jv c) ∧ (∀ i, (i < 10 * (k + n) ∨ 10 * (k + n) + 10 ≤ i) → jv' 86 i = jv 86 i) ∧ (∀ u, u < s → jv' 86 (10 * (k + n) + (u + n * r) % 10) = jv 86 (10 * (k + n) + (u + n * r) % 10)) ∧ ∀ u, s ≤ u → u < 10 → jv' 86 (10 * (k + n) + (u + n * r) % 10) = jv 86 (10 * (k + n) + (u + n * r) % 10) + jv 85 (10 * k + u) * lN (binN (W (37 + r)) n) := by
  have b1 : iv 73 (37 + r) = nI (W (37 + r)) := h2.2.2.2.2 r hr
  have kc := h2.1.2.2 r hr
  obtain ⟨bc, bl⟩ := bin_c (W (37 + r)) (by omega) n (by omega) hn
  have nr : n * r ≤ 54 := Nat.le_trans (Nat.mul_le_mul (show n ≤ 6 by omega) (show r ≤ 9 by omega)) (by decide)
  have t10 : (10 : Int32) = nI 10 := by decide
  have t37 : (37 : Int32) + nI r = nI (37 + r) := by rw [show (37 : Int32) = nI 37 by decide, nI_add]
  intro j
  induction j with
  | zero =>
    intro N s jv e
    refine ⟨jv, ?_, fun _ _ => rfl, fun _ _ => rfl, fun _ _ => rfl, fun t a b => by omega⟩
    rw [f_X11_layWays_L88, t10, iteE (by omega) (by omega), if_pos (by omega), nI_1]
  | succ j ih =>
    intro N s jv e
    obtain ⟨jv', g1, g2, g3, g4, g5⟩ := ih N (s + 1) (up jv 86 (10 * (k + n) + (s + n * r) % 10) (jv 86 (10 * (k + n) + (s + n * r) % 10) + jv 85 (10 * k + s) * lN (binN (W (37 + r)) n))) (by omega)
    refine ⟨jv', ?_, fun c h => by rw [g2 c h, up_ne _ _ _ h], fun i hi => by rw [g3 i hi, up_in _ _ (by omega)], fun u hu => ?_, fun u a b => ?_⟩
    · have i1 : 10 * (nI k + nI n) + iR (nI s + nI n * nI r) 10 = nI (10 * (k + n) + (s + n * r) % 10) := by
        rw [t10, nI_add, pk_mul, pk_mul, nI_add, rem_n (by omega) (by decide) (by decide), nI_add]
      have i2 : 10 * nI k + nI s = nI (10 * k + s) := by rw [t10, pk_mul, nI_add]
      have c10 : ¬ (10 : Int32) ≤ nI s := by rw [t10, nI_leI (by omega) (by omega)]; omega
      rw [show N + (j + 1) + 1 = (N + j + 1) + 1 by omega, f_X11_layWays_L88, if_neg c10, G_72_26, Option.bind_some, i1, a_86 iv jv (by omega), Option.bind_some, G_72_25, Option.bind_some, i2, a_85 iv jv (by omega), Option.bind_some, G_72_0, Option.bind_some, t37, a_73 iv jv (by omega), Option.bind_some, b1, bc, Option.bind_some, u_86 iv jv (by omega), Option.bind_some, nI_1, nI_l (by omega)]
      exact g1
    · rw [g4 u (by omega), up_in _ _ (by omega)]
    · by_cases c : u = s
      · subst c
        rw [g4 u (by omega), up_at]
      · rw [g5 u (by omega) b, up_in _ _ (by omega), up_ne _ _ _ (show (85 : Nat) ≠ 86 by decide)]
theorem m_w1f (h2 : SB 1 73 iv W) {r n k : Nat} (hr : r < 10) (hn : n ≤ W (37 + r)) (hk : k + n ≤ 60) (k32 : Nat → Int32 → PH → Option PH) (k62 : Nat → Int32 → Int32 → PH → Option PH) (k77 : Nat → Int32 → Int32 → Int32 → PH → Option PH) (jv : Nat → Nat → Int64) {f : Nat → Nat → Nat} (hj : JR (jv 85) f) : ∃ jv', f_X11_layWays_L88 k32 k62 k77 NN 72 (nI r) (nI n) (nI k) 0 (hpOf iv jv) = k77 72 (nI r) (nI n) (nI (k + 1)) (hpOf iv jv') ∧ (∀ c, c ≠ 86 → jv' c = jv c) ∧ (∀ i, (i < 10 * (k + n) ∨ 10 * (k + n) + 10 ≤ i) → jv' 86 i = jv 86 i) ∧ ∀ t, t < 10 → jv' 86 (10 * (k + n) + t) = jv 86 (10 * (k + n) + t) + lN (tmN r (W (37 + r)) f n (k + n) t) := by
  obtain ⟨jv', e1, e2, e3, -, e5⟩ := m_w1 h2 hr hn hk k32 k62 k77 10 (199999 - 10) 0 jv rfl
  refine ⟨jv', e1, e2, e3, fun t ht => ?_⟩
  have q := e5 ((t + n * (10 - r)) % 10) (Nat.zero_le _) (Nat.mod_lt _ (by decide))
  have x : ((t + n * (10 - r)) % 10 + n * r) % 10 = t := by
    rw [Nat.mod_add_mod, Nat.add_assoc, ← Nat.mul_add, show 10 - r + r = 10 by omega]
    omega
  rw [x] at q
  unfold tmN
  rw [q, if_pos (by omega), show k + n - n = k by omega, hj k _ (by omega) (Nat.mod_lt _ (by decide)), lN_mul]
theorem m_w2 (h2 : SB 1 73 iv W) {r n : Nat} (hr : r < 10) (hn : n ≤ W (37 + r)) (k32 : Nat → Int32 → PH → Option PH) (k62 : Nat → Int32 → Int32 → PH → Option PH) {f : Nat → Nat → Nat} : ∀ (j N k : Nat) (jv : Nat → Nat → Int64), k + j + n = 61 → JR (jv 85) f → ∃ jv', f_X11_layWays_L77 k32 k62 (N + j + 1) 72 (nI r) (nI n) (nI k) (hpOf iv jv) = k62 72 (nI r) (nI (n + 1)) (hpOf iv jv') ∧ (∀ c, c ≠ 86 → jv' c = jv c) ∧ (∀ i, i < 10 * (k + n) → jv' 86 i = jv 86 i) ∧ ∀ q t, k + n ≤ q → q ≤ 60 → t < 10 → jv' 86 (10 * q + t) = jv 86 (10 * q + t) + lN (tmN r (W (37 + r)) f n q t) := by
  intro j
  induction j with
  | zero =>
    intro N k jv e hj
    refine ⟨jv, ?_, fun _ _ => rfl, fun _ _ => rfl, fun q t a b => by omega⟩
    rw [f_X11_layWays_L77, nI_add, show (60 : Int32) = nI 60 by decide, iteL (by omega) (by omega), if_pos (by omega), nI_1]
  | succ j ih =>
    intro N k jv e hj
    obtain ⟨j1, e1, e2, e3, e4⟩ := m_w1f h2 hr hn (k := k) (by omega) k32 k62 (f_X11_layWays_L77 k32 k62 (N + j + 1)) jv hj
    obtain ⟨j2, g1, g2, g3, g4⟩ := ih N (k + 1) j1 (by omega) (by rw [e2 85 (by decide)]; exact hj)
    refine ⟨j2, ?_, fun c h => by rw [g2 c h, e2 c h], fun i hi => by rw [g3 i (by omega), e3 i (by omega)], fun q t a b c => ?_⟩
    · rw [show N + (j + 1) + 1 = (N + j + 1) + 1 by omega, f_X11_layWays_L77, nI_add, show (60 : Int32) = nI 60 by decide, iteL (by omega) (by omega), if_neg (by omega), e1]
      exact g1
    · by_cases z : q = k + n
      · subst z
        rw [g3 _ (by omega), e4 t c]
      · rw [g4 q t (by omega) b c, e3 _ (by omega)]
theorem m_w4 {r : Nat} (k32 : Nat → Int32 → PH → Option PH) : ∀ (j N p : Nat) (jv : Nat → Nat → Int64), p + j = 610 → ∃ jv', f_X11_layWays_L166 k32 (N + j + 1) 72 (nI r) (nI p) (hpOf iv jv) = k32 72 (nI (r + 1)) (hpOf iv jv') ∧ (∀ c, c ≠ 85 → jv' c = jv c) ∧ (∀ i, i < p → jv' 85 i = jv 85 i) ∧ ∀ i, p ≤ i → i < 610 → jv' 85 i = jv 86 i := by
  intro j
  induction j with
  | zero =>
    intro N p jv e
    refine ⟨jv, ?_, fun _ _ => rfl, fun _ _ => rfl, fun i a b => by omega⟩
    rw [f_X11_layWays_L166, show (610 : Int32) = nI 610 by decide, iteE (by omega) (by omega), if_pos (by omega), nI_1]
  | succ j ih =>
    intro N p jv e
    obtain ⟨j2, g1, g2, g3, g4⟩ := ih N (p + 1) (up jv 85 p (jv 86 p)) (by omega)
    refine ⟨j2, ?_, fun c h => by rw [g2 c h, up_ne _ _ _ h], fun i hi => by rw [g3 i (by omega), up_in _ _ (by omega)], fun i a b => ?_⟩
    · rw [show N + (j + 1) + 1 = (N + j + 1) + 1 by omega, f_X11_layWays_L166, show (610 : Int32) = nI 610 by decide, iteE (by omega) (by omega), if_neg (by omega), G_72_25, Option.bind_some, G_72_26, Option.bind_some, a_86 iv jv (by omega), Option.bind_some, u_85 iv jv (by omega), Option.bind_some, nI_1]
      exact g1
    · by_cases z : i = p
      · subst z
        rw [g3 i (by omega), up_at]
      · rw [g4 i (by omega) b, up_ne _ _ _ (by decide)]
theorem m_w3 (h2 : SB 1 73 iv W) {r : Nat} (hr : r < 10) (k32 : Nat → Int32 → PH → Option PH) {f : Nat → Nat → Nat} : ∀ (j N n : Nat) (jv : Nat → Nat → Int64), n + j = W (37 + r) + 1 → JR (jv 85) f → JR (jv 86) (moN' r (W (37 + r)) f n) → ∃ jv', f_X11_layWays_L62 k32 (N + j + 1) 72 (nI r) (nI n) (hpOf iv jv) = k32 72 (nI (r + 1)) (hpOf iv jv') ∧ (∀ c, c ≠ 85 → c ≠ 86 → jv' c = jv c) ∧ JR (jv' 85) (tnI r f (W (37 + r))) := by
  have b1 : iv 73 (37 + r) = nI (W (37 + r)) := h2.2.2.2.2 r hr
  have kc := h2.1.2.2 r hr
  have t37 : (37 : Int32) + nI r = nI (37 + r) := by rw [show (37 : Int32) = nI 37 by decide, nI_add]
  intro j
  induction j with
  | zero =>
    intro N n jv e hj hm
    have en : n = W (37 + r) + 1 := by omega
    obtain ⟨j1, e1, e2, -, e4⟩ := m_w4 (iv := iv) (r := r) k32 610 (199999 - 610) 0 jv rfl
    refine ⟨j1, ?_, fun c a _ => e2 c a, fun k s hk hs => ?_⟩
    · rw [f_X11_layWays_L62, G_72_0, Option.bind_some, t37, a_73 iv jv (by omega), Option.bind_some, b1, iteL (by omega) (by omega), if_pos (by omega)]
      exact e1
    · rw [e4 _ (Nat.zero_le _) (by omega), hm k s hk hs, en, mo_all r hr f _ k s hs]
  | succ j ih =>
    intro N n jv e hj hm
    obtain ⟨j1, e1, e2, e3, e4⟩ := m_w2 h2 hr (n := n) (by omega) k32 (f_X11_layWays_L62 k32 (N + j + 1)) (f := f) (61 - n) (199999 - (61 - n)) 0 jv (by omega) hj
    obtain ⟨j2, g1, g2, g3⟩ := ih N (n + 1) j1 (by omega) (by rw [e2 85 (by decide)]; exact hj) (fun k s hk hs => by
      show j1 86 (10 * k + s) = lN (moN' r (W (37 + r)) f n k s + tmN r (W (37 + r)) f n k s)
      by_cases z : n ≤ k
      · rw [e4 k s (by omega) hk hs, hm k s hk hs, lN_add]
      · rw [e3 _ (by omega), hm k s hk hs]
        unfold tmN
        rw [if_neg z, Nat.add_zero])
    refine ⟨j2, ?_, fun c a b => by rw [g2 c a b, e2 c b], g3⟩
    rw [← NNj (by omega), nI_0] at e1
    rw [show N + (j + 1) + 1 = (N + j + 1) + 1 by omega, f_X11_layWays_L62, G_72_0, Option.bind_some, t37, a_73 iv jv (by omega), Option.bind_some, b1, iteL (by omega) (by omega), if_neg (by omega), e1]
    exact g1
theorem m_w5 (h2 : SB 1 73 iv W) {r : Nat} (hr : r < 10) (k32 : Nat → Int32 → PH → Option PH) {f : Nat → Nat → Nat} : ∀ (j N p : Nat) (jv : Nat → Nat → Int64), p + j = 610 → JR (jv 85) f → (∀ i, i < p → jv 86 i = 0) → ∃ jv', f_X11_layWays_L40 k32 (N + j + 1) 72 (nI r) (nI p) (hpOf iv jv) = k32 72 (nI (r + 1)) (hpOf iv jv') ∧ (∀ c, c ≠ 85 → c ≠ 86 → jv' c = jv c) ∧ JR (jv' 85) (tnI r f (W (37 + r))) := by
  have kc := h2.1.2.2 r hr
  intro j
  induction j with
  | zero =>
    intro N p jv e hj hz
    obtain ⟨j1, e1, e2, e3⟩ := m_w3 h2 hr k32 (f := f) (W (37 + r) + 1) (199999 - (W (37 + r) + 1)) 0 jv (by omega) hj (fun k s hk hs => hz _ (by omega))
    refine ⟨j1, ?_, e2, e3⟩
    rw [← NNj (by omega), nI_0] at e1
    rw [f_X11_layWays_L40, show (610 : Int32) = nI 610 by decide, iteE (by omega) (by omega), if_pos (by omega)]
    exact e1
  | succ j ih =>
    intro N p jv e hj hz
    obtain ⟨j2, g1, g2, g3⟩ := ih N (p + 1) (up jv 86 p 0) (by omega) (by rw [up_ne _ _ _ (by decide)]; exact hj) (fun i hi => by
      by_cases z : i = p
      · rw [z, up_at]
      · rw [up_in _ _ z]; exact hz i (by omega))
    refine ⟨j2, ?_, fun c a b => by rw [g2 c a b, up_ne _ _ _ b], g3⟩
    rw [show N + (j + 1) + 1 = (N + j + 1) + 1 by omega, f_X11_layWays_L40, show (610 : Int32) = nI 610 by decide, iteE (by omega) (by omega), if_neg (by omega), G_72_26, Option.bind_some, u_86 iv jv (by omega), Option.bind_some, nI_1]
    exact g1
theorem m_w6 (h2 : SB 1 73 iv W) : ∀ (j N r : Nat) (jv : Nat → Nat → Int64), r + j = 10 → JR (jv 85) (tnN W r) → ∃ jv', f_X11_layWays_L32 (N + j + 1) 72 (nI r) (hpOf iv jv) = some (hpOf iv jv') ∧ (∀ c, c ≠ 85 → c ≠ 86 → jv' c = jv c) ∧ JR (jv' 85) (tnN W 10) := by
  intro j
  induction j with
  | zero =>
    intro N r jv e hj
    have er : r = 10 := by omega
    subst er
    refine ⟨jv, ?_, fun _ _ _ => rfl, hj⟩
    rw [f_X11_layWays_L32, if_pos (by decide)]
  | succ j ih =>
    intro N r jv e hj
    obtain ⟨j1, e1, e2, e3⟩ := m_w5 h2 (r := r) (by omega) (f_X11_layWays_L32 (N + j + 1)) 610 (199999 - 610) 0 jv rfl hj (fun i hi => by omega)
    obtain ⟨j2, g1, g2, g3⟩ := ih N (r + 1) j1 (by omega) e3
    refine ⟨j2, ?_, fun c a b => by rw [g2 c a b, e2 c a b], g3⟩
    rw [show N + (j + 1) + 1 = (N + j + 1) + 1 by omega, f_X11_layWays_L32, show (10 : Int32) = nI 10 by decide, iteE (by omega) (by omega), if_neg (by omega)]
    exact e1.trans g1
theorem m_w7 (h2 : SB 1 73 iv W) : ∀ (j N p : Nat) (jv : Nat → Nat → Int64), p + j = 610 → (∀ i, i < p → jv 85 i = if i = 0 then 1 else 0) → ∃ jv', f_X11_layWays_L2 (N + j + 1) 72 (nI p) (hpOf iv jv) = some (hpOf iv jv') ∧ (∀ c, c ≠ 85 → c ≠ 86 → jv' c = jv c) ∧ JR (jv' 85) (tnN W 10) := by
  intro j
  induction j with
  | zero =>
    intro N p jv e hz
    have ep : p = 610 := by omega
    subst ep
    obtain ⟨j1, e1, e2, e3⟩ := m_w6 h2 10 (199999 - 10) 0 jv rfl (fun k s hk hs => by
      show jv 85 (10 * k + s) = lN (if k = 0 ∧ s = 0 then 1 else 0)
      rw [hz _ (by omega)]
      by_cases z : 10 * k + s = 0
      · rw [if_pos z, if_pos (by omega)]; rfl
      · rw [if_neg z, if_neg (by omega)]; rfl)
    refine ⟨j1, ?_, e2, e3⟩
    rw [f_X11_layWays_L2, if_pos (by decide)]
    exact e1
  | succ j ih =>
    intro N p jv e hz
    obtain ⟨j2, g1, g2, g3⟩ := ih N (p + 1) (up jv 85 p (if p = 0 then 1 else 0)) (by omega) (fun i hi => by
      by_cases z : i = p
      · rw [z, up_at]
      · rw [up_in _ _ z]; exact hz i (by omega))
    refine ⟨j2, ?_, fun c a b => by rw [g2 c a b, up_ne _ _ _ a], g3⟩
    rw [show N + (j + 1) + 1 = (N + j + 1) + 1 by omega, f_X11_layWays_L2, show (610 : Int32) = nI 610 by decide, iteE (by omega) (by omega), if_neg (by omega), G_72_25, Option.bind_some, nI_0I (by omega), u_85 iv jv (by omega), Option.bind_some, u_85 iv jv (by omega), Option.bind_some, nI_1]
    by_cases z : p = 0
    · rw [if_pos z] at g1 ⊢; exact g1
    · rw [if_neg z] at g1 ⊢; exact g1
theorem m_ways {jv : Nat → Nat → Int64} (h2 : SB 1 73 iv W) : ∃ jv', f_X11_layWays 72 (hpOf iv jv) = some (hpOf iv jv') ∧ (∀ c, c ≠ 85 → c ≠ 86 → jv' c = jv c) ∧ JR (jv' 85) (tnN W 10) := by
  obtain ⟨j1, e1, e2, e3⟩ := m_w7 (iv := iv) h2 610 (199999 - 610) 0 jv rfl (fun i hi => by omega)
  exact ⟨j1, e1, e2, e3⟩
end WAYS
