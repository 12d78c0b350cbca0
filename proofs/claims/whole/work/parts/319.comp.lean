/-! WHY, CAN, WORTH, LENT -/
section CAN
variable {iv : Nat → Nat → Int32} {jv : Nat → Nat → Int64} {V ag : Nat → Nat}
theorem agV_le (V : Nat → Nat) {d : Nat} (hd : d ≤ 146096) : ∀ p, p < V 0 → agV V d p ≤ 400 := fun _ _ => ag_le hd
theorem c_scr {iv iv' : Nat → Nat → Int32} (g : ∀ k, k ≠ 60 → k ≠ 61 → iv' k = iv k) : Scr iv jv iv' jv :=
  ⟨fun k hk => g k (by omega) (by omega), by rw [g 72 (by decide) (by decide)], by rw [g 72 (by decide) (by decide)], rfl, rfl⟩
theorem m_sr {iv iv' : Nat → Nat → Int32} {V : Nat → Nat} (h1 : SR 1 73 iv V) (e : ∀ k, k ≠ 0 → iv' k = iv k) : SR 1 73 iv' V := h1.rows (fun k _ _ => e k (by omega)) (fun i _ => by rw [e 73 (by decide)])
theorem all1 {n : Nat} : 2 ^ n - 1 + 1 = 2 ^ n := by have := Nat.one_le_two_pow (n := n); omega
theorem V0_256 (h : SR 1 73 iv V) : 2 ^ V 0 ≤ 256 := pow8' h.1.1
def canF (w : Nat → Nat) (k i : Int32) : Nat → Int32 → Nat → Int32
  | 0, s, _ => if i = -1 then s else -5
  | j + 1, s, c => if (k = 0 ∨ nI (pcN c) = k) ∧ w c = 0 then (if s = i then nI c else canF w k i j (s + 1) (c + 1)) else canF w k i j s (c + 1)
theorem c_canL (h : SR 1 73 iv V) (ha : CAg iv V ag) (hag : ∀ p, p < V 0 → ag p ≤ 400) {g : Nat} (hg : g < V 1) (k i : Int32) : ∀ (j n c : Nat) (s : Int32), c + j = 2 ^ V 0 → f_X10_can_L48 (n + j + 1) 0 (nI g) k i s (nI c) (hpOf iv jv) = some (canF (whyN V ag g) k i j s c, hpOf iv jv) := by
  have k8 := V0_256 h
  intro j
  induction j with
  | zero =>
    intro n c s e
    have := all1 (n := V 0)
    rw [f_X10_can_L48, G_0_0, Option.bind_some, G_1_0, Option.bind_some, V_2, c_every h, Option.bind_some, iteL (by omega) (by omega), if_pos (by omega), canF]
    split <;> rfl
  | succ j ih =>
    intro n c s e
    have := all1 (n := V 0)
    have wl := why_le V ag g c
    have hJ : f_X10_can_J76 (f_X10_can_L48 (n + j + 1)) 0 (nI g) k i s (nI c) (hpOf iv jv) = some (if whyN V ag g c = 0 then (if s = i then nI c else canF (whyN V ag g) k i j (s + 1) (c + 1)) else canF (whyN V ag g) k i j s (c + 1), hpOf iv jv) := by
      unfold f_X10_can_J76
      rw [G_0_5, Option.bind_some, V_60, c_reason h ha hag (by omega) hg, Option.bind_some, nI_0I (by omega), nI_1, ih n (c + 1) _ (by omega), ih n (c + 1) _ (by omega)]
      split
      · split <;> rfl
      · rfl
    rw [show n + (j + 1) + 1 = (n + j + 1) + 1 by omega, f_X10_can_L48, G_0_0, Option.bind_some, G_1_0, Option.bind_some, V_2, c_every h, Option.bind_some, iteL (by omega) (by omega), if_neg (by omega), hJ, pc_c c (by omega), nI_1, ih n (c + 1) _ (by omega), canF]
    by_cases k0 : k = 0
    · simp [k0]
    · by_cases k1 : nI (pcN c) = k
      · simp [k0, k1]
      · simp [k0, k1]
theorem m_canL (h : SR 1 73 iv V) (ha : MAg iv V ag) (hag : ∀ p, p < V 0 → ag p ≤ 400) {g : Nat} (hg : g < V 1) (k i : Int32) : ∀ (j n c : Nat) (s : Int32), c + j = 2 ^ V 0 → f_X11_can_L51 (n + j + 1) 72 (nI g) k i s (nI c) (hpOf iv jv) = some (canF (whyN V ag g) k i j s c, hpOf iv jv) := by
  have k8 := V0_256 h
  have kk := h.1.1
  have e0 : iv 73 0 = nI (V 0) := h.2.2.1
  intro j
  induction j with
  | zero =>
    intro n c s e
    rw [f_X11_can_L51, G_72_0, Option.bind_some, z73_0, Option.bind_some, e0, iL_n (by omega), iteE (by omega) (by omega), if_pos (by omega), canF]
    split <;> rfl
  | succ j ih =>
    intro n c s e
    have wl := why_le V ag g c
    have hJ : f_X11_can_J77 (f_X11_can_L51 (n + j + 1)) 72 (nI g) k i s (nI c) (hpOf iv jv) = some (if whyN V ag g c = 0 then (if s = i then nI c else canF (whyN V ag g) k i j (s + 1) (c + 1)) else canF (whyN V ag g) k i j s (c + 1), hpOf iv jv) := by
      unfold f_X11_can_J77
      rw [V_72, m_why h ha hag (by omega) hg, Option.bind_some, nI_0I (by omega), nI_1, ih n (c + 1) _ (by omega), ih n (c + 1) _ (by omega)]
      split
      · split <;> rfl
      · rfl
    rw [show n + (j + 1) + 1 = (n + j + 1) + 1 by omega, f_X11_can_L51, G_72_0, Option.bind_some, z73_0, Option.bind_some, e0, iL_n (by omega), iteE (by omega) (by omega), if_neg (by omega), hJ, pc_m c (by omega), Option.bind_some, nI_1, ih n (c + 1) _ (by omega), canF]
    by_cases k0 : k = 0
    · simp [k0]
    · by_cases k1 : nI (pcN c) = k
      · simp [k0, k1]
      · simp [k0, k1]
def worF (w : Nat → Nat) (p : Nat) : Nat → Int32 → Nat → Int32
  | 0, s, _ => s
  | j + 1, s, c => if c.testBit p = true ∧ w c = 0 then worF w p j (s + 1) (c + 1) else worF w p j s (c + 1)
theorem c_worL (h : SR 1 73 iv V) (ha : CAg iv V ag) (hag : ∀ p, p < V 0 → ag p ≤ 400) {g : Nat} (hg : g < V 1) {p : Nat} (hp : p < V 0) : ∀ (j n c : Nat) (s : Int32), c + j = 2 ^ V 0 → f_X10_worth_L44 (n + j + 1) 0 (nI p) (nI g) s (nI c) (hpOf iv jv) = some (worF (whyN V ag g) p j s c, hpOf iv jv) := by
  have k8 := V0_256 h
  have kk := h.1.1
  intro j
  induction j with
  | zero =>
    intro n c s e
    have := all1 (n := V 0)
    rw [f_X10_worth_L44, G_0_0, Option.bind_some, G_1_0, Option.bind_some, V_2, c_every h, Option.bind_some, iteL (by omega) (by omega), if_pos (by omega), worF]
  | succ j ih =>
    intro n c s e
    have := all1 (n := V 0)
    have wl := why_le V ag g c
    rw [show n + (j + 1) + 1 = (n + j + 1) + 1 by omega, f_X10_worth_L44, G_0_0, Option.bind_some, G_1_0, Option.bind_some, V_2, c_every h, Option.bind_some, iteL (by omega) (by omega), if_neg (by omega), bitI (by omega) (by omega), G_0_5, Option.bind_some, V_60, c_reason h ha hag (by omega) hg, Option.bind_some, nI_0I (by omega), nI_1, ih n (c + 1) _ (by omega), ih n (c + 1) _ (by omega), worF]
    cases c.testBit p
    · simp
    · by_cases z : whyN V ag g c = 0
      · simp [z]
      · simp [z]
theorem m_worL (h : SR 1 73 iv V) (ha : MAg iv V ag) (hag : ∀ p, p < V 0 → ag p ≤ 400) {g : Nat} (hg : g < V 1) {p : Nat} (hp : p < V 0) : ∀ (j n c : Nat) (s : Int32), c + j = 2 ^ V 0 → f_X11_worth_L41 (n + j + 1) 72 (nI p) (nI g) s (nI c) (hpOf iv jv) = some (worF (whyN V ag g) p j s c, hpOf iv jv) := by
  have k8 := V0_256 h
  have kk := h.1.1
  have e0 : iv 73 0 = nI (V 0) := h.2.2.1
  intro j
  induction j with
  | zero =>
    intro n c s e
    rw [f_X11_worth_L41, G_72_0, Option.bind_some, z73_0, Option.bind_some, e0, iL_n (by omega), iteE (by omega) (by omega), if_pos (by omega), worF]
  | succ j ih =>
    intro n c s e
    have wl := why_le V ag g c
    rw [show n + (j + 1) + 1 = (n + j + 1) + 1 by omega, f_X11_worth_L41, G_72_0, Option.bind_some, z73_0, Option.bind_some, e0, iL_n (by omega), iteE (by omega) (by omega), if_neg (by omega), hasI (by omega) (by omega), V_72, m_why h ha hag (by omega) hg, Option.bind_some, nI_0I (by omega), nI_1, Int32.add_zero, ih n (c + 1) _ (by omega), ih n (c + 1) _ (by omega), worF]
    cases c.testBit p
    · simp
    · by_cases z : whyN V ag g c = 0
      · simp [z]
      · simp [z]
end CAN
theorem set_of {a : Int32} {n : Nat} (hn : n ≤ 8) (h : 0 ≤ a ∧ a ≤ nI (2 ^ n - 1)) : ∃ c, c < 2 ^ n ∧ c < 256 ∧ a = nI c := by
  have := pow8' hn
  have h1 := all1 (n := n)
  obtain ⟨c, hc, e⟩ := in01 (hi := 2 ^ n - 1) (by omega) h
  exact ⟨c, by omega, by omega, e⟩
theorem NN_1 : NN = 199999 + 1 := rfl
theorem fuel {j n : Nat} (h : j ≤ 199999) : NN = (199999 - j) + j + 1 := by show 200000 = _; omega
theorem op_why (a b d : Int32) : OpOK (f_X10_why 0 a b d) (f_X11_why 72 a b d) := by
  rintro hp ⟨iv, jv, V, W, Y, rfl, h1, h2, h3, h4⟩
  by_cases c : (1 ≤ a ∧ a ≤ nI (2 ^ V 0 - 1)) ∧ (0 ≤ b ∧ b ≤ nI (V 1) - 1) ∧ 0 ≤ d ∧ d ≤ 146096
  · obtain ⟨c1, c2, c3⟩ := id c
    obtain ⟨x, hx, hx8, rfl⟩ := set_of h1.1.1 ⟨Int32.le_trans (by decide) c1.1, c1.2⟩
    obtain ⟨g, hg, rfl⟩ := (hasP (n := V 1) (by have := h1.1.2.1; omega)).mp c2
    obtain ⟨t, ht, rfl⟩ := in01 (hi := 146096) (by decide) c3
    obtain ⟨iv1, f1, f2, f3⟩ := c_stand ht (jv := jv) h1
    have s1 : Scr iv jv iv1 jv := c_scr f2
    obtain ⟨iv2, g1, s2, g3⟩ := m_look ht (jv := jv) (s1.sr h1)
    refine ⟨nI (whyN V (agV V t) g x), iv1, jv, hpOf iv2 jv, ?_, ?_, (s1.trans s2).inv h1 h2 h3 h4⟩
    · simp [f_X10_why, G_0_0, G_1_0, V_2, c_hasCompany h1, V_0, c_isPlace h1, c, G_0_5, V_60, f1, c_reason (s1.sr h1) f3 (agV_le V ht) hx hg]
    · simp [f_X11_why, V_72, m_isCompany (s1.sr h1), m_isGate (s1.sr h1), inDay, c, g1, m_why (s2.sr (s1.sr h1)) g3 (agV_le V ht) hx hg]
  · refine both_bad h1 h2 h3 h4 (t := -10) ?_ (fun iv' e => ?_)
    · by_cases c1 : 1 ≤ a ∧ a ≤ nI (2 ^ V 0 - 1)
      · have c2 : ¬ ((0 ≤ b ∧ b ≤ nI (V 1) - 1) ∧ 0 ≤ d ∧ d ≤ 146096) := fun h => c ⟨c1, h⟩
        simp [f_X10_why, G_0_0, G_1_0, V_2, c_hasCompany h1, V_0, c_isPlace h1, c1, c2, c_refAs]
      · simp [f_X10_why, G_0_0, G_1_0, V_2, c_hasCompany h1, V_0, c1, c_refAs]
    · by_cases c1 : 1 ≤ a ∧ a ≤ nI (2 ^ V 0 - 1)
      · by_cases c2 : 0 ≤ b ∧ b ≤ nI (V 1) - 1
        · have c3 : ¬ (0 ≤ d ∧ d ≤ 146096) := fun h => c ⟨c1, c2, h⟩
          simp [f_X11_why, V_72, m_isCompany (m_sr h1 e), m_isGate (m_sr h1 e), inDay, c1, c2, c3, m_bad]
        · simp [f_X11_why, V_72, m_isCompany (m_sr h1 e), m_isGate (m_sr h1 e), c1, c2, m_bad]
      · simp [f_X11_why, V_72, m_isCompany (m_sr h1 e), c1, m_bad]
theorem op_can (b d k i : Int32) : OpOK (f_X10_can 0 b d k i) (f_X11_can 72 b d k i) := by
  rintro hp ⟨iv, jv, V, W, Y, rfl, h1, h2, h3, h4⟩
  by_cases c : ((0 ≤ b ∧ b ≤ nI (V 1) - 1) ∧ 0 ≤ d ∧ d ≤ 146096) ∧ (0 ≤ k ∧ k ≤ 8) ∧ -1 ≤ i
  · obtain ⟨⟨c2, c3⟩, c4, c5⟩ := id c
    obtain ⟨g, hg, rfl⟩ := (hasP (n := V 1) (by have := h1.1.2.1; omega)).mp c2
    obtain ⟨t, ht, rfl⟩ := in01 (hi := 146096) (by decide) c3
    obtain ⟨iv1, f1, f2, f3⟩ := c_stand ht (jv := jv) h1
    have s1 : Scr iv jv iv1 jv := c_scr f2
    obtain ⟨iv2, g1, s2, g3⟩ := m_look ht (jv := jv) (s1.sr h1)
    have k8 := V0_256 h1
    have a1 := all1 (n := V 0)
    have r1 := c_canL (jv := jv) (s1.sr h1) f3 (agV_le V ht) hg k i (2 ^ V 0 - 1) (199999 - (2 ^ V 0 - 1)) 1 0 (by omega)
    have r2 := m_canL (jv := jv) (s2.sr (s1.sr h1)) g3 (agV_le V ht) hg k i (2 ^ V 0 - 1) (199999 - (2 ^ V 0 - 1)) 1 0 (by omega)
    rw [← fuel (n := 0) (by omega), show nI 1 = 1 by decide] at r1 r2
    have n1 : ¬ k < 0 := Int32.not_lt.mpr c4.1
    have n2 : ¬ 8 < k := Int32.not_lt.mpr c4.2
    refine ⟨canF (whyN V (agV V t) g) k i (2 ^ V 0 - 1) 0 1, iv1, jv, hpOf iv2 jv, ?_, ?_, (s1.trans s2).inv h1 h2 h3 h4⟩
    · unfold f_X10_can
      rw [V_0, c_isPlace h1, Option.bind_some, if_pos c.1, if_neg (by decide), if_neg n1, if_neg n2, if_pos c5, G_0_5, Option.bind_some, V_60, f1, Option.bind_some]
      exact r1
    · simp [f_X11_can, V_72, m_isGate (s1.sr h1), inDay, f_in k 0 8 (LO := 0) (HI := 8) (by decide) (by decide), c, g1, r2]
  · refine both_bad h1 h2 h3 h4 (t := -10) ?_ (fun iv' e => ?_)
    · by_cases c1 : (0 ≤ b ∧ b ≤ nI (V 1) - 1) ∧ 0 ≤ d ∧ d ≤ 146096
      · by_cases c2 : k < 0
        · simp [f_X10_can, V_0, c_isPlace h1, c1, c2, c_refAs]
        · by_cases c3 : 8 < k
          · simp [f_X10_can, V_0, c_isPlace h1, c1, c2, c3, c_refAs]
          · have c4 : ¬ -1 ≤ i := fun h => c ⟨c1, ⟨nlt c2, nlt c3⟩, h⟩
            simp [f_X10_can, V_0, c_isPlace h1, c1, c2, c3, c4, c_refAs]
      · simp [f_X10_can, V_0, c_isPlace h1, c1, c_refAs]
    · by_cases c2 : 0 ≤ b ∧ b ≤ nI (V 1) - 1
      · by_cases c3 : 0 ≤ d ∧ d ≤ 146096
        · by_cases c4 : 0 ≤ k ∧ k ≤ 8
          · have c5 : ¬ -1 ≤ i := fun h => c ⟨⟨c2, c3⟩, c4, h⟩
            simp [f_X11_can, V_72, m_isGate (m_sr h1 e), inDay, f_in k 0 8 (LO := 0) (HI := 8) (by decide) (by decide), c2, c3, c4, c5, m_bad]
          · simp [f_X11_can, V_72, m_isGate (m_sr h1 e), inDay, f_in k 0 8 (LO := 0) (HI := 8) (by decide) (by decide), c2, c3, c4, m_bad]
        · simp [f_X11_can, V_72, m_isGate (m_sr h1 e), inDay, c2, c3, m_bad]
      · simp [f_X11_can, V_72, m_isGate (m_sr h1 e), c2, m_bad]
theorem op_worth (a b d : Int32) : OpOK (f_X10_worth 0 a b d) (f_X11_worth 72 a b d) := by
  rintro hp ⟨iv, jv, V, W, Y, rfl, h1, h2, h3, h4⟩
  by_cases c : (0 ≤ a ∧ a ≤ nI (V 0) - 1) ∧ (0 ≤ b ∧ b ≤ nI (V 1) - 1) ∧ 0 ≤ d ∧ d ≤ 146096
  · obtain ⟨c1, c2, c3⟩ := id c
    obtain ⟨p, hp, rfl⟩ := (hasP h1.1.1).mp c1
    obtain ⟨g, hg, rfl⟩ := (hasP (n := V 1) (by have := h1.1.2.1; omega)).mp c2
    obtain ⟨t, ht, rfl⟩ := in01 (hi := 146096) (by decide) c3
    obtain ⟨iv1, f1, f2, f3⟩ := c_stand ht (jv := jv) h1
    have s1 : Scr iv jv iv1 jv := c_scr f2
    obtain ⟨iv2, g1, s2, g3⟩ := m_look ht (jv := jv) (s1.sr h1)
    have k8 := V0_256 h1
    have a1 := all1 (n := V 0)
    have r1 := c_worL (jv := jv) (s1.sr h1) f3 (agV_le V ht) hg hp (2 ^ V 0 - 1) (199999 - (2 ^ V 0 - 1)) 1 0 (by omega)
    have r2 := m_worL (jv := jv) (s2.sr (s1.sr h1)) g3 (agV_le V ht) hg hp (2 ^ V 0 - 1) (199999 - (2 ^ V 0 - 1)) 1 0 (by omega)
    rw [← fuel (n := 0) (by omega), show nI 1 = 1 by decide] at r1 r2
    refine ⟨worF (whyN V (agV V t) g) p (2 ^ V 0 - 1) 0 1, iv1, jv, hpOf iv2 jv, ?_, ?_, (s1.trans s2).inv h1 h2 h3 h4⟩
    · unfold f_X10_worth
      rw [G_0_0, Option.bind_some, G_1_0, Option.bind_some, V_2, c_hasPerson h1, Option.bind_some, if_pos c1, if_neg (by decide), V_0, c_isPlace h1, Option.bind_some, if_pos c.2, if_neg (by decide), G_0_5, Option.bind_some, V_60, f1, Option.bind_some]
      exact r1
    · simp [f_X11_worth, V_72, m_isPerson (s1.sr h1), m_isGate (s1.sr h1), inDay, c, g1, r2]
  · refine both_bad h1 h2 h3 h4 (t := -2) ?_ (fun iv' e => ?_)
    · by_cases c1 : 0 ≤ a ∧ a ≤ nI (V 0) - 1
      · have c2 : ¬ ((0 ≤ b ∧ b ≤ nI (V 1) - 1) ∧ 0 ≤ d ∧ d ≤ 146096) := fun h => c ⟨c1, h⟩
        simp [f_X10_worth, G_0_0, G_1_0, V_2, c_hasPerson h1, V_0, c_isPlace h1, c1, c2, c_bad]
      · simp [f_X10_worth, G_0_0, G_1_0, V_2, c_hasPerson h1, V_0, c1, c_bad]
    · by_cases c1 : 0 ≤ a ∧ a ≤ nI (V 0) - 1
      · by_cases c2 : 0 ≤ b ∧ b ≤ nI (V 1) - 1
        · have c3 : ¬ (0 ≤ d ∧ d ≤ 146096) := fun h => c ⟨c1, c2, h⟩
          simp [f_X11_worth, V_72, m_isPerson (m_sr h1 e), m_isGate (m_sr h1 e), inDay, c1, c2, c3, m_bad]
        · simp [f_X11_worth, V_72, m_isPerson (m_sr h1 e), m_isGate (m_sr h1 e), c1, c2, m_bad]
      · simp [f_X11_worth, V_72, m_isPerson (m_sr h1 e), c1, m_bad]
