/-! BOTH SIDES lay the ages of a day -/
section STAND
variable {V : Nat → Nat}
theorem c_yearsOf {iv : Nat → Nat → Int32} {jv : Nat → Nat → Int64} (h : SR 1 73 iv V) {p d : Nat} (hp : p < V 0) (hd : d ≤ 146096) : f_X7_yearsOf 2 (nI p) (nI d) (nI (yN d)) (hpOf iv jv) = some (nI (agN (V (5 + p)) d) - 1) := by
  have k := h.1.1
  have kb := (h.1.2.2.1 p hp).1
  obtain ⟨e1, e2, e3, -⟩ := h.2.1.2.1 p hp
  have e1' : iv 3 p = nI (V (5 + p)) := e1
  have e2' : iv 4 p = nI (yN (V (5 + p))) := e2
  have e3' : iv 5 p = nI (plN (V (5 + p))) := e3
  obtain ⟨a1, a2, a3, a4⟩ := yN_spec hd
  have pl := plN_le kb
  have bl := fdl (y := yN d) a1 (by omega)
  have dl : diN (yN d) (plN (V (5 + p))) < 2 ^ 31 := by
    unfold diN; split <;> omega
  unfold f_X7_yearsOf
  rw [G_2_2, Option.bind_some, a_3 iv jv (by omega), Option.bind_some, e1', iteE (by omega) (by omega)]
  by_cases c : V (5 + p) ≤ d
  · rw [if_pos c, G_2_3, Option.bind_some, a_4 iv jv (by omega), Option.bind_some, G_2_4, Option.bind_some, a_5 iv jv (by omega), Option.bind_some, e2', e3', di_c a1 (by omega) (by omega), iteE dl (by omega), age_v c hd]
    by_cases c2 : plN (V (5 + p)) ≤ plN d
    · rw [if_pos ((di_le hd).mpr c2), if_neg (by omega), Int32.sub_zero]
    · rw [if_neg (fun q => c2 ((di_le hd).mp q)), if_pos (by omega)]
  · rw [if_neg c]
    unfold agN
    rw [if_pos (by omega)]; rfl
/-- the mask of those not born, of the first n -/
def unb (ag : Nat → Nat) : Nat → Nat
  | 0 => 0
  | n + 1 => unb ag n ||| (if ag n = 0 then 2 ^ n else 0)
theorem unb_bit (ag : Nat → Nat) (n i : Nat) : (unb ag n).testBit i = (decide (i < n) && decide (ag i = 0)) := by
  induction n with
  | zero => simp [unb]
  | succ n ih =>
    rw [unb, Nat.testBit_or, ih]
    by_cases c : ag n = 0
    · rw [if_pos c, tb_pow]
      by_cases e : n = i
      · subst e; simp [c]
      · have : (i < n + 1) ↔ i < n := by omega
        simp [e, this]
    · rw [if_neg c, Nat.zero_testBit]
      by_cases e : i = n
      · subst e; simp [c]
      · have : (i < n + 1) ↔ i < n := by omega
        simp [this]
theorem unb_lt (ag : Nat → Nat) (n : Nat) : unb ag n < 2 ^ n := by
  induction n with
  | zero => simp [unb]
  | succ n ih =>
    rw [unb]
    have hp : 2 ^ n < 2 ^ (n + 1) := Nat.pow_lt_pow_right (by decide) (by omega)
    have h0 : 0 < 2 ^ (n + 1) := Nat.pow_pos (by decide)
    refine or_lt (by omega) ?_
    split <;> omega
def agV (V : Nat → Nat) (d p : Nat) : Nat := agN (V (5 + p)) d
/-- the class's judge stands on ages ag -/
def CAg (iv : Nat → Nat → Int32) (V : Nat → Nat) (ag : Nat → Nat) : Prop := (∀ p, p < V 0 → iv 61 p = nI (ag p) - 1) ∧ iv 60 2 = nI (unb ag (V 0))
def MAg (iv : Nat → Nat → Int32) (V : Nat → Nat) (ag : Nat → Nat) : Prop := ∀ p, p < V 0 → iv 79 p = nI (ag p) - 1
theorem ag_neg {n : Nat} (h : n ≤ 1000) : (0 ≤ nI n - 1) ↔ n ≠ 0 := by
  rcases Nat.eq_zero_or_pos n with e | e
  · subst e; exact ⟨fun q => absurd q (by decide), fun q => absurd rfl q⟩
  · obtain ⟨m, rfl⟩ : ∃ m, n = m + 1 := ⟨n - 1, by omega⟩
    rw [nI_pred]
    exact ⟨fun _ => by omega, fun _ => nI_pos' (by omega)⟩
theorem c_standL {d : Nat} (hd : d ≤ 146096) {jv : Nat → Nat → Int64} : ∀ (j n p : Nat) (iv : Nat → Nat → Int32), V 0 = p + j → SR 1 73 iv V → (∀ q, q < p → iv 61 q = nI (agV V d q) - 1) → iv 60 2 = nI (unb (agV V d) p) →
    ∃ iv', f_X3_standOn_L12 (n + j + 1) 60 (nI d) (nI (yN d)) (nI p) (hpOf iv jv) = some (hpOf iv' jv) ∧ (∀ k, k ≠ 60 → k ≠ 61 → iv' k = iv k) ∧ CAg iv' V (agV V d) := by
  intro j
  induction j with
  | zero =>
    intro n p iv e h h1 h2
    have e0 : iv 2 0 = nI (V 0) := h.2.1.1.1
    have k := h.1.1
    refine ⟨iv, ?_, fun _ _ _ => rfl, fun q hq => h1 q (by omega), by rw [e]; exact h2⟩
    rw [f_X3_standOn_L12, G_60_0, Option.bind_some, G_2_0, Option.bind_some, e0, iteE (by omega) (by omega), if_pos (by omega)]
  | succ j ih =>
    intro n p iv e h h1 h2
    have e0 : iv 2 0 = nI (V 0) := h.2.1.1.1
    have k := h.1.1
    have al := ag_le (b := V (5 + p)) hd
    have ul := unb_lt (agV V d) p
    have pl : 2 ^ p ≤ 2 ^ 8 := Nat.pow_le_pow_right (by decide) (by omega)
    rw [show n + (j + 1) + 1 = (n + j + 1) + 1 by omega, f_X3_standOn_L12, G_60_0, Option.bind_some, G_2_0, Option.bind_some, e0, iteE (by omega) (by omega), if_neg (by omega), G_60_1, Option.bind_some, Option.bind_some, V_2, c_yearsOf h (by omega) hd, Option.bind_some, u_61 _ _ (by omega), Option.bind_some, G_60_1, Option.bind_some, a_61 _ _ (by omega), Option.bind_some, up_at, nI_1]
    simp only [ag_neg (show agN (V (5 + p)) d ≤ 1000 by omega)]
    have s1 : SR 1 73 (up iv 61 p (nI (agN (V (5 + p)) d) - 1)) V := (scr_up (jv := jv) 61 p _ (by omega)).sr h
    have q1 : ∀ q, q < p + 1 → (up iv 61 p (nI (agN (V (5 + p)) d) - 1)) 61 q = nI (agV V d q) - 1 := by
      intro q hq
      by_cases c : q = p
      · subst c; rw [up_at]; rfl
      · rw [up_in _ _ c]; exact h1 q (by omega)
    by_cases c : agN (V (5 + p)) d ≠ 0
    · rw [if_pos c]
      obtain ⟨iv', g1, g2, g3⟩ := ih n (p + 1) _ (by omega) s1 q1 (by
        rw [up_ne _ _ _ (by decide), h2, unb, if_neg (show ¬ agV V d p = 0 from c), Nat.or_zero])
      exact ⟨iv', g1, fun k h60 h61 => by rw [g2 k h60 h61, up_ne _ _ _ h61], g3⟩
    · rw [if_neg c, G_60_2, Option.bind_some, S_60_2, Option.bind_some]
      obtain ⟨iv', g1, g2, g3⟩ := ih n (p + 1) (up (up iv 61 p (nI (agN (V (5 + p)) d) - 1)) 60 2 (up iv 61 p (nI (agN (V (5 + p)) d) - 1) 60 2 ||| iL 1 (nI p))) (by omega) ((scr_up (jv := jv) 60 2 _ (by omega)).sr s1) (fun q hq => by rw [up_ne _ _ _ (by decide)]; exact q1 q hq) (by
        rw [up_at, up_ne _ _ _ (by decide), h2, iL_n (by omega), nx_or, unb, if_pos (show agV V d p = 0 from Decidable.of_not_not c)])
      exact ⟨iv', g1, fun k h60 h61 => by rw [g2 k h60 h61, up_ne _ _ _ h60, up_ne _ _ _ h61], g3⟩
theorem c_stand {d : Nat} (hd : d ≤ 146096) {iv : Nat → Nat → Int32} {jv : Nat → Nat → Int64} (h : SR 1 73 iv V) : ∃ iv', f_X3_standOn 60 (nI d) (hpOf iv jv) = some (hpOf iv' jv) ∧ (∀ k, k ≠ 60 → k ≠ 61 → iv' k = iv k) ∧ CAg iv' V (agV V d) := by
  unfold f_X3_standOn
  have k := h.1.1
  rw [c_yearOf hd, Option.bind_some, S_60_2, Option.bind_some, show NN = (199999 - V 0) + V 0 + 1 by show 200000 = _; omega]
  obtain ⟨iv', g1, g2, g3⟩ := c_standL hd (jv := jv) (V 0) (199999 - V 0) 0 (up iv 60 2 0) (by omega) ((scr_up (jv := jv) 60 2 _ (by omega)).sr h) (fun q hq => absurd hq (by omega)) (by rw [up_at]; rfl)
  exact ⟨iv', g1, fun k h60 h61 => by rw [g2 k h60 h61, up_ne _ _ _ h60], g3⟩
/-- the reference's births lie -/
def MBi (iv : Nat → Nat → Int32) (V : Nat → Nat) (n : Nat) : Prop := ∀ p, p < n → iv 77 p = nI (yN (V (5 + p))) ∧ iv 78 p = nI (32 * moN (plN (V (5 + p))) + daN (plN (V (5 + p))))
theorem key_n {p : Nat} : (32 : Int32) * nI (moN p) + nI (daN p) = nI (32 * moN p + daN p) := by
  rw [show (32 : Int32) = nI 32 by decide, pk_mul, nI_add]
theorem m_birthL {jv : Nat → Nat → Int64} : ∀ (j n p : Nat) (iv : Nat → Nat → Int32), V 0 = p + j → SR 1 73 iv V → MBi iv V p →
    ∃ iv', f_X11_layBirths_L2 (n + j + 1) 72 (nI p) (hpOf iv jv) = some (hpOf iv' jv) ∧ (∀ k, k ≠ 72 → k ≠ 77 → k ≠ 78 → iv' k = iv k) ∧ (∀ i, i < 8 → iv' 72 i = iv 72 i) ∧ MBi iv' V (V 0) := by
  intro j
  induction j with
  | zero =>
    intro n p iv e h hb
    have e0 : iv 73 0 = nI (V 0) := h.2.2.1
    have k := h.1.1
    refine ⟨iv, ?_, fun _ _ _ _ => rfl, fun _ _ => rfl, by rw [e]; exact hb⟩
    rw [f_X11_layBirths_L2, G_72_0, Option.bind_some, z73_0, Option.bind_some, e0, iteE (by omega) (by omega), if_pos (by omega)]
  | succ j ih =>
    intro n p iv e h hb
    have e0 : iv 73 0 = nI (V 0) := h.2.2.1
    have k := h.1.1
    have kb := (h.1.2.2.1 p (by omega)).1
    have e5 : iv 73 (5 + p) = nI (V (5 + p)) := (h.2.2.2.2.1 p (by omega)).1
    rw [show n + (j + 1) + 1 = (n + j + 1) + 1 by omega, f_X11_layBirths_L2, G_72_0, Option.bind_some, z73_0, Option.bind_some, e0, iteE (by omega) (by omega), if_neg (by omega), Option.bind_some, show (5 : Int32) + nI p = nI (5 + p) by rw [show (5 : Int32) = nI 5 by decide, nI_add], a_73 _ _ (by omega), Option.bind_some, V_72, e5, m_take kb, Option.bind_some, G_72_11, Option.bind_some, G_72_8, Option.bind_some, u_77 _ _ (by omega), Option.bind_some, G_72_12, Option.bind_some, G_72_9, Option.bind_some, G_72_10, Option.bind_some, u_78 _ _ (by omega), Option.bind_some, nI_1]
    generalize hI : (up (up (up (up (up iv 72 8 (nI (yN (V (5 + p))))) 72 9 (nI (moN (plN (V (5 + p)))))) 72 10 (nI (daN (plN (V (5 + p)))))) 77 p ((up (up (up iv 72 8 (nI (yN (V (5 + p))))) 72 9 (nI (moN (plN (V (5 + p)))))) 72 10 (nI (daN (plN (V (5 + p)))))) 72 8)) 78 p (32 * (up (up (up (up iv 72 8 (nI (yN (V (5 + p))))) 72 9 (nI (moN (plN (V (5 + p)))))) 72 10 (nI (daN (plN (V (5 + p)))))) 77 p ((up (up (up iv 72 8 (nI (yN (V (5 + p))))) 72 9 (nI (moN (plN (V (5 + p)))))) 72 10 (nI (daN (plN (V (5 + p)))))) 72 8)) 72 9 + (up (up (up (up iv 72 8 (nI (yN (V (5 + p))))) 72 9 (nI (moN (plN (V (5 + p)))))) 72 10 (nI (daN (plN (V (5 + p)))))) 77 p ((up (up (up iv 72 8 (nI (yN (V (5 + p))))) 72 9 (nI (moN (plN (V (5 + p)))))) 72 10 (nI (daN (plN (V (5 + p)))))) 72 8)) 72 10)) = iv1
    have r1 : ∀ k, k ≠ 72 → k ≠ 77 → k ≠ 78 → iv1 k = iv k := fun k x y z => by rw [← hI]; simp [up, x, y, z]
    have r2 : ∀ i, i < 8 → iv1 72 i = iv 72 i := fun i hi => by
      rw [← hI]; simp [up, show i ≠ 8 by omega, show i ≠ 9 by omega, show i ≠ 10 by omega]
    have r3 : ∀ q, iv1 77 q = if q = p then nI (yN (V (5 + p))) else iv 77 q := fun q => by rw [← hI]; simp [up]
    have r4 : ∀ q, iv1 78 q = if q = p then nI (32 * moN (plN (V (5 + p))) + daN (plN (V (5 + p)))) else iv 78 q := fun q => by rw [← hI]; simp [up, key_n]
    have hb1 : MBi iv1 V (p + 1) := by
      intro q hq
      rw [r3, r4]
      by_cases c : q = p
      · subst c; rw [if_pos rfl, if_pos rfl]; exact ⟨rfl, rfl⟩
      · rw [if_neg c, if_neg c]; exact hb q (by omega)
    have s1 : SR 1 73 iv1 V := h.rows (fun k _ _ => r1 k (by omega) (by omega) (by omega)) (fun i _ => by rw [r1 73 (by decide) (by decide) (by decide)])
    obtain ⟨iv', g1, g2, g3, g4⟩ := ih n (p + 1) iv1 (by omega) s1 hb1
    exact ⟨iv', g1, fun k x y z => by rw [g2 k x y z, r1 k x y z], fun i hi => by rw [g3 i hi, r2 i hi], g4⟩
theorem m_births {iv : Nat → Nat → Int32} {jv : Nat → Nat → Int64} (h : SR 1 73 iv V) : ∃ iv', f_X11_layBirths 72 (hpOf iv jv) = some (hpOf iv' jv) ∧ (∀ k, k ≠ 72 → k ≠ 77 → k ≠ 78 → iv' k = iv k) ∧ (∀ i, i < 8 → iv' 72 i = iv 72 i) ∧ MBi iv' V (V 0) := by
  unfold f_X11_layBirths
  have k := h.1.1
  rw [show NN = (199999 - V 0) + V 0 + 1 by show 200000 = _; omega]
  exact m_birthL (V 0) (199999 - V 0) 0 iv (by omega) h (fun p hp => absurd hp (by omega))
theorem m_agesL {d : Nat} (hd : d ≤ 146096) {jv : Nat → Nat → Int64} : ∀ (j n p : Nat) (iv : Nat → Nat → Int32), V 0 = p + j → SR 1 73 iv V → MBi iv V (V 0) → iv 72 8 = nI (yN d) → (∀ q, q < p → iv 79 q = nI (agV V d q) - 1) →
    ∃ iv', f_X11_layAges_L20 (n + j + 1) 72 (nI d) (nI (32 * moN (plN d) + daN (plN d))) (nI p) (hpOf iv jv) = some (hpOf iv' jv) ∧ (∀ k, k ≠ 79 → iv' k = iv k) ∧ MAg iv' V (agV V d) := by
  intro j
  induction j with
  | zero =>
    intro n p iv e h hb h8 h1
    have e0 : iv 73 0 = nI (V 0) := h.2.2.1
    have k := h.1.1
    refine ⟨iv, ?_, fun _ _ => rfl, fun q hq => h1 q (by omega)⟩
    rw [f_X11_layAges_L20, G_72_0, Option.bind_some, z73_0, Option.bind_some, e0, iteE (by omega) (by omega), if_pos (by omega)]
  | succ j ih =>
    intro n p iv e h hb h8 h1
    have e0 : iv 73 0 = nI (V 0) := h.2.2.1
    have k := h.1.1
    have kb := (h.1.2.2.1 p (by omega)).1
    have e5 : iv 73 (5 + p) = nI (V (5 + p)) := (h.2.2.2.2.1 p (by omega)).1
    obtain ⟨b1, b2⟩ := hb p (by omega)
    have pb := plN_le kb
    have pd := plN_le hd
    obtain ⟨x1, x2, x3, x4, x5⟩ := md_ok (plN (V (5 + p))) (by omega)
    obtain ⟨y1, y2, y3, y4, y5⟩ := md_ok (plN d) (by omega)
    have nxt : ∀ z, z = nI (agV V d p) - 1 → ∃ iv', f_X11_layAges_L20 (n + j + 1) 72 (nI d) (nI (32 * moN (plN d) + daN (plN d))) (nI (p + 1)) (hpOf (up iv 79 p z) jv) = some (hpOf iv' jv) ∧ (∀ k, k ≠ 79 → iv' k = iv k) ∧ MAg iv' V (agV V d) := by
      intro z hz
      obtain ⟨iv', g1, g2, g3⟩ := ih n (p + 1) (up iv 79 p z) (by omega) ((scr_up (jv := jv) 79 p _ (by omega)).sr h) (fun q hq => by rw [up_ne _ _ _ (by decide), up_ne _ _ _ (by decide)]; exact hb q hq) (by rw [up_ne _ _ _ (by decide)]; exact h8) (fun q hq => by
        by_cases c : q = p
        · subst c; rw [up_at]; exact hz
        · rw [up_in _ _ c]; exact h1 q (by omega))
      exact ⟨iv', g1, fun k hk => by rw [g2 k hk, up_ne _ _ _ hk], g3⟩
    rw [show n + (j + 1) + 1 = (n + j + 1) + 1 by omega, f_X11_layAges_L20, G_72_0, Option.bind_some, z73_0, Option.bind_some, e0, iteE (by omega) (by omega), if_neg (by omega), G_72_13, Option.bind_some, Option.bind_some, show (5 : Int32) + nI p = nI (5 + p) by rw [show (5 : Int32) = nI 5 by decide, nI_add], a_73 _ _ (by omega), Option.bind_some, e5, iteE (by omega) (by omega), nI_1]
    by_cases c : V (5 + p) ≤ d
    · rw [if_pos c, G_72_8, Option.bind_some, G_72_11, Option.bind_some, a_77 _ _ (by omega), Option.bind_some, G_72_12, Option.bind_some, a_78 _ _ (by omega), Option.bind_some, b1, b2, h8, iteE (by omega) (by omega), u_79 _ _ (by omega), u_79 _ _ (by omega), Option.bind_some, Option.bind_some]
      simp only [key_le (show plN (V (5 + p)) < 366 by omega) (show plN d < 366 by omega)]
      have av := age_v c hd
      by_cases c2 : plN (V (5 + p)) ≤ plN d
      · rw [if_pos c2]
        rw [if_neg (by omega)] at av
        exact nxt _ av.symm
      · rw [if_neg c2]
        rw [if_pos (by omega)] at av
        exact nxt _ av.symm
    · rw [if_neg c, u_79 _ _ (by omega), Option.bind_some]
      refine nxt _ ?_
      unfold agV agN
      rw [if_pos (by omega)]; rfl
theorem m_ages {d : Nat} (hd : d ≤ 146096) {iv : Nat → Nat → Int32} {jv : Nat → Nat → Int64} (h : SR 1 73 iv V) (hb : MBi iv V (V 0)) : ∃ iv', f_X11_layAges 72 (nI d) (hpOf iv jv) = some (hpOf iv' jv) ∧ (∀ k, k ≠ 72 → k ≠ 79 → iv' k = iv k) ∧ (∀ i, i < 8 → iv' 72 i = iv 72 i) ∧ MAg iv' V (agV V d) := by
  unfold f_X11_layAges
  have k := h.1.1
  rw [V_72, m_take hd, Option.bind_some, G_72_9, Option.bind_some, G_72_10, Option.bind_some]
  generalize hI : up (up (up iv 72 8 (nI (yN d))) 72 9 (nI (moN (plN d)))) 72 10 (nI (daN (plN d))) = iv1
  have r1 : ∀ k, k ≠ 72 → iv1 k = iv k := fun k x => by rw [← hI]; simp [up, x]
  have r2 : ∀ i, i < 8 → iv1 72 i = iv 72 i := fun i hi => by
    rw [← hI]; simp [up, show i ≠ 8 by omega, show i ≠ 9 by omega, show i ≠ 10 by omega]
  have r8 : iv1 72 8 = nI (yN d) := by rw [← hI]; simp [up]
  have r9 : iv1 72 9 = nI (moN (plN d)) := by rw [← hI]; simp [up]
  have r10 : iv1 72 10 = nI (daN (plN d)) := by rw [← hI]; simp [up]
  rw [r9, r10, key_n, show NN = (199999 - V 0) + V 0 + 1 by show 200000 = _; omega]
  have s1 : SR 1 73 iv1 V := h.rows (fun k _ _ => r1 k (by omega)) (fun i _ => by rw [r1 73 (by decide)])
  obtain ⟨iv', g1, g2, g3⟩ := m_agesL hd (jv := jv) (V 0) (199999 - V 0) 0 iv1 (by omega) s1 (fun q hq => by rw [r1 77 (by decide), r1 78 (by decide)]; exact hb q hq) r8 (fun q hq => absurd hq (by omega))
  exact ⟨iv', g1, fun k x y => by rw [g2 k y, r1 k x], fun i hi => by rw [g2 72 (by decide), r2 i hi], g3⟩
theorem scr_m {iv iv' : Nat → Nat → Int32} {jv : Nat → Nat → Int64} (g2 : ∀ k, k ≠ 72 → k ≤ 76 → iv' k = iv k) (g3 : ∀ i, i < 8 → iv' 72 i = iv 72 i) : Scr iv jv iv' jv :=
  ⟨fun k hk => g2 k (by omega) (by omega), g3 3 (by omega), g3 4 (by omega), rfl, rfl⟩
theorem m_look {d : Nat} (hd : d ≤ 146096) {iv : Nat → Nat → Int32} {jv : Nat → Nat → Int64} (h : SR 1 73 iv V) : ∃ iv', f_X11_look 72 (nI d) (hpOf iv jv) = some (hpOf iv' jv) ∧ Scr iv jv iv' jv ∧ MAg iv' V (agV V d) := by
  obtain ⟨iv1, f1, f2, f3, f4⟩ := m_births (jv := jv) h
  have s1 : Scr iv jv iv1 jv := scr_m (fun k x y => f2 k x (by omega) (by omega)) f3
  obtain ⟨iv2, g1, g2, g3, g4⟩ := m_ages hd (jv := jv) (s1.sr h) f4
  have s2 : Scr iv1 jv iv2 jv := scr_m (fun k x y => g2 k x (by omega)) g3
  refine ⟨iv2, ?_, s1.trans s2, g4⟩
  unfold f_X11_look
  rw [V_72, f1, Option.bind_some, V_72, g1, Option.bind_some]
end STAND
theorem op_age (a b : Int32) : OpOK (f_X10_age 0 a b) (f_X11_age 72 a b) := by
  rintro hp ⟨iv, jv, V, W, Y, rfl, h1, h2, h3, h4⟩
  by_cases c : (0 ≤ a ∧ a ≤ nI (V 0) - 1) ∧ 0 ≤ b ∧ b ≤ 146096
  · obtain ⟨p, hp, rfl⟩ := (hasP h1.1.1).mp c.1
    obtain ⟨d, hd, rfl⟩ := in01 (hi := 146096) (by decide) c.2
    obtain ⟨iv', g1, s, g3⟩ := m_look hd (jv := jv) h1
    have k := h1.1.1
    refine ⟨nI (agN (V (5 + p)) d) - 1, iv, jv, hpOf iv' jv, ?_, ?_, s.inv h1 h2 h3 h4⟩
    · simp [f_X10_age, G_0_0, G_1_0, V_2, c_hasPerson h1, isDayC, c, c_yearOf hd, c_yearsOf h1 hp hd]
    · simp [f_X11_age, V_72, m_isPerson h1, inDay, c, g1, G_72_13, a_79 iv' jv (show p < 8 by omega), g3 p hp, agV]
  · refine both_bad h1 h2 h3 h4 (t := -2) ?_ (fun iv' e => ?_)
    · by_cases ca : 0 ≤ a ∧ a ≤ nI (V 0) - 1
      · have cb : ¬ (0 ≤ b ∧ b ≤ 146096) := fun h => c ⟨ca, h⟩
        simp [f_X10_age, G_0_0, G_1_0, V_2, c_hasPerson h1, isDayC, ca, cb, V_0, c_bad]
      · simp [f_X10_age, G_0_0, G_1_0, V_2, c_hasPerson h1, ca, V_0, c_bad]
    · have h1' : SR 1 73 iv' V := h1.rows (fun k _ _ => e k (by omega)) (fun i _ => by rw [e 73 (by decide)])
      by_cases ca : 0 ≤ a ∧ a ≤ nI (V 0) - 1
      · have cb : ¬ (0 ≤ b ∧ b ≤ 146096) := fun h => c ⟨ca, h⟩
        simp [f_X11_age, V_72, m_isPerson h1', inDay, ca, cb, m_bad]
      · simp [f_X11_age, V_72, m_isPerson h1', ca, m_bad]
