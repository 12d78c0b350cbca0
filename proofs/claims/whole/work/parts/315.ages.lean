/-! SCRATCH rows, who is there, AGES -/
def Scr (iv : Nat → Nat → Int32) (jv : Nat → Nat → Int64) (iv' : Nat → Nat → Int32) (jv' : Nat → Nat → Int64) : Prop := (∀ k, (k ≤ 50 ∨ (73 ≤ k ∧ k ≤ 76)) → iv' k = iv k) ∧ iv' 72 3 = iv 72 3 ∧ iv' 72 4 = iv 72 4 ∧ jv' 72 5 = jv 72 5 ∧ jv' 72 6 = jv 72 6
section SCR
variable {iv iv' iv'' : Nat → Nat → Int32} {jv jv' jv'' : Nat → Nat → Int64} {V W Y : Nat → Nat}
theorem Scr.refl : Scr iv jv iv jv := ⟨fun _ _ => rfl, rfl, rfl, rfl, rfl⟩
theorem Scr.trans (h : Scr iv jv iv' jv') (g : Scr iv' jv' iv'' jv'') : Scr iv jv iv'' jv'' :=
  ⟨fun k hk => (g.1 k hk).trans (h.1 k hk), g.2.1.trans h.2.1, g.2.2.1.trans h.2.2.1, g.2.2.2.1.trans h.2.2.2.1, g.2.2.2.2.trans h.2.2.2.2⟩
theorem Scr.sr (s : Scr iv jv iv' jv') (h : SR 1 73 iv V) : SR 1 73 iv' V := h.rows (fun k _ _ => s.1 k (by omega)) (fun i _ => by rw [s.1 73 (by omega)])
theorem Scr.sb (s : Scr iv jv iv' jv') (h : SB 1 73 iv W) : SB 1 73 iv' W := h.rows (fun k _ _ => s.1 k (by omega)) (fun i _ => by rw [s.1 73 (by omega)])
theorem Scr.sp (s : Scr iv jv iv' jv') (h : SP 1 73 iv Y) : SP 1 73 iv' Y := h.rows (fun k _ _ => s.1 k (by omega)) (fun i _ => by rw [s.1 73 (by omega)])
theorem Scr.rst (s : Scr iv jv iv' jv') (h : Rst iv jv) : Rst iv' jv' := h.rows (fun k _ => s.1 k (by omega)) s.2.1 s.2.2.1 s.2.2.2.1 s.2.2.2.2
theorem Scr.inv (s : Scr iv jv iv' jv') (h1 : SR 1 73 iv V) (h2 : SB 1 73 iv W) (h3 : SP 1 73 iv Y) (h4 : Rst iv jv) : InvH (hpOf iv' jv') := ⟨iv', jv', V, W, Y, rfl, s.sr h1, s.sb h2, s.sp h3, s.rst h4⟩
theorem scr_row (k : Nat) (h : 50 < k ∧ k < 72 ∨ 76 < k) (e : ∀ a, a ≠ k → iv' a = iv a) : Scr iv jv iv' jv :=
  ⟨fun a ha => e a (by omega), by rw [e 72 (by omega)], by rw [e 72 (by omega)], rfl, rfl⟩
theorem scr_up (k j : Nat) (x : Int32) (h : 50 < k ∧ k < 72 ∨ 76 < k) : Scr iv jv (up iv k j x) jv := scr_row k h (fun a ha => up_ne _ _ _ ha)
theorem scr_72 (j : Nat) (x : Int32) (h : 5 ≤ j) : Scr iv jv (up iv 72 j x) jv :=
  ⟨fun a ha => up_ne _ _ _ (by omega), up_in _ _ (by omega), up_in _ _ (by omega), rfl, rfl⟩
end SCR
theorem zR1 : zR 1 = some 1 := rfl
theorem zR0 : zR 0 = some 0 := rfl
theorem zRi {p : Prop} [Decidable p] : zR (if p then 1 else 0) = some (if p then 1 else 0) := by split <;> rfl
section THERE
variable {iv : Nat → Nat → Int32} {jv : Nat → Nat → Int64} {V : Nat → Nat}
theorem c_hasPerson (h : SR 1 73 iv V) (a : Int32) : f_X7_hasPerson 2 a (hpOf iv jv) = some (if 0 ≤ a ∧ a ≤ nI (V 0) - 1 then 1 else 0) := by
  have e : iv 2 0 = nI (V 0) := h.2.1.1.1
  have k := h.1.1
  unfold f_X7_hasPerson
  rw [G_2_0, Option.bind_some, e]
  by_cases c : 0 ≤ a ∧ a ≤ nI (V 0) - 1
  · rw [if_pos c]
    obtain ⟨p, hp, rfl⟩ := (hasP k).mp c
    rw [if_neg (nI_pos (by omega)), iteE (by omega) (by omega), if_neg (by omega)]
  · rw [if_neg c]
    by_cases g : a < 0
    · rw [if_pos g]
    · rw [if_neg g]
      obtain ⟨j, hj, rfl⟩ := nI_of g
      rw [iteE (by omega) hj, if_pos (Nat.le_of_not_lt (fun q => c ((hasP k).mpr ⟨j, q, rfl⟩)))]
theorem c_hasGate (h : SR 1 73 iv V) (a : Int32) : f_X7_hasGate 2 a (hpOf iv jv) = some (if 0 ≤ a ∧ a ≤ nI (V 1) - 1 then 1 else 0) := by
  have e : iv 2 1 = nI (V 1) := h.2.1.1.2
  have k : V 1 ≤ 8 := by have := h.1.2.1; omega
  unfold f_X7_hasGate
  rw [G_2_1, Option.bind_some, e]
  by_cases c : 0 ≤ a ∧ a ≤ nI (V 1) - 1
  · rw [if_pos c]
    obtain ⟨p, hp, rfl⟩ := (hasP k).mp c
    rw [if_neg (nI_pos (by omega)), iteE (by omega) (by omega), if_neg (by omega)]
  · rw [if_neg c]
    by_cases g : a < 0
    · rw [if_pos g]
    · rw [if_neg g]
      obtain ⟨j, hj, rfl⟩ := nI_of g
      rw [iteE (by omega) hj, if_pos (Nat.le_of_not_lt (fun q => c ((hasP k).mpr ⟨j, q, rfl⟩)))]
theorem z73_0 : aI (hpOf iv jv) 73 0 0 = some (iv 73 0) := a_73 iv jv (i := 0) (by decide)
theorem z73_1 : aI (hpOf iv jv) 73 0 1 = some (iv 73 1) := a_73 iv jv (i := 1) (by decide)
theorem m_isPerson (h : SR 1 73 iv V) (a : Int32) : f_X11_isPerson 72 a (hpOf iv jv) = some (if 0 ≤ a ∧ a ≤ nI (V 0) - 1 then 1 else 0) := by
  have e : iv 73 0 = nI (V 0) := h.2.2.1
  unfold f_X11_isPerson
  rw [G_72_0, Option.bind_some, z73_0, Option.bind_some, e, in_n a h.1.1, zRi]
theorem m_isGate (h : SR 1 73 iv V) (a : Int32) : f_X11_isGate 72 a (hpOf iv jv) = some (if 0 ≤ a ∧ a ≤ nI (V 1) - 1 then 1 else 0) := by
  have e : iv 73 1 = nI (V 1) := h.2.2.2.1
  unfold f_X11_isGate
  rw [G_72_0, Option.bind_some, z73_1, Option.bind_some, e, in_n a (by have := h.1.2.1; omega), zRi]
/-- 2 ^ people - 1 as an Int32 -/
theorem all_n {n : Nat} (hn : n ≤ 8) : iL 1 (nI n) - 1 = nI (2 ^ n - 1) := by
  rw [iL_n (by omega), show (1 : Int32) = nI 1 by decide, pk_sub (Nat.one_le_two_pow)]
theorem c_every (h : SR 1 73 iv V) : f_X7_everyone 2 (hpOf iv jv) = some (nI (2 ^ V 0 - 1)) := by
  have e : iv 2 0 = nI (V 0) := h.2.1.1.1
  unfold f_X7_everyone
  rw [G_2_0, Option.bind_some, e, all_n h.1.1]
theorem c_hasSet (h : SR 1 73 iv V) (a : Int32) : f_X7_hasSet 2 a (hpOf iv jv) = some (if 0 ≤ a ∧ a ≤ nI (2 ^ V 0 - 1) then 1 else 0) := by
  unfold f_X7_hasSet
  rw [V_2, c_every h, Option.bind_some]
  by_cases g : a < 0
  · rw [if_pos g, if_neg (fun q => Int32.not_lt.mpr q.1 g)]
  · rw [if_neg g]
    by_cases g2 : nI (2 ^ V 0 - 1) < a
    · rw [if_pos g2, if_neg (fun q => Int32.not_lt.mpr q.2 g2)]
    · rw [if_neg g2, if_pos ⟨nlt g, nlt g2⟩]
theorem i1_of {a : Int32} (h : 0 ≤ a) (h0 : a ≠ 0) : 1 ≤ a := by
  obtain ⟨j, hj, rfl⟩ := nI_of (Int32.not_lt.mpr h)
  rw [show (1 : Int32) = nI 1 by decide, nI_leI (by omega) hj]
  rcases Nat.eq_zero_or_pos j with q | q
  · exact absurd (by rw [q]; rfl) h0
  · exact q
theorem c_hasCompany (h : SR 1 73 iv V) (a : Int32) : f_X7_hasCompany 2 a (hpOf iv jv) = some (if 1 ≤ a ∧ a ≤ nI (2 ^ V 0 - 1) then 1 else 0) := by
  unfold f_X7_hasCompany
  rw [V_2, c_hasSet h, Option.bind_some]
  by_cases g : a = 0
  · rw [if_pos g, if_neg (fun q => absurd q.1 (by rw [g]; decide))]
  · rw [if_neg g]
    by_cases c : 0 ≤ a ∧ a ≤ nI (2 ^ V 0 - 1)
    · rw [if_pos c, if_neg (by decide), if_pos ⟨i1_of c.1 g, c.2⟩]
    · rw [if_neg c, if_pos rfl, if_neg (fun q => c ⟨Int32.le_trans (by decide) q.1, q.2⟩)]
theorem m_isCompany (h : SR 1 73 iv V) (a : Int32) : f_X11_isCompany 72 a (hpOf iv jv) = some (if 1 ≤ a ∧ a ≤ nI (2 ^ V 0 - 1) then 1 else 0) := by
  have e : iv 73 0 = nI (V 0) := h.2.2.1
  unfold f_X11_isCompany
  rw [G_72_0, Option.bind_some, z73_0, Option.bind_some, e, all_n h.1.1, f_in a 1 _ (by decide) rfl, zRi]
theorem m_isSet (h : SR 1 73 iv V) (a : Int32) : f_X11_isSet 72 a (hpOf iv jv) = some (if 0 ≤ a ∧ a ≤ nI (2 ^ V 0 - 1) then 1 else 0) := by
  unfold f_X11_isSet
  rw [V_72, m_isCompany h, Option.bind_some]
  by_cases g : a = 0
  · rw [if_pos g, if_pos]
    subst g
    exact ⟨by decide, nI_pos' (by have := pow8' h.1.1; omega)⟩
  · rw [if_neg g]
    by_cases c : 0 ≤ a ∧ a ≤ nI (2 ^ V 0 - 1)
    · rw [if_pos c, if_pos (show 1 ≤ a ∧ a ≤ nI (2 ^ V 0 - 1) from ⟨i1_of c.1 g, c.2⟩), if_neg (by decide)]
    · rw [if_neg c, if_neg (show ¬ (1 ≤ a ∧ a ≤ nI (2 ^ V 0 - 1)) from fun q => c ⟨Int32.le_trans (by decide) q.1, q.2⟩), if_pos rfl]
theorem c_isPlace (h : SR 1 73 iv V) (a b : Int32) : f_X10_isPlace 0 a b (hpOf iv jv) = some (if (0 ≤ a ∧ a ≤ nI (V 1) - 1) ∧ 0 ≤ b ∧ b ≤ 146096 then 1 else 0) := by
  unfold f_X10_isPlace
  rw [G_0_0, Option.bind_some, G_1_0, Option.bind_some, V_2, c_hasGate h, Option.bind_some, isDayC]
  by_cases c : 0 ≤ a ∧ a ≤ nI (V 1) - 1
  · by_cases d : 0 ≤ b ∧ b ≤ 146096
    · simp [c, d]
    · simp [c, d]
  · simp [c]
theorem m_isLook (h : SR 1 73 iv V) (s a b : Int32) : f_X11_isLook 72 s a b (hpOf iv jv) = some (if (0 ≤ s ∧ s ≤ nI (2 ^ V 0 - 1)) ∧ (0 ≤ a ∧ a ≤ nI (V 1) - 1) ∧ 0 ≤ b ∧ b ≤ 146096 then 1 else 0) := by
  unfold f_X11_isLook
  rw [V_72, V_72, m_isSet h, m_isGate h, inDay, Option.bind_some, Option.bind_some, Option.bind_some]
  by_cases z : 0 ≤ s ∧ s ≤ nI (2 ^ V 0 - 1)
  · by_cases c : 0 ≤ a ∧ a ≤ nI (V 1) - 1
    · by_cases d : 0 ≤ b ∧ b ≤ 146096
      · simp [c, d, z]
      · simp [c, d, z]
    · simp [c, z]
  · simp [z]
end THERE
/-- the day of a year at which a place lies -/
def diN (y p : Nat) : Nat := fdN y + (if 59 < p ∧ lpN y = false then p - 1 else p)
theorem di_c {y p : Nat} (h : 1800 ≤ y) (h2 : y < 2203) (hp : p < 400) : f_X1_dayInYear (nI y) (nI p) = nI (diN y p) := by
  unfold f_X1_dayInYear diN
  rw [fdc h h2, lpc h h2, show (59 : Int32) = nI 59 by decide, iteE (by omega) (by omega), nI_add]
  by_cases c : p ≤ 59
  · rw [if_pos c, if_neg (by omega)]
  · rw [if_neg c]
    cases l : lpN y
    · rw [if_pos (show (if false = true then (1 : Int32) else 0) = 0 by decide), if_pos ⟨by omega, rfl⟩, show (1 : Int32) = nI 1 by decide, pk_sub (by omega), nI_add]
    · rw [if_neg (show ¬ (if true = true then (1 : Int32) else 0) = 0 by decide), if_neg (by simp)]
theorem pl_cases {d : Nat} : (lpN (yN d) = false ∧ 59 ≤ d - fdN (yN d) ∧ plN d = d - fdN (yN d) + 1) ∨ ((lpN (yN d) = true ∨ d - fdN (yN d) < 59) ∧ plN d = d - fdN (yN d)) := by
  unfold plN
  dsimp only
  by_cases c : 59 ≤ d - fdN (yN d) ∧ lpN (yN d) = false
  · exact Or.inl ⟨c.2, c.1, by rw [if_pos c]⟩
  · refine Or.inr ⟨?_, by rw [if_neg c]⟩
    by_cases l : lpN (yN d) = true
    · exact Or.inl l
    · exact Or.inr (Nat.lt_of_not_le (fun q => c ⟨q, by simpa using l⟩))
theorem di_cases (y p : Nat) : (lpN y = false ∧ 59 < p ∧ diN y p = fdN y + (p - 1)) ∨ ((lpN y = true ∨ p ≤ 59) ∧ diN y p = fdN y + p) := by
  unfold diN
  by_cases c : 59 < p ∧ lpN y = false
  · exact Or.inl ⟨c.2, c.1, by rw [if_pos c]⟩
  · refine Or.inr ⟨?_, by rw [if_neg c]⟩
    by_cases l : lpN y = true
    · exact Or.inl l
    · exact Or.inr (Nat.le_of_not_lt (fun q => c ⟨q, by simpa using l⟩))
theorem di_le {d p : Nat} (hd : d ≤ 146096) : diN (yN d) p ≤ d ↔ p ≤ plN d := by
  obtain ⟨a1, a2, a3, a4⟩ := yN_spec hd
  rcases pl_cases (d := d) with ⟨l, h1, e⟩ | ⟨l, e⟩ <;> rcases di_cases (yN d) p with ⟨l2, h2, e2⟩ | ⟨l2, e2⟩
  · omega
  · rw [l] at l2
    rcases l2 with l2 | l2
    · exact absurd l2 (by decide)
    · omega
  · rw [l2] at l
    rcases l with l | l
    · exact absurd l (by decide)
    · omega
  · omega
theorem yN_mono {b d : Nat} (h : b ≤ d) (hd : d ≤ 146096) : yN b ≤ yN d := by
  obtain ⟨a1, a2, a3, a4⟩ := yN_spec hd
  obtain ⟨b1, b2, b3, b4⟩ := yN_spec (d := b) (by omega)
  rcases Nat.lt_or_ge (yN d) (yN b) with g | g
  · have := fd_le (x := yN d + 1) (y := yN b) (by omega) (by omega) (by omega); omega
  · exact g
theorem pl_mono {b d : Nat} (h : b ≤ d) (e : yN b = yN d) : plN b ≤ plN d := by
  rcases pl_cases (d := d) with ⟨l, h1, e1⟩ | ⟨l, e1⟩ <;> rcases pl_cases (d := b) with ⟨l2, h2, e2⟩ | ⟨l2, e2⟩
  · rw [e] at *; omega
  · rw [e] at *; omega
  · rw [e] at *
    rw [l2] at l
    rcases l with l | l
    · exact absurd l (by decide)
    · omega
  · rw [e] at *; omega
/-- 0: not born; else one more than the years -/
def agN (b d : Nat) : Nat := if d < b then 0 else 1 + (yN d - yN b - (if plN d < plN b then 1 else 0))
theorem ag_ok {b d : Nat} (h : b ≤ d) (hd : d ≤ 146096) : (if plN d < plN b then 1 else 0) ≤ yN d - yN b ∧ yN b ≤ yN d ∧ yN d - yN b ≤ 399 := by
  have m := yN_mono h hd
  obtain ⟨a1, a2, a3, a4⟩ := yN_spec hd
  obtain ⟨b1, b2, b3, b4⟩ := yN_spec (d := b) (by omega)
  refine ⟨?_, m, by omega⟩
  by_cases c : plN d < plN b
  · rw [if_pos c]
    rcases Nat.lt_or_ge (yN b) (yN d) with g | g
    · omega
    · have := pl_mono h (by omega); omega
  · rw [if_neg c]; omega
theorem ag_le {b d : Nat} (hd : d ≤ 146096) : agN b d ≤ 400 := by
  unfold agN
  by_cases c : d < b
  · rw [if_pos c]; omega
  · rw [if_neg c]
    have := ag_ok (b := b) (d := d) (by omega) hd
    omega
theorem age_v {b d : Nat} (h : b ≤ d) (hd : d ≤ 146096) : nI (agN b d) - 1 = nI (yN d) - nI (yN b) - (if plN d < plN b then 1 else 0) := by
  obtain ⟨g1, g2, g3⟩ := ag_ok h hd
  unfold agN
  rw [if_neg (by omega), Nat.add_comm, nI_pred, pk_sub g2]
  by_cases c : plN d < plN b
  · rw [if_pos c] at g1 ⊢
    rw [if_pos c, show (1 : Int32) = nI 1 by decide, pk_sub g1]
  · rw [if_neg c, if_neg c, Nat.sub_zero, Int32.sub_zero]
theorem key_lt {p q : Nat} (h : p < q) (hq : q < 366) : 32 * moN p + daN p < 32 * moN q + daN q := by
  have : ∀ n, p + 1 + n < 366 → 32 * moN p + daN p < 32 * moN (p + 1 + n) + daN (p + 1 + n) := by
    intro n
    induction n with
    | zero => intro h; exact md_st p (by omega)
    | succ n ih =>
      intro h
      have h1 := ih (by omega)
      have h2 := md_st (p + 1 + n) (by omega)
      exact Nat.lt_trans h1 h2
  have g := this (q - p - 1) (by omega)
  rwa [show p + 1 + (q - p - 1) = q by omega] at g
theorem key_le {p q : Nat} (hp : p < 366) (hq : q < 366) : 32 * moN p + daN p ≤ 32 * moN q + daN q ↔ p ≤ q := by
  rcases Nat.lt_trichotomy p q with h | h | h
  · have := key_lt h hq; omega
  · subst h; omega
  · have := key_lt h hp; omega
