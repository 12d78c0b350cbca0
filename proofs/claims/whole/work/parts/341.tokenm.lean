/-! TOKENS: the reference's -/
def wdI (W : Nat → Nat) (s : Nat) : Nat → Int64
  | 0 => 0
  | c + 1 => if c < 8 then 27 * wdI W s c + lN (W (77 + (s + c))) - 96 else -1
def nmI (W : Nat → Nat) (s : Nat) : Nat → Int64
  | 0 => 0
  | c + 1 => if c < 4 then 10 * nmI W s c + lN (W (77 + (s + c))) - 48 else 0
def kM (W : Nat → Nat) (q : Nat) : Nat := if tK W q = 2 ∧ 4 < tE W q - tS W q then 4 else tK W q
def woN (W : Nat → Nat) (q : Nat) : Int64 := if tK W q = 1 then wdI W (tS W q) (tE W q - tS W q) else if tK W q = 2 then nmI W (tS W q) (tE W q - tS W q) else 0
def MTk (W : Nat → Nat) (iv : Nat → Nat → Int32) (jv : Nat → Nat → Int64) (q : Nat) : Prop := iv 72 14 = nI (tS W q) ∧ iv 72 15 = nI (tE W q) ∧ iv 72 16 = nI (kM W q) ∧ jv 72 17 = woN W q
def MF (iv : Nat → Nat → Int32) (jv : Nat → Nat → Int64) (iv' : Nat → Nat → Int32) (jv' : Nat → Nat → Int64) : Prop := (∀ k, k ≠ 72 → iv' k = iv k) ∧ (∀ i, (i < 14 ∨ 16 < i) → iv' 72 i = iv 72 i) ∧ (∀ k, k ≠ 72 → jv' k = jv k) ∧ ∀ i, i ≠ 17 → jv' 72 i = jv 72 i
section TM
variable {W : Nat → Nat}
theorem MF.refl (iv : Nat → Nat → Int32) (jv : Nat → Nat → Int64) : MF iv jv iv jv := ⟨fun _ _ => rfl, fun _ _ => rfl, fun _ _ => rfl, fun _ _ => rfl⟩
theorem MF.trans {iv iv' iv'' : Nat → Nat → Int32} {jv jv' jv'' : Nat → Nat → Int64} (h : MF iv jv iv' jv') (g : MF iv' jv' iv'' jv'') : MF iv jv iv'' jv'' :=
  ⟨fun k a => by rw [g.1 k a, h.1 k a], fun i a => by rw [g.2.1 i a, h.2.1 i a], fun k a => by rw [g.2.2.1 k a, h.2.2.1 k a], fun i a => by rw [g.2.2.2 i a, h.2.2.2 i a]⟩
theorem MF.wi {iv : Nat → Nat → Int32} {jv : Nat → Nat → Int64} {j : Nat} (x : Int32) (h : 14 ≤ j ∧ j ≤ 16) : MF iv jv (up iv 72 j x) jv := ⟨fun k a => up_ne _ _ _ a, fun i a => up_in _ _ (by omega), fun _ _ => rfl, fun _ _ => rfl⟩
theorem MF.wj {iv : Nat → Nat → Int32} {jv : Nat → Nat → Int64} (x : Int64) : MF iv jv iv (up jv 72 17 x) := ⟨fun _ _ => rfl, fun _ _ => rfl, fun k a => up_ne _ _ _ a, fun i a => up_in _ _ a⟩
theorem MF.sb {iv iv' : Nat → Nat → Int32} {jv jv' : Nat → Nat → Int64} (h : MF iv jv iv' jv') (h2 : SB 1 73 iv W) : SB 1 73 iv' W := sb59 h2 (fun k hk => h.1 k (by omega))
def byN (W : Nat → Nat) (p : Nat) : Nat := if p < W 2 then W (77 + p) else 0
theorem by_lt {iv : Nat → Nat → Int32} (h2 : SB 1 73 iv W) (p : Nat) : byN W p < 256 := by
  unfold byN
  by_cases c : p < W 2
  · rw [if_pos c]; have := h2.1.2.1 p c; omega
  · rw [if_neg c]; omega
theorem m_byte {iv : Nat → Nat → Int32} {jv : Nat → Nat → Int64} (h2 : SB 1 73 iv W) {p : Nat} (hp : p < 1000) : f_X11_byteAt 72 (nI p) (hpOf iv jv) = some (nI (byN W p)) := by
  have k2 := h2.1.1
  have z2 : aI (hpOf iv jv) 73 0 2 = some (iv 73 2) := a_73 iv jv (i := 2) (by decide)
  unfold f_X11_byteAt byN
  rw [G_72_0, Option.bind_some, z2, Option.bind_some, h2.2.2.1, iteE (by omega) (by omega)]
  by_cases c : p < W 2
  · rw [if_neg (by omega), if_pos c, Option.bind_some, show (77 : Int32) = nI 77 by decide, nI_add, a_73 iv jv (by omega), Option.bind_some, h2.2.2.2.1 p c]
  · rw [if_pos (by omega), if_neg c]; rfl
theorem in_l {iv : Nat → Nat → Int32} (h2 : SB 1 73 iv W) (p : Nat) {α : Type} {x y : α} : (if f_X11_in (Int32.toInt64 (nI (byN W p))) 97 122 = 0 then x else y) = if kbN (byN W p) = 1 then y else x := by
  rw [kb_l _ (by_lt h2 p)]
  by_cases c : kbN (byN W p) = 1
  · rw [if_pos c, if_pos c, if_neg (by decide)]
  · rw [if_neg c, if_neg c, if_pos rfl]
theorem in_d {iv : Nat → Nat → Int32} (h2 : SB 1 73 iv W) (p : Nat) {α : Type} {x y : α} : (if f_X11_in (Int32.toInt64 (nI (byN W p))) 48 57 = 0 then x else y) = if kbN (byN W p) = 2 then y else x := by
  rw [kb_d _ (by_lt h2 p)]
  by_cases c : kbN (byN W p) = 2
  · rw [if_pos c, if_pos c, if_neg (by decide)]
  · rw [if_neg c, if_neg c, if_pos rfl]
theorem by_end {p : Nat} (h : ¬ p < W 2) : kbN (byN W p) = 4 := by
  unfold byN
  rw [if_neg h]; decide
theorem by_in {p : Nat} (h : p < W 2) : byN W p = W (77 + p) := if_pos h
theorem m_tkW {s : Nat} : ∀ (n N p : Nat) (iv : Nat → Nat → Int32) (jv : Nat → Nat → Int64), p + n = W 2 → SB 1 73 iv W → iv 72 14 = nI s → iv 72 15 = nI p → s ≤ p → jv 72 17 = wdI W s (p - s) → f_X11_nextToken_L107 (N + n + 1) 72 (hpOf iv jv) = some (hpOf (up iv 72 15 (nI (rnN W 1 n p))) (up jv 72 17 (wdI W s (rnN W 1 n p - s)))) := by
  intro n
  induction n with
  | zero =>
    intro N p iv jv e h2 h14 h15 hs h17
    have k2 := h2.1.1
    rw [f_X11_nextToken_L107, G_72_15, Option.bind_some, h15, V_72, m_byte h2 (by omega), Option.bind_some, in_l h2, if_neg (by rw [by_end (by omega)]; decide), rnN, up_same h15, up_same h17]
  | succ n ih =>
    intro N p iv jv e h2 h14 h15 hs h17
    have k2 := h2.1.1
    have bl := h2.1.2.1 p (by omega)
    rw [show N + (n + 1) + 1 = (N + n + 1) + 1 by omega, f_X11_nextToken_L107, G_72_15, Option.bind_some, h15, V_72, m_byte h2 (by omega), Option.bind_some, in_l h2, by_in (show p < W 2 by omega), rnN]
    by_cases c : kbN (W (77 + p)) = 1
    · rw [if_pos c, if_pos c, Option.bind_some, G_72_14, Option.bind_some, h14, pk_sub hs, show (8 : Int32) = nI 8 by decide, iteE (by decide) (by omega)]
      have st : ∀ v, v = wdI W s (p + 1 - s) → f_X11_nextToken_L107 (N + n + 1) 72 (hpOf (up iv 72 15 (nI (p + 1))) (up jv 72 17 v)) = some (hpOf (up iv 72 15 (nI (rnN W 1 n (p + 1)))) (up jv 72 17 (wdI W s (rnN W 1 n (p + 1) - s)))) := by
        intro v hv
        rw [ih N (p + 1) (up iv 72 15 (nI (p + 1))) (up jv 72 17 v) (by omega) (sb59 h2 (fun k hk => up_ne _ _ _ (by omega))) (by rw [up_in _ _ (by decide)]; exact h14) (up_at _ _ _ _) (by omega) (by rw [up_at]; exact hv), up_up, up_up]
      by_cases d : 8 ≤ p - s
      · rw [if_pos d, S_72_17, Option.bind_some, G_72_15, Option.bind_some, h15, S_72_15, Option.bind_some, nI_1]
        exact st _ (by rw [show p + 1 - s = (p - s) + 1 by omega, wdI, if_neg (by omega)])
      · rw [if_neg d, G_72_17, Option.bind_some, h17, Option.bind_some, V_72, m_byte h2 (by omega), Option.bind_some, by_in (show p < W 2 by omega), nI_l (by omega), S_72_17, Option.bind_some, G_72_15, Option.bind_some, h15, S_72_15, Option.bind_some, nI_1]
        exact st _ (by rw [show p + 1 - s = (p - s) + 1 by omega, wdI, if_pos (by omega), show s + (p - s) = p by omega])
    · rw [if_neg c, if_neg c, up_same h15, up_same h17]
theorem m_tkD {s : Nat} : ∀ (n N p : Nat) (iv : Nat → Nat → Int32) (jv : Nat → Nat → Int64), p + n = W 2 → SB 1 73 iv W → iv 72 14 = nI s → iv 72 15 = nI p → s ≤ p → jv 72 17 = nmI W s (p - s) → f_X11_nextToken_L213 (N + n + 1) 72 (hpOf iv jv) = some (hpOf (up (up iv 72 15 (nI (rnN W 2 n p))) 72 16 (nI (if rnN W 2 n p - s ≤ 4 then 2 else 4))) (up jv 72 17 (nmI W s (rnN W 2 n p - s)))) := by
  have stop : ∀ (N p : Nat) (iv : Nat → Nat → Int32) (jv : Nat → Nat → Int64), p ≤ W 2 → SB 1 73 iv W → iv 72 14 = nI s → iv 72 15 = nI p → s ≤ p → jv 72 17 = nmI W s (p - s) → ¬ kbN (byN W p) = 2 → f_X11_nextToken_L213 (N + 1) 72 (hpOf iv jv) = some (hpOf (up (up iv 72 15 (nI p)) 72 16 (nI (if p - s ≤ 4 then 2 else 4))) (up jv 72 17 (nmI W s (p - s)))) := by
    intro N p iv jv e h2 h14 h15 hs h17 hn
    have k2 := h2.1.1
    rw [f_X11_nextToken_L213, G_72_15, Option.bind_some, h15, V_72, m_byte h2 (by omega), Option.bind_some, in_d h2, if_neg hn, Option.bind_some, G_72_14, Option.bind_some, h14, pk_sub hs, show (4 : Int32) = nI 4 by decide, iteE (by omega) (by decide), S_72_16, Option.bind_some, S_72_16, Option.bind_some, up_same h15, up_same h17]
    by_cases c : p - s ≤ 4
    · rw [if_pos c, if_pos c]; rfl
    · rw [if_neg c, if_neg c]
  intro n
  induction n with
  | zero =>
    intro N p iv jv e h2 h14 h15 hs h17
    exact stop N p iv jv (by omega) h2 h14 h15 hs h17 (by rw [by_end (by omega)]; decide)
  | succ n ih =>
    intro N p iv jv e h2 h14 h15 hs h17
    have k2 := h2.1.1
    have bl := h2.1.2.1 p (by omega)
    rw [rnN]
    by_cases c : kbN (W (77 + p)) = 2
    · rw [if_pos c]
      have st : ∀ v, v = nmI W s (p + 1 - s) → f_X11_nextToken_L213 (N + n + 1) 72 (hpOf (up iv 72 15 (nI (p + 1))) (up jv 72 17 v)) = some (hpOf (up (up iv 72 15 (nI (rnN W 2 n (p + 1)))) 72 16 (nI (if rnN W 2 n (p + 1) - s ≤ 4 then 2 else 4))) (up jv 72 17 (nmI W s (rnN W 2 n (p + 1) - s)))) := by
        intro v hv
        rw [ih N (p + 1) (up iv 72 15 (nI (p + 1))) (up jv 72 17 v) (by omega) (sb59 h2 (fun k hk => up_ne _ _ _ (by omega))) (by rw [up_in _ _ (by decide)]; exact h14) (up_at _ _ _ _) (by omega) (by rw [up_at]; exact hv), up_up, up_up]
      rw [show N + (n + 1) + 1 = (N + n + 1) + 1 by omega, f_X11_nextToken_L213, G_72_15, Option.bind_some, h15, V_72, m_byte h2 (by omega), Option.bind_some, in_d h2, by_in (show p < W 2 by omega), if_pos c, Option.bind_some, G_72_14, Option.bind_some, h14, pk_sub hs, show (if (4 : Int32) ≤ nI (p - s) then _ else _) = _ from by rw [show (4 : Int32) = nI 4 by decide, iteE (by decide) (by omega)]]
      by_cases d : 4 ≤ p - s
      · rw [if_pos d, S_72_17, Option.bind_some, G_72_15, Option.bind_some, h15, S_72_15, Option.bind_some, nI_1]
        exact st _ (by rw [show p + 1 - s = (p - s) + 1 by omega, nmI, if_neg (by omega)])
      · rw [if_neg d, G_72_17, Option.bind_some, h17, Option.bind_some, V_72, m_byte h2 (by omega), Option.bind_some, by_in (show p < W 2 by omega), nI_l (by omega), S_72_17, Option.bind_some, G_72_15, Option.bind_some, h15, S_72_15, Option.bind_some, nI_1]
        exact st _ (by rw [show p + 1 - s = (p - s) + 1 by omega, nmI, if_pos (by omega), show s + (p - s) = p by omega])
    · rw [if_neg c]
      have := stop (N + n + 1) p iv jv (by omega) h2 h14 h15 hs h17 (by rw [by_in (show p < W 2 by omega)]; exact c)
      rw [show N + (n + 1) + 1 = (N + n + 1) + 1 by omega]
      exact this
theorem m_tkK {i1 : Nat → Nat → Int32} {j1 : Nat → Nat → Int64} (s1 : SB 1 73 i1 W) {s : Nat} (hs : s ≤ W 2) (v14 : i1 72 14 = nI s) (v15 : i1 72 15 = nI s) : ((gI (hpOf i1 j1) 72 10 14).bind fun x9 => (gR (hpOf i1 j1) 72 10 0).bind fun x10 => (aI (hpOf i1 j1) x10 0 2).bind fun x11 => (if x9 < x11 then (gI (hpOf i1 j1) 72 10 14).bind fun x12 => (vC (hpOf i1 j1) 72 10 (f_X11_byteAt 72 x12 (hpOf i1 j1))).bind fun q13 => (if (f_X11_in (Int32.toInt64 q13) 97 122) = 0 then (gI (hpOf i1 j1) 72 10 14).bind fun x15 => (vC (hpOf i1 j1) 72 10 (f_X11_byteAt 72 x15 (hpOf i1 j1))).bind fun q16 => (if (f_X11_in (Int32.toInt64 q16) 48 57) = 0 then (gI (hpOf i1 j1) 72 10 14).bind fun x18 => (vC (hpOf i1 j1) 72 10 (f_X11_byteAt 72 x18 (hpOf i1 j1))).bind fun q19 => (if q19 = 59 then (pI (hpOf i1 j1) 72 10 16 3).bind fun hp23 => (gI hp23 72 10 15).bind fun x24 => (pI hp23 72 10 15 (x24 + 1)).bind fun hp25 => some hp25 else (pI (hpOf i1 j1) 72 10 16 4).bind fun hp20 => (gI hp20 72 10 15).bind fun x21 => (pI hp20 72 10 15 (x21 + 1)).bind fun hp22 => some hp22) else (pI (hpOf i1 j1) 72 10 16 2).bind fun hp26 => (f_X11_nextToken_L213 NN 72 hp26)) else (pI (hpOf i1 j1) 72 10 16 1).bind fun hp45 => (f_X11_nextToken_L107 NN 72 hp45)) else (pI (hpOf i1 j1) 72 10 16 0).bind fun hp60 => some hp60)) = (if s < W 2 then (if kbN (byN W s) = 1 then f_X11_nextToken_L107 NN 72 (hpOf (up i1 72 16 1) j1) else if kbN (byN W s) = 2 then f_X11_nextToken_L213 NN 72 (hpOf (up i1 72 16 2) j1) else if byN W s = 59 then some (hpOf (up (up i1 72 16 3) 72 15 (nI (s + 1))) j1) else some (hpOf (up (up i1 72 16 4) 72 15 (nI (s + 1))) j1)) else some (hpOf (up i1 72 16 0) j1)) := by
  have k2 := s1.1.1
  have z2 : aI (hpOf i1 j1) 73 0 2 = some (i1 73 2) := a_73 i1 j1 (i := 2) (by decide)
  have hb := m_byte (jv := j1) s1 (p := s) (by omega)
  have bl := by_lt s1 s
  have u15 : ∀ x, (up i1 72 16 x) 72 15 = nI s := fun x => by rw [up_in _ _ (by decide)]; exact v15
  simp only [G_72_14, G_72_0, z2, Option.bind_some, v14, V_72, hb, s1.2.2.1, S_72_16, G_72_15, u15, S_72_15, nI_1]
  rw [iteL (by omega) (by omega), in_l s1, in_d s1, show (59 : Int32) = nI 59 by decide, iteQ (by omega) (by decide)]
theorem m_tkJ {iv : Nat → Nat → Int32} {jv : Nat → Nat → Int64} (h2 : SB 1 73 iv W) {q : Nat} (hq : q ≤ W 2) (h14 : iv 72 14 = nI (tS W q)) : ∃ iv' jv', f_X11_nextToken_J47 72 (hpOf iv jv) = some (hpOf iv' jv') ∧ MF iv jv iv' jv' ∧ MTk W iv' jv' q := by
  have k2 := h2.1.1
  obtain ⟨b1, b2⟩ := tS_b hq
  have f1 : MF iv jv (up iv 72 15 (nI (tS W q))) (up jv 72 17 0) := (MF.wi (nI (tS W q)) (by decide)).trans (MF.wj 0)
  have v14 : (up iv 72 15 (nI (tS W q))) 72 14 = nI (tS W q) := by rw [up_in _ _ (by decide)]; exact h14
  have v15 : (up iv 72 15 (nI (tS W q))) 72 15 = nI (tS W q) := up_at _ _ _ _
  have v17 : (up jv 72 17 0) 72 17 = 0 := up_at _ _ _ _
  have st := m_tkK (j1 := up jv 72 17 0) (f1.sb h2) b2 v14 v15
  unfold f_X11_nextToken_J47
  rw [G_72_14, Option.bind_some, h14, S_72_15, Option.bind_some, S_72_17, Option.bind_some, st]
  clear st
  have s1 := f1.sb h2
  generalize up iv 72 15 (nI (tS W q)) = i1 at *
  generalize up jv 72 17 0 = j1 at *
  have fin : ∀ (x k : Nat) (w : Int64), x = tE W q → k = kM W q → w = woN W q → ∀ i2 j2, i2 = up (up i1 72 15 (nI x)) 72 16 (nI k) → j2 = up j1 72 17 w → ∃ iv' jv', some (hpOf i2 j2) = some (hpOf iv' jv') ∧ MF iv jv iv' jv' ∧ MTk W iv' jv' q := by
    intro x k w hx hk hw i2 j2 e1 e2
    subst hx hk hw e1 e2
    refine ⟨_, _, rfl, f1.trans (((MF.wi _ (by decide)).trans (MF.wi _ (by decide))).trans (MF.wj _)), ?_, ?_, up_at _ _ _ _, up_at _ _ _ _⟩
    · rw [up_in _ _ (by decide), up_in _ _ (by decide)]; exact v14
    · rw [up_in _ _ (by decide), up_at]
  have sw : ∀ (x y : Int32), up (up i1 72 16 y) 72 15 x = up (up i1 72 15 x) 72 16 y := by
    intro x y
    funext a b
    unfold up
    by_cases c : a = 72
    · subst c
      simp only [if_true]
      by_cases d : b = 15
      · subst d; rfl
      · by_cases g : b = 16
        · subst g; rfl
        · rw [if_neg d, if_neg g, if_neg g, if_neg d]
    · rw [if_neg c, if_neg c, if_neg c, if_neg c]
  by_cases c0 : tS W q < W 2
  · have tk : tK W q = kbN (W (77 + tS W q)) := by unfold tK; rw [if_pos c0]
    have kl := kb_le (W (77 + tS W q))
    rw [if_pos c0, by_in c0, ← tk]
    by_cases c1 : tK W q = 1
    · have r := m_tkW (s := tS W q) (W 2 - tS W q) (199999 - (W 2 - tS W q)) (tS W q) (up i1 72 16 1) j1 (by omega) (sb59 s1 (fun k hk => up_ne _ _ _ (by omega))) (by rw [up_in _ _ (by decide)]; exact v14) (by rw [up_in _ _ (by decide)]; exact v15) (Nat.le_refl _) (by rw [v17, Nat.sub_self]; rfl)
      rw [← NNj (by omega)] at r
      have ee : rnN W 1 (W 2 - tS W q) (tS W q) = tE W q := by
        unfold tE
        rw [if_neg (by omega), if_pos (Or.inl c1), c1]
      rw [if_pos c1, r, ee, sw]
      exact fin (tE W q) 1 _ rfl (by unfold kM; rw [if_neg (by omega), c1]) (by unfold woN; rw [if_pos c1]) _ _ rfl rfl
    · rw [if_neg c1]
      by_cases c2 : tK W q = 2
      · have r := m_tkD (s := tS W q) (W 2 - tS W q) (199999 - (W 2 - tS W q)) (tS W q) (up i1 72 16 2) j1 (by omega) (sb59 s1 (fun k hk => up_ne _ _ _ (by omega))) (by rw [up_in _ _ (by decide)]; exact v14) (by rw [up_in _ _ (by decide)]; exact v15) (Nat.le_refl _) (by rw [v17, Nat.sub_self]; rfl)
        rw [← NNj (by omega)] at r
        have ee : rnN W 2 (W 2 - tS W q) (tS W q) = tE W q := by
          unfold tE
          rw [if_neg (by omega), if_pos (Or.inr c2), c2]
        rw [if_pos c2, r, ee, sw, up_up]
        refine fin (tE W q) _ _ rfl ?_ (by unfold woN; rw [if_neg c1, if_pos c2]) _ _ rfl rfl
        unfold kM
        by_cases d : tE W q - tS W q ≤ 4
        · rw [if_pos d, if_neg (by omega), c2]
        · rw [if_neg d, if_pos (by omega)]
      · rw [if_neg c2]
        have ee : tS W q + 1 = tE W q := by
          unfold tE
          rw [if_neg (by omega), if_neg (by omega)]
        have ww : (0 : Int64) = woN W q := by unfold woN; rw [if_neg c1, if_neg c2]
        have kk : tK W q = kM W q := by unfold kM; rw [if_neg (by omega)]
        have t3 : W (77 + tS W q) = 59 ↔ tK W q = 3 := by
          rw [tk] at c1 c2 ⊢
          unfold kbN at c1 c2 ⊢
          split
          · rename_i h; rw [if_pos h] at c1; exact absurd rfl c1
          · rename_i h
            rw [if_neg h] at c2
            split
            · rename_i g; rw [if_pos g] at c2; exact absurd rfl c2
            · split
              · rename_i g; exact ⟨fun _ => rfl, fun _ => g⟩
              · rename_i g; exact ⟨fun x => absurd x g, fun x => by omega⟩
        by_cases c3 : W (77 + tS W q) = 59
        · rw [if_pos c3, sw]
          exact fin _ 3 0 ee (by rw [← kk]; exact (t3.mp c3).symm) ww _ _ rfl (up_same v17).symm
        · rw [if_neg c3, sw]
          have : tK W q ≠ 3 := fun h => c3 (t3.mpr h)
          exact fin _ 4 0 ee (by rw [← kk]; omega) ww _ _ rfl (up_same v17).symm
  · have tk : tK W q = 0 := by unfold tK; rw [if_neg c0]
    rw [if_neg c0]
    refine fin (tS W q) 0 0 (by unfold tE; rw [if_pos tk]) (by unfold kM; rw [if_neg (by omega), tk]) (by unfold woN; rw [if_neg (by omega), if_neg (by omega)]) _ _ ?_ (up_same v17).symm
    rw [up_same v15]; rfl
theorem m_tkS {iv0 : Nat → Nat → Int32} {jv : Nat → Nat → Int64} : ∀ (n N p : Nat) (iv : Nat → Nat → Int32), p + n = W 2 → SB 1 73 iv W → iv 72 14 = nI p → f_X11_nextToken_L8 (N + n + 1) 72 (hpOf iv jv) = f_X11_nextToken_J47 72 (hpOf (up iv 72 14 (nI (bkN W n p))) jv) := by
  intro n
  induction n with
  | zero =>
    intro N p iv e h2 h14
    have k2 := h2.1.1
    have z2 : aI (hpOf iv jv) 73 0 2 = some (iv 73 2) := a_73 iv jv (i := 2) (by decide)
    rw [f_X11_nextToken_L8, G_72_14, Option.bind_some, h14, G_72_0, Option.bind_some, z2, Option.bind_some, h2.2.2.1, iteE (by omega) (by omega), if_pos (by omega), bkN, up_same h14]
  | succ n ih =>
    intro N p iv e h2 h14
    have k2 := h2.1.1
    have bl := h2.1.2.1 p (by omega)
    have z2 : aI (hpOf iv jv) 73 0 2 = some (iv 73 2) := a_73 iv jv (i := 2) (by decide)
    rw [show N + (n + 1) + 1 = (N + n + 1) + 1 by omega, f_X11_nextToken_L8, G_72_14, Option.bind_some, h14, G_72_0, Option.bind_some, z2, Option.bind_some, h2.2.2.1, iteE (by omega) (by omega), if_neg (by omega), Option.bind_some, V_72, m_byte h2 (by omega), Option.bind_some, by_in (show p < W 2 by omega), show (32 : Int32) = nI 32 by decide, iteQ (by omega) (by decide), Option.bind_some, S_72_14, Option.bind_some, nI_1, bkN]
    by_cases c : W (77 + p) = 32
    · rw [if_pos c, if_pos c, ih N (p + 1) (up iv 72 14 (nI (p + 1))) (by omega) (sb59 h2 (fun k hk => up_ne _ _ _ (by omega))) (up_at _ _ _ _), up_up]
    · rw [if_neg c, if_neg c, up_same h14]
theorem m_token {iv : Nat → Nat → Int32} {jv : Nat → Nat → Int64} (h2 : SB 1 73 iv W) {q : Nat} (hq : q ≤ W 2) (h15 : iv 72 15 = nI q) : ∃ iv' jv', f_X11_nextToken 72 (hpOf iv jv) = some (hpOf iv' jv') ∧ MF iv jv iv' jv' ∧ MTk W iv' jv' q := by
  have k2 := h2.1.1
  have f0 : MF iv jv (up iv 72 14 (nI q)) jv := MF.wi _ (by decide)
  have r := m_tkS (iv0 := iv) (jv := jv) (W 2 - q) (199999 - (W 2 - q)) q (up iv 72 14 (nI q)) (by omega) (f0.sb h2) (up_at _ _ _ _)
  rw [← NNj (by omega), up_up] at r
  have f1 : MF iv jv (up iv 72 14 (nI (tS W q))) jv := MF.wi _ (by decide)
  obtain ⟨iv', jv', g1, g2, g3⟩ := m_tkJ (jv := jv) (f1.sb h2) hq (up_at _ _ _ _)
  refine ⟨iv', jv', ?_, f1.trans g2, g3⟩
  unfold f_X11_nextToken
  rw [G_72_15, Option.bind_some, h15, S_72_14, Option.bind_some]
  exact r.trans g1
theorem nm_nv {s : Nat} : ∀ c, (∀ i, i < c → kbN (W (77 + (s + i))) = 2) → c ≤ 4 → nmI W s c = lN (nvN W s c) := by
  intro c
  induction c with
  | zero => intro _ _; rfl
  | succ c ih =>
    intro h hc
    obtain ⟨h2, h3⟩ := kb2 (h c (by omega))
    rw [nmI, nvN, if_pos (by omega), ih (fun i hi => h i (by omega)) (by omega), show (10 : Int64) = lN 10 from rfl, show (48 : Int64) = lN 48 from rfl, lN_mul, lN_add, lN_sub (by omega)]
theorem m_num {iv : Nat → Nat → Int32} {jv : Nat → Nat → Int64} (h2 : SB 1 73 iv W) {q : Nat} (hq : q ≤ W 2) (h15 : iv 72 15 = nI q) (lo hi : Int32) : ∃ iv' jv' x, f_X11_isNumber 72 lo hi (hpOf iv jv) = some (x, hpOf iv' jv') ∧ MF iv jv iv' jv' ∧ MTk W iv' jv' q ∧ ((numB W q lo hi ∧ x = 1 ∧ jv' 72 17 = lN (vl W q)) ∨ (¬ numB W q lo hi ∧ x = 0)) := by
  obtain ⟨i1, j1, e1, e2, e3⟩ := m_token (jv := jv) h2 hq h15
  obtain ⟨t1, t2, t3, t4⟩ := id e3
  have kl : kM W q ≤ 4 := by
    have := tK_le W q
    unfold kM
    split <;> omega
  unfold f_X11_isNumber
  rw [V_72, e1, Option.bind_some, G_72_16, Option.bind_some, t3, show (2 : Int32) = nI 2 by decide, iteQ (by omega) (by decide), G_72_17, Option.bind_some]
  by_cases c : tK W q = 2 ∧ tE W q - tS W q ≤ 4
  · have vv : j1 72 17 = lN (vl W q) := by
      rw [t4]
      unfold woN vl
      rw [if_neg (by omega), if_pos c.1, nm_nv _ (fun i hi => by rw [tE_in (Or.inr c.1) (by omega) (by omega)]; exact c.1) c.2]
    have vlt := vl_lt c.1 c.2
    have k2 : kM W q = 2 := by
      unfold kM
      rw [if_neg (by omega)]; exact c.1
    rw [if_pos k2, vv, ← nI_l (by omega), f_in (nI (vl W q)) lo hi rfl rfl]
    by_cases d : lo ≤ nI (vl W q) ∧ nI (vl W q) ≤ hi
    · rw [if_pos d, if_neg (by decide)]
      exact ⟨i1, j1, 1, rfl, e2, e3, Or.inl ⟨⟨c, d⟩, rfl, by rw [vv, nI_l (by omega)]⟩⟩
    · rw [if_neg d, if_pos rfl]
      exact ⟨i1, j1, 0, rfl, e2, e3, Or.inr ⟨fun h => d h.2, rfl⟩⟩
  · have k2 : ¬ kM W q = 2 := by
      unfold kM
      split
      · omega
      · omega
    rw [if_neg k2]
    exact ⟨i1, j1, 0, rfl, e2, e3, Or.inr ⟨fun h => c h.1, rfl⟩⟩
end TM
