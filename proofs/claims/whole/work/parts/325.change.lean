/-! DAYS on which ages change; DATES, NEXT -/
/-- the first day behind d on which one born on b is born or a year older -/
def bbN (b d : Nat) : Nat := if d < b then b else if d < diN (yN d) (plN b) then diN (yN d) (plN b) else diN (yN d + 1) (plN b)
theorem di_end {y p : Nat} (h1 : 1800 ≤ y) (h2 : y < 2202) (hp : p ≤ 365) : diN y p < fdN (y + 1) := by
  have hs := fds h1 h2
  rcases di_cases y p with ⟨l, h, e⟩ | ⟨l, e⟩
  · rw [l] at hs; simp at hs; omega
  · rcases l with l | l
    · rw [l] at hs; simp at hs; omega
    · omega
theorem di_ge (y p : Nat) : fdN y ≤ diN y p := by unfold diN; omega
theorem bb_gt {b d : Nat} (hd : d ≤ 146096) : d < bbN b d := by
  unfold bbN
  obtain ⟨a1, a2, a3, a4⟩ := yN_spec hd
  split
  · omega
  · split
    · omega
    · have := di_ge (yN d + 1) (plN b); omega
theorem bb_lt {b d : Nat} (hb : b ≤ 146096) (hd : d ≤ 146096) : bbN b d < 200000 := by
  unfold bbN
  obtain ⟨a1, a2, a3, a4⟩ := yN_spec hd
  have pl := plN_le hb
  split
  · omega
  · split
    · have := di_end (y := yN d) (p := plN b) a1 (by omega) pl
      have := fdl (y := yN d + 1) (by omega) (by omega); omega
    · have := di_end (y := yN d + 1) (p := plN b) (by omega) (by omega) pl
      have := fdl (y := yN d + 1 + 1) (by omega) (by omega); omega
theorem bb_same {b d e : Nat} (hb : b ≤ 146096) (hd : d ≤ 146096) (he : e ≤ 146096) (h1 : d ≤ e) (h2 : e < bbN b d) : agN b e = agN b d := by
  obtain ⟨a1, a2, a3, a4⟩ := yN_spec hd
  have pl := plN_le hb
  unfold bbN at h2
  by_cases c1 : d < b
  · rw [if_pos c1] at h2
    unfold agN
    rw [if_pos c1, if_pos h2]
  · rw [if_neg c1] at h2
    unfold agN
    rw [if_neg c1, if_neg (by omega)]
    by_cases c2 : d < diN (yN d) (plN b)
    · rw [if_pos c2] at h2
      have ye : yN e = yN d := yN_uniq he a1 (by omega) (by omega) (by have := di_end (y := yN d) (p := plN b) a1 (by omega) pl; omega)
      have p1 : plN d < plN b := Nat.lt_of_not_le (fun q => by have := (di_le hd).mpr q; omega)
      have p2 : plN e < plN b := Nat.lt_of_not_le (fun q => by have := (di_le he).mpr q; rw [ye] at this; omega)
      rw [ye, if_pos p1, if_pos p2]
    · rw [if_neg c2] at h2
      have p1 : plN b ≤ plN d := (di_le hd).mp (by omega)
      rcases Nat.lt_or_ge e (fdN (yN d + 1)) with q | q
      · have ye : yN e = yN d := yN_uniq he a1 (by omega) (by omega) q
        have p2 : plN b ≤ plN e := (di_le he).mp (by rw [ye]; omega)
        rw [ye, if_neg (by omega), if_neg (by omega)]
      · have ye : yN e = yN d + 1 := yN_uniq he (by omega) (by omega) q (by have := di_end (y := yN d + 1) (p := plN b) (by omega) (by omega) pl; omega)
        have p2 : plN e < plN b := Nat.lt_of_not_le (fun z => by have := (di_le he).mpr z; rw [ye] at this; omega)
        have yb := yN_mono (b := b) (d := d) (by omega) hd
        rw [ye, if_pos p2, if_neg (by omega)]
        omega
def chF (V : Nat → Nat) (c d : Nat) : Nat → Nat → Nat → Nat
  | 0, _, a => a
  | j + 1, p, a => if c.testBit p then chF V c d j (p + 1) (min a (bbN (V (5 + p)) d)) else chF V c d j (p + 1) a
def chN (V : Nat → Nat) (c d : Nat) : Nat := chF V c d (V 0) 0 146097
theorem ch_le (V : Nat → Nat) (c d : Nat) : ∀ j p a, chF V c d j p a ≤ a := by
  intro j
  induction j with
  | zero => intro p a; exact Nat.le_refl _
  | succ j ih =>
    intro p a
    rw [chF]
    split
    · exact Nat.le_trans (ih _ _) (Nat.min_le_left _ _)
    · exact ih _ _
theorem ch_gt (V : Nat → Nat) (c : Nat) {d : Nat} (hd : d ≤ 146096) : ∀ j p a, d < a → d < chF V c d j p a := by
  intro j
  induction j with
  | zero => intro p a h; exact h
  | succ j ih =>
    intro p a h
    rw [chF]
    have := bb_gt (b := V (5 + p)) hd
    split
    · exact ih _ _ (by omega)
    · exact ih _ _ h
theorem ch_bb (V : Nat → Nat) (c d : Nat) : ∀ j p a q, p ≤ q → q < p + j → c.testBit q = true → chF V c d j p a ≤ bbN (V (5 + q)) d := by
  intro j
  induction j with
  | zero => intro p a q h1 h2; omega
  | succ j ih =>
    intro p a q h1 h2 hb
    rw [chF]
    by_cases e : q = p
    · subst e
      rw [if_pos hb]
      exact Nat.le_trans (ch_le V c d _ _ _) (Nat.min_le_right _ _)
    · split
      · exact ih _ _ q (by omega) (by omega) hb
      · exact ih _ _ q (by omega) (by omega) hb
theorem chN_gt (V : Nat → Nat) (c : Nat) {d : Nat} (hd : d ≤ 146096) : d < chN V c d ∧ chN V c d ≤ 146097 := ⟨ch_gt V c hd _ _ _ (by omega), ch_le V c d _ _ _⟩
theorem ch_same {V : Nat → Nat} {c d e : Nat} (hk : Vkr V) (hc : c < 2 ^ V 0) (hd : d ≤ 146096) (h1 : d ≤ e) (h2 : e < chN V c d) : ∀ p, c.testBit p = true → agV V e p = agV V d p := by
  intro p hp
  have pv := tb_lt hc hp
  have := ch_bb V c d (V 0) 0 146097 p (by omega) (by omega) hp
  have l := (chN_gt V c hd).2
  exact bb_same (hk.2.2.1 p pv).1 hd (by omega) h1 (Nat.lt_of_lt_of_le h2 this)
section CHANGE
variable {V : Nat → Nat}
theorem c_bb {iv : Nat → Nat → Int32} {jv : Nat → Nat → Int64} (h : SR 1 73 iv V) {p d : Nat} (hp : p < V 0) (hd : d ≤ 146096) : f_X7_birthdayBehind 2 (nI p) (nI d) (nI (yN d)) (hpOf iv jv) = some (nI (bbN (V (5 + p)) d)) := by
  have k := h.1.1
  have kb := (h.1.2.2.1 p hp).1
  obtain ⟨e1, e2, e3, -⟩ := h.2.1.2.1 p hp
  have e1' : iv 3 p = nI (V (5 + p)) := e1
  have e3' : iv 5 p = nI (plN (V (5 + p))) := e3
  obtain ⟨a1, a2, a3, a4⟩ := yN_spec hd
  have pl := plN_le kb
  have bl := fdl (y := yN d + 1) (by omega) (by omega)
  have de := di_end (y := yN d) (p := plN (V (5 + p))) a1 (by omega) pl
  unfold f_X7_birthdayBehind bbN
  have hp8 : p < 8 := by omega
  simp only [Option.bind_some, G_2_2, G_2_4, a_3 iv jv hp8, a_5 iv jv hp8, e1', e3']
  rw [iteE (by omega) (by omega), nI_1, di_c a1 (by omega) (by omega), di_c (by omega) (by omega) (by omega), iteE (by omega) (by omega)]
  by_cases c : V (5 + p) ≤ d
  · rw [if_pos c, if_neg (show ¬ d < V (5 + p) by omega)]
    by_cases c2 : diN (yN d) (plN (V (5 + p))) ≤ d
    · rw [if_pos c2, if_neg (show ¬ d < diN (yN d) (plN (V (5 + p))) by omega)]
    · rw [if_neg c2, if_pos (show d < diN (yN d) (plN (V (5 + p))) by omega)]
  · rw [if_neg c, if_pos (show d < V (5 + p) by omega)]
theorem c_chL {iv : Nat → Nat → Int32} {jv : Nat → Nat → Int64} (h : SR 1 73 iv V) {c d : Nat} (hc : c < 256) (hd : d ≤ 146096) : ∀ j n p a, p + j = V 0 → a < 200000 → f_X3_changeBehind_L12 (n + j + 1) 60 (nI c) (nI d) (nI (yN d)) (nI a) (nI p) (hpOf iv jv) = some (nI (chF V c d j p a)) := by
  have e0 : iv 2 0 = nI (V 0) := h.2.1.1.1
  have k := h.1.1
  intro j
  induction j with
  | zero =>
    intro n p a e ha
    rw [f_X3_changeBehind_L12, G_60_0, Option.bind_some, G_2_0, Option.bind_some, e0, iteE (by omega) (by omega), if_pos (by omega)]; rfl
  | succ j ih =>
    intro n p a e ha
    have kb := (h.1.2.2.1 p (by omega)).1
    have bl := bb_lt kb hd
    rw [show n + (j + 1) + 1 = (n + j + 1) + 1 by omega, f_X3_changeBehind_L12, G_60_0, Option.bind_some, G_2_0, Option.bind_some, e0, iteE (by omega) (by omega), if_neg (by omega), bitI hc (by omega), Option.bind_some, V_2, c_bb h (by omega) hd, Option.bind_some, mn_n (by omega) (by omega), nI_1, ih n (p + 1) _ (by omega) (by omega), ih n (p + 1) _ (by omega) ha, chF]
    cases c.testBit p
    · rfl
    · rfl
theorem c_ch {iv : Nat → Nat → Int32} {jv : Nat → Nat → Int64} (h : SR 1 73 iv V) {c d : Nat} (hc : c < 256) (hd : d ≤ 146096) : f_X3_changeBehind 60 (nI c) (nI d) (hpOf iv jv) = some (nI (chN V c d)) := by
  have k := h.1.1
  unfold f_X3_changeBehind
  have := c_chL (jv := jv) h hc hd (V 0) (199999 - V 0) 0 146097 (by omega) (by omega)
  rw [show 199999 - V 0 + V 0 + 1 = NN by show _ = 200000; omega, nI_0] at this
  rw [c_yearOf hd, Option.bind_some]
  exact this
end CHANGE
/-- the first number from lo to hi with P, or -1 -/
def FirstIn (P : Nat → Prop) (lo hi : Nat) (r : Int32) : Prop := (r = -1 ∧ ∀ e, lo ≤ e → e ≤ hi → ¬ P e) ∨ ∃ e, r = nI e ∧ lo ≤ e ∧ e ≤ hi ∧ P e ∧ ∀ x, lo ≤ x → x < e → ¬ P x
theorem FirstIn.uniq {P : Nat → Prop} {lo hi : Nat} {r s : Int32} (h : FirstIn P lo hi r) (g : FirstIn P lo hi s) : r = s := by
  rcases h with ⟨h1, h2⟩ | ⟨e, h1, h2, h3, h4, h5⟩ <;> rcases g with ⟨g1, g2⟩ | ⟨f, g1, g2, g3, g4, g5⟩
  · rw [h1, g1]
  · exact absurd g4 (h2 f g2 g3)
  · exact absurd h4 (g2 e h2 h3)
  · have : e = f := by
      rcases Nat.lt_trichotomy e f with q | q | q
      · exact absurd h4 (g5 e h2 q)
      · exact q
      · exact absurd g4 (h5 f g2 q)
    rw [h1, g1, this]
theorem FirstIn.back {P : Nat → Prop} {lo mid hi : Nat} {r : Int32} (h : FirstIn P mid hi r) (hl : lo ≤ mid) (hn : ∀ e, lo ≤ e → e < mid → e ≤ hi → ¬ P e) : FirstIn P lo hi r := by
  rcases h with ⟨h1, h2⟩ | ⟨e, h1, h2, h3, h4, h5⟩
  · refine Or.inl ⟨h1, fun e a b => ?_⟩
    rcases Nat.lt_or_ge e mid with q | q
    · exact hn e a q b
    · exact h2 e q b
  · refine Or.inr ⟨e, h1, by omega, h3, h4, fun x a b => ?_⟩
    rcases Nat.lt_or_ge x mid with q | q
    · exact hn x a q (by omega)
    · exact h5 x q b
section NEXT
variable {V : Nat → Nat}
theorem c_nextL {jv : Nat → Nat → Int64} {c g : Nat} (hc : c < 2 ^ V 0) (hg : g < V 1) : ∀ J, ∀ j, j ≤ J → ∀ n at_ step (iv : Nat → Nat → Int32), SR 1 73 iv V → at_ + j = 146097 → step ≤ at_ → ∃ r iv', f_X3_firstDay_L17 (n + j + 1) 60 (nI c) (nI g) (nI at_) (nI step) (hpOf iv jv) = some (r, hpOf iv' jv) ∧ (∀ k, k ≠ 60 → k ≠ 61 → iv' k = iv k) ∧ FirstIn (fun e => whyN V (agV V e) g c = 0) at_ 146096 r := by
  intro J
  induction J with
  | zero =>
    intro j hj n at_ step iv h e hs
    refine ⟨-1, iv, ?_, fun _ _ _ => rfl, Or.inl ⟨rfl, fun x a b => by omega⟩⟩
    rw [show j = 0 by omega, f_X3_firstDay_L17, show (146096 : Int32) = nI 146096 by decide, iteL (by omega) (by omega), iteL (by omega) (by omega), if_pos (show 146096 < at_ by omega)]
    split <;> rfl
  | succ J ih =>
    intro j hj n at_ step iv h e hs
    rcases Nat.eq_zero_or_pos j with z | z
    · refine ⟨-1, iv, ?_, fun _ _ _ => rfl, Or.inl ⟨rfl, fun x a b => by omega⟩⟩
      rw [z, f_X3_firstDay_L17, show (146096 : Int32) = nI 146096 by decide, iteL (by omega) (by omega), iteL (by omega) (by omega), if_pos (show 146096 < at_ by omega)]
      split <;> rfl
    · have k8 := V0_256 h
      have hd : at_ ≤ 146096 := by omega
      obtain ⟨iv1, f1, f2, f3⟩ := c_stand hd (jv := jv) h
      have h' : SR 1 73 iv1 V := (c_scr (jv := jv) f2).sr h
      have wl := why_le V (agV V at_) g c
      have cg := chN_gt V c hd
      rw [show n + j + 1 = (n + j) + 1 by omega, f_X3_firstDay_L17, show (146096 : Int32) = nI 146096 by decide, iteL (by omega) (by omega), if_neg (by omega), iteL (by omega) (by omega), if_neg (by omega), V_60, f1, Option.bind_some, V_60, c_reason h' f3 (agV_le V hd) hc hg, Option.bind_some, nI_0I (by omega), V_60, c_ch h' (by omega) hd, Option.bind_some, nI_1]
      by_cases w : whyN V (agV V at_) g c = 0
      · rw [if_pos w]
        exact ⟨_, iv1, rfl, f2, Or.inr ⟨at_, rfl, by omega, by omega, w, fun x a b => by omega⟩⟩
      · rw [if_neg w]
        obtain ⟨r, iv2, g1, g2, g3⟩ := ih (146097 - chN V c at_) (by omega) (n + j - 1 - (146097 - chN V c at_)) (chN V c at_) (step + 1) iv1 h' (by omega) (by omega)
        rw [show n + j - 1 - (146097 - chN V c at_) + (146097 - chN V c at_) + 1 = n + j by omega] at g1
        refine ⟨r, iv2, g1, fun k a b => by rw [g2 k a b, f2 k a b], g3.back (by omega) (fun x a b _ => ?_)⟩
        rw [why_c g (ch_same h.1 hc hd a b)]
        exact w
theorem m_nextL {jv : Nat → Nat → Int64} {c g : Nat} (hc : c < 2 ^ V 0) (hg : g < V 1) : ∀ j n d (iv : Nat → Nat → Int32), SR 1 73 iv V → MBi iv V (V 0) → d + j = 146097 → ∃ r iv', f_X11_next_L32 (n + j + 1) 72 (nI c) (nI g) (nI d) (hpOf iv jv) = some (r, hpOf iv' jv) ∧ Scr iv jv iv' jv ∧ FirstIn (fun e => whyN V (agV V e) g c = 0) d 146096 r := by
  intro j
  induction j with
  | zero =>
    intro n d iv h hb e
    refine ⟨-1, iv, ?_, Scr.refl, Or.inl ⟨rfl, fun x a b => by omega⟩⟩
    rw [f_X11_next_L32, show (146097 : Int32) = nI 146097 by decide, iteE (by omega) (by omega), if_pos (by omega)]
  | succ j ih =>
    intro n d iv h hb e
    have hd : d ≤ 146096 := by omega
    obtain ⟨iv1, f1, f2, f3, f4⟩ := m_ages hd (jv := jv) h hb
    have s1 : Scr iv jv iv1 jv := scr_m (fun k x y => f2 k x (by omega)) f3
    have wl := why_le V (agV V d) g c
    rw [show n + (j + 1) + 1 = (n + j + 1) + 1 by omega, f_X11_next_L32, show (146097 : Int32) = nI 146097 by decide, iteE (by omega) (by omega), if_neg (by omega), V_72, f1, Option.bind_some, V_72, m_why (s1.sr h) f4 (agV_le V hd) hc hg, Option.bind_some, nI_0I (by omega), nI_1]
    by_cases w : whyN V (agV V d) g c = 0
    · rw [if_pos w]
      exact ⟨_, iv1, rfl, s1, Or.inr ⟨d, rfl, by omega, by omega, w, fun x a b => by omega⟩⟩
    · rw [if_neg w]
      obtain ⟨r, iv2, g1, g2, g3⟩ := ih n (d + 1) iv1 (s1.sr h) (fun q hq => by rw [f2 77 (by decide) (by decide), f2 78 (by decide) (by decide)]; exact hb q hq) (by omega)
      refine ⟨r, iv2, g1, s1.trans g2, g3.back (by omega) (fun x a b _ => ?_)⟩
      rw [show x = d by omega]; exact w
def cntF (w : Nat → Nat) : Nat → Nat → Nat
  | 0, _ => 0
  | j + 1, e => (if w e = 0 then 1 else 0) + cntF w j (e + 1)
theorem cnt_add (w : Nat → Nat) : ∀ a b e, cntF w (a + b) e = cntF w a e + cntF w b (e + a) := by
  intro a
  induction a with
  | zero => intro b e; rw [Nat.zero_add]; simp [cntF]
  | succ a ih =>
    intro b e
    rw [show a + 1 + b = (a + b) + 1 by omega, cntF, cntF, ih, show e + 1 + a = e + (a + 1) by omega]; omega
theorem cnt_same {w : Nat → Nat} : ∀ a e v, (∀ x, e ≤ x → x < e + a → w x = v) → cntF w a e = if v = 0 then a else 0 := by
  intro a
  induction a with
  | zero => intro e v _; simp [cntF]
  | succ a ih =>
    intro e v h
    rw [cntF, ih (e + 1) v (fun x p q => h x (by omega) (by omega)), h e (by omega) (by omega)]
    by_cases z : v = 0
    · simp [z]; omega
    · simp [z]
theorem cnt_le (w : Nat → Nat) : ∀ a e, cntF w a e ≤ a := by
  intro a
  induction a with
  | zero => intro e; exact Nat.le_refl _
  | succ a ih => intro e; rw [cntF]; have := ih (e + 1); split <;> omega
theorem c_datL {jv : Nat → Nat → Int64} {c g E : Nat} (hc : c < 2 ^ V 0) (hg : g < V 1) (hE : E ≤ 146097) : ∀ J, ∀ j, j ≤ J → ∀ n at_ step m (iv : Nat → Nat → Int32), SR 1 73 iv V → at_ + j = E → step + j ≤ 366 → m + j ≤ 1000 → ∃ iv', f_X3_daysOfYear_L20 (n + j + 1) 60 (nI c) (nI g) (nI E) (nI at_) (nI m) (nI step) (hpOf iv jv) = some (nI (m + cntF (fun e => whyN V (agV V e) g c) j at_), hpOf iv' jv) ∧ (∀ k, k ≠ 60 → k ≠ 61 → iv' k = iv k) := by
  intro J
  induction J with
  | zero =>
    intro j hj n at_ step m iv h e hs hm
    have z : j = 0 := by omega
    subst z
    refine ⟨iv, ?_, fun _ _ _ => rfl⟩
    rw [f_X3_daysOfYear_L20, show (366 : Int32) = nI 366 by decide, iteE (by omega) (by omega), iteE (by omega) (by omega), if_pos (show E ≤ at_ by omega)]
    split <;> rfl
  | succ J ih =>
    intro j hj n at_ step m iv h e hs hm
    rcases Nat.eq_zero_or_pos j with z | z
    · subst z
      refine ⟨iv, ?_, fun _ _ _ => rfl⟩
      rw [f_X3_daysOfYear_L20, show (366 : Int32) = nI 366 by decide, iteE (by omega) (by omega), iteE (by omega) (by omega), if_pos (show E ≤ at_ by omega)]
      split <;> rfl
    · have k8 := V0_256 h
      have hd : at_ ≤ 146096 := by omega
      obtain ⟨iv1, f1, f2, f3⟩ := c_stand hd (jv := jv) h
      have h' : SR 1 73 iv1 V := (c_scr (jv := jv) f2).sr h
      have wl := why_le V (agV V at_) g c
      have cg := chN_gt V c hd
      generalize hu : min (chN V c at_) E = u
      have u1 : at_ < u ∧ u ≤ E ∧ u ≤ chN V c at_ := by omega
      have cv : cntF (fun e => whyN V (agV V e) g c) j at_ = (if whyN V (agV V at_) g c = 0 then u - at_ else 0) + cntF (fun e => whyN V (agV V e) g c) (E - u) u := by
        have a1 := cnt_add (fun e => whyN V (agV V e) g c) (u - at_) (E - u) at_
        rw [show u - at_ + (E - u) = j by omega, show at_ + (u - at_) = u by omega] at a1
        rw [a1, cnt_same (u - at_) at_ (whyN V (agV V at_) g c) (fun x p q => why_c g (ch_same h.1 hc hd p (by omega)))]
      rw [show n + j + 1 = (n + j) + 1 by omega, f_X3_daysOfYear_L20, show (366 : Int32) = nI 366 by decide, iteE (by omega) (by omega), if_neg (by omega), iteE (by omega) (by omega), if_neg (by omega), V_60, c_ch h (by omega) hd, Option.bind_some, V_60, f1, Option.bind_some, V_60, c_reason h' f3 (agV_le V hd) hc hg, Option.bind_some, nI_0I (by omega), mn_n (by omega) (by omega), hu, pk_sub (by omega), nI_add, nI_1, cv]
      by_cases w : whyN V (agV V at_) g c = 0
      · rw [if_pos w, if_pos w]
        obtain ⟨iv2, g1, g2⟩ := ih (E - u) (by omega) (n + j - 1 - (E - u)) u (step + 1) (m + (u - at_)) iv1 h' (by omega) (by omega) (by omega)
        rw [show n + j - 1 - (E - u) + (E - u) + 1 = n + j by omega] at g1
        exact ⟨iv2, by rw [g1, Nat.add_assoc], fun k a b => by rw [g2 k a b, f2 k a b]⟩
      · rw [if_neg w, if_neg w]
        obtain ⟨iv2, g1, g2⟩ := ih (E - u) (by omega) (n + j - 1 - (E - u)) u (step + 1) m iv1 h' (by omega) (by omega) (by omega)
        rw [show n + j - 1 - (E - u) + (E - u) + 1 = n + j by omega] at g1
        exact ⟨iv2, by rw [g1, Nat.zero_add], fun k a b => by rw [g2 k a b, f2 k a b]⟩
theorem m_datL {jv : Nat → Nat → Int64} {c g E : Nat} (hc : c < 2 ^ V 0) (hg : g < V 1) (hE : E ≤ 146097) : ∀ j n d m (iv : Nat → Nat → Int32), SR 1 73 iv V → MBi iv V (V 0) → d + j = E → ∃ iv', f_X11_dates_L73 (n + j + 1) 72 (nI c) (nI g) (nI m) (nI E) (nI d) (hpOf iv jv) = some (nI (m + cntF (fun e => whyN V (agV V e) g c) j d), hpOf iv' jv) ∧ Scr iv jv iv' jv := by
  intro j
  induction j with
  | zero =>
    intro n d m iv h hb e
    refine ⟨iv, ?_, Scr.refl⟩
    rw [f_X11_dates_L73, iteE (by omega) (by omega), if_pos (by omega)]; rfl
  | succ j ih =>
    intro n d m iv h hb e
    have hd : d ≤ 146096 := by omega
    obtain ⟨iv1, f1, f2, f3, f4⟩ := m_ages hd (jv := jv) h hb
    have s1 : Scr iv jv iv1 jv := scr_m (fun k x y => f2 k x (by omega)) f3
    have wl := why_le V (agV V d) g c
    have hb1 : MBi iv1 V (V 0) := fun q hq => by rw [f2 77 (by decide) (by decide), f2 78 (by decide) (by decide)]; exact hb q hq
    rw [show n + (j + 1) + 1 = (n + j + 1) + 1 by omega, f_X11_dates_L73, iteE (by omega) (by omega), if_neg (by omega), V_72, f1, Option.bind_some, V_72, m_why (s1.sr h) f4 (agV_le V hd) hc hg, Option.bind_some, nI_0I (by omega), nI_1, nI_1, Int32.add_zero, cntF]
    by_cases w : whyN V (agV V d) g c = 0
    · rw [if_pos w, if_pos w]
      obtain ⟨iv2, g1, g2⟩ := ih n (d + 1) (m + 1) iv1 (s1.sr h) hb1 (by omega)
      exact ⟨iv2, by rw [g1, Nat.add_assoc], s1.trans g2⟩
    · rw [if_neg w, if_neg w]
      obtain ⟨iv2, g1, g2⟩ := ih n (d + 1) m iv1 (s1.sr h) hb1 (by omega)
      exact ⟨iv2, by rw [g1, Nat.zero_add], s1.trans g2⟩
end NEXT
theorem op_next (a b d : Int32) : OpOK (f_X10_next 0 a b d) (f_X11_next 72 a b d) := by
  rintro hp ⟨iv, jv, V, W, Y, rfl, h1, h2, h3, h4⟩
  by_cases c : (1 ≤ a ∧ a ≤ nI (2 ^ V 0 - 1)) ∧ (0 ≤ b ∧ b ≤ nI (V 1) - 1) ∧ 0 ≤ d ∧ d ≤ 146096
  · obtain ⟨c1, c2, c3⟩ := id c
    obtain ⟨x, hx, hx8, rfl⟩ := set_of h1.1.1 ⟨Int32.le_trans (by decide) c1.1, c1.2⟩
    obtain ⟨g, hg, rfl⟩ := (hasP (n := V 1) (by have := h1.1.2.1; omega)).mp c2
    obtain ⟨t, ht, rfl⟩ := in01 (hi := 146096) (by decide) c3
    have ll := last_le V x g
    have cl : ∃ r iv1, f_X3_firstDay 60 (nI x) (nI g) (nI t) (hpOf iv jv) = some (r, hpOf iv1 jv) ∧ (∀ k, k ≠ 60 → k ≠ 61 → iv1 k = iv k) ∧ FirstIn (fun e => whyN V (agV V e) g x = 0) t 146096 r := by
      unfold f_X3_firstDay
      rw [V_60, c_last h1 hx8 hg, Option.bind_some, nI_0I (by omega)]
      by_cases z : lastN V x g = 0
      · rw [if_pos z]
        obtain ⟨r, iv1, g1, g2, g3⟩ := c_nextL (jv := jv) hx hg (146097 - t) (146097 - t) (Nat.le_refl _) (199999 - (146097 - t)) t 0 iv h1 (by omega) (by omega)
        rw [show 199999 - (146097 - t) + (146097 - t) + 1 = NN by show _ = 200000; omega, nI_0] at g1
        exact ⟨r, iv1, g1, g2, g3⟩
      · rw [if_neg z]
        refine ⟨-1, iv, rfl, fun _ _ _ => rfl, Or.inl ⟨rfl, fun e _ _ q => ?_⟩⟩
        replace q : whyN V (agV V e) g x = 0 := q
        unfold whyN at q
        rw [if_neg z] at q
        split at q
        · exact z q
        · exact absurd q (by decide)
    obtain ⟨r, iv1, f1, f2, f3⟩ := cl
    have s1 : Scr iv jv iv1 jv := c_scr f2
    obtain ⟨iv2, e1, e2, e3, e4⟩ := m_births (jv := jv) (s1.sr h1)
    have s2 : Scr iv1 jv iv2 jv := scr_m (fun k x y => e2 k x (by omega) (by omega)) e3
    have s12 := s1.trans s2
    obtain ⟨r', iv3, g1, s3, g3⟩ := m_nextL (jv := jv) hx hg (146097 - t) (199999 - (146097 - t)) t iv2 (s12.sr h1) e4 (by omega)
    rw [show 199999 - (146097 - t) + (146097 - t) + 1 = NN by show _ = 200000; omega] at g1
    have er := f3.uniq g3
    subst er
    refine ⟨r, iv1, jv, hpOf iv3 jv, ?_, ?_, (s12.trans s3).inv h1 h2 h3 h4⟩
    · simp [f_X10_next, G_0_0, G_1_0, V_2, c_hasCompany h1, V_0, c_isPlace h1, c, G_0_5, V_60, f1]
    · have cs : 0 ≤ nI x ∧ nI x ≤ nI (2 ^ V 0 - 1) := ⟨Int32.le_trans (by decide) c1.1, c1.2⟩
      unfold f_X11_next
      rw [V_72, m_isCompany (s1.sr h1), Option.bind_some, if_pos c1, if_neg (by decide), V_72, m_isLook (s1.sr h1), Option.bind_some, if_pos (show (0 ≤ nI x ∧ nI x ≤ nI (2 ^ V 0 - 1)) ∧ (0 ≤ nI g ∧ nI g ≤ nI (V 1) - 1) ∧ 0 ≤ nI t ∧ nI t ≤ 146096 from ⟨cs, c.2⟩), if_neg (by decide), V_72, e1, Option.bind_some]
      exact g1
  · refine both_bad h1 h2 h3 h4 (t := -2) ?_ (fun iv' e => ?_)
    · by_cases c1 : 1 ≤ a ∧ a ≤ nI (2 ^ V 0 - 1)
      · have c2 : ¬ ((0 ≤ b ∧ b ≤ nI (V 1) - 1) ∧ 0 ≤ d ∧ d ≤ 146096) := fun h => c ⟨c1, h⟩
        simp [f_X10_next, G_0_0, G_1_0, V_2, c_hasCompany h1, V_0, c_isPlace h1, c1, c2, c_bad]
      · simp [f_X10_next, G_0_0, G_1_0, V_2, c_hasCompany h1, V_0, c1, c_bad]
    · by_cases c1 : 1 ≤ a ∧ a ≤ nI (2 ^ V 0 - 1)
      · have c2 : ¬ ((0 ≤ a ∧ a ≤ nI (2 ^ V 0 - 1)) ∧ (0 ≤ b ∧ b ≤ nI (V 1) - 1) ∧ 0 ≤ d ∧ d ≤ 146096) := fun h => c ⟨c1, h.2⟩
        unfold f_X11_next
        rw [V_72, m_isCompany (m_sr h1 e), Option.bind_some, if_pos c1, if_neg (by decide), V_72, m_isLook (m_sr h1 e), Option.bind_some, if_neg c2, if_pos rfl, V_72, m_bad, Option.bind_some]
      · unfold f_X11_next
        rw [V_72, m_isCompany (m_sr h1 e), Option.bind_some, if_neg c1, if_pos rfl, V_72, m_bad, Option.bind_some]
theorem op_dates (a b d : Int32) : OpOK (f_X10_dates 0 a b d) (f_X11_dates 72 a b d) := by
  rintro hp ⟨iv, jv, V, W, Y, rfl, h1, h2, h3, h4⟩
  by_cases c : (1 ≤ a ∧ a ≤ nI (2 ^ V 0 - 1)) ∧ (0 ≤ b ∧ b ≤ nI (V 1) - 1) ∧ 1800 ≤ d ∧ d ≤ 2199
  · obtain ⟨c1, c2, c3⟩ := id c
    obtain ⟨x, hx, hx8, rfl⟩ := set_of h1.1.1 ⟨Int32.le_trans (by decide) c1.1, c1.2⟩
    obtain ⟨g, hg, rfl⟩ := (hasP (n := V 1) (by have := h1.1.2.1; omega)).mp c2
    obtain ⟨y, y1, y2, rfl⟩ := in_lo (lo := 1800) (hi := 2199) (by decide) (by decide) c3
    have hE : fdN (y + 1) ≤ 146097 := by
      have := fd_le (x := y + 1) (y := 2200) (by omega) (by omega) (by omega)
      rw [fd_400] at this; exact this
    have hs := fds y1 (by omega)
    have dl : fdN (y + 1) - fdN y ≤ 366 ∧ fdN y ≤ fdN (y + 1) := by
      by_cases l : lpN y = true
      · rw [if_pos l] at hs; omega
      · rw [if_neg l] at hs; omega
    obtain ⟨iv1, f1, f2⟩ := c_datL (jv := jv) hx hg hE (fdN (y + 1) - fdN y) (fdN (y + 1) - fdN y) (Nat.le_refl _) (199999 - (fdN (y + 1) - fdN y)) (fdN y) 0 0 iv h1 (by omega) (by omega) (by omega)
    rw [show 199999 - (fdN (y + 1) - fdN y) + (fdN (y + 1) - fdN y) + 1 = NN by show _ = 200000; omega, nI_0] at f1
    have s1 : Scr iv jv iv1 jv := c_scr f2
    obtain ⟨iv2, e1, e2, e3, e4⟩ := m_births (jv := jv) (s1.sr h1)
    have s2 : Scr iv1 jv iv2 jv := scr_m (fun k x y => e2 k x (by omega) (by omega)) e3
    have s12 := s1.trans s2
    obtain ⟨iv3, g1, s3⟩ := m_datL (jv := jv) hx hg hE (fdN (y + 1) - fdN y) (199999 - (fdN (y + 1) - fdN y)) (fdN y) 0 iv2 (s12.sr h1) e4 (by omega)
    rw [show 199999 - (fdN (y + 1) - fdN y) + (fdN (y + 1) - fdN y) + 1 = NN by show _ = 200000; omega, nI_0] at g1
    refine ⟨nI (0 + cntF (fun e => whyN V (agV V e) g x) (fdN (y + 1) - fdN y) (fdN y)), iv1, jv, hpOf iv3 jv, ?_, ?_, (s12.trans s3).inv h1 h2 h3 h4⟩
    · have fd : f_X3_daysOfYear 60 (nI x) (nI g) (nI y) (hpOf iv jv) = some (nI (0 + cntF (fun e => whyN V (agV V e) g x) (fdN (y + 1) - fdN y) (fdN y)), hpOf iv1 jv) := by
        unfold f_X3_daysOfYear
        rw [nI_1, fdc (by omega) (by omega), fdc (by omega) (by omega)]
        exact f1
      simp [f_X10_dates, G_0_0, G_1_0, V_2, c_hasCompany h1, c_hasGate h1, isYearC, c, G_0_5, V_60, fd]
    · have e365 : nI (fdN y) + 365 = nI (fdN y + 365) := by rw [show (365 : Int32) = nI 365 by decide, nI_add]
      have e366 : nI (fdN y) + 366 = nI (fdN y + 366) := by rw [show (366 : Int32) = nI 366 by decide, nI_add]
      unfold f_X11_dates
      rw [V_72, m_isCompany (s1.sr h1), Option.bind_some, if_pos c1, if_neg (by decide), V_72, m_isGate (s1.sr h1), Option.bind_some, if_pos c2, if_neg (by decide), f_in (nI y) 1800 2199 (LO := 1800) (HI := 2199) (by decide) (by decide), if_pos c3, if_neg (by decide), V_72, e1, Option.bind_some, lp_m, lpc y1 (by omega), fdm y1 (by omega), e365, e366]
      by_cases l : lpN y = true
      · rw [if_pos l] at hs
        rw [if_pos l, if_neg (by decide), show fdN y + 366 = fdN (y + 1) by omega]
        exact g1
      · rw [if_neg l] at hs
        rw [if_neg l, if_pos rfl, show fdN y + 365 = fdN (y + 1) by omega]
        exact g1
  · refine both_bad h1 h2 h3 h4 (t := -2) ?_ (fun iv' e => ?_)
    · by_cases c1 : 1 ≤ a ∧ a ≤ nI (2 ^ V 0 - 1)
      · by_cases c2 : 0 ≤ b ∧ b ≤ nI (V 1) - 1
        · have c3 : ¬ (1800 ≤ d ∧ d ≤ 2199) := fun h => c ⟨c1, c2, h⟩
          simp [f_X10_dates, G_0_0, G_1_0, V_2, c_hasCompany h1, c_hasGate h1, isYearC, V_0, c1, c2, c3, c_bad]
        · simp [f_X10_dates, G_0_0, G_1_0, V_2, c_hasCompany h1, c_hasGate h1, V_0, c1, c2, c_bad]
      · simp [f_X10_dates, G_0_0, G_1_0, V_2, c_hasCompany h1, V_0, c1, c_bad]
    · by_cases c1 : 1 ≤ a ∧ a ≤ nI (2 ^ V 0 - 1)
      · by_cases c2 : 0 ≤ b ∧ b ≤ nI (V 1) - 1
        · have c3 : ¬ (1800 ≤ d ∧ d ≤ 2199) := fun h => c ⟨c1, c2, h⟩
          simp [f_X11_dates, V_72, m_isCompany (m_sr h1 e), m_isGate (m_sr h1 e), f_in d 1800 2199 (LO := 1800) (HI := 2199) (by decide) (by decide), c1, c2, c3, m_bad]
        · simp [f_X11_dates, V_72, m_isCompany (m_sr h1 e), m_isGate (m_sr h1 e), c1, c2, m_bad]
      · simp [f_X11_dates, V_72, m_isCompany (m_sr h1 e), c1, m_bad]
