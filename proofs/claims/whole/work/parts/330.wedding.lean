/-! WEDDING -/
section WED
variable {V : Nat → Nat}
theorem scr_fr {iv iv' : Nat → Nat → Int32} {jv : Nat → Nat → Int64} (e : ∀ k, (k ≤ 50 ∨ (72 ≤ k ∧ k ≤ 76)) → iv' k = iv k) : Scr iv jv iv' jv :=
  ⟨fun k h => e k (by omega), by rw [e 72 (by omega)], by rw [e 72 (by omega)], rfl, rfl⟩
def wedP (V : Nat → Nat) (g s o : Nat) (e : Nat) : Prop := costN (whyN V (agV V e) g) s < 16 ∧ costN (whyN V (agV V e) g) o < 16
theorem wed_cost {g s e d : Nat} (hs : s < 256) (h : ∀ p, s.testBit p = true → agV V e p = agV V d p) : costN (whyN V (agV V e) g) s = costN (whyN V (agV V d) g) s :=
  cost_c s s (Nat.le_refl _) hs (fun _ ht hp => why_c g (fun _ hb => h _ (part_bit ht hp hb)))
theorem wed_same {g s o e d : Nat} (hs : s < 256) (ho : o < 256) (h : ∀ p, (s ||| o).testBit p = true → agV V e p = agV V d p) : wedP V g s o e ↔ wedP V g s o d := by
  unfold wedP
  rw [wed_cost hs (fun p hp => h p (by rw [Nat.testBit_or, hp]; rfl)), wed_cost ho (fun p hp => h p (by rw [Nat.testBit_or, hp, Bool.or_true]))]
theorem c_leaves {iv : Nat → Nat → Int32} {jv : Nat → Nat → Int64} {ag : Nat → Nat} (hag : ∀ p, p < V 0 → ag p ≤ 400) {g : Nat} (hg : g < V 1) {s : Nat} (hs : s < 2 ^ V 0) (h : SR 1 73 iv V) (ha : CAg iv V ag) : ∃ iv', f_X4_leavesNobody 62 (nI s) (nI g) (hpOf iv jv) = some (if 16 ≤ costN (whyN V ag g) s then 0 else 1, hpOf iv' jv) ∧ ∀ k, k ≠ 63 → k ≠ 64 → iv' k = iv k := by
  have k8 := V0_256 h
  obtain ⟨iv', e1, e2, e3⟩ := c_weigh (jv := jv) hag hg hs h ha
  have cb := cost_b (whyN V ag g) (s := s) (by omega)
  refine ⟨iv', ?_, e2⟩
  unfold f_X4_leavesNobody
  rw [V_62, e1, Option.bind_some, G_62_2, Option.bind_some, a_64 iv' jv (by omega), Option.bind_some, e3.c0 (by omega) (part_self s (by omega)), show (16 : Int32) = nI 16 by decide, iteE (by omega) (by omega)]
  split <;> rfl
theorem m_leaves {iv : Nat → Nat → Int32} {jv : Nat → Nat → Int64} {ag : Nat → Nat} (hag : ∀ p, p < V 0 → ag p ≤ 400) {g : Nat} (hg : g < V 1) {s : Nat} (hs : s < 2 ^ V 0) (h : SR 1 73 iv V) (ha : MAg iv V ag) : ∃ iv', f_X11_leavesNobody 72 (nI s) (nI g) (hpOf iv jv) = some (if 16 ≤ costN (whyN V ag g) s then 0 else 1, hpOf iv' jv) ∧ ∀ k, k ≠ 81 → k ≠ 82 → iv' k = iv k := by
  have k8 := V0_256 h
  obtain ⟨iv', e1, e2, -, e3⟩ := m_lay (jv := jv) hag hg hs h ha
  have cb := cost_b (whyN V ag g) (s := s) (by omega)
  refine ⟨iv', ?_, e2⟩
  unfold f_X11_leavesNobody
  rw [V_72, e1, Option.bind_some, G_72_20, Option.bind_some, a_82 iv' jv (by omega), Option.bind_some, e3.c0 (by omega) (part_self s (by omega)), show (16 : Int32) = nI 16 by decide, iteE (by omega) (by omega)]
  split <;> rfl
theorem c_wedL {jv : Nat → Nat → Int64} {s o g day hi : Nat} (hs : s < 2 ^ V 0) (ho : o < 2 ^ V 0) (hg : g < V 1) (hh : hi ≤ 146096) (hd2 : hi ≤ day + 1500) : ∀ J N at_ step (iv : Nat → Nat → Int32), hi + 1 - at_ ≤ J → J < N → at_ ≤ 146097 → step + day ≤ at_ → SR 1 73 iv V → ∃ r iv', f_X4_firstDayForBoth_L20 N 62 (nI s) (nI o) (nI g) (nI hi) (nI at_) (nI step) (hpOf iv jv) = some (r, hpOf iv' jv) ∧ (∀ k, (k < 60 ∨ 65 < k) → iv' k = iv k) ∧ FirstIn (wedP V g s o) at_ hi r := by
  have stop : ∀ N at_ step (iv : Nat → Nat → Int32), 0 < N → hi < at_ → at_ ≤ 146097 → step + day ≤ at_ → ∃ r iv', f_X4_firstDayForBoth_L20 N 62 (nI s) (nI o) (nI g) (nI hi) (nI at_) (nI step) (hpOf iv jv) = some (r, hpOf iv' jv) ∧ (∀ k, (k < 60 ∨ 65 < k) → iv' k = iv k) ∧ FirstIn (wedP V g s o) at_ hi r := by
    intro N at_ step iv hN h ha hst
    refine ⟨-1, iv, ?_, fun _ _ => rfl, Or.inl ⟨rfl, fun x a b => by omega⟩⟩
    obtain ⟨N, rfl⟩ : ∃ M, N = M + 1 := ⟨N - 1, by omega⟩
    rw [f_X4_firstDayForBoth_L20, iteL (b := at_) (by omega) (by omega), if_pos h]
    split <;> rfl
  intro J
  induction J with
  | zero =>
    intro N at_ step iv h1 h2 h3 h4 h
    exact stop N at_ step iv (by omega) (by omega) h3 h4
  | succ J ih =>
    intro N at_ step iv h1 h2 h3 h4 h
    rcases Nat.lt_or_ge hi at_ with q | q
    · exact stop N at_ step iv (by omega) q h3 h4
    · have k8 := V0_256 h
      have hd : at_ ≤ 146096 := by omega
      have u2 : s ||| o < 2 ^ V 0 := or_lt hs ho
      obtain ⟨N, rfl⟩ : ∃ M, N = M + 1 := ⟨N - 1, by omega⟩
      obtain ⟨iv1, f1, f2, f3⟩ := c_stand hd (jv := jv) h
      have s1 : Scr iv jv iv1 jv := c_scr f2
      obtain ⟨iv2, l1, l2⟩ := c_leaves (jv := jv) (agV_le V hd) hg hs (s1.sr h) f3
      have s2 : Scr iv1 jv iv2 jv := scr_fr (fun k hk => l2 k (by omega) (by omega))
      have s12 := s1.trans s2
      have f3' : CAg iv2 V (agV V at_) := by
        unfold CAg
        rw [l2 61 (by decide) (by decide), l2 60 (by decide) (by decide)]; exact f3
      obtain ⟨iv3, m1, m2⟩ := c_leaves (jv := jv) (agV_le V hd) hg ho (s12.sr h) f3'
      have s3 : Scr iv2 jv iv3 jv := scr_fr (fun k hk => m2 k (by omega) (by omega))
      have s13 := s12.trans s3
      have cg := chN_gt V (s ||| o) hd
      have go : ∀ iv' : Nat → Nat → Int32, SR 1 73 iv' V → (∀ k, (k < 60 ∨ 65 < k) → iv' k = iv k) → ¬ wedP V g s o at_ → ∃ r iv'', f_X4_firstDayForBoth_J65 (f_X4_firstDayForBoth_L20 N) 62 (nI s) (nI o) (nI g) (nI hi) (nI at_) (nI step) (hpOf iv' jv) = some (r, hpOf iv'' jv) ∧ (∀ k, (k < 60 ∨ 65 < k) → iv'' k = iv k) ∧ FirstIn (wedP V g s o) at_ hi r := by
        intro iv' h' hf hn
        obtain ⟨r, iv'', g1, g2, g3⟩ := ih N (chN V (s ||| o) at_) (step + 1) iv' (by omega) (by omega) (by omega) (by omega) h'
        refine ⟨r, iv'', ?_, fun k hk => by rw [g2 k hk, hf k hk], g3.back (by omega) (fun x a b _ hx => hn ?_)⟩
        · rw [f_X4_firstDayForBoth_J65, G_62_0, Option.bind_some, V_60, nx_or, c_ch h' (by omega) hd, Option.bind_some, nI_1]; exact g1
        · exact (wed_same (by omega) (by omega) (ch_same h.1 u2 hd a b)).mp hx
      rw [f_X4_firstDayForBoth_L20, show (1500 : Int32) = nI 1500 by decide, iteL (by omega) (by omega), if_neg (by omega), iteL (by omega) (by omega), if_neg (by omega), G_62_0, Option.bind_some, V_60, f1, Option.bind_some, V_62, l1, Option.bind_some]
      dsimp only
      by_cases c1 : 16 ≤ costN (whyN V (agV V at_) g) s
      · rw [if_pos c1, if_pos rfl]
        exact go iv2 (s12.sr h) (fun k hk => by rw [l2 k (by omega) (by omega), f2 k (by omega) (by omega)]) (fun p => by have := p.1; omega)
      · rw [if_neg c1, if_neg (by decide), V_62, m1, Option.bind_some]
        dsimp only
        by_cases c2 : 16 ≤ costN (whyN V (agV V at_) g) o
        · rw [if_pos c2, if_pos rfl]
          exact go iv3 (s13.sr h) (fun k hk => by rw [m2 k (by omega) (by omega), l2 k (by omega) (by omega), f2 k (by omega) (by omega)]) (fun p => by have := p.2; omega)
        · rw [if_neg c2, if_neg (by decide)]
          exact ⟨_, iv3, rfl, fun k hk => by rw [m2 k (by omega) (by omega), l2 k (by omega) (by omega), f2 k (by omega) (by omega)], Or.inr ⟨at_, rfl, by omega, by omega, ⟨by omega, by omega⟩, fun x a b => by omega⟩⟩
theorem m_othL {jv : Nat → Nat → Int64} : ∀ (j n p : Nat) (u : Bool) (iv : Nat → Nat → Int32), p + j = V 0 → SR 1 73 iv V → ∃ b iv', f_X11_areOther_L4 (n + j + 1) 72 (bI u) (nI p) (hpOf iv jv) = some (bI b, hpOf iv' jv) ∧ (∀ k, k ≠ 84 → iv' k = iv k) ∧ (∀ q, q < p → iv' 84 q = iv 84 q) ∧ (∀ q, p ≤ q → q < V 0 → iv' 84 q = iv 79 q) ∧ (b = false → u = false ∧ ∀ q, p ≤ q → q < V 0 → iv 79 q = iv 84 q) := by
  intro j
  induction j with
  | zero =>
    intro n p u iv e h
    have k := h.1.1
    refine ⟨u, iv, ?_, fun _ _ => rfl, fun _ _ => rfl, fun q a b => by omega, fun hb => ⟨hb, fun q a b => by omega⟩⟩
    rw [f_X11_areOther_L4, G_72_0, Option.bind_some, z73_0, Option.bind_some, h.2.2.1, iteE (by omega) (by omega), if_pos (by omega)]
    cases u <;> rfl
  | succ j ih =>
    intro n p u iv e h
    have k := h.1.1
    have p8 : p < 8 := by omega
    have s1 : Scr iv jv (up iv 84 p (iv 79 p)) jv := scr_up 84 p _ (by omega)
    have go : ∀ v : Bool, (v = false → u = false ∧ iv 79 p = iv 84 p) → ∃ b iv', f_X11_areOther_J38 (f_X11_areOther_L4 (n + j + 1)) 72 (nI p) (bI v) (hpOf iv jv) = some (bI b, hpOf iv' jv) ∧ (∀ k, k ≠ 84 → iv' k = iv k) ∧ (∀ q, q < p → iv' 84 q = iv 84 q) ∧ (∀ q, p ≤ q → q < V 0 → iv' 84 q = iv 79 q) ∧ (b = false → u = false ∧ ∀ q, p ≤ q → q < V 0 → iv 79 q = iv 84 q) := by
      intro v hv
      obtain ⟨b, iv', g1, g2, g3, g4, g5⟩ := ih n (p + 1) v (up iv 84 p (iv 79 p)) (by omega) (s1.sr h)
      refine ⟨b, iv', ?_, fun k a => by rw [g2 k a, up_ne _ _ _ a], fun q a => by rw [g3 q (by omega), up_in _ _ (by omega)], fun q a c => ?_, fun hb => ?_⟩
      · rw [f_X11_areOther_J38, G_72_24, Option.bind_some, G_72_13, Option.bind_some, a_79 iv jv p8, Option.bind_some, u_84 iv jv p8, Option.bind_some, nI_1]; exact g1
      · by_cases e : q = p
        · subst e
          rw [g3 q (by omega), up_at]
        · rw [g4 q (by omega) c, up_ne _ _ _ (by decide)]
      · obtain ⟨x, y⟩ := g5 hb
        obtain ⟨x1, x2⟩ := hv x
        refine ⟨x1, fun q a c => ?_⟩
        by_cases e : q = p
        · subst e; exact x2
        · have := y q (by omega) c
          rw [up_ne _ _ _ (by decide), up_in _ _ e] at this
          exact this
    rw [show n + (j + 1) + 1 = (n + j + 1) + 1 by omega, f_X11_areOther_L4, G_72_0, Option.bind_some, z73_0, Option.bind_some, h.2.2.1, iteE (by omega) (by omega), if_neg (by omega), bI_0, G_72_13, Option.bind_some, a_79 iv jv p8, Option.bind_some, G_72_24, Option.bind_some, a_84 iv jv p8, Option.bind_some]
    cases u
    · rw [if_neg (by decide)]
      by_cases c : iv 79 p = iv 84 p
      · rw [if_pos c]
        exact go false (fun _ => ⟨rfl, c⟩)
      · rw [if_neg c]
        exact go true (fun h => by cases h)
    · rw [if_pos rfl]
      exact go true (fun h => by cases h)
theorem m_oth {iv : Nat → Nat → Int32} {jv : Nat → Nat → Int64} (h : SR 1 73 iv V) : ∃ b iv', f_X11_areOther 72 (hpOf iv jv) = some (bI b, hpOf iv' jv) ∧ (∀ k, k ≠ 84 → iv' k = iv k) ∧ (∀ q, q < V 0 → iv' 84 q = iv 79 q) ∧ (b = false → ∀ q, q < V 0 → iv 79 q = iv 84 q) := by
  have k := h.1.1
  obtain ⟨b, iv', g1, g2, g3, g4, g5⟩ := m_othL (jv := jv) (V 0) (199999 - V 0) 0 false iv (by omega) h
  refine ⟨b, iv', ?_, g2, fun q hq => g4 q (Nat.zero_le _) hq, fun hb q hq => (g5 hb).2 q (Nat.zero_le _) hq⟩
  rw [← NNj (by omega)] at g1
  exact g1
theorem m_wedL {jv : Nat → Nat → Int64} {s o g day hi : Nat} (hs : s < 2 ^ V 0) (ho : o < 2 ^ V 0) (hg : g < V 1) (hday : day ≤ 146096) (hhi : hi = min (day + 1500) 146096) : ∀ j n d (iv : Nat → Nat → Int32), SR 1 73 iv V → MBi iv V (V 0) → day ≤ d → (day < d → (∀ p, p < V 0 → iv 84 p = nI (agV V (d - 1) p) - 1) ∧ ¬ wedP V g s o (d - 1)) → d + j = hi + 1 → ∃ r iv', f_X11_wedding_L40 (n + j + 1) 72 (nI s) (nI o) (nI g) (nI day) (nI d) (hpOf iv jv) = some (r, hpOf iv' jv) ∧ Scr iv jv iv' jv ∧ FirstIn (wedP V g s o) d hi r := by
  have e15 : nI day + 1500 = nI (day + 1500) := by rw [show (1500 : Int32) = nI 1500 by decide, nI_add]
  intro j
  induction j with
  | zero =>
    intro n d iv h hb hd0 hl e
    refine ⟨-1, iv, ?_, Scr.refl, Or.inl ⟨rfl, fun x a b => by omega⟩⟩
    rw [f_X11_wedding_L40, e15, iteL (by omega) (by omega), show (146097 : Int32) = nI 146097 by decide, iteE (by omega) (by omega)]
    by_cases c : day + 1500 < d
    · rw [if_pos c]
    · rw [if_neg c, if_pos (by omega)]
  | succ j ih =>
    intro n d iv h hb hd0 hl e
    have k8 := V0_256 h
    have hd : d ≤ 146096 := by omega
    obtain ⟨iv1, f1, f2, f3, f4⟩ := m_ages hd (jv := jv) h hb
    have s1 : Scr iv jv iv1 jv := scr_m (fun k x y => f2 k x (by omega)) f3
    obtain ⟨b, iv2, o1, o2, o3, o4⟩ := m_oth (jv := jv) (s1.sr h)
    have s2 : Scr iv1 jv iv2 jv := scr_row 84 (by omega) o2
    have s12 := s1.trans s2
    have ag2 : MAg iv2 V (agV V d) := fun p hp => by rw [o2 79 (by decide)]; exact f4 p hp
    have go : ∀ iv' : Nat → Nat → Int32, (∀ k, k ≠ 81 → k ≠ 82 → iv' k = iv2 k) → ¬ wedP V g s o d → ∃ r iv'', f_X11_wedding_L40 (n + j + 1) 72 (nI s) (nI o) (nI g) (nI day) (nI (d + 1)) (hpOf iv' jv) = some (r, hpOf iv'' jv) ∧ Scr iv jv iv'' jv ∧ FirstIn (wedP V g s o) d hi r := by
      intro iv' hf hn
      have s3 : Scr iv2 jv iv' jv := scr_fr (fun k hk => hf k (by omega) (by omega))
      obtain ⟨r, iv'', g1, g2, g3⟩ := ih n (d + 1) iv' ((s12.trans s3).sr h) (fun q hq => by rw [hf 77 (by decide) (by decide), hf 78 (by decide) (by decide), o2 77 (by decide), o2 78 (by decide), f2 77 (by decide) (by decide), f2 78 (by decide) (by decide)]; exact hb q hq) (by omega) (fun _ => ⟨fun p hp => by rw [hf 84 (by decide) (by decide), o3 p hp]; exact f4 p hp, hn⟩) (by omega)
      exact ⟨r, iv'', g1, (s12.trans s3).trans g2, g3.back (by omega) (fun x a b _ hx => hn (by rw [show d = x by omega]; exact hx))⟩
    have full : ∃ r iv'', f_X11_wedding_J83 (f_X11_wedding_L40 (n + j + 1)) 72 (nI s) (nI o) (nI g) (nI day) (nI d) 1 (hpOf iv2 jv) = some (r, hpOf iv'' jv) ∧ Scr iv jv iv'' jv ∧ FirstIn (wedP V g s o) d hi r := by
      obtain ⟨iv3, l1, l2⟩ := m_leaves (jv := jv) (agV_le V hd) hg hs (s12.sr h) ag2
      have s3 : Scr iv2 jv iv3 jv := scr_fr (fun k hk => l2 k (by omega) (by omega))
      have ag3 : MAg iv3 V (agV V d) := fun p hp => by rw [l2 79 (by decide) (by decide)]; exact ag2 p hp
      obtain ⟨iv4, m1, m2⟩ := m_leaves (jv := jv) (agV_le V hd) hg ho ((s12.trans s3).sr h) ag3
      have s4 : Scr iv3 jv iv4 jv := scr_fr (fun k hk => m2 k (by omega) (by omega))
      rw [f_X11_wedding_J83, if_neg (by decide), V_72, l1, Option.bind_some]
      dsimp only
      by_cases c1 : 16 ≤ costN (whyN V (agV V d) g) s
      · rw [if_pos c1, if_pos rfl, nI_1]
        exact go iv3 l2 (fun p => by have := p.1; omega)
      · rw [if_neg c1, if_neg (by decide), V_72, m1, Option.bind_some]
        dsimp only
        by_cases c2 : 16 ≤ costN (whyN V (agV V d) g) o
        · rw [if_pos c2, if_pos rfl, nI_1]
          exact go iv4 (fun k x y => by rw [m2 k x y, l2 k x y]) (fun p => by have := p.2; omega)
        · rw [if_neg c2, if_neg (by decide)]
          exact ⟨_, iv4, rfl, (s12.trans s3).trans s4, Or.inr ⟨d, rfl, by omega, by omega, ⟨by omega, by omega⟩, fun x a b => by omega⟩⟩
    rw [show n + (j + 1) + 1 = (n + j + 1) + 1 by omega, f_X11_wedding_L40, e15, iteL (by omega) (by omega), if_neg (by omega), show (146097 : Int32) = nI 146097 by decide, iteE (by omega) (by omega), if_neg (by omega), V_72, f1, Option.bind_some, V_72, o1, Option.bind_some]
    dsimp only
    rw [bI_0]
    cases b
    · rw [if_neg (by decide), iteQ (by omega) (by omega)]
      by_cases c : d = day
      · rw [if_pos c]; exact full
      · rw [if_neg c, f_X11_wedding_J83, if_pos rfl, nI_1]
        obtain ⟨a1, a2⟩ := hl (by omega)
        refine go iv2 (fun _ _ _ => rfl) (fun p => a2 ?_)
        have k := h.1.1
        refine (wed_same (by omega) (by omega) (fun p hp => ?_)).mp p
        have pv : p < V 0 := tb_lt (or_lt hs ho) hp
        have q := o4 rfl p pv
        rw [f4 p pv, f2 84 (by decide) (by decide), a1 p pv] at q
        have x1 : agV V d p ≤ 400 := agV_le V hd p pv
        have x2 : agV V (d - 1) p ≤ 400 := agV_le V (by omega) p pv
        rw [ag_eq x1 x2] at q
        exact q
    · rw [if_pos rfl]; exact full
end WED
theorem op_wedding (a b c d : Int32) : OpOK (f_X10_wedding 0 a b c d) (f_X11_wedding 72 a b c d) := by
  rintro hp ⟨iv, jv, V, W, Y, rfl, h1, h2, h3, h4⟩
  by_cases ca : 0 ≤ a ∧ a ≤ nI (2 ^ V 0 - 1)
  · by_cases cb : 0 ≤ b ∧ b ≤ nI (2 ^ V 0 - 1)
    · by_cases cc : a &&& b = 0
      · by_cases cd : (0 ≤ c ∧ c ≤ nI (V 1) - 1) ∧ 0 ≤ d ∧ d ≤ 146096
        · obtain ⟨s, hs, hs8, rfl⟩ := set_of h1.1.1 ca
          obtain ⟨o, ho, ho8, rfl⟩ := set_of h1.1.1 cb
          obtain ⟨g, hg, rfl⟩ := (hasP (n := V 1) (by have := h1.1.2.1; omega)).mp cd.1
          obtain ⟨t, ht, rfl⟩ := in01 (hi := 146096) (by decide) cd.2
          have e15 : nI t + 1500 = nI (t + 1500) := by rw [show (1500 : Int32) = nI 1500 by decide, nI_add]
          obtain ⟨r, iv1, f1, f2, f3⟩ := c_wedL (jv := jv) (day := t) (hi := min (t + 1500) 146096) hs ho hg (by omega) (by omega) 146097 NN t 0 iv (by omega) (show 146097 < 200000 by decide) (by omega) (by omega) h1
          have s1 : Scr iv jv iv1 jv := scr_fr (fun k hk => f2 k (by omega))
          obtain ⟨iv2, e1, e2, e3, e4⟩ := m_births (jv := jv) (s1.sr h1)
          have s2 : Scr iv1 jv iv2 jv := scr_m (fun k x y => e2 k x (by omega) (by omega)) e3
          have s12 := s1.trans s2
          obtain ⟨r', iv3, g1, s3, g3⟩ := m_wedL (jv := jv) (day := t) hs ho hg ht rfl (min (t + 1500) 146096 + 1 - t) (199999 - (min (t + 1500) 146096 + 1 - t)) t iv2 (s12.sr h1) e4 (Nat.le_refl _) (fun q => by omega) (by omega)
          rw [← NNj (by omega)] at g1
          have er := f3.uniq g3
          subst er
          refine ⟨r, iv1, jv, hpOf iv3 jv, ?_, ?_, (s12.trans s3).inv h1 h2 h3 h4⟩
          · unfold f_X10_wedding f_X4_firstDayForBoth
            rw [G_0_0, Option.bind_some, G_1_0, Option.bind_some, V_2, c_hasSet h1, Option.bind_some, if_pos ca, if_neg (by decide), Option.bind_some, G_1_0, Option.bind_some, V_2, c_hasSet h1, Option.bind_some, if_pos cb, if_neg (by decide), if_pos cc, V_0, c_isPlace h1, Option.bind_some, if_pos cd, if_neg (by decide), G_0_6, Option.bind_some, V_62, e15, show (146096 : Int32) = nI 146096 by decide, mn_n (by omega) (by omega), ← nI_0, f1, Option.bind_some]
          · unfold f_X11_wedding
            rw [V_72, m_isLook (s1.sr h1), Option.bind_some, if_pos (And.intro ca cd), if_neg (by decide), V_72, m_isSet (s1.sr h1), Option.bind_some, if_pos cb, if_neg (by decide), if_pos cc, V_72, e1, Option.bind_some]
            exact g1
        · refine both_bad h1 h2 h3 h4 (t := -2) ?_ (fun iv' e => ?_)
          · unfold f_X10_wedding
            rw [G_0_0, Option.bind_some, G_1_0, Option.bind_some, V_2, c_hasSet h1, Option.bind_some, if_pos ca, if_neg (by decide), Option.bind_some, G_1_0, Option.bind_some, V_2, c_hasSet h1, Option.bind_some, if_pos cb, if_neg (by decide), if_pos cc, V_0, c_isPlace h1, Option.bind_some, if_neg cd, if_pos rfl, V_0, c_bad, Option.bind_some]
          · unfold f_X11_wedding
            rw [V_72, m_isLook (m_sr h1 e), Option.bind_some, if_neg (fun h : (0 ≤ a ∧ a ≤ nI (2 ^ V 0 - 1)) ∧ ((0 ≤ c ∧ c ≤ nI (V 1) - 1) ∧ 0 ≤ d ∧ d ≤ 146096) => cd h.2), if_pos rfl, V_72, m_bad, Option.bind_some]
      · refine both_bad h1 h2 h3 h4 (t := -2) ?_ (fun iv' e => ?_)
        · unfold f_X10_wedding
          rw [G_0_0, Option.bind_some, G_1_0, Option.bind_some, V_2, c_hasSet h1, Option.bind_some, if_pos ca, if_neg (by decide), Option.bind_some, G_1_0, Option.bind_some, V_2, c_hasSet h1, Option.bind_some, if_pos cb, if_neg (by decide), if_neg cc, V_0, c_bad, Option.bind_some]
        · unfold f_X11_wedding
          rw [V_72, m_isLook (m_sr h1 e), Option.bind_some]
          by_cases cd : (0 ≤ c ∧ c ≤ nI (V 1) - 1) ∧ 0 ≤ d ∧ d ≤ 146096
          · rw [if_pos (And.intro ca cd), if_neg (by decide), V_72, m_isSet (m_sr h1 e), Option.bind_some, if_pos cb, if_neg (by decide), if_neg cc, V_72, m_bad, Option.bind_some]
          · rw [if_neg (fun h : (0 ≤ a ∧ a ≤ nI (2 ^ V 0 - 1)) ∧ ((0 ≤ c ∧ c ≤ nI (V 1) - 1) ∧ 0 ≤ d ∧ d ≤ 146096) => cd h.2), if_pos rfl, V_72, m_bad, Option.bind_some]
    · refine both_bad h1 h2 h3 h4 (t := -2) ?_ (fun iv' e => ?_)
      · unfold f_X10_wedding
        rw [G_0_0, Option.bind_some, G_1_0, Option.bind_some, V_2, c_hasSet h1, Option.bind_some, if_pos ca, if_neg (by decide), Option.bind_some, G_1_0, Option.bind_some, V_2, c_hasSet h1, Option.bind_some, if_neg cb, if_pos rfl, V_0, c_bad, Option.bind_some]
      · unfold f_X11_wedding
        rw [V_72, m_isLook (m_sr h1 e), Option.bind_some]
        by_cases cd : (0 ≤ c ∧ c ≤ nI (V 1) - 1) ∧ 0 ≤ d ∧ d ≤ 146096
        · rw [if_pos (And.intro ca cd), if_neg (by decide), V_72, m_isSet (m_sr h1 e), Option.bind_some, if_neg cb, if_pos rfl, V_72, m_bad, Option.bind_some]
        · rw [if_neg (fun h : (0 ≤ a ∧ a ≤ nI (2 ^ V 0 - 1)) ∧ ((0 ≤ c ∧ c ≤ nI (V 1) - 1) ∧ 0 ≤ d ∧ d ≤ 146096) => cd h.2), if_pos rfl, V_72, m_bad, Option.bind_some]
  · refine both_bad h1 h2 h3 h4 (t := -2) ?_ (fun iv' e => ?_)
    · unfold f_X10_wedding
      rw [G_0_0, Option.bind_some, G_1_0, Option.bind_some, V_2, c_hasSet h1, Option.bind_some, if_neg ca, if_pos rfl, V_0, c_bad, Option.bind_some]
    · unfold f_X11_wedding
      rw [V_72, m_isLook (m_sr h1 e), Option.bind_some, if_neg (fun h : (0 ≤ a ∧ a ≤ nI (2 ^ V 0 - 1)) ∧ ((0 ≤ c ∧ c ≤ nI (V 1) - 1) ∧ 0 ≤ d ∧ d ≤ 146096) => ca h.1), if_pos rfl, V_72, m_bad, Option.bind_some]
