def bI (b : Bool) : Int32 := if b then 1 else 0
theorem bI_0 {α : Type} (b : Bool) {x y : α} : (if bI b = 0 then x else y) = if b then y else x := by cases b <;> rfl
section WHYM
variable {iv : Nat → Nat → Int32} {jv : Nat → Nat → Int64} {V ag : Nat → Nat} {c : Nat}
theorem m_unlI (h : SR 1 73 iv V) (ha : MAg iv V ag) (hag : ∀ p, p < V 0 → ag p ≤ 400) (hc : c < 256) {p : Nat} (hp : p < V 0) (hb : c.testBit p = true) (x y : Int32) (k8 : Nat → Int32 → Int32 → Int32 → Int32 → Int32 → PH → Option Int32) : ∀ (j n q : Nat) (u : Bool), q + j = p → f_X11_isByLaw_L41 k8 (n + j + 1) 72 (nI c) x y (bI u) (nI p) (nI q) (hpOf iv jv) = k8 72 (nI c) x y (bI (u && unlF ag c p j q)) (nI (p + 1)) (hpOf iv jv) := by
  have k := h.1.1
  intro j
  induction j with
  | zero =>
    intro n q u e
    rw [f_X11_isByLaw_L41, iteE (by omega) (by omega), if_pos (by omega), nI_1, unlF, Bool.and_true]
  | succ j ih =>
    intro n q u e
    have r0 := ih n (q + 1) false (by omega)
    have r1 := ih n (q + 1) true (by omega)
    rw [show n + (j + 1) + 1 = (n + j + 1) + 1 by omega, f_X11_isByLaw_L41, iteE (by omega) (by omega), if_neg (by omega), bI_0, hasI hc (by omega), G_72_13, Option.bind_some, a_79 _ _ (by omega), Option.bind_some, Option.bind_some, a_79 _ _ (by omega), Option.bind_some, ha p (by omega), ha q (by omega), nI_1, unlF, hb]
    simp only [ag_eq (hag q (by omega)) (hag p hp)]
    have b0 : (0 : Int32) = bI false := rfl
    have b1 : (1 : Int32) = bI true := rfl
    rw [b0, b1, r0, r1]
    cases u
    · simp
    · cases c.testBit q
      · simp
      · by_cases e : ag q = ag p
        · simp [e]
        · simp [e, show (ag p == ag q) = false from beq_false_of_ne (fun z => e z.symm)]
theorem m_lawL (h : SR 1 73 iv V) (ha : MAg iv V ag) (hag : ∀ p, p < V 0 → ag p ≤ 400) (hc : c < 256) {l : Nat} (hl : l ≤ 4) : ∀ (j n p a : Nat) (u : Bool), p + j = V 0 → bornF ag c j p = true → a + sumF ag c j p ≤ 3249 → f_X11_isByLaw_L8 (n + j + 1) 72 (nI c) (nI l) (nI a) (bI u) (nI p) (hpOf iv jv) = some (if lawN l (a + sumF ag c j p) (u && unlO ag c j p) then 1 else 0) := by
  have e0 : iv 73 0 = nI (V 0) := h.2.2.1
  have k := h.1.1
  intro j
  induction j with
  | zero =>
    intro n p s u e _ hs
    have hs' : s ≤ 3249 := hs
    have m10 : iR (nI s) 10 = nI (s % 10) := rem_n (m := 10) (by omega) (by decide) (by decide)
    have m7 : iR (nI s) 7 = nI (s % 7) := rem_n (m := 7) (by omega) (by decide) (by decide)
    have z10 : (nI (s % 10) = 0) = (s % 10 = 0) := by rw [← nI_0]; exact eq_nI (by omega) (by decide)
    have z7 : (nI (s % 7) = 0) = (s % 7 = 0) := by rw [← nI_0]; exact eq_nI (by omega) (by decide)
    rw [f_X11_isByLaw_L8, G_72_0, Option.bind_some, z73_0, Option.bind_some, e0, iteE (by omega) (by omega), if_pos (by omega), m10, m7, bI_0, sumF, unlO, Bool.and_true, Nat.add_zero]
    simp only [z10, z7]
    unfold lawN
    have L1 : ¬ nI 1 = 0 := by decide
    have L2 : ¬ nI 2 = 0 ∧ ¬ nI 2 = 1 := by decide
    have L3 : ¬ nI 3 = 0 ∧ ¬ nI 3 = 1 ∧ ¬ nI 3 = 2 := by decide
    have L4 : ¬ nI 4 = 0 ∧ ¬ nI 4 = 1 ∧ ¬ nI 4 = 2 ∧ ¬ nI 4 = 3 := by decide
    rcases (show l = 0 ∨ l = 1 ∨ l = 2 ∨ l = 3 ∨ l = 4 by omega) with rfl | rfl | rfl | rfl | rfl
    · rw [if_pos (show nI 0 = 0 by decide), if_pos (show (0 : Nat) = 0 from rfl)]
      by_cases c : s % 10 = 0 <;> simp [c]
    · rw [if_neg L1, if_pos (show nI 1 = 1 by decide), if_neg (show ¬ (1 : Nat) = 0 by decide), if_pos (show (1 : Nat) = 1 from rfl)]
      by_cases c : s % 7 = 0 <;> simp [c]
    · rw [if_neg L2.1, if_neg L2.2, if_pos (show nI 2 = 2 by decide), if_neg (show ¬ (2 : Nat) = 0 by decide), if_neg (show ¬ (2 : Nat) = 1 by decide), if_pos (show (2 : Nat) = 2 from rfl)]
      have := sq_m hs' (hpOf iv jv) 58 199941 0 (by omega)
      rw [show NN = 199941 + 58 + 1 from rfl, ← nI_0, this]; rfl
    · rw [if_neg L3.1, if_neg L3.2.1, if_neg L3.2.2, if_pos (show nI 3 = 3 by decide), if_neg (show ¬ (3 : Nat) = 0 by decide), if_neg (show ¬ (3 : Nat) = 1 by decide), if_neg (show ¬ (3 : Nat) = 2 by decide), if_pos (show (3 : Nat) = 3 from rfl)]
      cases u <;> rfl
    · rw [if_neg L4.1, if_neg L4.2.1, if_neg L4.2.2.1, if_neg L4.2.2.2, if_neg (show ¬ (4 : Nat) = 0 by decide), if_neg (show ¬ (4 : Nat) = 1 by decide), if_neg (show ¬ (4 : Nat) = 2 by decide), if_neg (show ¬ (4 : Nat) = 3 by decide)]
      by_cases c : s % 10 = 0 <;> cases u <;> simp [c]
  | succ j ih =>
    intro n p a u e hb hs
    rw [bornF, Bool.and_eq_true] at hb
    rw [sumF] at hs ⊢
    rw [show n + (j + 1) + 1 = (n + j + 1) + 1 by omega, f_X11_isByLaw_L8, G_72_0, Option.bind_some, z73_0, Option.bind_some, e0, iteE (by omega) (by omega), if_neg (by omega), hasI hc (by omega), nI_1, unlO]
    cases hb2 : c.testBit p
    · have uf : unlF ag c p p 0 = true := by
        have : ∀ j q, unlF ag c p j q = true := by
          intro j
          induction j with
          | zero => intro q; rfl
          | succ j ih => intro q; rw [unlF, ih, hb2]; rfl
        exact this p 0
      rw [hb2, if_neg (show ¬ false = true by decide), Nat.zero_add] at hs
      rw [if_neg (show ¬ false = true by decide), ih n (p + 1) a u (by omega) hb.2 hs, if_neg (show ¬ false = true by decide), Nat.zero_add, uf, Bool.true_and]
    · have hn : ag p ≠ 0 := by have := hb.1; rw [hb2] at this; simpa using this
      have := m_unlI (jv := jv) h ha hag hc (p := p) (by omega) hb2 (nI l) (nI (a + (ag p - 1))) (f_X11_isByLaw_L8 (n + j + 1)) p (199999 - p) 0 u (by omega)
      rw [show 199999 - p + p + 1 = NN by show _ = 200000; omega, nI_0] at this
      rw [hb2, if_pos rfl] at hs
      rw [if_pos rfl, G_72_13, Option.bind_some, a_79 _ _ (by omega), Option.bind_some, ha p (by omega), ag1 hn, nI_add, this, ih n (p + 1) _ _ (by omega) hb.2 (by omega), if_pos rfl, Nat.add_assoc, Bool.and_assoc]
theorem m_law (h : SR 1 73 iv V) (ha : MAg iv V ag) (hag : ∀ p, p < V 0 → ag p ≤ 400) (hc : c < 256) (hb : bornF ag c (V 0) 0 = true) {l : Nat} (hl : l ≤ 4) : f_X11_isByLaw 72 (nI c) (nI l) (hpOf iv jv) = some (if lawN l (sumF ag c (V 0) 0) (unlO ag c (V 0) 0) then 1 else 0) := by
  have k := h.1.1
  have sl := sum_le (V := V) (c := c) hag (V 0) 0 (by omega)
  have := m_lawL (jv := jv) h ha hag hc hl (V 0) (199999 - V 0) 0 0 true (by omega) hb (by omega)
  rw [show 199999 - V 0 + V 0 + 1 = NN by show _ = 200000; omega, nI_0, Nat.zero_add, Bool.true_and] at this
  exact this
def finM (V : Nat → Nat) (c g : Nat) (hp : PH) (b l t : Bool) : Option Int32 := if b then (if pcN c ≤ V (33 + g) then (if l then some 3 else if t then some 4 else (f_X11_isByLaw 72 (nI c) (nI (V (29 + g))) hp).bind fun q => (if q = 0 then (some 5) else (some 0))) else some 2) else some 1
theorem m_whyL (h : SR 1 73 iv V) (ha : MAg iv V ag) (hag : ∀ p, p < V 0 → ag p ≤ 400) (hc : c < 256) {g : Nat} (hg : g < V 1) : ∀ (j n p : Nat) (b l t : Bool), p + j = V 0 → f_X11_whyNot_L11 (n + j + 1) 72 (nI c) (nI g) (bI b) (bI l) (bI t) (nI p) (hpOf iv jv) = finM V c g (hpOf iv jv) (b && bornF ag c j p) (l || lackF V c j p) (t || apartF V c j p) := by
  have e0 : iv 73 0 = nI (V 0) := h.2.2.1
  have k := h.1.1
  have k1 := h.1.2.1
  intro j
  induction j with
  | zero =>
    intro n p b l t e
    have ks := h.1.2.2.2 g hg
    obtain ⟨e1, e2⟩ := h.2.2.2.2.2 g hg
    have pl := pc_le c
    rw [f_X11_whyNot_L11, G_72_0, Option.bind_some, z73_0, Option.bind_some, e0, iteE (by omega) (by omega), if_pos (by omega), pc_m c hc, Option.bind_some, Option.bind_some, show (33 : Int32) + nI g = nI (33 + g) by rw [show (33 : Int32) = nI 33 by decide, nI_add], a_73 _ _ (by omega), Option.bind_some, show (29 : Int32) + nI g = nI (29 + g) by rw [show (29 : Int32) = nI 29 by decide, nI_add], Option.bind_some, a_73 _ _ (by omega), Option.bind_some, V_72, e1, e2, iteE (by omega) (by omega), bI_0, bI_0, bI_0, bornF, lackF, apartF, Bool.and_true, Bool.or_false, Bool.or_false]
    unfold finM
    cases b
    · rfl
    · rfl
  | succ j ih =>
    intro n p b l t e
    obtain ⟨e5, e13, e21⟩ := h.2.2.2.2.1 p (by omega)
    obtain ⟨v0, v1, v2⟩ := h.1.2.2.1 p (by omega)
    have dl := dif_le (V (13 + p)) c
    have al : V (21 + p) &&& c ≤ V (21 + p) := Nat.and_le_left
    have b0 : (0 : Int32) = bI false := rfl
    have b1 : (1 : Int32) = bI true := rfl
    have y1 : (13 : Int32) + nI p = nI (13 + p) := by rw [show (13 : Int32) = nI 13 by decide, nI_add]
    have y2 : (21 : Int32) + nI p = nI (21 + p) := by rw [show (21 : Int32) = nI 21 by decide, nI_add]
    have j78 : ∀ s0 s1 : Bool, f_X11_whyNot_J78 (f_X11_whyNot_L11 (n + j + 1)) 72 (nI c) (nI g) (bI s0) (bI t) (nI p) (bI s1) (hpOf iv jv) = f_X11_whyNot_L11 (n + j + 1) 72 (nI c) (nI g) (bI s0) (bI s1) (bI (t || (V (21 + p) &&& c) != 0)) (nI (p + 1)) (hpOf iv jv) := by
      intro s0 s1
      unfold f_X11_whyNot_J78
      rw [bI_0, G_72_0, Option.bind_some, y2, a_73 _ _ (by omega), Option.bind_some, e21, nx_and, nI_0I (by omega), nI_1]
      cases t
      · by_cases z : V (21 + p) &&& c = 0
        · simp [z]; rfl
        · simp [z, show (V (21 + p) &&& c != 0) = true from bne_iff_ne.mpr z]; rfl
      · simp; rfl
    have j50 : ∀ s0 : Bool, f_X11_whyNot_J50 (f_X11_whyNot_L11 (n + j + 1)) 72 (nI c) (nI g) (bI l) (bI t) (nI p) (bI s0) (hpOf iv jv) = f_X11_whyNot_L11 (n + j + 1) 72 (nI c) (nI g) (bI s0) (bI (l || dif (V (13 + p)) c != 0)) (bI (t || (V (21 + p) &&& c) != 0)) (nI (p + 1)) (hpOf iv jv) := by
      intro s0
      unfold f_X11_whyNot_J50
      rw [bI_0, G_72_0, Option.bind_some, y1, a_73 _ _ (by omega), Option.bind_some, e13, dif_n, nI_0I (by omega), b0, b1, j78, j78]
      cases l
      · by_cases z : dif (V (13 + p)) c = 0
        · simp [z]
        · simp [z, show (dif (V (13 + p)) c != 0) = true from bne_iff_ne.mpr z]
      · simp
    rw [show n + (j + 1) + 1 = (n + j + 1) + 1 by omega, f_X11_whyNot_L11, G_72_0, Option.bind_some, z73_0, Option.bind_some, e0, iteE (by omega) (by omega), if_neg (by omega), hasI hc (by omega), nI_1, bI_0, G_72_13, Option.bind_some, a_79 _ _ (by omega), Option.bind_some, ha p (by omega), b0, b1, j50, j50, ih n (p + 1) _ _ _ (by omega), ih n (p + 1) _ _ _ (by omega), ih n (p + 1) _ _ _ (by omega), bornF, lackF, apartF]
    have an := ag_neg (n := ag p) (by have := hag p (by omega); omega)
    have an2 : (nI (ag p) - bI true < bI false) = (ag p = 0) := by
      refine propext ⟨fun q => ?_, fun q => ?_⟩
      · by_cases z : ag p = 0
        · exact z
        · exact absurd q (Int32.not_lt.mpr (an.mpr z))
      · rw [q]; decide
    simp only [an2]
    cases hb : c.testBit p
    · simp
    · cases b
      · simp [Bool.or_assoc]
      · by_cases z : ag p = 0
        · simp [z, Bool.or_assoc]
        · simp [z, Bool.or_assoc, show (ag p != 0) = true from bne_iff_ne.mpr z]
theorem m_why (h : SR 1 73 iv V) (ha : MAg iv V ag) (hag : ∀ p, p < V 0 → ag p ≤ 400) (hc : c < 2 ^ V 0) {g : Nat} (hg : g < V 1) : f_X11_whyNot 72 (nI c) (nI g) (hpOf iv jv) = some (nI (whyN V ag g c)) := by
  have k := h.1.1
  have hc8 : c < 256 := Nat.lt_of_lt_of_le hc (pow8' k)
  have kl := (h.1.2.2.2 g hg).1
  have := m_whyL (jv := jv) h ha hag hc8 hg (V 0) (199999 - V 0) 0 true false false (by omega)
  rw [show 199999 - V 0 + V 0 + 1 = NN by show _ = 200000; omega, nI_0] at this
  show f_X11_whyNot_L11 NN 72 (nI c) (nI g) (bI true) (bI false) (bI false) 0 (hpOf iv jv) = _
  rw [this]
  unfold finM whyN lastN
  rw [Bool.true_and, Bool.false_or, Bool.false_or]
  cases hb : bornF ag c (V 0) 0
  · rfl
  · rw [if_pos rfl, if_pos rfl, m_law h ha hag hc8 hb kl, Option.bind_some]
    by_cases c1 : pcN c ≤ V (33 + g)
    · rw [if_pos c1, if_neg (show ¬ V (33 + g) < pcN c by omega)]
      cases lackF V c (V 0) 0
      · cases apartF V c (V 0) 0
        · cases lawN (V (29 + g)) (sumF ag c (V 0) 0) (unlO ag c (V 0) 0) <;> rfl
        · rfl
      · rfl
    · rw [if_neg c1, if_pos (show V (33 + g) < pcN c by omega)]; rfl
end WHYM
