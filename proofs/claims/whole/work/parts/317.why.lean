/-! WHY NOT: one answer for both sides -/
def bornF (ag : Nat → Nat) (c : Nat) : Nat → Nat → Bool
  | 0, _ => true
  | j + 1, p => (!c.testBit p || ag p != 0) && bornF ag c j (p + 1)
def wantF (V : Nat → Nat) (o c : Nat) : Nat → Nat → Nat
  | 0, _ => 0
  | j + 1, p => (if c.testBit p then V (o + p) else 0) ||| wantF V o c j (p + 1)
def lackF (V : Nat → Nat) (c : Nat) : Nat → Nat → Bool
  | 0, _ => false
  | j + 1, p => (c.testBit p && dif (V (13 + p)) c != 0) || lackF V c j (p + 1)
def apartF (V : Nat → Nat) (c : Nat) : Nat → Nat → Bool
  | 0, _ => false
  | j + 1, p => (c.testBit p && (V (21 + p) &&& c) != 0) || apartF V c j (p + 1)
def sumF (ag : Nat → Nat) (c : Nat) : Nat → Nat → Nat
  | 0, _ => 0
  | j + 1, p => (if c.testBit p then ag p - 1 else 0) + sumF ag c j (p + 1)
def unlF (ag : Nat → Nat) (c p : Nat) : Nat → Nat → Bool
  | 0, _ => true
  | j + 1, q => !(c.testBit p && c.testBit q && ag p == ag q) && unlF ag c p j (q + 1)
def unlO (ag : Nat → Nat) (c : Nat) : Nat → Nat → Bool
  | 0, _ => true
  | j + 1, p => unlF ag c p p 0 && unlO ag c j (p + 1)
def sqF (s : Nat) : Nat → Nat → Bool
  | 0, _ => false
  | j + 1, r => r * r == s || sqF s j (r + 1)
def lawN (l s : Nat) (u : Bool) : Bool := if l = 0 then s % 10 == 0 else if l = 1 then s % 7 == 0 else if l = 2 then sqF s 58 0 else if l = 3 then u else s % 10 == 0 && u
def lastN (V : Nat → Nat) (c g : Nat) : Nat := if V (33 + g) < pcN c then 2 else if lackF V c (V 0) 0 then 3 else if apartF V c (V 0) 0 then 4 else 0
def whyN (V : Nat → Nat) (ag : Nat → Nat) (g c : Nat) : Nat := if bornF ag c (V 0) 0 then (if lastN V c g = 0 then (if lawN (V (29 + g)) (sumF ag c (V 0) 0) (unlO ag c (V 0) 0) then 0 else 5) else lastN V c g) else 1
theorem or0 {a b : Nat} : a ||| b = 0 ↔ a = 0 ∧ b = 0 := by
  constructor
  · intro h
    have h1 : a ≤ a ||| b := Nat.left_le_or
    have h2 : b ≤ a ||| b := Nat.right_le_or
    omega
  · rintro ⟨rfl, rfl⟩; rfl
theorem dif_or (a b c : Nat) : dif (a ||| b) c = dif a c ||| dif b c := by
  unfold dif; rw [Nat.and_or_distrib_right]
theorem lack_w (V : Nat → Nat) (c : Nat) : ∀ j p, dif (wantF V 13 c j p) c = 0 ↔ lackF V c j p = false := by
  intro j
  induction j with
  | zero => intro p; simp [wantF, lackF, dif]
  | succ j ih =>
    intro p
    rw [wantF, lackF, dif_or, or0, ih]
    cases c.testBit p
    · simp [dif]
    · simp
theorem apart_w (V : Nat → Nat) (c : Nat) : ∀ j p, wantF V 21 c j p &&& c = 0 ↔ apartF V c j p = false := by
  intro j
  induction j with
  | zero => intro p; simp [wantF, apartF]
  | succ j ih =>
    intro p
    rw [wantF, apartF, Nat.and_or_distrib_right, or0, ih]
    cases c.testBit p
    · simp
    · simp
theorem last_le (V : Nat → Nat) (c g : Nat) : lastN V c g ≤ 4 := by
  unfold lastN; split
  · omega
  · split
    · omega
    · split <;> omega
theorem why_le (V ag : Nat → Nat) (g c : Nat) : whyN V ag g c ≤ 5 := by
  unfold whyN
  have := last_le V c g
  split
  · split
    · split <;> omega
    · omega
  · omega
theorem bornF_c {ag ag' : Nat → Nat} {c : Nat} (h : ∀ p, c.testBit p = true → ag p = ag' p) : ∀ j p, bornF ag c j p = bornF ag' c j p := by
  intro j
  induction j with
  | zero => intro p; rfl
  | succ j ih =>
    intro p
    rw [bornF, bornF, ih]
    cases hb : c.testBit p
    · simp
    · rw [h p hb]
theorem sumF_c {ag ag' : Nat → Nat} {c : Nat} (h : ∀ p, c.testBit p = true → ag p = ag' p) : ∀ j p, sumF ag c j p = sumF ag' c j p := by
  intro j
  induction j with
  | zero => intro p; rfl
  | succ j ih =>
    intro p
    rw [sumF, sumF, ih]
    cases hb : c.testBit p
    · simp
    · rw [h p hb]
theorem unlF_c {ag ag' : Nat → Nat} {c : Nat} (h : ∀ p, c.testBit p = true → ag p = ag' p) (p : Nat) : ∀ j q, unlF ag c p j q = unlF ag' c p j q := by
  intro j
  induction j with
  | zero => intro q; rfl
  | succ j ih =>
    intro q
    rw [unlF, unlF, ih]
    cases hb : c.testBit p
    · simp
    · cases hq : c.testBit q
      · simp
      · rw [h p hb, h q hq]
theorem unlO_c {ag ag' : Nat → Nat} {c : Nat} (h : ∀ p, c.testBit p = true → ag p = ag' p) : ∀ j p, unlO ag c j p = unlO ag' c j p := by
  intro j
  induction j with
  | zero => intro p; rfl
  | succ j ih =>
    intro p
    rw [unlO, unlO, ih, unlF_c h]
theorem why_c {V ag ag' : Nat → Nat} {c : Nat} (g : Nat) (h : ∀ p, c.testBit p = true → ag p = ag' p) : whyN V ag g c = whyN V ag' g c := by
  unfold whyN
  rw [bornF_c h, sumF_c h, unlO_c h]
theorem sq_no {s : Nat} : ∀ j r, s < r * r → sqF s j r = false := by
  intro j
  induction j with
  | zero => intro r _; rfl
  | succ j ih =>
    intro r h
    rw [sqF, ih (r + 1) (by rw [Nat.mul_add, Nat.add_mul]; omega)]
    simp; omega
theorem sq_c {s : Nat} (hs : s < 10000) : ∀ j n r, r + j = 58 → f_X3_isSquare_L2 (n + j + 1) (nI s) (nI r) = some (if sqF s j r then 1 else 0) := by
  intro j
  induction j with
  | zero =>
    intro n r e
    rw [f_X3_isSquare_L2, show (57 : Int32) = nI 57 by decide, iteL (by omega) (by omega), if_pos (by omega)]; rfl
  | succ j ih =>
    intro n r e
    have hr : r * r ≤ 58 * 58 := Nat.mul_le_mul (by omega) (by omega)
    rw [show n + (j + 1) + 1 = (n + j + 1) + 1 by omega, f_X3_isSquare_L2, show (57 : Int32) = nI 57 by decide, iteL (by omega) (by omega), if_neg (by omega), pk_mul, iteQ (by omega) (by omega), nI_1, sqF]
    by_cases c : r * r = s
    · rw [if_pos c]; simp [c]
    · rw [if_neg c, ih n (r + 1) (by omega)]; simp [c]
theorem sq_m {s : Nat} (hs : s ≤ 3249) (hp : PH) : ∀ j n r, r + j = 58 → f_X11_isByLaw_L157 (n + j + 1) (nI s) (nI r) hp = some (if sqF s j r then 1 else 0) := by
  intro j
  induction j with
  | zero =>
    intro n r e
    have er : r = 58 := by omega
    subst er
    rw [f_X11_isByLaw_L157, pk_mul, iteE (by omega) (by omega), if_pos (by omega), iteQ (by omega) (by omega), if_neg (by omega)]; rfl
  | succ j ih =>
    intro n r e
    have hr : r * r ≤ 58 * 58 := Nat.mul_le_mul (by omega) (by omega)
    rw [show n + (j + 1) + 1 = (n + j + 1) + 1 by omega, f_X11_isByLaw_L157, pk_mul, iteE (by omega) (by omega), iteQ (by omega) (by omega), nI_1]
    by_cases c : s ≤ r * r
    · rw [if_pos c]
      by_cases c2 : r * r = s
      · rw [if_pos c2, sqF]; simp [c2]
      · rw [if_neg c2, sqF, sq_no j (r + 1) (by rw [Nat.mul_add, Nat.add_mul]; omega)]; simp [c2]
    · rw [if_neg c, ih n (r + 1) (by omega), sqF]; simp [show ¬ r * r = s by omega]
section WHY
variable {iv : Nat → Nat → Int32} {jv : Nat → Nat → Int64} {V ag : Nat → Nat} {c : Nat}
theorem bitI (hc : c < 256) {p : Nat} (hp : p < 8) {α : Type} {x y : α} : (if iS (nI c) (nI p) &&& 1 = 0 then x else y) = if c.testBit p then y else x := by
  rw [bitAt (by omega) (by omega)]
  cases c.testBit p
  · rfl
  · rfl
theorem hasI (hc : c < 256) {p : Nat} (hp : p < 8) {α : Type} {x y : α} : (if f_X11_has (nI c) (nI p) = 0 then x else y) = if c.testBit p then y else x := by
  rw [hasN (by omega) (by omega)]
  cases c.testBit p
  · rfl
  · rfl
theorem want_lt (h : SR 1 73 iv V) (o : Nat) (ho : o = 13 ∨ o = 21) : ∀ j p, p + j = V 0 → wantF V o c j p < 256 := by
  intro j
  induction j with
  | zero => intro p _; simp [wantF]
  | succ j ih =>
    intro p e
    have k := h.1.2.2.1 p (by omega)
    rw [wantF]
    refine or_lt (n := 8) ?_ (ih (p + 1) (by omega))
    split
    · rcases ho with rfl | rfl
      · exact k.2.1
      · exact k.2.2
    · decide
theorem nI_0I {n : Nat} (h : n < 2 ^ 31) {α : Type} {x y : α} : (if nI n = 0 then x else y) = if n = 0 then x else y := by
  rw [← nI_0, iteQ h (by decide)]
theorem c_lastL (h : SR 1 73 iv V) (hc : c < 256) : ∀ (j n p a b : Nat), p + j = V 0 → a < 256 → b < 256 → f_X3_lastingReason_L26 (n + j + 1) 60 (nI c) (nI a) (nI b) (nI p) (hpOf iv jv) = some (if dif (a ||| wantF V 13 c j p) c = 0 then (if (b ||| wantF V 21 c j p) &&& c = 0 then 0 else 4) else 3) := by
  have e0 : iv 2 0 = nI (V 0) := h.2.1.1.1
  have k := h.1.1
  intro j
  induction j with
  | zero =>
    intro n p a b e ha hb
    have d1 := dif_le a c
    have d2 : b &&& c ≤ b := Nat.and_le_left
    rw [f_X3_lastingReason_L26, G_60_0, Option.bind_some, G_2_0, Option.bind_some, e0, iteE (by omega) (by omega), if_pos (by omega), dif_n, nx_and, nI_0I (by omega), nI_0I (by omega), wantF, wantF, Nat.or_zero, Nat.or_zero]
    split
    · split <;> rfl
    · rfl
  | succ j ih =>
    intro n p a b e ha hb
    obtain ⟨-, -, -, w1, w2⟩ := h.2.1.2.1 p (by omega)
    have w1' : iv 6 p = nI (V (13 + p)) := w1
    have w2' : iv 7 p = nI (V (21 + p)) := w2
    obtain ⟨-, v1, v2⟩ := h.1.2.2.1 p (by omega)
    rw [show n + (j + 1) + 1 = (n + j + 1) + 1 by omega, f_X3_lastingReason_L26, G_60_0, Option.bind_some, G_2_0, Option.bind_some, e0, iteE (by omega) (by omega), if_neg (by omega), bitI hc (by omega), nI_1, wantF, wantF]
    cases hb2 : c.testBit p
    · rw [if_neg (by decide), ih n (p + 1) a b (by omega) ha hb]
      simp
    · rw [if_pos rfl, Option.bind_some, G_2_5, Option.bind_some, a_6 _ _ (by omega), Option.bind_some, Option.bind_some, G_2_6, Option.bind_some, a_7 _ _ (by omega), Option.bind_some, w1', w2', nx_or, nx_or, ih n (p + 1) _ _ (by omega) (or_lt (n := 8) ha v1) (or_lt (n := 8) hb v2), Nat.or_assoc, Nat.or_assoc]
      rfl
theorem c_last (h : SR 1 73 iv V) (hc : c < 256) {g : Nat} (hg : g < V 1) : f_X3_lastingReason 60 (nI c) (nI g) (hpOf iv jv) = some (nI (lastN V c g)) := by
  have k := h.1.1
  have k1 := h.1.2.1
  have ks := h.1.2.2.2 g hg
  have e8 : iv 9 g = nI (V (33 + g)) := (h.2.1.2.2 g hg).2
  have pl := pc_le c
  unfold f_X3_lastingReason lastN
  rw [G_60_0, Option.bind_some, G_2_8, Option.bind_some, a_9 _ _ (by omega), Option.bind_some, pc_c c hc, e8, iteE (by omega) (by omega)]
  by_cases c1 : pcN c ≤ V (33 + g)
  · have := c_lastL (jv := jv) h hc (V 0) (199999 - V 0) 0 0 0 (by omega) (by decide) (by decide)
    rw [show (199999 - V 0) + V 0 + 1 = NN by show _ = 200000; omega, nI_0, Nat.zero_or, Nat.zero_or] at this
    rw [if_pos c1, this, if_neg (show ¬ V (33 + g) < pcN c by omega)]
    cases hl : lackF V c (V 0) 0
    · rw [if_pos ((lack_w V c _ _).mpr hl), if_neg (show ¬ false = true by decide)]
      cases ha : apartF V c (V 0) 0
      · rw [if_pos ((apart_w V c _ _).mpr ha), if_neg (show ¬ false = true by decide)]; rfl
      · rw [if_neg (show ¬ (wantF V 21 c (V 0) 0 &&& c) = 0 from fun q => by rw [(apart_w V c _ _).mp q] at ha; cases ha), if_pos rfl]; rfl
    · rw [if_neg (show ¬ dif (wantF V 13 c (V 0) 0) c = 0 from fun q => by rw [(lack_w V c _ _).mp q] at hl; cases hl), if_pos rfl]; rfl
  · rw [if_neg c1, if_pos (by omega)]; rfl
theorem ag1 {n : Nat} (h : n ≠ 0) : nI n - 1 = nI (n - 1) := by
  obtain ⟨m, rfl⟩ : ∃ m, n = m + 1 := ⟨n - 1, by omega⟩
  rw [nI_pred]; rfl
theorem sum_le (hag : ∀ p, p < V 0 → ag p ≤ 400) : ∀ j p, p + j = V 0 → sumF ag c j p ≤ 399 * j := by
  intro j
  induction j with
  | zero => intro p _; simp [sumF]
  | succ j ih =>
    intro p e
    have := ih (p + 1) (by omega)
    have := hag p (by omega)
    rw [sumF]
    split <;> omega
theorem c_sumL (h : SR 1 73 iv V) (ha : CAg iv V ag) (hc : c < 256) : ∀ (j n p a : Nat), p + j = V 0 → bornF ag c j p = true → f_X3_yearsTogether_L4 (n + j + 1) 60 (nI c) (nI a) (nI p) (hpOf iv jv) = some (nI (a + sumF ag c j p)) := by
  have e0 : iv 2 0 = nI (V 0) := h.2.1.1.1
  have k := h.1.1
  intro j
  induction j with
  | zero =>
    intro n p a e _
    rw [f_X3_yearsTogether_L4, G_60_0, Option.bind_some, G_2_0, Option.bind_some, e0, iteE (by omega) (by omega), if_pos (by omega)]; rfl
  | succ j ih =>
    intro n p a e hb
    rw [bornF, Bool.and_eq_true] at hb
    rw [show n + (j + 1) + 1 = (n + j + 1) + 1 by omega, f_X3_yearsTogether_L4, G_60_0, Option.bind_some, G_2_0, Option.bind_some, e0, iteE (by omega) (by omega), if_neg (by omega), bitI hc (by omega), nI_1, sumF]
    cases hb2 : c.testBit p
    · rw [if_neg (by decide), ih n (p + 1) a (by omega) hb.2, if_neg (by decide), Nat.zero_add]
    · have hn : ag p ≠ 0 := by have := hb.1; rw [hb2] at this; simpa using this
      rw [if_pos rfl, G_60_1, Option.bind_some, a_61 _ _ (by omega), Option.bind_some, ha.1 p (by omega), ag1 hn, nI_add, ih n (p + 1) _ (by omega) hb.2, if_pos rfl, Nat.add_assoc]
theorem bit2 (hc : c < 256) {p q : Nat} (hp : p < 8) (hq : q < 8) {α : Type} {x y : α} : (if (iS (nI c) (nI p) &&& iS (nI c) (nI q)) &&& 1 = 0 then x else y) = if (c.testBit p && c.testBit q) then y else x := by
  have e : (iS (nI c) (nI p) &&& iS (nI c) (nI q)) &&& 1 = nI (if (c.testBit p && c.testBit q) then 1 else 0) := by
    rw [iS_n (by omega) (by omega), iS_n (by omega) (by omega), nx_and, and1]
    congr 1
    have := tb_eq (c / 2 ^ p &&& c / 2 ^ q) 0
    rw [Nat.pow_zero, Nat.div_one, Nat.testBit_and, ← Nat.shiftRight_eq_div_pow, ← Nat.shiftRight_eq_div_pow, Nat.testBit_shiftRight, Nat.testBit_shiftRight, Nat.add_zero, Nat.add_zero] at this
    rw [← Nat.shiftRight_eq_div_pow, ← Nat.shiftRight_eq_div_pow]
    exact this
  rw [e]
  cases (c.testBit p && c.testBit q)
  · rfl
  · rfl
theorem ag_eq {m n : Nat} (hm : m ≤ 400) (hn : n ≤ 400) : (nI m - 1 = nI n - 1) = (m = n) := by
  refine propext ⟨fun h => ?_, fun h => by rw [h]⟩
  have h2 : nI m - 1 + 1 = nI n - 1 + 1 := by rw [h]
  rw [Int32.sub_add_cancel, Int32.sub_add_cancel] at h2
  exact (nI_eq (by omega) (by omega)).mp h2
theorem c_unlI (h : SR 1 73 iv V) (ha : CAg iv V ag) (hag : ∀ p, p < V 0 → ag p ≤ 400) (hc : c < 256) {p : Nat} (hp : p < V 0) (k2 : Nat → Int32 → Int32 → PH → Option Int32) : ∀ (j n q : Nat), q + j = p → f_X3_isUnlike_L15 k2 (n + j + 1) 60 (nI c) (nI p) (nI q) (hpOf iv jv) = if unlF ag c p j q then k2 60 (nI c) (nI (p + 1)) (hpOf iv jv) else some 0 := by
  have k := h.1.1
  intro j
  induction j with
  | zero =>
    intro n q e
    rw [f_X3_isUnlike_L15, iteE (by omega) (by omega), if_pos (by omega), nI_1]; rfl
  | succ j ih =>
    intro n q e
    rw [show n + (j + 1) + 1 = (n + j + 1) + 1 by omega, f_X3_isUnlike_L15, iteE (by omega) (by omega), if_neg (by omega), bit2 hc (by omega) (by omega), G_60_1, Option.bind_some, a_61 _ _ (by omega), Option.bind_some, Option.bind_some, a_61 _ _ (by omega), Option.bind_some, ha.1 p (by omega), ha.1 q (by omega), nI_1, ih n (q + 1) (by omega), unlF]
    simp only [ag_eq (hag p hp) (hag q (by omega))]
    cases c.testBit p <;> cases c.testBit q <;> by_cases e : ag p = ag q <;> simp [e]
theorem c_unlO (h : SR 1 73 iv V) (ha : CAg iv V ag) (hag : ∀ p, p < V 0 → ag p ≤ 400) (hc : c < 256) : ∀ (j n p : Nat), p + j = V 0 → f_X3_isUnlike_L2 (n + j + 1) 60 (nI c) (nI p) (hpOf iv jv) = some (if unlO ag c j p then 1 else 0) := by
  have e0 : iv 2 0 = nI (V 0) := h.2.1.1.1
  have k := h.1.1
  intro j
  induction j with
  | zero =>
    intro n p e
    rw [f_X3_isUnlike_L2, G_60_0, Option.bind_some, G_2_0, Option.bind_some, e0, iteE (by omega) (by omega), if_pos (by omega)]; rfl
  | succ j ih =>
    intro n p e
    have := c_unlI (jv := jv) h ha hag hc (p := p) (by omega) (f_X3_isUnlike_L2 (n + j + 1)) p (199999 - p) 0 (by omega)
    rw [show 199999 - p + p + 1 = NN by show _ = 200000; omega, nI_0] at this
    rw [show n + (j + 1) + 1 = (n + j + 1) + 1 by omega, f_X3_isUnlike_L2, G_60_0, Option.bind_some, G_2_0, Option.bind_some, e0, iteE (by omega) (by omega), if_neg (by omega), this, ih n (p + 1) (by omega), unlO]
    cases unlF ag c p p 0 <;> simp
theorem c_unl (h : SR 1 73 iv V) (ha : CAg iv V ag) (hag : ∀ p, p < V 0 → ag p ≤ 400) (hc : c < 256) : f_X3_isUnlike 60 (nI c) (hpOf iv jv) = some (if unlO ag c (V 0) 0 then 1 else 0) := by
  have e0 : iv 2 0 = nI (V 0) := h.2.1.1.1
  have k := h.1.1
  unfold f_X3_isUnlike
  rcases Nat.eq_zero_or_pos (V 0) with z | z
  · rw [show NN = 199999 + 1 from rfl, f_X3_isUnlike_L2, G_60_0, Option.bind_some, G_2_0, Option.bind_some, e0, z]
    rfl
  · obtain ⟨m, hm⟩ : ∃ m, V 0 = m + 1 := ⟨V 0 - 1, by omega⟩
    have := c_unlO (jv := jv) h ha hag hc m (199999 - m) 1 (by omega)
    rw [show 199999 - m + m + 1 = NN by show _ = 200000; omega, show nI 1 = 1 by decide] at this
    rw [this, hm, unlO]; rfl
theorem rem_n {s m : Nat} (hs : s < 2 ^ 31) (h0 : 0 < m) (hm : m < 2 ^ 31) : iR (nI s) (nI m) = nI (s % m) := pk_rem hs h0 hm
theorem c_law (h : SR 1 73 iv V) (ha : CAg iv V ag) (hag : ∀ p, p < V 0 → ag p ≤ 400) (hc : c < 256) (hb : bornF ag c (V 0) 0 = true) {l : Nat} (hl : l ≤ 4) : f_X3_isLawful 60 (nI c) (nI l) (hpOf iv jv) = some (if lawN l (sumF ag c (V 0) 0) (unlO ag c (V 0) 0) then 1 else 0) := by
  have k := h.1.1
  have hs : f_X3_yearsTogether 60 (nI c) (hpOf iv jv) = some (nI (sumF ag c (V 0) 0)) := by
    unfold f_X3_yearsTogether
    have := c_sumL (jv := jv) h ha hc (V 0) (199999 - V 0) 0 0 (by omega) hb
    rw [show 199999 - V 0 + V 0 + 1 = NN by show _ = 200000; omega, nI_0, Nat.zero_add] at this
    exact this
  have sl := sum_le (V := V) (c := c) hag (V 0) 0 (by omega)
  generalize sumF ag c (V 0) 0 = s at *
  have hu := c_unl (jv := jv) h ha hag hc
  generalize unlO ag c (V 0) 0 = u at *
  have m10 : iR (nI s) 10 = nI (s % 10) := rem_n (m := 10) (by omega) (by decide) (by decide)
  have m7 : iR (nI s) 7 = nI (s % 7) := rem_n (m := 7) (by omega) (by decide) (by decide)
  unfold f_X3_isLawful lawN
  rw [V_60, V_60, hs, hu, Option.bind_some, Option.bind_some, Option.bind_some, Option.bind_some, Option.bind_some, m10, m7]
  have z10 : (nI (s % 10) = 0) = (s % 10 = 0) := by rw [← nI_0]; exact eq_nI (by omega) (by decide)
  have z7 : (nI (s % 7) = 0) = (s % 7 = 0) := by rw [← nI_0]; exact eq_nI (by omega) (by decide)
  simp only [z10, z7]
  have L1 : ¬ nI 1 = 0 := by decide
  have L2 : ¬ nI 2 = 0 ∧ ¬ nI 2 = 1 := by decide
  have L3 : ¬ nI 3 = 0 ∧ ¬ nI 3 = 1 ∧ ¬ nI 3 = 2 := by decide
  have L4 : ¬ nI 4 = 0 ∧ ¬ nI 4 = 1 ∧ ¬ nI 4 = 2 ∧ ¬ nI 4 = 3 := by decide
  rcases (show l = 0 ∨ l = 1 ∨ l = 2 ∨ l = 3 ∨ l = 4 by omega) with rfl | rfl | rfl | rfl | rfl
  · rw [if_pos (show nI 0 = 0 by decide), if_pos (show (0 : Nat) = 0 from rfl)]
    by_cases c : s % 10 = 0 <;> simp [c]
  · rw [if_neg L1, if_pos (show nI 1 = 1 by decide), if_neg (show ¬ (1 : Nat) = 0 by decide), if_pos (show (1 : Nat) = 1 from rfl)]
    by_cases c : s % 7 = 0 <;> simp [c]
  · rw [if_neg L2.1, if_neg L2.2, if_pos (show nI 2 = 2 by decide), if_neg (show ¬ (2 : Nat) = 0 by decide), if_neg (show ¬ (2 : Nat) = 1 by decide), if_pos (show (2 : Nat) = 2 from rfl)]
    have := sq_c (s := s) (by omega) 58 199941 0 (by omega)
    unfold f_X3_isSquare
    rw [show NN = 199941 + 58 + 1 from rfl, ← nI_0, this, Option.bind_some, zRi]; rfl
  · rw [if_neg L3.1, if_neg L3.2.1, if_neg L3.2.2, if_pos (show nI 3 = 3 by decide), if_neg (show ¬ (3 : Nat) = 0 by decide), if_neg (show ¬ (3 : Nat) = 1 by decide), if_neg (show ¬ (3 : Nat) = 2 by decide), if_pos (show (3 : Nat) = 3 from rfl), zRi]
  · rw [if_neg L4.1, if_neg L4.2.1, if_neg L4.2.2.1, if_neg L4.2.2.2, if_neg (show ¬ (4 : Nat) = 0 by decide), if_neg (show ¬ (4 : Nat) = 1 by decide), if_neg (show ¬ (4 : Nat) = 2 by decide), if_neg (show ¬ (4 : Nat) = 3 by decide)]
    by_cases c : s % 10 = 0 <;> cases u <;> simp [c]
theorem born_w (hc : c < 2 ^ V 0) : (c &&& unb ag (V 0)) = 0 ↔ bornF ag c (V 0) 0 = true := by
  have key : ∀ j p, bornF ag c j p = true ↔ ∀ i, p ≤ i → i < p + j → c.testBit i = true → ag i ≠ 0 := by
    intro j
    induction j with
    | zero => intro p; simp [bornF]; omega
    | succ j ih =>
      intro p
      rw [bornF, Bool.and_eq_true, ih]
      constructor
      · rintro ⟨h1, h2⟩ i hi hj hb
        by_cases e : i = p
        · subst e; rw [hb] at h1; simpa using h1
        · exact h2 i (by omega) (by omega) hb
      · intro hh
        refine ⟨?_, fun i hi hj hb => hh i (by omega) (by omega) hb⟩
        cases hb : c.testBit p
        · rfl
        · simpa using hh p (by omega) (by omega) hb
  rw [key]
  constructor
  · intro hz i _ hi hb ha
    have : (c &&& unb ag (V 0)).testBit i = true := by
      rw [Nat.testBit_and, unb_bit, hb]; simp [ha]; omega
    rw [hz, Nat.zero_testBit] at this
    cases this
  · intro hh
    apply tb_ext
    intro i
    rw [Nat.testBit_and, unb_bit, Nat.zero_testBit]
    cases hb : c.testBit i
    · rfl
    · have := hh i (by omega) (by have := tb_lt hc hb; omega) hb
      simp [this]
theorem c_reason (h : SR 1 73 iv V) (ha : CAg iv V ag) (hag : ∀ p, p < V 0 → ag p ≤ 400) (hc : c < 2 ^ V 0) {g : Nat} (hg : g < V 1) : f_X3_reason 60 (nI c) (nI g) (hpOf iv jv) = some (nI (whyN V ag g c)) := by
  have k := h.1.1
  have hc8 : c < 256 := Nat.lt_of_lt_of_le hc (pow8' k)
  have k1 := h.1.2.1
  have kl := (h.1.2.2.2 g hg).1
  have e7 : iv 8 g = nI (V (29 + g)) := (h.2.1.2.2 g hg).1
  have d2 : c &&& unb ag (V 0) ≤ c := Nat.and_le_left
  have ll := last_le V c g
  unfold f_X3_reason whyN
  rw [G_60_2, Option.bind_some, ha.2, nx_and, nI_0I (by omega), V_60, c_last h hc8 hg, Option.bind_some, nI_0I (by omega)]
  cases hb : bornF ag c (V 0) 0
  · rw [if_neg (fun q => by rw [(born_w hc).mp q] at hb; cases hb), if_neg (by decide)]; rfl
  · rw [if_pos ((born_w hc).mpr hb), if_pos rfl, G_60_0, Option.bind_some, G_2_7, Option.bind_some, a_8 _ _ (by omega), Option.bind_some, V_60, e7, c_law h ha hag hc8 hb kl, Option.bind_some]
    by_cases z : lastN V c g = 0
    · rw [if_pos z, if_pos z]
      cases lawN (V (29 + g)) (sumF ag c (V 0) 0) (unlO ag c (V 0) 0) <;> rfl
    · rw [if_neg z, if_neg z]
end WHY
