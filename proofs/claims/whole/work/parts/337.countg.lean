/-! FITS: countFrom -/
def FXo (iv : Nat → Nat → Int32) (fo fr : Nat) : Prop := (∀ o, o < 5 → (nI o = iv 68 4 ↔ o = fo)) ∧ (fo < 5 → iv 68 5 = nI fr ∧ fr < 10)
def FST (Y : Nat → Nat) (fo fr a o : Nat) (iv : Nat → Nat → Int32) : Prop := SP 1 73 iv Y ∧ FIG iv a o ∧ (∀ i, i < 5 → iv 70 i = nI (undN Y i)) ∧ FXo iv fo fr
def FRo (o : Nat) (iv iv' : Nat → Nat → Int32) : Prop := (∀ c, c ≠ 69 → c ≠ 71 → iv' c = iv c) ∧ (∀ i, i < o → iv' 69 i = iv 69 i) ∧ ∀ i, i < 10 * o → iv' 71 i = iv 71 i
theorem FRo.refl (o : Nat) (iv : Nat → Nat → Int32) : FRo o iv iv := ⟨fun _ _ _ => rfl, fun _ _ => rfl, fun _ _ => rfl⟩
theorem FRo.trans {o : Nat} {iv iv' iv'' : Nat → Nat → Int32} (h : FRo o iv iv') (g : FRo o iv' iv'') : FRo o iv iv'' :=
  ⟨fun c a b => by rw [g.1 c a b, h.1 c a b], fun i hi => by rw [g.2.1 i hi, h.2.1 i hi], fun i hi => by rw [g.2.2 i hi, h.2.2 i hi]⟩
theorem FRo.scr {o : Nat} {iv iv' : Nat → Nat → Int32} {jv : Nat → Nat → Int64} (h : FRo o iv iv') : Scr iv jv iv' jv := scr_fr (fun k hk => h.1 k (by omega) (by omega))
theorem FST.fr {Y : Nat → Nat} {fo fr a o : Nat} {iv iv' : Nat → Nat → Int32} (h : FST Y fo fr a o iv) (g : FRo o iv iv') : FST Y fo fr a o iv' := by
  obtain ⟨h1, h2, h3, h4⟩ := h
  refine ⟨(g.scr (jv := fun _ _ => 0)).sp h1, fun i hi => by rw [g.2.1 i hi]; exact h2 i hi, fun i hi => by rw [g.1 70 (by decide) (by decide)]; exact h3 i hi, ?_⟩
  unfold FXo
  rw [g.1 68 (by decide) (by decide)]; exact h4
theorem c_freeL {iv : Nat → Nat → Int32} {jv : Nat → Nat → Int64} {fo fr : Nat} (hx : FXo iv fo fr) : ∀ (k N o x : Nat), o + k = 5 → f_X2_freeWays_L4 (N + k + 1) 68 (nI x) (nI o) (hpOf iv jv) = some (nI (x * fwF fo k o)) := by
  intro k
  induction k with
  | zero =>
    intro N o x e
    rw [f_X2_freeWays_L4, show (5 : Int32) = nI 5 by decide, iteE (by omega) (by omega), if_pos (by omega), fwF, Nat.mul_one]
  | succ k ih =>
    intro N o x e
    rw [show N + (k + 1) + 1 = (N + k + 1) + 1 by omega, f_X2_freeWays_L4, show (5 : Int32) = nI 5 by decide, iteE (by omega) (by omega), if_neg (by omega), G_68_4, Option.bind_some, nI_1, show nI x * 1 = nI (x * 1) from pk_mul x 1, show nI x * 10 = nI (x * 10) from pk_mul x 10, ih N (o + 1) _ (by omega), ih N (o + 1) _ (by omega), fwF]
    by_cases c : o = fo
    · rw [if_pos ((hx.1 o (by omega)).mpr c), if_pos c, Nat.mul_one, Nat.one_mul]
    · rw [if_neg (fun h => c ((hx.1 o (by omega)).mp h)), if_neg c, Nat.mul_assoc]
theorem c_free {iv : Nat → Nat → Int32} {jv : Nat → Nat → Int64} {fo fr k o : Nat} (hx : FXo iv fo fr) (e : o + k = 5) : f_X2_freeWays 68 (nI o) (hpOf iv jv) = some (nI (fwF fo k o)) := by
  have := c_freeL (jv := jv) hx k (199999 - k) o 1 e
  rw [← NNj (by omega), Nat.one_mul] at this
  exact this
/-- what countFrom is to answer, with k UNTOLD to come -/
def RCf (Y : Nat → Nat) (jv : Nat → Nat → Int64) (fo fr k o : Nat) (rc : Nat → Int32 → Int32 → PH → Option (Int32 × PH)) : Prop := ∀ (a w : Nat) (iv : Nat → Nat → Int32), a % 10 ^ k = 0 → a + 10 ^ k ≤ 100000 → FST Y fo fr a o iv → w = wcN Y a o → (fo < o → figN a fo = fr) → ∃ iv', rc 68 (nI o) (nI w) (hpOf iv jv) = some (nI (cq (qfB Y fo fr) (10 ^ k) a), hpOf iv' jv) ∧ FRo o iv iv'
def WRo (Y : Nat → Nat) (a o : Nat) (iv : Nat → Nat → Int32) : Prop := ∀ r, r < 10 → iv 71 (10 * o + r) = nI (cq (wzB Y a o r) (Y 3) 0)
section CF
variable {jv : Nat → Nat → Int64} {Y : Nat → Nat} {fo fr : Nat}
theorem c_cb {k o a w r : Nat} {iv : Nat → Nat → Int32} {rc : Nat → Int32 → Int32 → PH → Option (Int32 × PH)} (hrc : RCf Y jv fo fr k (o + 1) rc) (e : o + k = 4) (ha : a % 10 ^ (k + 1) = 0) (hb : a + 10 ^ (k + 1) ≤ 100000) (hs : FST Y fo fr a o iv) (hw : w = wcN Y a o) (hf : fo < o → figN a fo = fr) (hr : r < 10) (hal : o = fo → r = fr) (hwr : WRo Y a o iv) : ∃ iv', f_X2_countBehind rc 68 (nI o) (nI r) (nI w) (hpOf iv jv) = some (nI (cq (qfB Y fo fr) (10 ^ k) (a + r * 10 ^ k)), hpOf iv' jv) ∧ FRo o iv iv' ∧ (∀ i, i < 10 * o + 10 → iv' 71 i = iv 71 i) ∧ iv' 69 o = nI r := by
  have pk := Nat.pow_pos (n := k) (show 0 < 10 by decide)
  obtain ⟨s1, s2, s3⟩ := sub_ok (r := r) (by omega) ha hb hr
  have lo : ∀ i, i < o → figN (a + r * 10 ^ k) i = figN a i := fun i hi => fig_low ha (by omega) (by omega) (by omega)
  have at_ : figN (a + r * 10 ^ k) o = r := fig_at e ha hr (Nat.le_refl _) (by omega)
  have h0 : FRo o iv (up iv 69 o (nI r)) := ⟨fun c x _ => up_ne _ _ _ x, fun i hi => up_in _ _ (by omega), fun i _ => by rw [up_ne _ _ _ (by decide)]⟩
  obtain ⟨t1, t2, t3, t4⟩ := hs.fr h0
  have st : FST Y fo fr (a + r * 10 ^ k) (o + 1) (up iv 69 o (nI r)) := by
    refine ⟨t1, fun i hi => ?_, t3, t4⟩
    by_cases c : i = o
    · rw [c, up_at, at_]
    · rw [t2 i (by omega), lo i (by omega)]
  have ws := wc_step hs.1.1 (by omega) hr lo at_
  have k3 := hs.1.1.1
  have wl : cq (wzB Y a o r) (Y 3) 0 ≤ Y 3 := cq_le _ _ _
  obtain ⟨iv', g1, g2⟩ := hrc (a + r * 10 ^ k) (w + cq (wzB Y a o r) (Y 3) 0) (up iv 69 o (nI r)) s1 s2 st (by rw [ws, hw]) (fun h => by
    by_cases c : fo = o
    · rw [c, at_]; exact hal c.symm
    · rw [lo fo (by omega)]; exact hf (by omega))
  refine ⟨iv', ?_, h0.trans ⟨g2.1, fun i hi => g2.2.1 i (by omega), fun i hi => g2.2.2 i (by omega)⟩, fun i hi => by rw [g2.2.2 i (by omega), up_ne _ _ _ (by decide)], by rw [g2.2.1 o (by omega), up_at]⟩
  unfold f_X2_countBehind
  rw [G_68_1, Option.bind_some, u_69 iv jv (by omega), Option.bind_some, G_68_3, Option.bind_some, show nI o * 10 = nI (o * 10) from pk_mul o 10, nI_add, a_71 _ jv (by omega), Option.bind_some, up_ne _ _ _ (by decide), Nat.mul_comm o 10, hwr r hr, nI_add, nI_1, V_68, g1, Option.bind_some]
theorem c_cfL {k o a w : Nat} {rc : Nat → Int32 → Int32 → PH → Option (Int32 × PH)} (hrc : RCf Y jv fo fr k (o + 1) rc) (e : o + k = 4) (ha : a % 10 ^ (k + 1) = 0) (hb : a + 10 ^ (k + 1) ≤ 100000) (hw : w = wcN Y a o) (hf : fo < o → figN a fo = fr) : ∀ (jj N r acc : Nat) (iv : Nat → Nat → Int32), r + jj = 10 → FST Y fo fr a o iv → WRo Y a o iv → ∃ iv', f_X2_countFrom_L52 rc (N + jj + 1) 68 (nI o) (nI w) (nI acc) (nI r) (hpOf iv jv) = some (nI (acc + csum (fun r => cq (qfB Y fo fr) (10 ^ k) (a + r * 10 ^ k)) jj r), hpOf iv' jv) ∧ FRo o iv iv' := by
  intro jj
  induction jj with
  | zero =>
    intro N r acc iv er hs hwr
    refine ⟨iv, ?_, FRo.refl _ _⟩
    rw [f_X2_countFrom_L52, show (10 : Int32) = nI 10 by decide, iteE (by omega) (by omega), if_pos (by omega), csum, Nat.add_zero]
  | succ jj ih =>
    intro N r acc iv er hs hwr
    have hx := hs.2.2.2
    have go : (o = fo → r = fr) → ∃ iv', f_X2_countFrom_J76 rc (f_X2_countFrom_L52 rc (N + jj + 1)) 68 (nI o) (nI w) (nI acc) (nI r) (hpOf iv jv) = some (nI (acc + csum (fun r => cq (qfB Y fo fr) (10 ^ k) (a + r * 10 ^ k)) (jj + 1) r), hpOf iv' jv) ∧ FRo o iv iv' := by
      intro hal
      obtain ⟨iv1, e1, e2, e3, -⟩ := c_cb hrc e ha hb hs hw hf (by omega) hal hwr
      obtain ⟨iv2, g1, g2⟩ := ih N (r + 1) (acc + cq (qfB Y fo fr) (10 ^ k) (a + r * 10 ^ k)) iv1 (by omega) (hs.fr e2) (fun t ht => by rw [e3 _ (by omega)]; exact hwr t ht)
      refine ⟨iv2, ?_, e2.trans g2⟩
      rw [f_X2_countFrom_J76, V_68, e1, Option.bind_some]
      dsimp only
      rw [nI_add, nI_1, g1, csum, Nat.add_assoc]
    rw [show N + (jj + 1) + 1 = (N + jj + 1) + 1 by omega, f_X2_countFrom_L52, show (10 : Int32) = nI 10 by decide, iteE (by omega) (by omega), if_neg (by omega), G_68_4, Option.bind_some, G_68_5, Option.bind_some]
    by_cases c : o = fo
    · rw [if_pos ((hx.1 o (by omega)).mpr c)]
      obtain ⟨x5, xl⟩ := hx.2 (by omega)
      rw [x5, iteQ (by omega) (by omega)]
      by_cases c2 : r = fr
      · rw [if_pos c2]; exact go (fun _ => c2)
      · rw [if_neg c2, nI_1]
        obtain ⟨iv2, g1, g2⟩ := ih N (r + 1) acc iv (by omega) hs hwr
        refine ⟨iv2, ?_, g2⟩
        have z : cq (qfB Y fo fr) (10 ^ k) (a + r * 10 ^ k) = 0 := cq_0 _ _ (fun x a1 a2 => by
          unfold qfB fxB
          rw [decide_eq_false (show ¬ 5 ≤ fo by omega), ← c, fig_at e ha (by omega) a1 a2]
          simp [c2])
        rw [g1, csum, z, Nat.zero_add]
    · rw [if_neg (fun h => c ((hx.1 o (by omega)).mp h))]
      exact go (fun h => absurd h c)
theorem q_none {k o a : Nat} (e : o + k = 5) (ha : a % 10 ^ k = 0) (h : Y 4 < wcN Y a o) : cq (qfB Y fo fr) (10 ^ k) a = 0 := by
  refine cq_0 _ _ (fun x a1 a2 => ?_)
  have h1 := wr_ge Y x o
  rw [wc_low (fun i hi => fig_low ha a1 a2 (by omega))] at h1
  unfold qfB
  rw [fit_cq, decide_eq_false (by omega)]; rfl
theorem q_all {k o a : Nat} (e : o + k = 5) (ha : a % 10 ^ k = 0) (hb : a + 10 ^ k ≤ 100000) (hfr : fo < 5 → fr < 10) (hf : fo < o → figN a fo = fr) (h : wcN Y a o + undN Y o ≤ Y 4) : cq (qfB Y fo fr) (10 ^ k) a = fwF fo k o := by
  rw [← fx_all hfr k o a e ha hb hf]
  refine cq_c _ _ (fun x a1 a2 => ?_)
  have h1 := wr_und Y x o
  rw [wc_low (fun i hi => fig_low ha a1 a2 (by omega))] at h1
  unfold qfB
  rw [fit_cq, decide_eq_true (by omega)]; rfl
theorem c_cf : ∀ k o D, o + k = 5 → k < D → RCf Y jv fo fr k o (f_X2_countFrom D) := by
  intro k
  induction k with
  | zero =>
    intro o D e hD a w iv ha hb hs hw hf
    have eo : o = 5 := by omega
    subst eo
    obtain ⟨D, rfl⟩ : ∃ M, D = M + 1 := ⟨D - 1, by omega⟩
    have k3 := hs.1.1.1
    have k4 := hs.1.1.2.1
    have wl : w ≤ Y 3 := by rw [hw]; exact cq_le _ _ _
    have p4 : iv 13 1 = nI (Y 4) := hs.1.2.1.1.2.1
    refine ⟨iv, ?_, FRo.refl _ _⟩
    rw [f_X2_countFrom, f_X2_countFrom_body, G_68_0, Option.bind_some, G_13_1, Option.bind_some, p4, iteE (by omega) (by omega)]
    by_cases c : w ≤ Y 4
    · rw [if_pos c, if_pos (by decide), V_68, c_free (k := 0) hs.2.2.2 rfl, Option.bind_some, q_all (o := 5) rfl ha hb (fun h => (hs.2.2.2.2 h).2) hf ?_]
      have u5 : undN Y 5 = 0 := cq_0 _ _ (fun j _ hj => by
        have := (hs.1.1.2.2 j (by omega)).2.1
        unfold undB
        rw [show Y (47 + 3 * j) / 2 ^ 5 = 0 from Nat.div_eq_of_lt (by omega)]; rfl)
      rw [u5, ← hw]; exact c
    · rw [if_neg c, q_none (o := 5) rfl ha (by omega)]; rfl
  | succ k ih =>
    intro o D e hD a w iv ha hb hs hw hf
    obtain ⟨D, rfl⟩ : ∃ M, D = M + 1 := ⟨D - 1, by omega⟩
    have k3 := hs.1.1.1
    have k4 := hs.1.1.2.1
    have wl : w ≤ Y 3 := by rw [hw]; exact cq_le _ _ _
    have ul : undN Y o ≤ Y 3 := cq_le _ _ _
    have p4 : iv 13 1 = nI (Y 4) := hs.1.2.1.1.2.1
    rw [f_X2_countFrom, f_X2_countFrom_body, G_68_0, Option.bind_some, G_13_1, Option.bind_some, p4, iteE (by omega) (by omega)]
    by_cases c : w ≤ Y 4
    · rw [if_pos c, show (5 : Int32) = nI 5 by decide, iteE (by omega) (by omega), if_neg (by omega), G_68_2, Option.bind_some, a_70 iv jv (by omega), Option.bind_some, Option.bind_some, G_13_1, Option.bind_some, p4, hs.2.2.1 o (by omega), nI_add, iteL (by omega) (by omega)]
      by_cases c2 : Y 4 < w + undN Y o
      · rw [if_pos c2]
        obtain ⟨iv1, e1, e2, e3, e4⟩ := c_wf (jv := jv) (by omega) hs.1 hs.2.1
        have f1 : FRo o iv iv1 := ⟨fun c _ h => e2 c h, fun i _ => by rw [e2 69 (by decide)], fun i hi => e3 i (by omega)⟩
        obtain ⟨iv2, g1, g2⟩ := c_cfL (ih (o + 1) D (by omega) (by omega)) (by omega) ha hb hw hf 10 (199999 - 10) 0 0 iv1 rfl (hs.fr f1) e4
        refine ⟨iv2, ?_, f1.trans g2⟩
        rw [V_68, e1, Option.bind_some, cq_10]
        rw [Nat.zero_add] at g1
        exact g1
      · rw [if_neg c2, V_68, c_free (k := k + 1) hs.2.2.2 e, Option.bind_some]
        exact ⟨iv, by rw [q_all e ha hb (fun h => (hs.2.2.2.2 h).2) hf (by rw [← hw]; omega)], FRo.refl _ _⟩
    · rw [if_neg c]
      exact ⟨iv, by rw [q_none e ha (by omega)]; rfl, FRo.refl _ _⟩
end CF
