/-! TENS, SPARE: the calls -/
theorem scr_j {iv : Nat → Nat → Int32} {jv jv' : Nat → Nat → Int64} (h : jv' 72 = jv 72) : Scr iv jv iv jv' := ⟨fun _ _ => rfl, rfl, rfl, by rw [h], by rw [h]⟩
theorem op_tens (a : Int32) : OpOK (f_X10_tens 0 a) (f_X11_tens 72 a) := by
  rintro hp ⟨iv, jv, V, W, Y, rfl, h1, h2, h3, h4⟩
  by_cases c : 0 ≤ a ∧ a ≤ 60
  · obtain ⟨k, hk, rfl⟩ := in01 (hi := 60) (by decide) c
    have g1 : ¬ nI k < 0 := Int32.not_lt.mpr c.1
    obtain ⟨j1, e1, e2, e3⟩ := c_cs (jv := jv) h2
    obtain ⟨j2, f1, f2, f3⟩ := m_ways (jv := j1) h2
    have s1 : Scr iv jv iv j1 := scr_j (e2 72 (by decide))
    have s2 : Scr iv j1 iv j2 := scr_j (f2 72 (by decide) (by decide))
    refine ⟨lN (tnN W 10 k 0), iv, j1, hpOf iv j2, ?_, ?_, (s1.trans s2).inv h1 h2 h3 h4⟩
    · have q := e3 k 0 hk (by decide)
      unfold f_X10_tens f_X9_setsOfTens
      rw [if_neg g1, if_pos c.2, G_0_7, Option.bind_some, V_66, e1, Option.bind_some]
      dsimp only
      rw [G_0_7, Option.bind_some, V_66, G_66_1, Option.bind_some, show (10 : Int32) = nI 10 by decide, pk_mul, a_67 iv j1 (by omega), Option.bind_some, Option.bind_some, show k * 10 = 10 * k + 0 by omega, q]
    · have q := f3 k 0 hk (by decide)
      unfold f_X11_tens
      rw [f_in (nI k) 0 60 (LO := 0) (HI := 60) (by decide) (by decide), if_pos c, if_neg (by decide), V_72, f1, Option.bind_some, G_72_25, Option.bind_some, show (10 : Int32) = nI 10 by decide, pk_mul, a_85 iv j2 (by omega), Option.bind_some, show 10 * k = 10 * k + 0 by omega, q]
  · refine ⟨Int32.toInt64 (-2), (up iv 0 11 (iv 0 11 + 1)), jv, hpOf (up (up iv 0 11 (iv 0 11 + 1)) 76 0 (iv 76 0 + 1)) jv, ?_, ?_, InvH.refuse h1 h2 h3 h4 0 (by decide)⟩
    · unfold f_X10_tens
      rw [V_0, c_bad, Option.bind_some]
      by_cases g1 : a < 0
      · rw [if_pos g1]
      · rw [if_neg g1, if_neg (fun h => c ⟨nlt g1, h⟩)]
    · unfold f_X11_tens
      rw [f_in a 0 60 (LO := 0) (HI := 60) (by decide) (by decide), if_neg c, if_pos rfl, V_72, m_bad, Option.bind_some, up_ne (k := 0) (a := 76) iv _ _ (by decide)]
def spF (f : Nat → Nat → Nat) (all : Nat) : Nat → Nat
  | 0 => all
  | k + 1 => if f (k + 1) 0 = 0 then spF f all k else all - (k + 1)
theorem cmp_le0 {v : Nat} (hv : v < 2 ^ 63) : lg_cmp (lN v) 0 ≤ 0 ↔ v = 0 := by
  rw [← Int32.not_lt, cmp_gt, show (0 : Int64) = lN 0 from rfl, pk_lLT (by decide) hv]
  omega
theorem cmp_eq0 {v : Nat} (hv : v < 2 ^ 63) : lg_cmp (lN v) 0 = 0 ↔ v = 0 := by
  rw [cmp_eq, show (0 : Int64) = lN 0 from rfl, pk_lEQ hv (by decide)]
theorem c_spL {iv : Nat → Nat → Int32} {jv : Nat → Nat → Int64} {f : Nat → Nat → Nat} {all : Nat} (ha : all ≤ 60) (hf : ∀ k s, f k s < 2 ^ 63) (hj : JR (jv 67) f) : ∀ (k n : Nat), k ≤ all → f_X10_spare_L10 (n + k + 1) 0 (nI all) (nI k) (hpOf iv jv) = some (nI (spF f all k), hpOf iv jv) := by
  intro k
  induction k with
  | zero =>
    intro n hk
    rw [f_X10_spare_L10, lt_1 (by omega), if_pos (by omega)]; rfl
  | succ k ih =>
    intro n hk
    have q := hj (k + 1) 0 (by omega) (by decide)
    rw [show n + (k + 1) + 1 = (n + k + 1) + 1 by omega, f_X10_spare_L10, lt_1 (by omega), if_neg (by omega), G_0_7, Option.bind_some, V_66, f_X9_setsOfTens, G_66_1, Option.bind_some, show (10 : Int32) = nI 10 by decide, pk_mul, a_67 iv jv (by omega), Option.bind_some, Option.bind_some, show (k + 1) * 10 = 10 * (k + 1) + 0 by omega, q, pk_m1, ih n (by omega), pk_sub hk, spF]
    by_cases c : f (k + 1) 0 = 0
    · rw [if_pos ((cmp_le0 (hf _ _)).mpr c), if_pos c]
    · rw [if_neg (fun h => c ((cmp_le0 (hf _ _)).mp h)), if_neg c]
theorem m_spL {iv : Nat → Nat → Int32} {jv : Nat → Nat → Int64} {f : Nat → Nat → Nat} {all : Nat} (ha : all ≤ 60) (hf : ∀ k s, f k s < 2 ^ 63) (hj : JR (jv 85) f) : ∀ (k n : Nat), k ≤ all → f_X11_spare_L34 (n + k + 1) 72 (nI all) (nI k) (hpOf iv jv) = some (nI (spF f all k), hpOf iv jv) := by
  intro k
  induction k with
  | zero =>
    intro n hk
    rw [f_X11_spare_L34, if_pos (by decide), pk_sub hk]; rfl
  | succ k ih =>
    intro n hk
    have q := hj (k + 1) 0 (by omega) (by decide)
    rw [show n + (k + 1) + 1 = (n + k + 1) + 1 by omega, f_X11_spare_L34, if_neg (nI_nle (by omega) (by omega)), G_72_25, Option.bind_some, show (10 : Int32) = nI 10 by decide, pk_mul, a_85 iv jv (by omega), Option.bind_some, show 10 * (k + 1) = 10 * (k + 1) + 0 by omega, q, pk_m1, ih n (by omega), pk_sub hk, spF]
    by_cases c : f (k + 1) 0 = 0
    · rw [if_pos ((cmp_eq0 (hf _ _)).mpr c), if_pos c]
    · rw [if_neg (fun h => c ((cmp_eq0 (hf _ _)).mp h)), if_neg c]
theorem m_spA {iv : Nat → Nat → Int32} {jv : Nat → Nat → Int64} {W : Nat → Nat} (h2 : SB 1 73 iv W) : ∀ (j n r : Nat), r + j = 10 → f_X11_spare_L8 (n + j + 1) 72 (nI (ppN W r)) (nI r) (hpOf iv jv) = f_X11_spare_L34 NN 72 (nI (ppN W 10)) (nI (ppN W 10)) (hpOf iv jv) := by
  intro j
  induction j with
  | zero =>
    intro n r e
    have er : r = 10 := by omega
    subst er
    rw [f_X11_spare_L8, if_pos (by decide)]
  | succ j ih =>
    intro n r e
    have b1 : iv 73 (37 + r) = nI (W (37 + r)) := h2.2.2.2.2 r (by omega)
    rw [show n + (j + 1) + 1 = (n + j + 1) + 1 by omega, f_X11_spare_L8, show (10 : Int32) = nI 10 by decide, iteE (by omega) (by omega), if_neg (by omega), G_72_0, Option.bind_some, show (37 : Int32) = nI 37 by decide, nI_add, a_73 iv jv (by omega), Option.bind_some, b1, nI_add, nI_1]
    exact ih n (r + 1) (by omega)
theorem op_spare : OpOK (f_X10_spare 0) (f_X11_spare 72) := by
  rintro hp ⟨iv, jv, V, W, Y, rfl, h1, h2, h3, h4⟩
  have p6 := pp_le h2.1 10 (Nat.le_refl _)
  obtain ⟨j1, e1, e2, e3⟩ := c_cs (jv := jv) h2
  obtain ⟨j2, f1, f2, f3⟩ := m_ways (jv := j1) h2
  have s1 : Scr iv jv iv j1 := scr_j (e2 72 (by decide))
  have s2 : Scr iv j1 iv j2 := scr_j (f2 72 (by decide) (by decide))
  have x1 := c_spL (iv := iv) (jv := j1) (all := ppN W 10) (by omega) (tn_v h2.1) e3 (ppN W 10) (199999 - ppN W 10) (Nat.le_refl _)
  have x2 := m_spL (iv := iv) (jv := j2) (all := ppN W 10) (by omega) (tn_v h2.1) f3 (ppN W 10) (199999 - ppN W 10) (Nat.le_refl _)
  have x3 := m_spA (iv := iv) (jv := j2) h2 10 (199999 - 10) 0 rfl
  rw [← NNj (by omega)] at x1 x2
  refine ⟨nI (spF (tnN W 10) (ppN W 10) (ppN W 10)), iv, j1, hpOf iv j2, ?_, ?_, (s1.trans s2).inv h1 h2 h3 h4⟩
  · unfold f_X10_spare
    rw [G_0_7, Option.bind_some, V_66, e1, Option.bind_some]
    exact x1
  · unfold f_X11_spare
    rw [V_72, f1, Option.bind_some]
    exact x3.trans x2
