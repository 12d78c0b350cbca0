/-! THE CALENDAR -/
theorem fd_c : ∀ k, k < 403 → f_X1_firstDayOf (nI (1800 + k)) = nI (fdN (1800 + k)) := by decide +kernel
theorem fd_m : ∀ k, k < 403 → f_X11_yearBegin (nI (1800 + k)) = nI (fdN (1800 + k)) := by decide +kernel
theorem lp_c : ∀ k, k < 403 → f_X1_isLeap (nI (1800 + k)) = (if lpN (1800 + k) = true then 1 else 0) := by decide +kernel
theorem lp_m (a : Int32) : f_X11_isLeap a = f_X1_isLeap a := rfl
theorem fd_s : ∀ k, k < 402 → fdN (1800 + k + 1) = fdN (1800 + k) + 365 + (if lpN (1800 + k) = true then 1 else 0) := by decide +kernel
theorem fd_lt : ∀ k, k < 403 → fdN (1800 + k) < 150000 := by decide +kernel
theorem fd_0 : fdN 1800 = 0 := by decide +kernel
theorem fd_400 : fdN 2200 = 146097 := by decide +kernel
theorem fdc {y : Nat} (h : 1800 ≤ y) (h2 : y < 2203) : f_X1_firstDayOf (nI y) = nI (fdN y) := by
  have := fd_c (y - 1800) (by omega); rwa [show 1800 + (y - 1800) = y by omega] at this
theorem fdm {y : Nat} (h : 1800 ≤ y) (h2 : y < 2203) : f_X11_yearBegin (nI y) = nI (fdN y) := by
  have := fd_m (y - 1800) (by omega); rwa [show 1800 + (y - 1800) = y by omega] at this
theorem lpc {y : Nat} (h : 1800 ≤ y) (h2 : y < 2203) : f_X1_isLeap (nI y) = (if lpN y = true then 1 else 0) := by
  have := lp_c (y - 1800) (by omega); rwa [show 1800 + (y - 1800) = y by omega] at this
theorem fds {y : Nat} (h : 1800 ≤ y) (h2 : y < 2202) : fdN (y + 1) = fdN y + 365 + (if lpN y = true then 1 else 0) := by
  have := fd_s (y - 1800) (by omega); rwa [show 1800 + (y - 1800) = y by omega] at this
theorem fdl {y : Nat} (h : 1800 ≤ y) (h2 : y < 2203) : fdN y < 150000 := by
  have := fd_lt (y - 1800) (by omega); rwa [show 1800 + (y - 1800) = y by omega] at this
theorem fd_mono {x : Nat} (hx : 1800 ≤ x) : ∀ n, x + n < 2203 → fdN x ≤ fdN (x + n) := by
  intro n
  induction n with
  | zero => intro _; exact Nat.le_refl _
  | succ n ih =>
    intro h
    have h1 := ih (by omega)
    have h2 := fds (y := x + n) (by omega) (by omega)
    rw [show x + (n + 1) = x + n + 1 by omega]
    omega
theorem fd_le {x y : Nat} (hx : 1800 ≤ x) (h : x ≤ y) (hy : y < 2203) : fdN x ≤ fdN y := by
  have := fd_mono hx (y - x) (by omega); rwa [show x + (y - x) = y by omega] at this
theorem fd_q1 : ∀ q, q < 400 → fdN (1800 + q) ≤ 366 * q ∧ 366 * q + 365 < fdN (1800 + q + 3) := by decide +kernel
theorem yN_spec {d : Nat} (hd : d ≤ 146096) : 1800 ≤ yN d ∧ yN d ≤ 2199 ∧ fdN (yN d) ≤ d ∧ d < fdN (yN d + 1) := by
  obtain ⟨a1, a2⟩ := fd_q1 (d / 366) (by omega)
  have hy : 1800 ≤ yN d ∧ yN d ≤ 2201 ∧ fdN (yN d) ≤ d ∧ d < fdN (yN d + 1) := by
    unfold yN
    dsimp only
    by_cases c1 : fdN (1800 + d / 366 + 1) ≤ d
    · rw [if_pos c1]
      by_cases c2 : fdN (1800 + d / 366 + 2) ≤ d
      · rw [if_pos c2]; refine ⟨by omega, by omega, c2, ?_⟩; rw [show 1800 + d / 366 + 2 + 1 = 1800 + d / 366 + 3 by omega]; omega
      · rw [if_neg c2]; refine ⟨by omega, by omega, c1, ?_⟩; rw [show 1800 + d / 366 + 1 + 1 = 1800 + d / 366 + 2 by omega]; omega
    · rw [if_neg c1]; exact ⟨by omega, by omega, by omega, by omega⟩
  refine ⟨hy.1, ?_, hy.2.2⟩
  rcases Nat.lt_or_ge (yN d) 2200 with h | h
  · omega
  · have := fd_le (x := 2200) (by omega) h (by omega)
    rw [fd_400] at this; omega
theorem yN_uniq {d y : Nat} (hd : d ≤ 146096) (h1 : 1800 ≤ y) (h2 : y < 2202) (h3 : fdN y ≤ d) (h4 : d < fdN (y + 1)) : yN d = y := by
  obtain ⟨a1, a2, a3, a4⟩ := yN_spec hd
  rcases Nat.lt_trichotomy (yN d) y with h | h | h
  · have := fd_le (x := yN d + 1) (by omega) (show yN d + 1 ≤ y by omega) (by omega); omega
  · exact h
  · have := fd_le (x := y + 1) (by omega) (show y + 1 ≤ yN d by omega) (by omega); omega
theorem NN3 : NN = 199996 + 1 + 1 + 1 + 1 := rfl
theorem lt_nI {a b : Nat} (ha : a < 2 ^ 31) (hb : b < 2 ^ 31) : (nI a < nI b) = (a < b) := propext (nI_ltI ha hb)
theorem le_nI {a b : Nat} (ha : a < 2 ^ 31) (hb : b < 2 ^ 31) : (nI a ≤ nI b) = (a ≤ b) := propext (nI_leI ha hb)
theorem eq_nI {a b : Nat} (ha : a < 2 ^ 31) (hb : b < 2 ^ 31) : (nI a = nI b) = (a = b) := propext (nI_eq ha hb)
theorem iteL {α : Type} {a b : Nat} {x y : α} (ha : a < 2 ^ 31) (hb : b < 2 ^ 31) : (if nI a < nI b then x else y) = (if a < b then x else y) := by simp only [lt_nI ha hb]
theorem iteE {α : Type} {a b : Nat} {x y : α} (ha : a < 2 ^ 31) (hb : b < 2 ^ 31) : (if nI a ≤ nI b then x else y) = (if a ≤ b then x else y) := by simp only [le_nI ha hb]
theorem iteQ {α : Type} {a b : Nat} {x y : α} (ha : a < 2 ^ 31) (hb : b < 2 ^ 31) : (if nI a = nI b then x else y) = (if a = b then x else y) := by simp only [eq_nI ha hb]
theorem y0_nI {d : Nat} (hd : d ≤ 146096) : (1800 : Int32) + nI d / 366 = nI (1800 + d / 366) := by
  rw [show (366 : Int32) = nI 366 by decide, pk_div (by omega) (by decide) (by decide), show (1800 : Int32) = nI 1800 by decide, nI_add]
theorem c_yearOf {d : Nat} (hd : d ≤ 146096) : f_X1_yearOf (nI d) = some (nI (yN d)) := by
  unfold f_X1_yearOf
  have hq : d / 366 < 400 := by omega
  have b1 := fdl (y := 1800 + d / 366 + 1) (by omega) (by omega)
  have b2 := fdl (y := 1800 + d / 366 + 1 + 1) (by omega) (by omega)
  rw [y0_nI hd, NN3, f_X1_yearOf_L12, if_neg (by decide), nI_1, fdc (by omega) (by omega), iteL (by omega) (by omega)]
  unfold yN
  dsimp only
  by_cases c1 : fdN (1800 + d / 366 + 1) ≤ d
  · rw [if_neg (by omega), if_pos c1, f_X1_yearOf_L12, if_neg (by decide), nI_1, fdc (by omega) (by omega), iteL (by omega) (by omega)]
    by_cases c2 : fdN (1800 + d / 366 + 2) ≤ d
    · rw [if_neg (show ¬ d < fdN (1800 + d / 366 + 1 + 1) by rw [show 1800 + d / 366 + 1 + 1 = 1800 + d / 366 + 2 by omega]; omega), if_pos c2, f_X1_yearOf_L12, if_pos (by decide)]
    · rw [if_pos (show d < fdN (1800 + d / 366 + 1 + 1) by rw [show 1800 + d / 366 + 1 + 1 = 1800 + d / 366 + 2 by omega]; omega), if_neg c2]
  · rw [if_pos (by omega), if_neg c1]
theorem m_yearL {d : Nat} (hd : d ≤ 146096) : ∀ (k n : Nat), k ≤ 3 → 1800 + k ≤ yN d + k → f_X11_yearOf_L10 (n + k + 1) (nI d) (nI (yN d - k)) = some (nI (yN d)) ∨ yN d < 1800 + k := by
  obtain ⟨a1, a2, a3, a4⟩ := yN_spec hd
  intro k
  induction k with
  | zero =>
    intro n _ _
    refine Or.inl ?_
    rw [f_X11_yearOf_L10, Nat.sub_zero, show (2199 : Int32) = nI 2199 by decide, iteE (by omega) (by omega)]
    by_cases c : 2199 ≤ yN d
    · rw [if_pos c]
    · have b1 := fdl (y := yN d + 1) (by omega) (by omega)
      rw [if_neg c, nI_1, fdm (by omega) (by omega), iteL (by omega) (by omega), if_pos a4]
  | succ k ih =>
    intro n hk h
    rcases Nat.lt_or_ge (yN d) (1800 + (k + 1)) with c | c
    · exact Or.inr c
    · rcases ih n (by omega) (by omega) with r | r
      · refine Or.inl ?_
        have b1 := fdl (y := yN d - k) (by omega) (by omega)
        have b2 := fd_le (x := yN d - k) (y := yN d) (by omega) (by omega) (by omega)
        rw [show n + (k + 1) + 1 = (n + k + 1) + 1 by omega, f_X11_yearOf_L10, show (2199 : Int32) = nI 2199 by decide, iteE (by omega) (by omega), if_neg (by omega), nI_1, show yN d - (k + 1) + 1 = yN d - k by omega, fdm (by omega) (by omega), iteL (by omega) (by omega), if_neg (by omega)]
        exact r
      · omega
theorem m_yearOf {d : Nat} (hd : d ≤ 146096) : f_X11_yearOf (nI d) = some (nI (yN d)) := by
  obtain ⟨a1, a2, a3, a4⟩ := yN_spec hd
  unfold f_X11_yearOf
  rw [y0_nI hd]
  have hy : ∃ k, k ≤ 2 ∧ 1800 + d / 366 = yN d - k ∧ 1800 + k ≤ yN d := by
    unfold yN at a1 ⊢
    dsimp only at a1 ⊢
    by_cases c1 : fdN (1800 + d / 366 + 1) ≤ d
    · rw [if_pos c1]
      by_cases c2 : fdN (1800 + d / 366 + 2) ≤ d
      · rw [if_pos c2]; exact ⟨2, by omega, by omega, by omega⟩
      · rw [if_neg c2]; exact ⟨1, by omega, by omega, by omega⟩
    · rw [if_neg c1]; exact ⟨0, by omega, by omega, by omega⟩
  obtain ⟨k, hk, e, h⟩ := hy
  rw [e, show NN = (199999 - k) + k + 1 by show 200000 = _; omega]
  rcases m_yearL hd k (199999 - k) (by omega) (by omega) with r | r
  · exact r
  · omega
theorem plN_le {d : Nat} (hd : d ≤ 146096) : plN d ≤ 365 := by
  obtain ⟨a1, a2, a3, a4⟩ := yN_spec hd
  have h := fds (y := yN d) a1 (by omega)
  unfold plN
  dsimp only
  by_cases c : 59 ≤ d - fdN (yN d) ∧ lpN (yN d) = false
  · rw [if_pos c]
    rw [if_neg (by rw [c.2]; decide)] at h
    omega
  · rw [if_neg c]
    by_cases l : lpN (yN d) = true
    · rw [if_pos l] at h; omega
    · rw [if_neg l] at h
      omega
theorem c_placeOf {d : Nat} (hd : d ≤ 146096) : f_X1_placeOf (nI d) (nI (yN d)) = nI (plN d) := by
  obtain ⟨a1, a2, a3, a4⟩ := yN_spec hd
  have b1 := fdl (y := yN d) a1 (by omega)
  unfold f_X1_placeOf plN
  dsimp only
  rw [fdc a1 (by omega), pk_sub a3, show (59 : Int32) = nI 59 by decide, iteL (by omega) (by omega), lpc a1 (by omega)]
  by_cases c1 : d - fdN (yN d) < 59
  · rw [if_pos c1, if_neg (by omega)]
  · rw [if_neg c1]
    by_cases l : lpN (yN d) = true
    · rw [if_pos l, if_neg (by decide), if_neg (by rw [l]; simp)]
    · rw [if_neg l, if_pos rfl, if_pos ⟨by omega, by simpa using l⟩, nI_1]
