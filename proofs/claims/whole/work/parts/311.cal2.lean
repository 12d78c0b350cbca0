def mpN (m : Nat) : Nat := [0, 31, 60, 91, 121, 152, 182, 213, 244, 274, 305, 335, 366].getD (m - 1) 0
def moN (p : Nat) : Nat := 1 + (List.range 11).countP (fun k => decide (mpN (k + 2) ≤ p))
def daN (p : Nat) : Nat := p - mpN (moN p) + 1
def mlN (l : Bool) (m : Nat) : Nat := if m = 2 then (if l = true then 29 else 28) else if m = 4 ∨ m = 6 ∨ m = 9 ∨ m = 11 then 30 else 31
def smN (l : Bool) : Nat → Nat
  | 0 => 0
  | m + 1 => smN l m + (if m = 0 then 0 else mlN l m)
theorem mo_c : ∀ p, p < 366 → f_X1_monthOf (nI p) = some (nI (moN p)) := by decide +kernel
theorem pm_c : ∀ m, m < 14 → 1 ≤ m → f_X1_placeOfMonth (nI m) = some (nI (mpN m)) := by decide +kernel
theorem md_ok : ∀ p, p < 366 → 1 ≤ moN p ∧ moN p ≤ 12 ∧ mpN (moN p) ≤ p ∧ daN p ≤ 31 ∧ 1 ≤ daN p := by decide +kernel
theorem md_st : ∀ p, p < 365 → 32 * moN p + daN p < 32 * moN (p + 1) + daN (p + 1) := by decide +kernel
theorem ml_k : ∀ m, m < 14 → ∀ l : Bool, (if nI m = 2 then (if (if l = true then (1 : Int32) else 0) = 0 then (28) else (29)) else (if nI m = 4 then (30) else (if nI m = 6 then (30) else (if nI m = 9 then (30) else (if nI m = 11 then (30) else (31)))))) = nI (mlN l m) := by decide +kernel
theorem mlm {y m : Nat} (h : 1800 ≤ y) (h2 : y < 2203) (hm : m < 14) : f_X11_monthLong (nI y) (nI m) = nI (mlN (lpN y) m) := by
  unfold f_X11_monthLong
  rw [lp_m, lpc h h2]
  exact ml_k m hm (lpN y)
theorem ml_le (l : Bool) (m : Nat) : mlN l m ≤ 31 := by
  unfold mlN; split
  · split <;> omega
  · split <;> omega
def tkN (l : Bool) : Nat → Nat → Nat → Nat × Nat
  | 0, i, m => (m, i)
  | n + 1, i, m => if i < mlN l m then (m, i) else tkN l n (i - mlN l m) (m + 1)
theorem tk_ok : ∀ l : Bool, ∀ i, i < 366 → (l = true ∨ i < 365) → tkN l 12 i 1 = (moN (if 59 ≤ i ∧ l = false then i + 1 else i), daN (if 59 ≤ i ∧ l = false then i + 1 else i) - 1) ∧ (tkN l 12 i 1).2 < mlN l (tkN l 12 i 1).1 := by decide +kernel
theorem up_same {α : Type} {iv : Nat → Nat → α} {k j : Nat} {x : α} (h : iv k j = x) : up iv k j x = iv := by
  funext a
  unfold up
  by_cases e : a = k
  · subst e; rw [if_pos rfl]; funext b
    by_cases eb : b = j
    · subst eb; rw [if_pos rfl]; exact h.symm
    · rw [if_neg eb]
  · rw [if_neg e]
theorem up_up {α : Type} (iv : Nat → Nat → α) (k j : Nat) (x y : α) : up (up iv k j x) k j y = up iv k j y := by
  funext a
  unfold up
  by_cases e : a = k
  · subst e; simp only [if_true]; funext b
    by_cases eb : b = j
    · rw [if_pos eb, if_pos eb]
    · rw [if_neg eb, if_neg eb, if_neg eb]
  · rw [if_neg e, if_neg e, if_neg e]
theorem m_takeL {y : Nat} (h : 1800 ≤ y) (h2 : y < 2203) (jv : Nat → Nat → Int64) : ∀ (n N i m : Nat) (iv : Nat → Nat → Int32), m + n ≤ 13 → i < 1000 → iv 72 8 = nI y → iv 72 9 = nI m → (tkN (lpN y) n i m).2 < mlN (lpN y) (tkN (lpN y) n i m).1 →
    f_X11_takeApart_L23 (N + n + 1) 72 (nI i) (hpOf iv jv) = some (hpOf (up (up iv 72 9 (nI (tkN (lpN y) n i m).1)) 72 10 (nI ((tkN (lpN y) n i m).2 + 1))) jv) := by
  intro n
  induction n with
  | zero =>
    intro N i m iv hm hi e8 e9 hf
    have hf' : i < mlN (lpN y) m := hf
    have l := ml_le (lpN y) m
    rw [f_X11_takeApart_L23, G_72_8, Option.bind_some, G_72_9, Option.bind_some, e8, e9, mlm h h2 (by omega), iteL (by omega) (by omega), if_pos hf', nI_1, S_72_10, Option.bind_some]
    show _ = some (hpOf (up (up iv 72 9 (nI m)) 72 10 (nI (i + 1))) jv)
    rw [up_same e9]
  | succ n ih =>
    intro N i m iv hm hi e8 e9 hf
    have l := ml_le (lpN y) m
    rw [f_X11_takeApart_L23, G_72_8, Option.bind_some, G_72_9, Option.bind_some, e8, e9, mlm h h2 (by omega), iteL (by omega) (by omega)]
    by_cases c : i < mlN (lpN y) m
    · have ht : tkN (lpN y) (n + 1) i m = (m, i) := by rw [tkN, if_pos c]
      rw [if_pos c, nI_1, S_72_10, Option.bind_some, ht, up_same e9]
    · have ht : tkN (lpN y) (n + 1) i m = tkN (lpN y) n (i - mlN (lpN y) m) (m + 1) := by rw [tkN, if_neg c]
      rw [ht] at hf ⊢
      rw [if_neg c, Option.bind_some, Option.bind_some, Option.bind_some, nI_1, S_72_9, Option.bind_some, mlm h h2 (by omega), pk_sub (by omega), show N + (n + 1) = N + n + 1 by omega, ih N (i - mlN (lpN y) m) (m + 1) (up iv 72 9 (nI (m + 1))) (by omega) (by omega) (by rw [up_in _ _ (by decide)]; exact e8) (up_at _ _ _ _) hf, up_up]
theorem m_take {d : Nat} (hd : d ≤ 146096) (iv : Nat → Nat → Int32) (jv : Nat → Nat → Int64) : f_X11_takeApart 72 (nI d) (hpOf iv jv) = some (hpOf (up (up (up iv 72 8 (nI (yN d))) 72 9 (nI (moN (plN d)))) 72 10 (nI (daN (plN d)))) jv) := by
  obtain ⟨a1, a2, a3, a4⟩ := yN_spec hd
  have hs := fds a1 (by omega)
  have hlt : d - fdN (yN d) < 366 ∧ (lpN (yN d) = true ∨ d - fdN (yN d) < 365) := by
    by_cases l : lpN (yN d) = true
    · rw [if_pos l] at hs; exact ⟨by omega, Or.inl l⟩
    · rw [if_neg l] at hs; exact ⟨by omega, Or.inr (by omega)⟩
  obtain ⟨t1, t2⟩ := tk_ok (lpN (yN d)) (d - fdN (yN d)) hlt.1 hlt.2
  have hp : (if 59 ≤ d - fdN (yN d) ∧ lpN (yN d) = false then d - fdN (yN d) + 1 else d - fdN (yN d)) = plN d := rfl
  rw [hp] at t1
  have g := md_ok (plN d) (by have := plN_le hd; omega)
  unfold f_X11_takeApart
  rw [m_yearOf hd, Option.bind_some, S_72_8, Option.bind_some, G_72_8, Option.bind_some, S_72_9, Option.bind_some, up_at, fdm a1 (by omega), pk_sub a3, show NN = 199987 + 12 + 1 by rfl, m_takeL a1 (by omega) jv 12 199987 (d - fdN (yN d)) 1 _ (by omega) (by omega) (by rw [up_in _ _ (by decide), up_at]) (by rw [up_at]; decide) t2, t1, up_up]
  dsimp only
  rw [show daN (plN d) - 1 + 1 = daN (plN d) by omega]
theorem inDay (a : Int32) : f_X11_isDay a = some (if 0 ≤ a ∧ a ≤ 146096 then 1 else 0) := by
  unfold f_X11_isDay zR
  rw [f_in a 0 146096 (by decide) (by decide)]
  by_cases c : 0 ≤ a ∧ a ≤ 146096
  · rw [if_pos c, if_pos (Or.inr rfl)]
  · rw [if_neg c, if_pos (Or.inl rfl)]
theorem isDayC (a : Int32) : f_X1_isDay a = if 0 ≤ a ∧ a ≤ 146096 then 1 else 0 := by
  unfold f_X1_isDay
  by_cases c1 : a < 0
  · rw [if_pos c1, if_neg (fun h => Int32.not_lt.mpr h.1 c1)]
  · by_cases c2 : 146096 < a
    · rw [if_neg c1, if_pos c2, if_neg (fun h => Int32.not_lt.mpr h.2 c2)]
    · rw [if_neg c1, if_neg c2, if_pos ⟨nlt c1, nlt c2⟩]
theorem op_date (a b : Int32) : OpOK (f_X10_date 0 a b) (f_X11_date 72 a b) := by
  rintro hp ⟨iv, jv, V, W, Y, rfl, h1, h2, h3, h4⟩
  by_cases ca : 0 ≤ a ∧ a ≤ 146096
  · by_cases cb : 0 ≤ b ∧ b ≤ 2
    · obtain ⟨d, hd, rfl⟩ := in01 (hi := 146096) (by decide) ca
      have g1 : ¬ b < 0 := Int32.not_lt.mpr cb.1
      have pl := plN_le hd
      have g := md_ok (plN d) (by omega)
      have q : ∀ k, k ≠ 72 → (up (up (up iv 72 8 (nI (yN d))) 72 9 (nI (moN (plN d)))) 72 10 (nI (daN (plN d)))) k = iv k := fun k x => by simp [up, x]
      have inv : InvH (hpOf (up (up (up iv 72 8 (nI (yN d))) 72 9 (nI (moN (plN d)))) 72 10 (nI (daN (plN d)))) jv) :=
        ⟨_, _, V, W, Y, rfl, h1.rows (fun k _ _ => q k (by omega)) (fun i _ => by rw [q 73 (by decide)]), h2.rows (fun k _ _ => q k (by omega)) (fun i _ => by rw [q 73 (by decide)]), h3.rows (fun k _ _ => q k (by omega)) (fun i _ => by rw [q 73 (by decide)]), h4.rows (fun k hk => q k (by omega)) (by simp [up]) (by simp [up]) rfl rfl⟩
      have mm : f_X11_date 72 (nI d) b (hpOf iv jv) = some (if b = 0 then nI (yN d) else if b = 1 then nI (moN (plN d)) else nI (daN (plN d)), hpOf (up (up (up iv 72 8 (nI (yN d))) 72 9 (nI (moN (plN d)))) 72 10 (nI (daN (plN d)))) jv) := by
        unfold f_X11_date
        rw [inDay, if_pos ca, Option.bind_some, if_neg (by decide), f_in b 0 2 (by decide) (by decide), if_pos cb, if_neg (by decide), V_72, m_take hd, Option.bind_some, G_72_8, G_72_9, G_72_10]
        by_cases e0 : b = 0
        · rw [if_pos e0, if_pos e0, Option.bind_some]; simp [up]
        · rw [if_neg e0, if_neg e0]
          by_cases e1 : b = 1
          · rw [if_pos e1, if_pos e1, Option.bind_some]; simp [up]
          · rw [if_neg e1, if_neg e1, Option.bind_some]; simp [up]
      refine ⟨if b = 0 then nI (yN d) else if b = 1 then nI (moN (plN d)) else nI (daN (plN d)), iv, jv, _, ?_, mm, inv⟩
      unfold f_X10_date
      rw [isDayC, if_pos ca, if_neg (by decide), if_neg g1, if_pos cb.2, c_yearOf hd, Option.bind_some]
      by_cases e0 : b = 0
      · rw [if_pos e0, if_pos e0]
      · rw [if_neg e0, if_neg e0, c_placeOf hd, mo_c (plN d) (by omega), Option.bind_some]
        by_cases e1 : b = 1
        · rw [if_pos e1, if_pos e1]
        · rw [if_neg e1, if_neg e1, pm_c (moN (plN d)) (by omega) (by omega), Option.bind_some, pk_sub g.2.2.1, nI_1]
          rfl
    · refine both_bad h1 h2 h3 h4 (t := -2) ?_ (fun iv' _ => ?_)
      · by_cases g1 : b < 0
        · simp [f_X10_date, isDayC, ca, g1, V_0, c_bad]
        · have g2 : ¬ b ≤ 2 := fun h => cb ⟨nlt g1, h⟩
          simp [f_X10_date, isDayC, ca, g1, g2, V_0, c_bad]
      · simp [f_X11_date, inDay, ca, f_in b 0 2 (LO := 0) (HI := 2) (by decide) (by decide), cb, V_72, m_bad]
  · refine both_bad h1 h2 h3 h4 (t := -2) ?_ (fun iv' _ => ?_)
    · simp [f_X10_date, isDayC, ca, V_0, c_bad]
    · simp [f_X11_date, inDay, ca, V_72, m_bad]
