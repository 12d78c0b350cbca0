/-! THE ABSTRACT STATE: V, 277 numbers as the reference lays them; and how both sides hold it -/
def Vkr (V : Nat → Nat) : Prop := V 0 ≤ 8 ∧ V 1 ≤ 4 ∧ (∀ i, i < V 0 → V (5 + i) ≤ 146096 ∧ V (13 + i) < 256 ∧ V (21 + i) < 256) ∧ ∀ i, i < V 1 → V (29 + i) ≤ 4 ∧ 1 ≤ V (33 + i) ∧ V (33 + i) ≤ 8
def Vkb (V : Nat → Nat) : Prop := V 2 ≤ 200 ∧ (∀ j, j < V 2 → V (77 + j) ≤ 255) ∧ ∀ j, j < 10 → V (37 + j) ≤ 6
def Vkp (V : Nat → Nat) : Prop := V 3 ≤ 10 ∧ V 4 ≤ 3 ∧ ∀ j, j < V 3 → 1 ≤ V (47 + 3 * j) ∧ V (47 + 3 * j) ≤ 31 ∧ V (48 + 3 * j) ≤ 99 ∧ V (49 + 3 * j) ≤ 1
/-- the reference's row -/
def RMr (ρ : Nat → Int32) (V : Nat → Nat) : Prop := ρ 0 = nI (V 0) ∧ ρ 1 = nI (V 1) ∧ (∀ i, i < V 0 → ρ (5 + i) = nI (V (5 + i)) ∧ ρ (13 + i) = nI (V (13 + i)) ∧ ρ (21 + i) = nI (V (21 + i))) ∧ ∀ i, i < V 1 → ρ (29 + i) = nI (V (29 + i)) ∧ ρ (33 + i) = nI (V (33 + i))
def RMb (ρ : Nat → Int32) (V : Nat → Nat) : Prop := ρ 2 = nI (V 2) ∧ (∀ j, j < V 2 → ρ (77 + j) = nI (V (77 + j))) ∧ ∀ j, j < 10 → ρ (37 + j) = nI (V (37 + j))
def RMp (ρ : Nat → Int32) (V : Nat → Nat) : Prop := ρ 3 = nI (V 3) ∧ ρ 4 = nI (V 4) ∧ ∀ j, j < V 3 → ρ (47 + 3 * j) = nI (V (47 + 3 * j)) ∧ ρ (48 + 3 * j) = nI (V (48 + 3 * j)) ∧ ρ (49 + 3 * j) = nI (V (49 + 3 * j))
/-- the days' years and places (a place is a date's index in a leap year) -/
def lpN (y : Nat) : Bool := y % 4 == 0 && (y % 100 != 0 || y % 400 == 0)
def fdN (y : Nat) : Nat := 365 * (y - 1800) + ((y - 1) / 4 + (y - 1) / 400 - (y - 1) / 100) - 436
def yN (d : Nat) : Nat := let y := 1800 + d / 366; if fdN (y + 1) ≤ d then (if fdN (y + 2) ≤ d then y + 2 else y + 1) else y
def plN (d : Nat) : Nat := let i := d - fdN (yN d); if 59 ≤ i ∧ lpN (yN d) = false then i + 1 else i
/-- what does not fit: PASSINGS told wrongly by a code of five figures -/
def figN (c i : Nat) : Nat := c / 10 ^ (4 - i) % 10
def sumN (V : Nat → Nat) (c j : Nat) : Nat := V (48 + 3 * j) + ((List.range 5).map (fun i => if V (47 + 3 * j) / 2 ^ i % 2 = 1 then figN c i else 0)).sum
def wrN (V : Nat → Nat) (c j : Nat) : Bool := (if sumN V c j % 10 = 0 then 1 else 0) != V (49 + 3 * j)
def fitN (V : Nat → Nat) (c : Nat) : Bool := decide ((List.range (V 3)).countP (wrN V c) ≤ V 4)
def fitsN (V : Nat → Nat) : Nat := (List.range 100000).countP (fitN V)
/-- the class's block: Roll, born, bornYear, bornPlace, with, apart, law, seats -/
def RCr (r1 r2 r3 r4 r5 r6 r7 r8 : Nat → Int32) (V : Nat → Nat) : Prop := (r1 0 = nI (V 0) ∧ r1 1 = nI (V 1)) ∧ (∀ i, i < V 0 → r2 i = nI (V (5 + i)) ∧ r3 i = nI (yN (V (5 + i))) ∧ r4 i = nI (plN (V (5 + i))) ∧ r5 i = nI (V (13 + i)) ∧ r6 i = nI (V (21 + i))) ∧ ∀ i, i < V 1 → r7 i = nI (V (29 + i)) ∧ r8 i = nI (V (33 + i))
/-- Book, bytes, crowds -/
def RCb (r9 r10 r11 : Nat → Int32) (V : Nat → Nat) : Prop := r9 0 = nI (V 2) ∧ (∀ j, j < V 2 → r10 j = nI (V (77 + j))) ∧ ∀ j, j < 10 → r11 j = nI (V (37 + j))
/-- Passings, sets, known, let -/
def RCp (r12 r13 r14 r15 : Nat → Int32) (V : Nat → Nat) : Prop := (r12 0 = nI (V 3) ∧ r12 1 = nI (V 4) ∧ (r12 2 = -1 ∨ r12 2 = nI (fitsN V))) ∧ (∀ j, j < V 3 → r13 j = nI (V (47 + 3 * j)) ∧ r14 j = nI (V (48 + 3 * j)) ∧ r15 j = nI (V (49 + 3 * j))) ∧ ∀ j, j < 10 → r15 j = 0 ∨ r15 j = 1
/-- the three groups of a state: people, gates, ties; the book, crowds; passings. b: the class's block, r: the reference's row -/
def SR (b r : Nat) (iv : Nat → Nat → Int32) (V : Nat → Nat) : Prop := Vkr V ∧ RCr (iv (b + 1)) (iv (b + 2)) (iv (b + 3)) (iv (b + 4)) (iv (b + 5)) (iv (b + 6)) (iv (b + 7)) (iv (b + 8)) V ∧ RMr (iv r) V
def SB (b r : Nat) (iv : Nat → Nat → Int32) (V : Nat → Nat) : Prop := Vkb V ∧ RCb (iv (b + 9)) (iv (b + 10)) (iv (b + 11)) V ∧ RMb (iv r) V
def SP (b r : Nat) (iv : Nat → Nat → Int32) (V : Nat → Nat) : Prop := Vkp V ∧ RCp (iv (b + 12)) (iv (b + 13)) (iv (b + 14)) (iv (b + 15)) V ∧ RMp (iv r) V
def SA (b r : Nat) (iv : Nat → Nat → Int32) : Prop := ∃ V W Y, SR b r iv V ∧ SB b r iv W ∧ SP b r iv Y
theorem RMr.rho {ρ ρ' : Nat → Int32} {V : Nat → Nat} (h : RMr ρ V) (hk : Vkr V) (e : ∀ i, (i < 2 ∨ (5 ≤ i ∧ i < 37)) → ρ' i = ρ i) : RMr ρ' V := by
  obtain ⟨h0, h1, h2, h3⟩ := h
  obtain ⟨k0, k1, -⟩ := hk
  refine ⟨by rw [e 0 (by omega)]; exact h0, by rw [e 1 (by omega)]; exact h1, fun i hi => ?_, fun i hi => ?_⟩
  · rw [e (5 + i) (by omega), e (13 + i) (by omega), e (21 + i) (by omega)]; exact h2 i hi
  · rw [e (29 + i) (by omega), e (33 + i) (by omega)]; exact h3 i hi
theorem RMb.rho {ρ ρ' : Nat → Int32} {V : Nat → Nat} (h : RMb ρ V) (e : ∀ i, (i = 2 ∨ (37 ≤ i ∧ i < 47) ∨ 77 ≤ i) → ρ' i = ρ i) : RMb ρ' V := by
  obtain ⟨h0, h1, h2⟩ := h
  refine ⟨by rw [e 2 (by omega)]; exact h0, fun i hi => ?_, fun i hi => ?_⟩
  · rw [e (77 + i) (by omega)]; exact h1 i hi
  · rw [e (37 + i) (by omega)]; exact h2 i hi
theorem RMp.rho {ρ ρ' : Nat → Int32} {V : Nat → Nat} (h : RMp ρ V) (hk : Vkp V) (e : ∀ i, (i = 3 ∨ i = 4 ∨ (47 ≤ i ∧ i < 77)) → ρ' i = ρ i) : RMp ρ' V := by
  obtain ⟨h0, h1, h2⟩ := h
  have k0 := hk.1
  refine ⟨by rw [e 3 (by omega)]; exact h0, by rw [e 4 (by omega)]; exact h1, fun i hi => ?_⟩
  rw [e (47 + 3 * i) (by omega), e (48 + 3 * i) (by omega), e (49 + 3 * i) (by omega)]; exact h2 i hi
theorem SR.rows {b r : Nat} {iv iv' : Nat → Nat → Int32} {V : Nat → Nat} (h : SR b r iv V) (e : ∀ k, b < k → k < b + 9 → iv' k = iv k) (er : ∀ i, (i < 2 ∨ (5 ≤ i ∧ i < 37)) → iv' r i = iv r i) : SR b r iv' V := by
  obtain ⟨h1, h2, h3⟩ := h
  refine ⟨h1, ?_, h3.rho h1 er⟩
  rw [e (b + 1) (by omega) (by omega), e (b + 2) (by omega) (by omega), e (b + 3) (by omega) (by omega), e (b + 4) (by omega) (by omega), e (b + 5) (by omega) (by omega), e (b + 6) (by omega) (by omega), e (b + 7) (by omega) (by omega), e (b + 8) (by omega) (by omega)]
  exact h2
theorem SB.rows {b r : Nat} {iv iv' : Nat → Nat → Int32} {V : Nat → Nat} (h : SB b r iv V) (e : ∀ k, b + 8 < k → k < b + 12 → iv' k = iv k) (er : ∀ i, (i = 2 ∨ (37 ≤ i ∧ i < 47) ∨ 77 ≤ i) → iv' r i = iv r i) : SB b r iv' V := by
  obtain ⟨h1, h2, h3⟩ := h
  refine ⟨h1, ?_, h3.rho er⟩
  rw [e (b + 9) (by omega) (by omega), e (b + 10) (by omega) (by omega), e (b + 11) (by omega) (by omega)]
  exact h2
theorem SP.rows {b r : Nat} {iv iv' : Nat → Nat → Int32} {V : Nat → Nat} (h : SP b r iv V) (e : ∀ k, b + 11 < k → k < b + 16 → iv' k = iv k) (er : ∀ i, (i = 3 ∨ i = 4 ∨ (47 ≤ i ∧ i < 77)) → iv' r i = iv r i) : SP b r iv' V := by
  obtain ⟨h1, h2, h3⟩ := h
  refine ⟨h1, ?_, h3.rho h1 er⟩
  rw [e (b + 12) (by omega) (by omega), e (b + 13) (by omega) (by omega), e (b + 14) (by omega) (by omega), e (b + 15) (by omega) (by omega)]
  exact h2
def fracS (iv : Nat → Nat → Int32) (jv : Nat → Nat → Int64) : Prop := ∃ a b : Nat, a ≤ 100000 ∧ b ≤ 100000 ∧ 1 ≤ b ∧ iv 0 9 = nI a ∧ iv 0 10 = nI b ∧ jv 72 5 = lN a ∧ jv 72 6 = lN b
def refS (iv : Nat → Nat → Int32) : Prop := iv 0 11 = iv 76 0 ∧ iv 0 12 = iv 76 1 ∧ iv 0 13 = iv 76 2
def imgS (f m : Int32) (b r : Nat) (iv : Nat → Nat → Int32) : Prop := (f = 0 ∧ m = 0) ∨ (f = 1 ∧ m = 1 ∧ SA b r iv)
/-- all but the current state -/
def Rst (iv : Nat → Nat → Int32) (jv : Nat → Nat → Int64) : Prop := imgS (iv 50 0) (iv 72 3) 18 74 iv ∧ imgS (iv 50 1) (iv 72 4) 34 75 iv ∧ fracS iv jv ∧ refS iv ∧ ∀ j, j < 10 → (iv 33 j = 0 ∨ iv 33 j = 1) ∧ (iv 49 j = 0 ∨ iv 49 j = 1)
def InvH (hp : PH) : Prop := ∃ iv jv V W Y, hp = hpOf iv jv ∧ SR 1 73 iv V ∧ SB 1 73 iv W ∧ SP 1 73 iv Y ∧ Rst iv jv
/-- one call of the law: both answer alike, and the state stays in order -/
def OpOK {α : Type} (fc fm : PH → Option (α × PH)) : Prop := ∀ hp, InvH hp → ∃ r iv1 jv1 hp2, fc hp = some (r, hpOf iv1 jv1) ∧ fm (hpOf iv1 jv1) = some (r, hp2) ∧ InvH hp2
theorem SA.rows {b r : Nat} {iv iv' : Nat → Nat → Int32} (h : SA b r iv) (e : ∀ k, b < k → k < b + 16 → iv' k = iv k) (er : iv' r = iv r) : SA b r iv' := by
  obtain ⟨V, W, Y, h1, h2, h3⟩ := h
  exact ⟨V, W, Y, h1.rows (fun k a b => e k a (by omega)) (fun i _ => by rw [er]), h2.rows (fun k a b => e k (by omega) (by omega)) (fun i _ => by rw [er]), h3.rows (fun k a b => e k (by omega) (by omega)) (fun i _ => by rw [er])⟩
theorem imgS.rows {f m : Int32} {b r : Nat} {iv iv' : Nat → Nat → Int32} (h : imgS f m b r iv) (e : ∀ k, b < k → k < b + 16 → iv' k = iv k) (er : iv' r = iv r) : imgS f m b r iv' :=
  h.imp id (fun ⟨h1, h2, h3⟩ => ⟨h1, h2, h3.rows e er⟩)
/-- rows that nothing but the current state, or nothing of the state, lies in -/
theorem Rst.rows {iv iv' : Nat → Nat → Int32} {jv jv' : Nat → Nat → Int64} (h : Rst iv jv) (e : ∀ k, (k = 0 ∨ (17 < k ∧ k ≤ 50) ∨ (73 < k ∧ k ≤ 76)) → iv' k = iv k) (e3 : iv' 72 3 = iv 72 3) (e4 : iv' 72 4 = iv 72 4) (j5 : jv' 72 5 = jv 72 5) (j6 : jv' 72 6 = jv 72 6) : Rst iv' jv' := by
  obtain ⟨h4, h5, h6, h7, h8⟩ := h
  refine ⟨?_, ?_, ?_, ?_, ?_⟩
  · rw [e 50 (by omega), e3]
    exact h4.rows (fun k _ _ => e k (by omega)) (e 74 (by omega))
  · rw [e 50 (by omega), e4]
    exact h5.rows (fun k _ _ => e k (by omega)) (e 75 (by omega))
  · obtain ⟨a, b, f1, f2, f3, f4, f5, f6, f7⟩ := h6
    exact ⟨a, b, f1, f2, f3, by rw [e 0 (by omega)]; exact f4, by rw [e 0 (by omega)]; exact f5, by rw [j5]; exact f6, by rw [j6]; exact f7⟩
  · unfold refS
    rw [e 0 (by omega), e 76 (by omega)]
    exact h7
  · rw [e 33 (by omega), e 49 (by omega)]
    exact h8
/-- a refused call: one more in STATUS, on both sides -/
theorem Rst.refuse {iv : Nat → Nat → Int32} {jv : Nat → Nat → Int64} (h : Rst iv jv) (i : Nat) (hi : i < 3) : Rst (up (up iv 0 (11 + i) (iv 0 (11 + i) + 1)) 76 i (iv 76 i + 1)) jv := by
  obtain ⟨h4, h5, h6, h7, h8⟩ := h
  have q : ∀ k, k ≠ 0 → k ≠ 76 → (up (up iv 0 (11 + i) (iv 0 (11 + i) + 1)) 76 i (iv 76 i + 1)) k = iv k := fun k a b => by rw [up_ne _ _ _ b, up_ne _ _ _ a]
  have q0 : (up (up iv 0 (11 + i) (iv 0 (11 + i) + 1)) 76 i (iv 76 i + 1)) 0 = fun b => if b = 11 + i then iv 0 (11 + i) + 1 else iv 0 b := by rw [up_ne _ _ _ (by decide), up_row]
  have q76 : (up (up iv 0 (11 + i) (iv 0 (11 + i) + 1)) 76 i (iv 76 i + 1)) 76 = fun b => if b = i then iv 76 i + 1 else iv 76 b := by rw [up_row, up_ne _ _ _ (by decide)]
  refine ⟨?_, ?_, ?_, ?_, ?_⟩
  · rw [q 50 (by decide) (by decide), q 72 (by decide) (by decide)]
    exact h4.rows (fun k _ _ => q k (by omega) (by omega)) (q 74 (by decide) (by decide))
  · rw [q 50 (by decide) (by decide), q 72 (by decide) (by decide)]
    exact h5.rows (fun k _ _ => q k (by omega) (by omega)) (q 75 (by decide) (by decide))
  · obtain ⟨a, b, f1, f2, f3, f4, f5, f6, f7⟩ := h6
    refine ⟨a, b, f1, f2, f3, ?_, ?_, f6, f7⟩
    · rw [q0]; dsimp only; rw [if_neg (by omega)]; exact f4
    · rw [q0]; dsimp only; rw [if_neg (by omega)]; exact f5
  · obtain ⟨r0, r1, r2⟩ := h7
    unfold refS
    rw [q0, q76]
    rcases (show i = 0 ∨ i = 1 ∨ i = 2 by omega) with rfl | rfl | rfl
    · exact ⟨by simp [r0], by simpa using r1, by simpa using r2⟩
    · exact ⟨by simpa using r0, by simp [r1], by simpa using r2⟩
    · exact ⟨by simpa using r0, by simpa using r1, by simp [r2]⟩
  · rw [q 33 (by decide) (by decide), q 49 (by decide) (by decide)]
    exact h8
theorem InvH.refuse {iv : Nat → Nat → Int32} {jv : Nat → Nat → Int64} {V W Y : Nat → Nat} (h1 : SR 1 73 iv V) (h2 : SB 1 73 iv W) (h3 : SP 1 73 iv Y) (h4 : Rst iv jv) (i : Nat) (hi : i < 3) : InvH (hpOf (up (up iv 0 (11 + i) (iv 0 (11 + i) + 1)) 76 i (iv 76 i + 1)) jv) := by
  have q : ∀ k, k ≠ 0 → k ≠ 76 → (up (up iv 0 (11 + i) (iv 0 (11 + i) + 1)) 76 i (iv 76 i + 1)) k = iv k := fun k a b => by rw [up_ne _ _ _ b, up_ne _ _ _ a]
  exact ⟨_, _, V, W, Y, rfl, h1.rows (fun k _ _ => q k (by omega) (by omega)) (fun i _ => by rw [q 73 (by decide) (by decide)]), h2.rows (fun k _ _ => q k (by omega) (by omega)) (fun i _ => by rw [q 73 (by decide) (by decide)]), h3.rows (fun k _ _ => q k (by omega) (by omega)) (fun i _ => by rw [q 73 (by decide) (by decide)]), h4.refuse i hi⟩
section REF
variable (iv : Nat → Nat → Int32) (jv : Nat → Nat → Int64)
theorem c_refAs (t : Int32) : f_X10_refuseAs 0 (-2) t (hpOf iv jv) = some (t, hpOf (up iv 0 11 (iv 0 11 + 1)) jv) := by
  unfold f_X10_refuseAs
  rw [if_pos rfl, G_0_11, Option.bind_some, S_0_11, Option.bind_some]
theorem c_bad : f_X10_refuse 0 (-2) (hpOf iv jv) = some (-2, hpOf (up iv 0 11 (iv 0 11 + 1)) jv) := by
  unfold f_X10_refuse
  rw [V_0, c_refAs, Option.bind_some]
theorem c_no : f_X10_refuse 0 (-3) (hpOf iv jv) = some (-3, hpOf (up iv 0 12 (iv 0 12 + 1)) jv) := by
  unfold f_X10_refuse f_X10_refuseAs
  rw [V_0, if_neg (by decide), if_pos rfl, G_0_12, Option.bind_some, S_0_12, Option.bind_some, Option.bind_some]
theorem c_full : f_X10_refuse 0 (-4) (hpOf iv jv) = some (-4, hpOf (up iv 0 13 (iv 0 13 + 1)) jv) := by
  unfold f_X10_refuse f_X10_refuseAs
  rw [V_0, if_neg (by decide), if_neg (by decide), G_0_13, Option.bind_some, S_0_13, Option.bind_some, Option.bind_some]
theorem m_bad (t : Int32) : f_X11_bad 72 t (hpOf iv jv) = some (t, hpOf (up iv 76 0 (iv 76 0 + 1)) jv) := by
  unfold f_X11_bad
  simp [G_72_7, A_76, U_76]
theorem m_no : f_X11_no 72 (hpOf iv jv) = some (-3, hpOf (up iv 76 1 (iv 76 1 + 1)) jv) := by
  unfold f_X11_no
  simp [G_72_7, A_76, U_76]
theorem m_full : f_X11_full 72 (hpOf iv jv) = some (-4, hpOf (up iv 76 2 (iv 76 2 + 1)) jv) := by
  unfold f_X11_full
  simp [G_72_7, A_76, U_76]
end REF
theorem cmp_lt (x y : Int64) : lg_cmp x y < 0 ↔ x < y := by
  unfold lg_cmp
  by_cases h1 : y < x
  · rw [if_pos h1]
    exact ⟨fun h => absurd h (by decide), fun h => (Int64.lt_irrefl (Int64.lt_trans h h1)).elim⟩
  · rw [if_neg h1]
    by_cases h2 : x = y
    · simp [h2]
    · simp [h2]
      exact Int64.lt_of_le_of_ne (Int64.not_lt.mp h1) h2
theorem cmp_gt (x y : Int64) : 0 < lg_cmp x y ↔ y < x := by
  unfold lg_cmp
  by_cases h1 : y < x
  · rw [if_pos h1]; exact ⟨fun _ => h1, fun _ => by decide⟩
  · rw [if_neg h1]
    by_cases h2 : x = y
    · simp [h2]
    · simp [h2]
      exact Int64.not_lt.mp h1
theorem cmp_eq (x y : Int64) : lg_cmp x y = 0 ↔ x = y := by
  unfold lg_cmp
  by_cases h1 : y < x
  · rw [if_pos h1]; exact ⟨fun h => absurd h (by decide), fun h => by subst h; exact (Int64.lt_irrefl h1).elim⟩
  · rw [if_neg h1]
    by_cases h2 : x = y
    · simp [h2]
    · simp [h2]
theorem l64_lt (a b : Int32) : a.toInt64 < b.toInt64 ↔ a < b := by
  rw [Int64.lt_iff_toInt_lt, Int32.lt_iff_toInt_lt, Int32.toInt_toInt64, Int32.toInt_toInt64]
theorem f_in (a lo hi : Int32) {LO HI : Int64} (h1 : lo.toInt64 = LO) (h2 : hi.toInt64 = HI) : f_X11_in a.toInt64 LO HI = if lo ≤ a ∧ a ≤ hi then 1 else 0 := by
  subst h1 h2
  unfold f_X11_in
  simp only [cmp_lt, cmp_gt, l64_lt]
  by_cases c1 : a < lo
  · rw [if_pos c1, if_neg (fun h => Int32.not_lt.mpr h.1 c1)]
  · by_cases c2 : hi < a
    · rw [if_neg c1, if_pos c2, if_neg (fun h => Int32.not_lt.mpr h.2 c2)]
    · rw [if_neg c1, if_neg c2, if_pos ⟨Int32.not_lt.mp c1, Int32.not_lt.mp c2⟩]
section BAD
variable {iv : Nat → Nat → Int32} {jv : Nat → Nat → Int64} {V W Y : Nat → Nat} {fc fm : PH → Option (Int32 × PH)}
abbrev Both (fc fm : PH → Option (Int32 × PH)) (hp : PH) : Prop := ∃ r iv1 jv1 hp2, fc hp = some (r, hpOf iv1 jv1) ∧ fm (hpOf iv1 jv1) = some (r, hp2) ∧ InvH hp2
theorem both_bad (h1 : SR 1 73 iv V) (h2 : SB 1 73 iv W) (h3 : SP 1 73 iv Y) (h4 : Rst iv jv) {t : Int32} (hc : fc (hpOf iv jv) = some (t, hpOf (up iv 0 11 (iv 0 11 + 1)) jv)) (hm : ∀ iv', (∀ k, k ≠ 0 → iv' k = iv k) → fm (hpOf iv' jv) = some (t, hpOf (up iv' 76 0 (iv' 76 0 + 1)) jv)) : Both fc fm (hpOf iv jv) :=
  ⟨t, _, _, _, hc, hm _ (fun k hk => up_ne _ _ _ hk), by rw [up_ne (k := 0) (a := 76) iv _ _ (by decide)]; exact InvH.refuse h1 h2 h3 h4 0 (by decide)⟩
theorem both_no (h1 : SR 1 73 iv V) (h2 : SB 1 73 iv W) (h3 : SP 1 73 iv Y) (h4 : Rst iv jv) {t : Int32} (hc : fc (hpOf iv jv) = some (t, hpOf (up iv 0 12 (iv 0 12 + 1)) jv)) (hm : ∀ iv', (∀ k, k ≠ 0 → iv' k = iv k) → fm (hpOf iv' jv) = some (t, hpOf (up iv' 76 1 (iv' 76 1 + 1)) jv)) : Both fc fm (hpOf iv jv) :=
  ⟨t, _, _, _, hc, hm _ (fun k hk => up_ne _ _ _ hk), by rw [up_ne (k := 0) (a := 76) iv _ _ (by decide)]; exact InvH.refuse h1 h2 h3 h4 1 (by decide)⟩
theorem both_full (h1 : SR 1 73 iv V) (h2 : SB 1 73 iv W) (h3 : SP 1 73 iv Y) (h4 : Rst iv jv) {t : Int32} (hc : fc (hpOf iv jv) = some (t, hpOf (up iv 0 13 (iv 0 13 + 1)) jv)) (hm : ∀ iv', (∀ k, k ≠ 0 → iv' k = iv k) → fm (hpOf iv' jv) = some (t, hpOf (up iv' 76 2 (iv' 76 2 + 1)) jv)) : Both fc fm (hpOf iv jv) :=
  ⟨t, _, _, _, hc, hm _ (fun k hk => up_ne _ _ _ hk), by rw [up_ne (k := 0) (a := 76) iv _ _ (by decide)]; exact InvH.refuse h1 h2 h3 h4 2 (by decide)⟩
end BAD
theorem in01 {a : Int32} {hi : Nat} (h2 : hi < 2 ^ 31) (h : 0 ≤ a ∧ a ≤ nI hi) : ∃ n, n ≤ hi ∧ a = nI n := by
  obtain ⟨j, hj, e⟩ := nI_of (Int32.not_lt.mpr h.1)
  subst e
  exact ⟨j, (nI_leI hj h2).mp h.2, rfl⟩
