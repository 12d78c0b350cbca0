/-! THE STATE: iv k j, jv k j: what cell k holds at j (a field, or an element) -/
def celF (i : Nat → Int32) (j : Nat → Int64) : Nat → List Value → List Value
  | _, [] => []
  | q, .int _ :: r => .int (i q) :: celF i j (q + 1) r
  | q, .long _ :: r => .long (j q) :: celF i j (q + 1) r
  | q, u :: r => u :: celF i j (q + 1) r
def cel (i : Nat → Int32) (j : Nat → Int64) (c : va_E) : va_E := match c with
  | .inl (t, n, .inl _) => .inl (t, n, .inl i)
  | .inl (t, n, .inr (.inl _)) => .inl (t, n, .inr (.inl j))
  | .inl x => .inl x
  | .inr (ci, fs) => .inr (ci, celF i j 0 fs)
def hpOf (iv : Nat → Nat → Int32) (jv : Nat → Nat → Int64) : PH := fun k => cel (iv k) (jv k) (hp0 k)
def up {α : Type} (iv : Nat → Nat → α) (k j : Nat) (x : α) : Nat → Nat → α := fun a => if a = k then (fun b => if b = j then x else iv k b) else iv a
theorem up_ne {α : Type} (iv : Nat → Nat → α) {k a : Nat} (j : Nat) (x : α) (h : a ≠ k) : up iv k j x a = iv a := if_neg h
theorem up_row {α : Type} (iv : Nat → Nat → α) (k j : Nat) (x : α) : up iv k j x k = fun b => if b = j then x else iv k b := if_pos rfl
theorem up_at {α : Type} (iv : Nat → Nat → α) (k j : Nat) (x : α) : up iv k j x k j = x := by rw [up_row]; exact if_pos rfl
theorem up_in {α : Type} (iv : Nat → Nat → α) {k j b : Nat} (x : α) (h : b ≠ j) : up iv k j x k b = iv k b := by rw [up_row]; exact if_neg h
theorem up_eq {α : Type} {iv : Nat → Nat → α} {k : Nat} {r : Nat → α} (j : Nat) (x : α) (h : ∀ b, r b = if b = j then x else iv k b) : up iv k j x k = r := by
  rw [up_row]; funext b; exact (h b).symm
theorem hp_va {iv iv' : Nat → Nat → Int32} {jv jv' : Nat → Nat → Int64} {k : Nat} {c : va_E} (h : cel (iv' k) (jv' k) (hp0 k) = c) (hi : ∀ a, a ≠ k → iv' a = iv a) (hj : ∀ a, a ≠ k → jv' a = jv a) : va_up (hpOf iv jv) k c = hpOf iv' jv' := by
  funext a
  unfold va_up hpOf
  by_cases e : a = k
  · subst e; rw [if_pos rfl, h]
  · rw [if_neg e, hi a e, hj a e]
theorem hp_vi {iv : Nat → Nat → Int32} {jv : Nat → Nat → Int64} {k j : Nat} {x : Int32} {c : va_E} (h : cel (up iv k j x k) (jv k) (hp0 k) = c) : va_up (hpOf iv jv) k c = hpOf (up iv k j x) jv := hp_va h (fun a ha => up_ne iv j x ha) (fun _ _ => rfl)
theorem hp_vj {iv : Nat → Nat → Int32} {jv : Nat → Nat → Int64} {k j : Nat} {x : Int64} {c : va_E} (h : cel (iv k) (up jv k j x k) (hp0 k) = c) : va_up (hpOf iv jv) k c = hpOf iv (up jv k j x) := hp_va h (fun _ _ => rfl) (fun a ha => up_ne jv j x ha)
section LIT
variable (iv : Nat → Nat → Int32) (jv : Nat → Nat → Int64)
theorem V_0 {α : Type} (r : Option α) : vC (hpOf iv jv) 0 9 r = r := rfl
theorem G_0_0 : gR (hpOf iv jv) 0 9 0 = some 1 := rfl
theorem G_0_1 : gR (hpOf iv jv) 0 9 1 = some 17 := rfl
theorem G_0_2 : gR (hpOf iv jv) 0 9 2 = some 50 := rfl
theorem G_0_3 : gR (hpOf iv jv) 0 9 3 = some 51 := rfl
theorem G_0_4 : gR (hpOf iv jv) 0 9 4 = some 59 := rfl
theorem G_0_5 : gR (hpOf iv jv) 0 9 5 = some 60 := rfl
theorem G_0_6 : gR (hpOf iv jv) 0 9 6 = some 62 := rfl
theorem G_0_7 : gR (hpOf iv jv) 0 9 7 = some 66 := rfl
theorem G_0_8 : gR (hpOf iv jv) 0 9 8 = some 68 := rfl
theorem G_0_9 : gI (hpOf iv jv) 0 9 9 = some (iv 0 9) := rfl
theorem S_0_9 (x : Int32) : pI (hpOf iv jv) 0 9 9 x = some (hpOf (up iv 0 9 x) jv) := congrArg some (hp_vi (by rw [up_row]; rfl))
theorem G_0_10 : gI (hpOf iv jv) 0 9 10 = some (iv 0 10) := rfl
theorem S_0_10 (x : Int32) : pI (hpOf iv jv) 0 9 10 x = some (hpOf (up iv 0 10 x) jv) := congrArg some (hp_vi (by rw [up_row]; rfl))
theorem G_0_11 : gI (hpOf iv jv) 0 9 11 = some (iv 0 11) := rfl
theorem S_0_11 (x : Int32) : pI (hpOf iv jv) 0 9 11 x = some (hpOf (up iv 0 11 x) jv) := congrArg some (hp_vi (by rw [up_row]; rfl))
theorem G_0_12 : gI (hpOf iv jv) 0 9 12 = some (iv 0 12) := rfl
theorem S_0_12 (x : Int32) : pI (hpOf iv jv) 0 9 12 x = some (hpOf (up iv 0 12 x) jv) := congrArg some (hp_vi (by rw [up_row]; rfl))
theorem G_0_13 : gI (hpOf iv jv) 0 9 13 = some (iv 0 13) := rfl
theorem S_0_13 (x : Int32) : pI (hpOf iv jv) 0 9 13 x = some (hpOf (up iv 0 13 x) jv) := congrArg some (hp_vi (by rw [up_row]; rfl))
theorem V_1 {α : Type} (r : Option α) : vC (hpOf iv jv) 1 7 r = r := rfl
theorem G_1_0 : gR (hpOf iv jv) 1 7 0 = some 2 := rfl
theorem G_1_1 : gR (hpOf iv jv) 1 7 1 = some 10 := rfl
theorem G_1_2 : gR (hpOf iv jv) 1 7 2 = some 12 := rfl
theorem G_1_3 : gR (hpOf iv jv) 1 7 3 = some 13 := rfl
theorem V_2 {α : Type} (r : Option α) : vC (hpOf iv jv) 2 6 r = r := rfl
theorem G_2_0 : gI (hpOf iv jv) 2 6 0 = some (iv 2 0) := rfl
theorem S_2_0 (x : Int32) : pI (hpOf iv jv) 2 6 0 x = some (hpOf (up iv 2 0 x) jv) := congrArg some (hp_vi (by rw [up_row]; rfl))
theorem G_2_1 : gI (hpOf iv jv) 2 6 1 = some (iv 2 1) := rfl
theorem S_2_1 (x : Int32) : pI (hpOf iv jv) 2 6 1 x = some (hpOf (up iv 2 1 x) jv) := congrArg some (hp_vi (by rw [up_row]; rfl))
theorem G_2_2 : gR (hpOf iv jv) 2 6 2 = some 3 := rfl
theorem G_2_3 : gR (hpOf iv jv) 2 6 3 = some 4 := rfl
theorem G_2_4 : gR (hpOf iv jv) 2 6 4 = some 5 := rfl
theorem G_2_5 : gR (hpOf iv jv) 2 6 5 = some 6 := rfl
theorem G_2_6 : gR (hpOf iv jv) 2 6 6 = some 7 := rfl
theorem G_2_7 : gR (hpOf iv jv) 2 6 7 = some 8 := rfl
theorem G_2_8 : gR (hpOf iv jv) 2 6 8 = some 9 := rfl
theorem A_3 (i : Int32) : aI (hpOf iv jv) 3 0 i = if ¬ i < 0 ∧ i.toNatClampNeg < 8 then some (iv 3 i.toNatClampNeg) else none := rfl
theorem U_3 (i x : Int32) : uI (hpOf iv jv) 3 i x = if ¬ i < 0 ∧ i.toNatClampNeg < 8 then some (hpOf (up iv 3 i.toNatClampNeg x) jv) else none := by
  show (if ¬ i < 0 ∧ i.toNatClampNeg < 8 then some (va_up (hpOf iv jv) 3 (.inl (0, 8, .inl (upd (iv 3) i.toNatClampNeg x)))) else none) = _
  rw [hp_vi (iv := iv) (jv := jv) (k := 3) (j := i.toNatClampNeg) (x := x) (by rw [up_row]; rfl)]
theorem B_3 : aA (hpOf iv jv) 3 0 = some (8, iv 3) := rfl
theorem A_4 (i : Int32) : aI (hpOf iv jv) 4 0 i = if ¬ i < 0 ∧ i.toNatClampNeg < 8 then some (iv 4 i.toNatClampNeg) else none := rfl
theorem U_4 (i x : Int32) : uI (hpOf iv jv) 4 i x = if ¬ i < 0 ∧ i.toNatClampNeg < 8 then some (hpOf (up iv 4 i.toNatClampNeg x) jv) else none := by
  show (if ¬ i < 0 ∧ i.toNatClampNeg < 8 then some (va_up (hpOf iv jv) 4 (.inl (0, 8, .inl (upd (iv 4) i.toNatClampNeg x)))) else none) = _
  rw [hp_vi (iv := iv) (jv := jv) (k := 4) (j := i.toNatClampNeg) (x := x) (by rw [up_row]; rfl)]
theorem B_4 : aA (hpOf iv jv) 4 0 = some (8, iv 4) := rfl
theorem A_5 (i : Int32) : aI (hpOf iv jv) 5 0 i = if ¬ i < 0 ∧ i.toNatClampNeg < 8 then some (iv 5 i.toNatClampNeg) else none := rfl
theorem U_5 (i x : Int32) : uI (hpOf iv jv) 5 i x = if ¬ i < 0 ∧ i.toNatClampNeg < 8 then some (hpOf (up iv 5 i.toNatClampNeg x) jv) else none := by
  show (if ¬ i < 0 ∧ i.toNatClampNeg < 8 then some (va_up (hpOf iv jv) 5 (.inl (0, 8, .inl (upd (iv 5) i.toNatClampNeg x)))) else none) = _
  rw [hp_vi (iv := iv) (jv := jv) (k := 5) (j := i.toNatClampNeg) (x := x) (by rw [up_row]; rfl)]
theorem B_5 : aA (hpOf iv jv) 5 0 = some (8, iv 5) := rfl
theorem A_6 (i : Int32) : aI (hpOf iv jv) 6 0 i = if ¬ i < 0 ∧ i.toNatClampNeg < 8 then some (iv 6 i.toNatClampNeg) else none := rfl
theorem U_6 (i x : Int32) : uI (hpOf iv jv) 6 i x = if ¬ i < 0 ∧ i.toNatClampNeg < 8 then some (hpOf (up iv 6 i.toNatClampNeg x) jv) else none := by
  show (if ¬ i < 0 ∧ i.toNatClampNeg < 8 then some (va_up (hpOf iv jv) 6 (.inl (0, 8, .inl (upd (iv 6) i.toNatClampNeg x)))) else none) = _
  rw [hp_vi (iv := iv) (jv := jv) (k := 6) (j := i.toNatClampNeg) (x := x) (by rw [up_row]; rfl)]
theorem B_6 : aA (hpOf iv jv) 6 0 = some (8, iv 6) := rfl
theorem A_7 (i : Int32) : aI (hpOf iv jv) 7 0 i = if ¬ i < 0 ∧ i.toNatClampNeg < 8 then some (iv 7 i.toNatClampNeg) else none := rfl
theorem U_7 (i x : Int32) : uI (hpOf iv jv) 7 i x = if ¬ i < 0 ∧ i.toNatClampNeg < 8 then some (hpOf (up iv 7 i.toNatClampNeg x) jv) else none := by
  show (if ¬ i < 0 ∧ i.toNatClampNeg < 8 then some (va_up (hpOf iv jv) 7 (.inl (0, 8, .inl (upd (iv 7) i.toNatClampNeg x)))) else none) = _
  rw [hp_vi (iv := iv) (jv := jv) (k := 7) (j := i.toNatClampNeg) (x := x) (by rw [up_row]; rfl)]
theorem B_7 : aA (hpOf iv jv) 7 0 = some (8, iv 7) := rfl
theorem A_8 (i : Int32) : aI (hpOf iv jv) 8 0 i = if ¬ i < 0 ∧ i.toNatClampNeg < 4 then some (iv 8 i.toNatClampNeg) else none := rfl
theorem U_8 (i x : Int32) : uI (hpOf iv jv) 8 i x = if ¬ i < 0 ∧ i.toNatClampNeg < 4 then some (hpOf (up iv 8 i.toNatClampNeg x) jv) else none := by
  show (if ¬ i < 0 ∧ i.toNatClampNeg < 4 then some (va_up (hpOf iv jv) 8 (.inl (0, 4, .inl (upd (iv 8) i.toNatClampNeg x)))) else none) = _
  rw [hp_vi (iv := iv) (jv := jv) (k := 8) (j := i.toNatClampNeg) (x := x) (by rw [up_row]; rfl)]
theorem B_8 : aA (hpOf iv jv) 8 0 = some (4, iv 8) := rfl
theorem A_9 (i : Int32) : aI (hpOf iv jv) 9 0 i = if ¬ i < 0 ∧ i.toNatClampNeg < 4 then some (iv 9 i.toNatClampNeg) else none := rfl
theorem U_9 (i x : Int32) : uI (hpOf iv jv) 9 i x = if ¬ i < 0 ∧ i.toNatClampNeg < 4 then some (hpOf (up iv 9 i.toNatClampNeg x) jv) else none := by
  show (if ¬ i < 0 ∧ i.toNatClampNeg < 4 then some (va_up (hpOf iv jv) 9 (.inl (0, 4, .inl (upd (iv 9) i.toNatClampNeg x)))) else none) = _
  rw [hp_vi (iv := iv) (jv := jv) (k := 9) (j := i.toNatClampNeg) (x := x) (by rw [up_row]; rfl)]
theorem B_9 : aA (hpOf iv jv) 9 0 = some (4, iv 9) := rfl
theorem V_10 {α : Type} (r : Option α) : vC (hpOf iv jv) 10 0 r = r := rfl
theorem G_10_0 : gI (hpOf iv jv) 10 0 0 = some (iv 10 0) := rfl
theorem S_10_0 (x : Int32) : pI (hpOf iv jv) 10 0 0 x = some (hpOf (up iv 10 0 x) jv) := congrArg some (hp_vi (by rw [up_row]; rfl))
theorem G_10_1 : gR (hpOf iv jv) 10 0 1 = some 11 := rfl
theorem A_11 (i : Int32) : aI (hpOf iv jv) 11 0 i = if ¬ i < 0 ∧ i.toNatClampNeg < 200 then some (iv 11 i.toNatClampNeg) else none := rfl
theorem U_11 (i x : Int32) : uI (hpOf iv jv) 11 i x = if ¬ i < 0 ∧ i.toNatClampNeg < 200 then some (hpOf (up iv 11 i.toNatClampNeg x) jv) else none := by
  show (if ¬ i < 0 ∧ i.toNatClampNeg < 200 then some (va_up (hpOf iv jv) 11 (.inl (0, 200, .inl (upd (iv 11) i.toNatClampNeg x)))) else none) = _
  rw [hp_vi (iv := iv) (jv := jv) (k := 11) (j := i.toNatClampNeg) (x := x) (by rw [up_row]; rfl)]
theorem B_11 : aA (hpOf iv jv) 11 0 = some (200, iv 11) := rfl
theorem A_12 (i : Int32) : aI (hpOf iv jv) 12 0 i = if ¬ i < 0 ∧ i.toNatClampNeg < 10 then some (iv 12 i.toNatClampNeg) else none := rfl
theorem U_12 (i x : Int32) : uI (hpOf iv jv) 12 i x = if ¬ i < 0 ∧ i.toNatClampNeg < 10 then some (hpOf (up iv 12 i.toNatClampNeg x) jv) else none := by
  show (if ¬ i < 0 ∧ i.toNatClampNeg < 10 then some (va_up (hpOf iv jv) 12 (.inl (0, 10, .inl (upd (iv 12) i.toNatClampNeg x)))) else none) = _
  rw [hp_vi (iv := iv) (jv := jv) (k := 12) (j := i.toNatClampNeg) (x := x) (by rw [up_row]; rfl)]
theorem B_12 : aA (hpOf iv jv) 12 0 = some (10, iv 12) := rfl
theorem V_13 {α : Type} (r : Option α) : vC (hpOf iv jv) 13 4 r = r := rfl
theorem G_13_0 : gI (hpOf iv jv) 13 4 0 = some (iv 13 0) := rfl
theorem S_13_0 (x : Int32) : pI (hpOf iv jv) 13 4 0 x = some (hpOf (up iv 13 0 x) jv) := congrArg some (hp_vi (by rw [up_row]; rfl))
theorem G_13_1 : gI (hpOf iv jv) 13 4 1 = some (iv 13 1) := rfl
theorem S_13_1 (x : Int32) : pI (hpOf iv jv) 13 4 1 x = some (hpOf (up iv 13 1 x) jv) := congrArg some (hp_vi (by rw [up_row]; rfl))
theorem G_13_2 : gI (hpOf iv jv) 13 4 2 = some (iv 13 2) := rfl
theorem S_13_2 (x : Int32) : pI (hpOf iv jv) 13 4 2 x = some (hpOf (up iv 13 2 x) jv) := congrArg some (hp_vi (by rw [up_row]; rfl))
theorem G_13_3 : gR (hpOf iv jv) 13 4 3 = some 14 := rfl
theorem G_13_4 : gR (hpOf iv jv) 13 4 4 = some 15 := rfl
theorem G_13_5 : gR (hpOf iv jv) 13 4 5 = some 16 := rfl
theorem A_14 (i : Int32) : aI (hpOf iv jv) 14 0 i = if ¬ i < 0 ∧ i.toNatClampNeg < 10 then some (iv 14 i.toNatClampNeg) else none := rfl
theorem U_14 (i x : Int32) : uI (hpOf iv jv) 14 i x = if ¬ i < 0 ∧ i.toNatClampNeg < 10 then some (hpOf (up iv 14 i.toNatClampNeg x) jv) else none := by
  show (if ¬ i < 0 ∧ i.toNatClampNeg < 10 then some (va_up (hpOf iv jv) 14 (.inl (0, 10, .inl (upd (iv 14) i.toNatClampNeg x)))) else none) = _
  rw [hp_vi (iv := iv) (jv := jv) (k := 14) (j := i.toNatClampNeg) (x := x) (by rw [up_row]; rfl)]
theorem B_14 : aA (hpOf iv jv) 14 0 = some (10, iv 14) := rfl
theorem A_15 (i : Int32) : aI (hpOf iv jv) 15 0 i = if ¬ i < 0 ∧ i.toNatClampNeg < 10 then some (iv 15 i.toNatClampNeg) else none := rfl
theorem U_15 (i x : Int32) : uI (hpOf iv jv) 15 i x = if ¬ i < 0 ∧ i.toNatClampNeg < 10 then some (hpOf (up iv 15 i.toNatClampNeg x) jv) else none := by
  show (if ¬ i < 0 ∧ i.toNatClampNeg < 10 then some (va_up (hpOf iv jv) 15 (.inl (0, 10, .inl (upd (iv 15) i.toNatClampNeg x)))) else none) = _
  rw [hp_vi (iv := iv) (jv := jv) (k := 15) (j := i.toNatClampNeg) (x := x) (by rw [up_row]; rfl)]
theorem B_15 : aA (hpOf iv jv) 15 0 = some (10, iv 15) := rfl
theorem A_16 (i : Int32) : aI (hpOf iv jv) 16 1 i = if ¬ i < 0 ∧ i.toNatClampNeg < 10 then some (iv 16 i.toNatClampNeg) else none := rfl
theorem U_16 (i x : Int32) : uZ (hpOf iv jv) 16 i x = if ¬ i < 0 ∧ i.toNatClampNeg < 10 then some (hpOf (up iv 16 i.toNatClampNeg (nZ x)) jv) else none := by
  show (if ¬ i < 0 ∧ i.toNatClampNeg < 10 then some (va_up (hpOf iv jv) 16 (.inl (1, 10, .inl (upd (iv 16) i.toNatClampNeg (nZ x))))) else none) = _
  rw [hp_vi (iv := iv) (jv := jv) (k := 16) (j := i.toNatClampNeg) (x := (nZ x)) (by rw [up_row]; rfl)]
theorem B_16 : aA (hpOf iv jv) 16 1 = some (10, iv 16) := rfl
theorem V_18 {α : Type} (r : Option α) : vC (hpOf iv jv) 18 7 r = r := rfl
theorem G_18_0 : gR (hpOf iv jv) 18 7 0 = some 19 := rfl
theorem G_18_1 : gR (hpOf iv jv) 18 7 1 = some 27 := rfl
theorem G_18_2 : gR (hpOf iv jv) 18 7 2 = some 29 := rfl
theorem G_18_3 : gR (hpOf iv jv) 18 7 3 = some 30 := rfl
theorem V_19 {α : Type} (r : Option α) : vC (hpOf iv jv) 19 6 r = r := rfl
theorem G_19_0 : gI (hpOf iv jv) 19 6 0 = some (iv 19 0) := rfl
theorem S_19_0 (x : Int32) : pI (hpOf iv jv) 19 6 0 x = some (hpOf (up iv 19 0 x) jv) := congrArg some (hp_vi (by rw [up_row]; rfl))
theorem G_19_1 : gI (hpOf iv jv) 19 6 1 = some (iv 19 1) := rfl
theorem S_19_1 (x : Int32) : pI (hpOf iv jv) 19 6 1 x = some (hpOf (up iv 19 1 x) jv) := congrArg some (hp_vi (by rw [up_row]; rfl))
theorem G_19_2 : gR (hpOf iv jv) 19 6 2 = some 20 := rfl
theorem G_19_3 : gR (hpOf iv jv) 19 6 3 = some 21 := rfl
theorem G_19_4 : gR (hpOf iv jv) 19 6 4 = some 22 := rfl
theorem G_19_5 : gR (hpOf iv jv) 19 6 5 = some 23 := rfl
theorem G_19_6 : gR (hpOf iv jv) 19 6 6 = some 24 := rfl
theorem G_19_7 : gR (hpOf iv jv) 19 6 7 = some 25 := rfl
theorem G_19_8 : gR (hpOf iv jv) 19 6 8 = some 26 := rfl
theorem A_20 (i : Int32) : aI (hpOf iv jv) 20 0 i = if ¬ i < 0 ∧ i.toNatClampNeg < 8 then some (iv 20 i.toNatClampNeg) else none := rfl
theorem U_20 (i x : Int32) : uI (hpOf iv jv) 20 i x = if ¬ i < 0 ∧ i.toNatClampNeg < 8 then some (hpOf (up iv 20 i.toNatClampNeg x) jv) else none := by
  show (if ¬ i < 0 ∧ i.toNatClampNeg < 8 then some (va_up (hpOf iv jv) 20 (.inl (0, 8, .inl (upd (iv 20) i.toNatClampNeg x)))) else none) = _
  rw [hp_vi (iv := iv) (jv := jv) (k := 20) (j := i.toNatClampNeg) (x := x) (by rw [up_row]; rfl)]
theorem B_20 : aA (hpOf iv jv) 20 0 = some (8, iv 20) := rfl
theorem A_21 (i : Int32) : aI (hpOf iv jv) 21 0 i = if ¬ i < 0 ∧ i.toNatClampNeg < 8 then some (iv 21 i.toNatClampNeg) else none := rfl
theorem U_21 (i x : Int32) : uI (hpOf iv jv) 21 i x = if ¬ i < 0 ∧ i.toNatClampNeg < 8 then some (hpOf (up iv 21 i.toNatClampNeg x) jv) else none := by
  show (if ¬ i < 0 ∧ i.toNatClampNeg < 8 then some (va_up (hpOf iv jv) 21 (.inl (0, 8, .inl (upd (iv 21) i.toNatClampNeg x)))) else none) = _
  rw [hp_vi (iv := iv) (jv := jv) (k := 21) (j := i.toNatClampNeg) (x := x) (by rw [up_row]; rfl)]
theorem B_21 : aA (hpOf iv jv) 21 0 = some (8, iv 21) := rfl
theorem A_22 (i : Int32) : aI (hpOf iv jv) 22 0 i = if ¬ i < 0 ∧ i.toNatClampNeg < 8 then some (iv 22 i.toNatClampNeg) else none := rfl
theorem U_22 (i x : Int32) : uI (hpOf iv jv) 22 i x = if ¬ i < 0 ∧ i.toNatClampNeg < 8 then some (hpOf (up iv 22 i.toNatClampNeg x) jv) else none := by
  show (if ¬ i < 0 ∧ i.toNatClampNeg < 8 then some (va_up (hpOf iv jv) 22 (.inl (0, 8, .inl (upd (iv 22) i.toNatClampNeg x)))) else none) = _
  rw [hp_vi (iv := iv) (jv := jv) (k := 22) (j := i.toNatClampNeg) (x := x) (by rw [up_row]; rfl)]
theorem B_22 : aA (hpOf iv jv) 22 0 = some (8, iv 22) := rfl
theorem A_23 (i : Int32) : aI (hpOf iv jv) 23 0 i = if ¬ i < 0 ∧ i.toNatClampNeg < 8 then some (iv 23 i.toNatClampNeg) else none := rfl
theorem U_23 (i x : Int32) : uI (hpOf iv jv) 23 i x = if ¬ i < 0 ∧ i.toNatClampNeg < 8 then some (hpOf (up iv 23 i.toNatClampNeg x) jv) else none := by
  show (if ¬ i < 0 ∧ i.toNatClampNeg < 8 then some (va_up (hpOf iv jv) 23 (.inl (0, 8, .inl (upd (iv 23) i.toNatClampNeg x)))) else none) = _
  rw [hp_vi (iv := iv) (jv := jv) (k := 23) (j := i.toNatClampNeg) (x := x) (by rw [up_row]; rfl)]
theorem B_23 : aA (hpOf iv jv) 23 0 = some (8, iv 23) := rfl
theorem A_24 (i : Int32) : aI (hpOf iv jv) 24 0 i = if ¬ i < 0 ∧ i.toNatClampNeg < 8 then some (iv 24 i.toNatClampNeg) else none := rfl
theorem U_24 (i x : Int32) : uI (hpOf iv jv) 24 i x = if ¬ i < 0 ∧ i.toNatClampNeg < 8 then some (hpOf (up iv 24 i.toNatClampNeg x) jv) else none := by
  show (if ¬ i < 0 ∧ i.toNatClampNeg < 8 then some (va_up (hpOf iv jv) 24 (.inl (0, 8, .inl (upd (iv 24) i.toNatClampNeg x)))) else none) = _
  rw [hp_vi (iv := iv) (jv := jv) (k := 24) (j := i.toNatClampNeg) (x := x) (by rw [up_row]; rfl)]
theorem B_24 : aA (hpOf iv jv) 24 0 = some (8, iv 24) := rfl
theorem A_25 (i : Int32) : aI (hpOf iv jv) 25 0 i = if ¬ i < 0 ∧ i.toNatClampNeg < 4 then some (iv 25 i.toNatClampNeg) else none := rfl
theorem U_25 (i x : Int32) : uI (hpOf iv jv) 25 i x = if ¬ i < 0 ∧ i.toNatClampNeg < 4 then some (hpOf (up iv 25 i.toNatClampNeg x) jv) else none := by
  show (if ¬ i < 0 ∧ i.toNatClampNeg < 4 then some (va_up (hpOf iv jv) 25 (.inl (0, 4, .inl (upd (iv 25) i.toNatClampNeg x)))) else none) = _
  rw [hp_vi (iv := iv) (jv := jv) (k := 25) (j := i.toNatClampNeg) (x := x) (by rw [up_row]; rfl)]
theorem B_25 : aA (hpOf iv jv) 25 0 = some (4, iv 25) := rfl
theorem A_26 (i : Int32) : aI (hpOf iv jv) 26 0 i = if ¬ i < 0 ∧ i.toNatClampNeg < 4 then some (iv 26 i.toNatClampNeg) else none := rfl
theorem U_26 (i x : Int32) : uI (hpOf iv jv) 26 i x = if ¬ i < 0 ∧ i.toNatClampNeg < 4 then some (hpOf (up iv 26 i.toNatClampNeg x) jv) else none := by
  show (if ¬ i < 0 ∧ i.toNatClampNeg < 4 then some (va_up (hpOf iv jv) 26 (.inl (0, 4, .inl (upd (iv 26) i.toNatClampNeg x)))) else none) = _
  rw [hp_vi (iv := iv) (jv := jv) (k := 26) (j := i.toNatClampNeg) (x := x) (by rw [up_row]; rfl)]
theorem B_26 : aA (hpOf iv jv) 26 0 = some (4, iv 26) := rfl
theorem V_27 {α : Type} (r : Option α) : vC (hpOf iv jv) 27 0 r = r := rfl
theorem G_27_0 : gI (hpOf iv jv) 27 0 0 = some (iv 27 0) := rfl
theorem S_27_0 (x : Int32) : pI (hpOf iv jv) 27 0 0 x = some (hpOf (up iv 27 0 x) jv) := congrArg some (hp_vi (by rw [up_row]; rfl))
theorem G_27_1 : gR (hpOf iv jv) 27 0 1 = some 28 := rfl
theorem A_28 (i : Int32) : aI (hpOf iv jv) 28 0 i = if ¬ i < 0 ∧ i.toNatClampNeg < 200 then some (iv 28 i.toNatClampNeg) else none := rfl
theorem U_28 (i x : Int32) : uI (hpOf iv jv) 28 i x = if ¬ i < 0 ∧ i.toNatClampNeg < 200 then some (hpOf (up iv 28 i.toNatClampNeg x) jv) else none := by
  show (if ¬ i < 0 ∧ i.toNatClampNeg < 200 then some (va_up (hpOf iv jv) 28 (.inl (0, 200, .inl (upd (iv 28) i.toNatClampNeg x)))) else none) = _
  rw [hp_vi (iv := iv) (jv := jv) (k := 28) (j := i.toNatClampNeg) (x := x) (by rw [up_row]; rfl)]
theorem B_28 : aA (hpOf iv jv) 28 0 = some (200, iv 28) := rfl
theorem A_29 (i : Int32) : aI (hpOf iv jv) 29 0 i = if ¬ i < 0 ∧ i.toNatClampNeg < 10 then some (iv 29 i.toNatClampNeg) else none := rfl
theorem U_29 (i x : Int32) : uI (hpOf iv jv) 29 i x = if ¬ i < 0 ∧ i.toNatClampNeg < 10 then some (hpOf (up iv 29 i.toNatClampNeg x) jv) else none := by
  show (if ¬ i < 0 ∧ i.toNatClampNeg < 10 then some (va_up (hpOf iv jv) 29 (.inl (0, 10, .inl (upd (iv 29) i.toNatClampNeg x)))) else none) = _
  rw [hp_vi (iv := iv) (jv := jv) (k := 29) (j := i.toNatClampNeg) (x := x) (by rw [up_row]; rfl)]
theorem B_29 : aA (hpOf iv jv) 29 0 = some (10, iv 29) := rfl
theorem V_30 {α : Type} (r : Option α) : vC (hpOf iv jv) 30 4 r = r := rfl
theorem G_30_0 : gI (hpOf iv jv) 30 4 0 = some (iv 30 0) := rfl
theorem S_30_0 (x : Int32) : pI (hpOf iv jv) 30 4 0 x = some (hpOf (up iv 30 0 x) jv) := congrArg some (hp_vi (by rw [up_row]; rfl))
theorem G_30_1 : gI (hpOf iv jv) 30 4 1 = some (iv 30 1) := rfl
theorem S_30_1 (x : Int32) : pI (hpOf iv jv) 30 4 1 x = some (hpOf (up iv 30 1 x) jv) := congrArg some (hp_vi (by rw [up_row]; rfl))
theorem G_30_2 : gI (hpOf iv jv) 30 4 2 = some (iv 30 2) := rfl
theorem S_30_2 (x : Int32) : pI (hpOf iv jv) 30 4 2 x = some (hpOf (up iv 30 2 x) jv) := congrArg some (hp_vi (by rw [up_row]; rfl))
theorem G_30_3 : gR (hpOf iv jv) 30 4 3 = some 31 := rfl
theorem G_30_4 : gR (hpOf iv jv) 30 4 4 = some 32 := rfl
theorem G_30_5 : gR (hpOf iv jv) 30 4 5 = some 33 := rfl
theorem A_31 (i : Int32) : aI (hpOf iv jv) 31 0 i = if ¬ i < 0 ∧ i.toNatClampNeg < 10 then some (iv 31 i.toNatClampNeg) else none := rfl
theorem U_31 (i x : Int32) : uI (hpOf iv jv) 31 i x = if ¬ i < 0 ∧ i.toNatClampNeg < 10 then some (hpOf (up iv 31 i.toNatClampNeg x) jv) else none := by
  show (if ¬ i < 0 ∧ i.toNatClampNeg < 10 then some (va_up (hpOf iv jv) 31 (.inl (0, 10, .inl (upd (iv 31) i.toNatClampNeg x)))) else none) = _
  rw [hp_vi (iv := iv) (jv := jv) (k := 31) (j := i.toNatClampNeg) (x := x) (by rw [up_row]; rfl)]
theorem B_31 : aA (hpOf iv jv) 31 0 = some (10, iv 31) := rfl
theorem A_32 (i : Int32) : aI (hpOf iv jv) 32 0 i = if ¬ i < 0 ∧ i.toNatClampNeg < 10 then some (iv 32 i.toNatClampNeg) else none := rfl
theorem U_32 (i x : Int32) : uI (hpOf iv jv) 32 i x = if ¬ i < 0 ∧ i.toNatClampNeg < 10 then some (hpOf (up iv 32 i.toNatClampNeg x) jv) else none := by
  show (if ¬ i < 0 ∧ i.toNatClampNeg < 10 then some (va_up (hpOf iv jv) 32 (.inl (0, 10, .inl (upd (iv 32) i.toNatClampNeg x)))) else none) = _
  rw [hp_vi (iv := iv) (jv := jv) (k := 32) (j := i.toNatClampNeg) (x := x) (by rw [up_row]; rfl)]
theorem B_32 : aA (hpOf iv jv) 32 0 = some (10, iv 32) := rfl
theorem A_33 (i : Int32) : aI (hpOf iv jv) 33 1 i = if ¬ i < 0 ∧ i.toNatClampNeg < 10 then some (iv 33 i.toNatClampNeg) else none := rfl
theorem U_33 (i x : Int32) : uZ (hpOf iv jv) 33 i x = if ¬ i < 0 ∧ i.toNatClampNeg < 10 then some (hpOf (up iv 33 i.toNatClampNeg (nZ x)) jv) else none := by
  show (if ¬ i < 0 ∧ i.toNatClampNeg < 10 then some (va_up (hpOf iv jv) 33 (.inl (1, 10, .inl (upd (iv 33) i.toNatClampNeg (nZ x))))) else none) = _
  rw [hp_vi (iv := iv) (jv := jv) (k := 33) (j := i.toNatClampNeg) (x := (nZ x)) (by rw [up_row]; rfl)]
theorem B_33 : aA (hpOf iv jv) 33 1 = some (10, iv 33) := rfl
theorem V_34 {α : Type} (r : Option α) : vC (hpOf iv jv) 34 7 r = r := rfl
theorem G_34_0 : gR (hpOf iv jv) 34 7 0 = some 35 := rfl
theorem G_34_1 : gR (hpOf iv jv) 34 7 1 = some 43 := rfl
theorem G_34_2 : gR (hpOf iv jv) 34 7 2 = some 45 := rfl
theorem G_34_3 : gR (hpOf iv jv) 34 7 3 = some 46 := rfl
theorem V_35 {α : Type} (r : Option α) : vC (hpOf iv jv) 35 6 r = r := rfl
theorem G_35_0 : gI (hpOf iv jv) 35 6 0 = some (iv 35 0) := rfl
theorem S_35_0 (x : Int32) : pI (hpOf iv jv) 35 6 0 x = some (hpOf (up iv 35 0 x) jv) := congrArg some (hp_vi (by rw [up_row]; rfl))
theorem G_35_1 : gI (hpOf iv jv) 35 6 1 = some (iv 35 1) := rfl
theorem S_35_1 (x : Int32) : pI (hpOf iv jv) 35 6 1 x = some (hpOf (up iv 35 1 x) jv) := congrArg some (hp_vi (by rw [up_row]; rfl))
theorem G_35_2 : gR (hpOf iv jv) 35 6 2 = some 36 := rfl
theorem G_35_3 : gR (hpOf iv jv) 35 6 3 = some 37 := rfl
theorem G_35_4 : gR (hpOf iv jv) 35 6 4 = some 38 := rfl
theorem G_35_5 : gR (hpOf iv jv) 35 6 5 = some 39 := rfl
theorem G_35_6 : gR (hpOf iv jv) 35 6 6 = some 40 := rfl
theorem G_35_7 : gR (hpOf iv jv) 35 6 7 = some 41 := rfl
theorem G_35_8 : gR (hpOf iv jv) 35 6 8 = some 42 := rfl
theorem A_36 (i : Int32) : aI (hpOf iv jv) 36 0 i = if ¬ i < 0 ∧ i.toNatClampNeg < 8 then some (iv 36 i.toNatClampNeg) else none := rfl
theorem U_36 (i x : Int32) : uI (hpOf iv jv) 36 i x = if ¬ i < 0 ∧ i.toNatClampNeg < 8 then some (hpOf (up iv 36 i.toNatClampNeg x) jv) else none := by
  show (if ¬ i < 0 ∧ i.toNatClampNeg < 8 then some (va_up (hpOf iv jv) 36 (.inl (0, 8, .inl (upd (iv 36) i.toNatClampNeg x)))) else none) = _
  rw [hp_vi (iv := iv) (jv := jv) (k := 36) (j := i.toNatClampNeg) (x := x) (by rw [up_row]; rfl)]
theorem B_36 : aA (hpOf iv jv) 36 0 = some (8, iv 36) := rfl
theorem A_37 (i : Int32) : aI (hpOf iv jv) 37 0 i = if ¬ i < 0 ∧ i.toNatClampNeg < 8 then some (iv 37 i.toNatClampNeg) else none := rfl
theorem U_37 (i x : Int32) : uI (hpOf iv jv) 37 i x = if ¬ i < 0 ∧ i.toNatClampNeg < 8 then some (hpOf (up iv 37 i.toNatClampNeg x) jv) else none := by
  show (if ¬ i < 0 ∧ i.toNatClampNeg < 8 then some (va_up (hpOf iv jv) 37 (.inl (0, 8, .inl (upd (iv 37) i.toNatClampNeg x)))) else none) = _
  rw [hp_vi (iv := iv) (jv := jv) (k := 37) (j := i.toNatClampNeg) (x := x) (by rw [up_row]; rfl)]
theorem B_37 : aA (hpOf iv jv) 37 0 = some (8, iv 37) := rfl
theorem A_38 (i : Int32) : aI (hpOf iv jv) 38 0 i = if ¬ i < 0 ∧ i.toNatClampNeg < 8 then some (iv 38 i.toNatClampNeg) else none := rfl
theorem U_38 (i x : Int32) : uI (hpOf iv jv) 38 i x = if ¬ i < 0 ∧ i.toNatClampNeg < 8 then some (hpOf (up iv 38 i.toNatClampNeg x) jv) else none := by
  show (if ¬ i < 0 ∧ i.toNatClampNeg < 8 then some (va_up (hpOf iv jv) 38 (.inl (0, 8, .inl (upd (iv 38) i.toNatClampNeg x)))) else none) = _
  rw [hp_vi (iv := iv) (jv := jv) (k := 38) (j := i.toNatClampNeg) (x := x) (by rw [up_row]; rfl)]
theorem B_38 : aA (hpOf iv jv) 38 0 = some (8, iv 38) := rfl
theorem A_39 (i : Int32) : aI (hpOf iv jv) 39 0 i = if ¬ i < 0 ∧ i.toNatClampNeg < 8 then some (iv 39 i.toNatClampNeg) else none := rfl
theorem U_39 (i x : Int32) : uI (hpOf iv jv) 39 i x = if ¬ i < 0 ∧ i.toNatClampNeg < 8 then some (hpOf (up iv 39 i.toNatClampNeg x) jv) else none := by
  show (if ¬ i < 0 ∧ i.toNatClampNeg < 8 then some (va_up (hpOf iv jv) 39 (.inl (0, 8, .inl (upd (iv 39) i.toNatClampNeg x)))) else none) = _
  rw [hp_vi (iv := iv) (jv := jv) (k := 39) (j := i.toNatClampNeg) (x := x) (by rw [up_row]; rfl)]
theorem B_39 : aA (hpOf iv jv) 39 0 = some (8, iv 39) := rfl
theorem A_40 (i : Int32) : aI (hpOf iv jv) 40 0 i = if ¬ i < 0 ∧ i.toNatClampNeg < 8 then some (iv 40 i.toNatClampNeg) else none := rfl
theorem U_40 (i x : Int32) : uI (hpOf iv jv) 40 i x = if ¬ i < 0 ∧ i.toNatClampNeg < 8 then some (hpOf (up iv 40 i.toNatClampNeg x) jv) else none := by
  show (if ¬ i < 0 ∧ i.toNatClampNeg < 8 then some (va_up (hpOf iv jv) 40 (.inl (0, 8, .inl (upd (iv 40) i.toNatClampNeg x)))) else none) = _
  rw [hp_vi (iv := iv) (jv := jv) (k := 40) (j := i.toNatClampNeg) (x := x) (by rw [up_row]; rfl)]
theorem B_40 : aA (hpOf iv jv) 40 0 = some (8, iv 40) := rfl
theorem A_41 (i : Int32) : aI (hpOf iv jv) 41 0 i = if ¬ i < 0 ∧ i.toNatClampNeg < 4 then some (iv 41 i.toNatClampNeg) else none := rfl
theorem U_41 (i x : Int32) : uI (hpOf iv jv) 41 i x = if ¬ i < 0 ∧ i.toNatClampNeg < 4 then some (hpOf (up iv 41 i.toNatClampNeg x) jv) else none := by
  show (if ¬ i < 0 ∧ i.toNatClampNeg < 4 then some (va_up (hpOf iv jv) 41 (.inl (0, 4, .inl (upd (iv 41) i.toNatClampNeg x)))) else none) = _
  rw [hp_vi (iv := iv) (jv := jv) (k := 41) (j := i.toNatClampNeg) (x := x) (by rw [up_row]; rfl)]
theorem B_41 : aA (hpOf iv jv) 41 0 = some (4, iv 41) := rfl
theorem A_42 (i : Int32) : aI (hpOf iv jv) 42 0 i = if ¬ i < 0 ∧ i.toNatClampNeg < 4 then some (iv 42 i.toNatClampNeg) else none := rfl
theorem U_42 (i x : Int32) : uI (hpOf iv jv) 42 i x = if ¬ i < 0 ∧ i.toNatClampNeg < 4 then some (hpOf (up iv 42 i.toNatClampNeg x) jv) else none := by
  show (if ¬ i < 0 ∧ i.toNatClampNeg < 4 then some (va_up (hpOf iv jv) 42 (.inl (0, 4, .inl (upd (iv 42) i.toNatClampNeg x)))) else none) = _
  rw [hp_vi (iv := iv) (jv := jv) (k := 42) (j := i.toNatClampNeg) (x := x) (by rw [up_row]; rfl)]
theorem B_42 : aA (hpOf iv jv) 42 0 = some (4, iv 42) := rfl
theorem V_43 {α : Type} (r : Option α) : vC (hpOf iv jv) 43 0 r = r := rfl
theorem G_43_0 : gI (hpOf iv jv) 43 0 0 = some (iv 43 0) := rfl
theorem S_43_0 (x : Int32) : pI (hpOf iv jv) 43 0 0 x = some (hpOf (up iv 43 0 x) jv) := congrArg some (hp_vi (by rw [up_row]; rfl))
theorem G_43_1 : gR (hpOf iv jv) 43 0 1 = some 44 := rfl
theorem A_44 (i : Int32) : aI (hpOf iv jv) 44 0 i = if ¬ i < 0 ∧ i.toNatClampNeg < 200 then some (iv 44 i.toNatClampNeg) else none := rfl
theorem U_44 (i x : Int32) : uI (hpOf iv jv) 44 i x = if ¬ i < 0 ∧ i.toNatClampNeg < 200 then some (hpOf (up iv 44 i.toNatClampNeg x) jv) else none := by
  show (if ¬ i < 0 ∧ i.toNatClampNeg < 200 then some (va_up (hpOf iv jv) 44 (.inl (0, 200, .inl (upd (iv 44) i.toNatClampNeg x)))) else none) = _
  rw [hp_vi (iv := iv) (jv := jv) (k := 44) (j := i.toNatClampNeg) (x := x) (by rw [up_row]; rfl)]
theorem B_44 : aA (hpOf iv jv) 44 0 = some (200, iv 44) := rfl
theorem A_45 (i : Int32) : aI (hpOf iv jv) 45 0 i = if ¬ i < 0 ∧ i.toNatClampNeg < 10 then some (iv 45 i.toNatClampNeg) else none := rfl
theorem U_45 (i x : Int32) : uI (hpOf iv jv) 45 i x = if ¬ i < 0 ∧ i.toNatClampNeg < 10 then some (hpOf (up iv 45 i.toNatClampNeg x) jv) else none := by
  show (if ¬ i < 0 ∧ i.toNatClampNeg < 10 then some (va_up (hpOf iv jv) 45 (.inl (0, 10, .inl (upd (iv 45) i.toNatClampNeg x)))) else none) = _
  rw [hp_vi (iv := iv) (jv := jv) (k := 45) (j := i.toNatClampNeg) (x := x) (by rw [up_row]; rfl)]
theorem B_45 : aA (hpOf iv jv) 45 0 = some (10, iv 45) := rfl
theorem V_46 {α : Type} (r : Option α) : vC (hpOf iv jv) 46 4 r = r := rfl
theorem G_46_0 : gI (hpOf iv jv) 46 4 0 = some (iv 46 0) := rfl
theorem S_46_0 (x : Int32) : pI (hpOf iv jv) 46 4 0 x = some (hpOf (up iv 46 0 x) jv) := congrArg some (hp_vi (by rw [up_row]; rfl))
theorem G_46_1 : gI (hpOf iv jv) 46 4 1 = some (iv 46 1) := rfl
theorem S_46_1 (x : Int32) : pI (hpOf iv jv) 46 4 1 x = some (hpOf (up iv 46 1 x) jv) := congrArg some (hp_vi (by rw [up_row]; rfl))
theorem G_46_2 : gI (hpOf iv jv) 46 4 2 = some (iv 46 2) := rfl
theorem S_46_2 (x : Int32) : pI (hpOf iv jv) 46 4 2 x = some (hpOf (up iv 46 2 x) jv) := congrArg some (hp_vi (by rw [up_row]; rfl))
theorem G_46_3 : gR (hpOf iv jv) 46 4 3 = some 47 := rfl
theorem G_46_4 : gR (hpOf iv jv) 46 4 4 = some 48 := rfl
theorem G_46_5 : gR (hpOf iv jv) 46 4 5 = some 49 := rfl
theorem A_47 (i : Int32) : aI (hpOf iv jv) 47 0 i = if ¬ i < 0 ∧ i.toNatClampNeg < 10 then some (iv 47 i.toNatClampNeg) else none := rfl
theorem U_47 (i x : Int32) : uI (hpOf iv jv) 47 i x = if ¬ i < 0 ∧ i.toNatClampNeg < 10 then some (hpOf (up iv 47 i.toNatClampNeg x) jv) else none := by
  show (if ¬ i < 0 ∧ i.toNatClampNeg < 10 then some (va_up (hpOf iv jv) 47 (.inl (0, 10, .inl (upd (iv 47) i.toNatClampNeg x)))) else none) = _
  rw [hp_vi (iv := iv) (jv := jv) (k := 47) (j := i.toNatClampNeg) (x := x) (by rw [up_row]; rfl)]
theorem B_47 : aA (hpOf iv jv) 47 0 = some (10, iv 47) := rfl
theorem A_48 (i : Int32) : aI (hpOf iv jv) 48 0 i = if ¬ i < 0 ∧ i.toNatClampNeg < 10 then some (iv 48 i.toNatClampNeg) else none := rfl
theorem U_48 (i x : Int32) : uI (hpOf iv jv) 48 i x = if ¬ i < 0 ∧ i.toNatClampNeg < 10 then some (hpOf (up iv 48 i.toNatClampNeg x) jv) else none := by
  show (if ¬ i < 0 ∧ i.toNatClampNeg < 10 then some (va_up (hpOf iv jv) 48 (.inl (0, 10, .inl (upd (iv 48) i.toNatClampNeg x)))) else none) = _
  rw [hp_vi (iv := iv) (jv := jv) (k := 48) (j := i.toNatClampNeg) (x := x) (by rw [up_row]; rfl)]
theorem B_48 : aA (hpOf iv jv) 48 0 = some (10, iv 48) := rfl
theorem A_49 (i : Int32) : aI (hpOf iv jv) 49 1 i = if ¬ i < 0 ∧ i.toNatClampNeg < 10 then some (iv 49 i.toNatClampNeg) else none := rfl
theorem U_49 (i x : Int32) : uZ (hpOf iv jv) 49 i x = if ¬ i < 0 ∧ i.toNatClampNeg < 10 then some (hpOf (up iv 49 i.toNatClampNeg (nZ x)) jv) else none := by
  show (if ¬ i < 0 ∧ i.toNatClampNeg < 10 then some (va_up (hpOf iv jv) 49 (.inl (1, 10, .inl (upd (iv 49) i.toNatClampNeg (nZ x))))) else none) = _
  rw [hp_vi (iv := iv) (jv := jv) (k := 49) (j := i.toNatClampNeg) (x := (nZ x)) (by rw [up_row]; rfl)]
theorem B_49 : aA (hpOf iv jv) 49 1 = some (10, iv 49) := rfl
theorem A_50 (i : Int32) : aI (hpOf iv jv) 50 1 i = if ¬ i < 0 ∧ i.toNatClampNeg < 2 then some (iv 50 i.toNatClampNeg) else none := rfl
theorem U_50 (i x : Int32) : uZ (hpOf iv jv) 50 i x = if ¬ i < 0 ∧ i.toNatClampNeg < 2 then some (hpOf (up iv 50 i.toNatClampNeg (nZ x)) jv) else none := by
  show (if ¬ i < 0 ∧ i.toNatClampNeg < 2 then some (va_up (hpOf iv jv) 50 (.inl (1, 2, .inl (upd (iv 50) i.toNatClampNeg (nZ x))))) else none) = _
  rw [hp_vi (iv := iv) (jv := jv) (k := 50) (j := i.toNatClampNeg) (x := (nZ x)) (by rw [up_row]; rfl)]
theorem B_50 : aA (hpOf iv jv) 50 1 = some (2, iv 50) := rfl
theorem V_51 {α : Type} (r : Option α) : vC (hpOf iv jv) 51 6 r = r := rfl
theorem G_51_0 : gI (hpOf iv jv) 51 6 0 = some (iv 51 0) := rfl
theorem S_51_0 (x : Int32) : pI (hpOf iv jv) 51 6 0 x = some (hpOf (up iv 51 0 x) jv) := congrArg some (hp_vi (by rw [up_row]; rfl))
theorem G_51_1 : gI (hpOf iv jv) 51 6 1 = some (iv 51 1) := rfl
theorem S_51_1 (x : Int32) : pI (hpOf iv jv) 51 6 1 x = some (hpOf (up iv 51 1 x) jv) := congrArg some (hp_vi (by rw [up_row]; rfl))
theorem G_51_2 : gR (hpOf iv jv) 51 6 2 = some 52 := rfl
theorem G_51_3 : gR (hpOf iv jv) 51 6 3 = some 53 := rfl
theorem G_51_4 : gR (hpOf iv jv) 51 6 4 = some 54 := rfl
theorem G_51_5 : gR (hpOf iv jv) 51 6 5 = some 55 := rfl
theorem G_51_6 : gR (hpOf iv jv) 51 6 6 = some 56 := rfl
theorem G_51_7 : gR (hpOf iv jv) 51 6 7 = some 57 := rfl
theorem G_51_8 : gR (hpOf iv jv) 51 6 8 = some 58 := rfl
theorem A_52 (i : Int32) : aI (hpOf iv jv) 52 0 i = if ¬ i < 0 ∧ i.toNatClampNeg < 8 then some (iv 52 i.toNatClampNeg) else none := rfl
theorem U_52 (i x : Int32) : uI (hpOf iv jv) 52 i x = if ¬ i < 0 ∧ i.toNatClampNeg < 8 then some (hpOf (up iv 52 i.toNatClampNeg x) jv) else none := by
  show (if ¬ i < 0 ∧ i.toNatClampNeg < 8 then some (va_up (hpOf iv jv) 52 (.inl (0, 8, .inl (upd (iv 52) i.toNatClampNeg x)))) else none) = _
  rw [hp_vi (iv := iv) (jv := jv) (k := 52) (j := i.toNatClampNeg) (x := x) (by rw [up_row]; rfl)]
theorem B_52 : aA (hpOf iv jv) 52 0 = some (8, iv 52) := rfl
theorem A_53 (i : Int32) : aI (hpOf iv jv) 53 0 i = if ¬ i < 0 ∧ i.toNatClampNeg < 8 then some (iv 53 i.toNatClampNeg) else none := rfl
theorem U_53 (i x : Int32) : uI (hpOf iv jv) 53 i x = if ¬ i < 0 ∧ i.toNatClampNeg < 8 then some (hpOf (up iv 53 i.toNatClampNeg x) jv) else none := by
  show (if ¬ i < 0 ∧ i.toNatClampNeg < 8 then some (va_up (hpOf iv jv) 53 (.inl (0, 8, .inl (upd (iv 53) i.toNatClampNeg x)))) else none) = _
  rw [hp_vi (iv := iv) (jv := jv) (k := 53) (j := i.toNatClampNeg) (x := x) (by rw [up_row]; rfl)]
theorem B_53 : aA (hpOf iv jv) 53 0 = some (8, iv 53) := rfl
theorem A_54 (i : Int32) : aI (hpOf iv jv) 54 0 i = if ¬ i < 0 ∧ i.toNatClampNeg < 8 then some (iv 54 i.toNatClampNeg) else none := rfl
theorem U_54 (i x : Int32) : uI (hpOf iv jv) 54 i x = if ¬ i < 0 ∧ i.toNatClampNeg < 8 then some (hpOf (up iv 54 i.toNatClampNeg x) jv) else none := by
  show (if ¬ i < 0 ∧ i.toNatClampNeg < 8 then some (va_up (hpOf iv jv) 54 (.inl (0, 8, .inl (upd (iv 54) i.toNatClampNeg x)))) else none) = _
  rw [hp_vi (iv := iv) (jv := jv) (k := 54) (j := i.toNatClampNeg) (x := x) (by rw [up_row]; rfl)]
theorem B_54 : aA (hpOf iv jv) 54 0 = some (8, iv 54) := rfl
theorem A_55 (i : Int32) : aI (hpOf iv jv) 55 0 i = if ¬ i < 0 ∧ i.toNatClampNeg < 8 then some (iv 55 i.toNatClampNeg) else none := rfl
theorem U_55 (i x : Int32) : uI (hpOf iv jv) 55 i x = if ¬ i < 0 ∧ i.toNatClampNeg < 8 then some (hpOf (up iv 55 i.toNatClampNeg x) jv) else none := by
  show (if ¬ i < 0 ∧ i.toNatClampNeg < 8 then some (va_up (hpOf iv jv) 55 (.inl (0, 8, .inl (upd (iv 55) i.toNatClampNeg x)))) else none) = _
  rw [hp_vi (iv := iv) (jv := jv) (k := 55) (j := i.toNatClampNeg) (x := x) (by rw [up_row]; rfl)]
theorem B_55 : aA (hpOf iv jv) 55 0 = some (8, iv 55) := rfl
theorem A_56 (i : Int32) : aI (hpOf iv jv) 56 0 i = if ¬ i < 0 ∧ i.toNatClampNeg < 8 then some (iv 56 i.toNatClampNeg) else none := rfl
theorem U_56 (i x : Int32) : uI (hpOf iv jv) 56 i x = if ¬ i < 0 ∧ i.toNatClampNeg < 8 then some (hpOf (up iv 56 i.toNatClampNeg x) jv) else none := by
  show (if ¬ i < 0 ∧ i.toNatClampNeg < 8 then some (va_up (hpOf iv jv) 56 (.inl (0, 8, .inl (upd (iv 56) i.toNatClampNeg x)))) else none) = _
  rw [hp_vi (iv := iv) (jv := jv) (k := 56) (j := i.toNatClampNeg) (x := x) (by rw [up_row]; rfl)]
theorem B_56 : aA (hpOf iv jv) 56 0 = some (8, iv 56) := rfl
theorem A_57 (i : Int32) : aI (hpOf iv jv) 57 0 i = if ¬ i < 0 ∧ i.toNatClampNeg < 4 then some (iv 57 i.toNatClampNeg) else none := rfl
theorem U_57 (i x : Int32) : uI (hpOf iv jv) 57 i x = if ¬ i < 0 ∧ i.toNatClampNeg < 4 then some (hpOf (up iv 57 i.toNatClampNeg x) jv) else none := by
  show (if ¬ i < 0 ∧ i.toNatClampNeg < 4 then some (va_up (hpOf iv jv) 57 (.inl (0, 4, .inl (upd (iv 57) i.toNatClampNeg x)))) else none) = _
  rw [hp_vi (iv := iv) (jv := jv) (k := 57) (j := i.toNatClampNeg) (x := x) (by rw [up_row]; rfl)]
theorem B_57 : aA (hpOf iv jv) 57 0 = some (4, iv 57) := rfl
theorem A_58 (i : Int32) : aI (hpOf iv jv) 58 0 i = if ¬ i < 0 ∧ i.toNatClampNeg < 4 then some (iv 58 i.toNatClampNeg) else none := rfl
theorem U_58 (i x : Int32) : uI (hpOf iv jv) 58 i x = if ¬ i < 0 ∧ i.toNatClampNeg < 4 then some (hpOf (up iv 58 i.toNatClampNeg x) jv) else none := by
  show (if ¬ i < 0 ∧ i.toNatClampNeg < 4 then some (va_up (hpOf iv jv) 58 (.inl (0, 4, .inl (upd (iv 58) i.toNatClampNeg x)))) else none) = _
  rw [hp_vi (iv := iv) (jv := jv) (k := 58) (j := i.toNatClampNeg) (x := x) (by rw [up_row]; rfl)]
theorem B_58 : aA (hpOf iv jv) 58 0 = some (4, iv 58) := rfl
theorem V_59 {α : Type} (r : Option α) : vC (hpOf iv jv) 59 5 r = r := rfl
theorem G_59_0 : gR (hpOf iv jv) 59 5 0 = some 10 := rfl
theorem G_59_1 : gR (hpOf iv jv) 59 5 1 = some 51 := rfl
theorem G_59_2 : gI (hpOf iv jv) 59 5 2 = some (iv 59 2) := rfl
theorem S_59_2 (x : Int32) : pI (hpOf iv jv) 59 5 2 x = some (hpOf (up iv 59 2 x) jv) := congrArg some (hp_vi (by rw [up_row]; rfl))
theorem G_59_3 : gI (hpOf iv jv) 59 5 3 = some (iv 59 3) := rfl
theorem S_59_3 (x : Int32) : pI (hpOf iv jv) 59 5 3 x = some (hpOf (up iv 59 3 x) jv) := congrArg some (hp_vi (by rw [up_row]; rfl))
theorem G_59_4 : gI (hpOf iv jv) 59 5 4 = some (iv 59 4) := rfl
theorem S_59_4 (x : Int32) : pI (hpOf iv jv) 59 5 4 x = some (hpOf (up iv 59 4 x) jv) := congrArg some (hp_vi (by rw [up_row]; rfl))
theorem G_59_5 : gI (hpOf iv jv) 59 5 5 = some (iv 59 5) := rfl
theorem S_59_5 (x : Int32) : pI (hpOf iv jv) 59 5 5 x = some (hpOf (up iv 59 5 x) jv) := congrArg some (hp_vi (by rw [up_row]; rfl))
theorem V_60 {α : Type} (r : Option α) : vC (hpOf iv jv) 60 2 r = r := rfl
theorem G_60_0 : gR (hpOf iv jv) 60 2 0 = some 2 := rfl
theorem G_60_1 : gR (hpOf iv jv) 60 2 1 = some 61 := rfl
theorem G_60_2 : gI (hpOf iv jv) 60 2 2 = some (iv 60 2) := rfl
theorem S_60_2 (x : Int32) : pI (hpOf iv jv) 60 2 2 x = some (hpOf (up iv 60 2 x) jv) := congrArg some (hp_vi (by rw [up_row]; rfl))
theorem A_61 (i : Int32) : aI (hpOf iv jv) 61 0 i = if ¬ i < 0 ∧ i.toNatClampNeg < 8 then some (iv 61 i.toNatClampNeg) else none := rfl
theorem U_61 (i x : Int32) : uI (hpOf iv jv) 61 i x = if ¬ i < 0 ∧ i.toNatClampNeg < 8 then some (hpOf (up iv 61 i.toNatClampNeg x) jv) else none := by
  show (if ¬ i < 0 ∧ i.toNatClampNeg < 8 then some (va_up (hpOf iv jv) 61 (.inl (0, 8, .inl (upd (iv 61) i.toNatClampNeg x)))) else none) = _
  rw [hp_vi (iv := iv) (jv := jv) (k := 61) (j := i.toNatClampNeg) (x := x) (by rw [up_row]; rfl)]
theorem B_61 : aA (hpOf iv jv) 61 0 = some (8, iv 61) := rfl
theorem V_62 {α : Type} (r : Option α) : vC (hpOf iv jv) 62 3 r = r := rfl
theorem G_62_0 : gR (hpOf iv jv) 62 3 0 = some 60 := rfl
theorem G_62_1 : gR (hpOf iv jv) 62 3 1 = some 63 := rfl
theorem G_62_2 : gR (hpOf iv jv) 62 3 2 = some 64 := rfl
theorem G_62_3 : gR (hpOf iv jv) 62 3 3 = some 65 := rfl
theorem G_62_4 : gI (hpOf iv jv) 62 3 4 = some (iv 62 4) := rfl
theorem S_62_4 (x : Int32) : pI (hpOf iv jv) 62 3 4 x = some (hpOf (up iv 62 4 x) jv) := congrArg some (hp_vi (by rw [up_row]; rfl))
theorem G_62_5 : gI (hpOf iv jv) 62 3 5 = some (iv 62 5) := rfl
theorem S_62_5 (x : Int32) : pI (hpOf iv jv) 62 3 5 x = some (hpOf (up iv 62 5 x) jv) := congrArg some (hp_vi (by rw [up_row]; rfl))
theorem A_63 (i : Int32) : aI (hpOf iv jv) 63 1 i = if ¬ i < 0 ∧ i.toNatClampNeg < 256 then some (iv 63 i.toNatClampNeg) else none := rfl
theorem U_63 (i x : Int32) : uZ (hpOf iv jv) 63 i x = if ¬ i < 0 ∧ i.toNatClampNeg < 256 then some (hpOf (up iv 63 i.toNatClampNeg (nZ x)) jv) else none := by
  show (if ¬ i < 0 ∧ i.toNatClampNeg < 256 then some (va_up (hpOf iv jv) 63 (.inl (1, 256, .inl (upd (iv 63) i.toNatClampNeg (nZ x))))) else none) = _
  rw [hp_vi (iv := iv) (jv := jv) (k := 63) (j := i.toNatClampNeg) (x := (nZ x)) (by rw [up_row]; rfl)]
theorem B_63 : aA (hpOf iv jv) 63 1 = some (256, iv 63) := rfl
theorem A_64 (i : Int32) : aI (hpOf iv jv) 64 0 i = if ¬ i < 0 ∧ i.toNatClampNeg < 256 then some (iv 64 i.toNatClampNeg) else none := rfl
theorem U_64 (i x : Int32) : uI (hpOf iv jv) 64 i x = if ¬ i < 0 ∧ i.toNatClampNeg < 256 then some (hpOf (up iv 64 i.toNatClampNeg x) jv) else none := by
  show (if ¬ i < 0 ∧ i.toNatClampNeg < 256 then some (va_up (hpOf iv jv) 64 (.inl (0, 256, .inl (upd (iv 64) i.toNatClampNeg x)))) else none) = _
  rw [hp_vi (iv := iv) (jv := jv) (k := 64) (j := i.toNatClampNeg) (x := x) (by rw [up_row]; rfl)]
theorem B_64 : aA (hpOf iv jv) 64 0 = some (256, iv 64) := rfl
theorem A_65 (i : Int32) : aI (hpOf iv jv) 65 0 i = if ¬ i < 0 ∧ i.toNatClampNeg < 8 then some (iv 65 i.toNatClampNeg) else none := rfl
theorem U_65 (i x : Int32) : uI (hpOf iv jv) 65 i x = if ¬ i < 0 ∧ i.toNatClampNeg < 8 then some (hpOf (up iv 65 i.toNatClampNeg x) jv) else none := by
  show (if ¬ i < 0 ∧ i.toNatClampNeg < 8 then some (va_up (hpOf iv jv) 65 (.inl (0, 8, .inl (upd (iv 65) i.toNatClampNeg x)))) else none) = _
  rw [hp_vi (iv := iv) (jv := jv) (k := 65) (j := i.toNatClampNeg) (x := x) (by rw [up_row]; rfl)]
theorem B_65 : aA (hpOf iv jv) 65 0 = some (8, iv 65) := rfl
theorem V_66 {α : Type} (r : Option α) : vC (hpOf iv jv) 66 8 r = r := rfl
theorem G_66_0 : gR (hpOf iv jv) 66 8 0 = some 12 := rfl
theorem G_66_1 : gR (hpOf iv jv) 66 8 1 = some 67 := rfl
theorem A_67 (i : Int32) : aJ (hpOf iv jv) 67 i = if ¬ i < 0 ∧ i.toNatClampNeg < 610 then some (jv 67 i.toNatClampNeg) else none := rfl
theorem U_67 (i : Int32) (x : Int64) : uJ (hpOf iv jv) 67 i x = if ¬ i < 0 ∧ i.toNatClampNeg < 610 then some (hpOf iv (up jv 67 i.toNatClampNeg x)) else none := by
  show (if ¬ i < 0 ∧ i.toNatClampNeg < 610 then some (va_up (hpOf iv jv) 67 (.inl (2, 610, .inr (.inl (vp_updL (jv 67) i.toNatClampNeg x))))) else none) = _
  rw [hp_vj (iv := iv) (jv := jv) (k := 67) (j := i.toNatClampNeg) (x := x) (by rw [up_row]; rfl)]
theorem Ln_67 : aL (hpOf iv jv) 67 = some 610 := rfl
theorem V_68 {α : Type} (r : Option α) : vC (hpOf iv jv) 68 1 r = r := rfl
theorem G_68_0 : gR (hpOf iv jv) 68 1 0 = some 13 := rfl
theorem G_68_1 : gR (hpOf iv jv) 68 1 1 = some 69 := rfl
theorem G_68_2 : gR (hpOf iv jv) 68 1 2 = some 70 := rfl
theorem G_68_3 : gR (hpOf iv jv) 68 1 3 = some 71 := rfl
theorem G_68_4 : gI (hpOf iv jv) 68 1 4 = some (iv 68 4) := rfl
theorem S_68_4 (x : Int32) : pI (hpOf iv jv) 68 1 4 x = some (hpOf (up iv 68 4 x) jv) := congrArg some (hp_vi (by rw [up_row]; rfl))
theorem G_68_5 : gI (hpOf iv jv) 68 1 5 = some (iv 68 5) := rfl
theorem S_68_5 (x : Int32) : pI (hpOf iv jv) 68 1 5 x = some (hpOf (up iv 68 5 x) jv) := congrArg some (hp_vi (by rw [up_row]; rfl))
theorem A_69 (i : Int32) : aI (hpOf iv jv) 69 0 i = if ¬ i < 0 ∧ i.toNatClampNeg < 5 then some (iv 69 i.toNatClampNeg) else none := rfl
theorem U_69 (i x : Int32) : uI (hpOf iv jv) 69 i x = if ¬ i < 0 ∧ i.toNatClampNeg < 5 then some (hpOf (up iv 69 i.toNatClampNeg x) jv) else none := by
  show (if ¬ i < 0 ∧ i.toNatClampNeg < 5 then some (va_up (hpOf iv jv) 69 (.inl (0, 5, .inl (upd (iv 69) i.toNatClampNeg x)))) else none) = _
  rw [hp_vi (iv := iv) (jv := jv) (k := 69) (j := i.toNatClampNeg) (x := x) (by rw [up_row]; rfl)]
theorem B_69 : aA (hpOf iv jv) 69 0 = some (5, iv 69) := rfl
theorem A_70 (i : Int32) : aI (hpOf iv jv) 70 0 i = if ¬ i < 0 ∧ i.toNatClampNeg < 5 then some (iv 70 i.toNatClampNeg) else none := rfl
theorem U_70 (i x : Int32) : uI (hpOf iv jv) 70 i x = if ¬ i < 0 ∧ i.toNatClampNeg < 5 then some (hpOf (up iv 70 i.toNatClampNeg x) jv) else none := by
  show (if ¬ i < 0 ∧ i.toNatClampNeg < 5 then some (va_up (hpOf iv jv) 70 (.inl (0, 5, .inl (upd (iv 70) i.toNatClampNeg x)))) else none) = _
  rw [hp_vi (iv := iv) (jv := jv) (k := 70) (j := i.toNatClampNeg) (x := x) (by rw [up_row]; rfl)]
theorem B_70 : aA (hpOf iv jv) 70 0 = some (5, iv 70) := rfl
theorem A_71 (i : Int32) : aI (hpOf iv jv) 71 0 i = if ¬ i < 0 ∧ i.toNatClampNeg < 50 then some (iv 71 i.toNatClampNeg) else none := rfl
theorem U_71 (i x : Int32) : uI (hpOf iv jv) 71 i x = if ¬ i < 0 ∧ i.toNatClampNeg < 50 then some (hpOf (up iv 71 i.toNatClampNeg x) jv) else none := by
  show (if ¬ i < 0 ∧ i.toNatClampNeg < 50 then some (va_up (hpOf iv jv) 71 (.inl (0, 50, .inl (upd (iv 71) i.toNatClampNeg x)))) else none) = _
  rw [hp_vi (iv := iv) (jv := jv) (k := 71) (j := i.toNatClampNeg) (x := x) (by rw [up_row]; rfl)]
theorem B_71 : aA (hpOf iv jv) 71 0 = some (50, iv 71) := rfl
theorem V_72 {α : Type} (r : Option α) : vC (hpOf iv jv) 72 10 r = r := rfl
theorem G_72_0 : gR (hpOf iv jv) 72 10 0 = some 73 := rfl
theorem G_72_1 : gR (hpOf iv jv) 72 10 1 = some 74 := rfl
theorem G_72_2 : gR (hpOf iv jv) 72 10 2 = some 75 := rfl
theorem G_72_3 : gI (hpOf iv jv) 72 10 3 = some (iv 72 3) := rfl
theorem S_72_3 (x : Int32) : pI (hpOf iv jv) 72 10 3 x = some (hpOf (up iv 72 3 x) jv) := congrArg some (hp_vi (by rw [up_row]; rfl))
theorem G_72_4 : gI (hpOf iv jv) 72 10 4 = some (iv 72 4) := rfl
theorem S_72_4 (x : Int32) : pI (hpOf iv jv) 72 10 4 x = some (hpOf (up iv 72 4 x) jv) := congrArg some (hp_vi (by rw [up_row]; rfl))
theorem G_72_5 : gJ (hpOf iv jv) 72 10 5 = some (jv 72 5) := rfl
theorem S_72_5 (x : Int64) : pJ (hpOf iv jv) 72 10 5 x = some (hpOf iv (up jv 72 5 x)) := congrArg some (hp_vj (by rw [up_row]; rfl))
theorem G_72_6 : gJ (hpOf iv jv) 72 10 6 = some (jv 72 6) := rfl
theorem S_72_6 (x : Int64) : pJ (hpOf iv jv) 72 10 6 x = some (hpOf iv (up jv 72 6 x)) := congrArg some (hp_vj (by rw [up_row]; rfl))
theorem G_72_7 : gR (hpOf iv jv) 72 10 7 = some 76 := rfl
theorem G_72_8 : gI (hpOf iv jv) 72 10 8 = some (iv 72 8) := rfl
theorem S_72_8 (x : Int32) : pI (hpOf iv jv) 72 10 8 x = some (hpOf (up iv 72 8 x) jv) := congrArg some (hp_vi (by rw [up_row]; rfl))
theorem G_72_9 : gI (hpOf iv jv) 72 10 9 = some (iv 72 9) := rfl
theorem S_72_9 (x : Int32) : pI (hpOf iv jv) 72 10 9 x = some (hpOf (up iv 72 9 x) jv) := congrArg some (hp_vi (by rw [up_row]; rfl))
theorem G_72_10 : gI (hpOf iv jv) 72 10 10 = some (iv 72 10) := rfl
theorem S_72_10 (x : Int32) : pI (hpOf iv jv) 72 10 10 x = some (hpOf (up iv 72 10 x) jv) := congrArg some (hp_vi (by rw [up_row]; rfl))
theorem G_72_11 : gR (hpOf iv jv) 72 10 11 = some 77 := rfl
theorem G_72_12 : gR (hpOf iv jv) 72 10 12 = some 78 := rfl
theorem G_72_13 : gR (hpOf iv jv) 72 10 13 = some 79 := rfl
theorem G_72_14 : gI (hpOf iv jv) 72 10 14 = some (iv 72 14) := rfl
theorem S_72_14 (x : Int32) : pI (hpOf iv jv) 72 10 14 x = some (hpOf (up iv 72 14 x) jv) := congrArg some (hp_vi (by rw [up_row]; rfl))
theorem G_72_15 : gI (hpOf iv jv) 72 10 15 = some (iv 72 15) := rfl
theorem S_72_15 (x : Int32) : pI (hpOf iv jv) 72 10 15 x = some (hpOf (up iv 72 15 x) jv) := congrArg some (hp_vi (by rw [up_row]; rfl))
theorem G_72_16 : gI (hpOf iv jv) 72 10 16 = some (iv 72 16) := rfl
theorem S_72_16 (x : Int32) : pI (hpOf iv jv) 72 10 16 x = some (hpOf (up iv 72 16 x) jv) := congrArg some (hp_vi (by rw [up_row]; rfl))
theorem G_72_17 : gJ (hpOf iv jv) 72 10 17 = some (jv 72 17) := rfl
theorem S_72_17 (x : Int64) : pJ (hpOf iv jv) 72 10 17 x = some (hpOf iv (up jv 72 17 x)) := congrArg some (hp_vj (by rw [up_row]; rfl))
theorem G_72_18 : gR (hpOf iv jv) 72 10 18 = some 80 := rfl
theorem G_72_19 : gR (hpOf iv jv) 72 10 19 = some 81 := rfl
theorem G_72_20 : gR (hpOf iv jv) 72 10 20 = some 82 := rfl
theorem G_72_21 : gI (hpOf iv jv) 72 10 21 = some (iv 72 21) := rfl
theorem S_72_21 (x : Int32) : pI (hpOf iv jv) 72 10 21 x = some (hpOf (up iv 72 21 x) jv) := congrArg some (hp_vi (by rw [up_row]; rfl))
theorem G_72_22 : gI (hpOf iv jv) 72 10 22 = some (iv 72 22) := rfl
theorem S_72_22 (x : Int32) : pI (hpOf iv jv) 72 10 22 x = some (hpOf (up iv 72 22 x) jv) := congrArg some (hp_vi (by rw [up_row]; rfl))
theorem G_72_23 : gR (hpOf iv jv) 72 10 23 = some 83 := rfl
theorem G_72_24 : gR (hpOf iv jv) 72 10 24 = some 84 := rfl
theorem G_72_25 : gR (hpOf iv jv) 72 10 25 = some 85 := rfl
theorem G_72_26 : gR (hpOf iv jv) 72 10 26 = some 86 := rfl
theorem A_73 (i : Int32) : aI (hpOf iv jv) 73 0 i = if ¬ i < 0 ∧ i.toNatClampNeg < 277 then some (iv 73 i.toNatClampNeg) else none := rfl
theorem U_73 (i x : Int32) : uI (hpOf iv jv) 73 i x = if ¬ i < 0 ∧ i.toNatClampNeg < 277 then some (hpOf (up iv 73 i.toNatClampNeg x) jv) else none := by
  show (if ¬ i < 0 ∧ i.toNatClampNeg < 277 then some (va_up (hpOf iv jv) 73 (.inl (0, 277, .inl (upd (iv 73) i.toNatClampNeg x)))) else none) = _
  rw [hp_vi (iv := iv) (jv := jv) (k := 73) (j := i.toNatClampNeg) (x := x) (by rw [up_row]; rfl)]
theorem B_73 : aA (hpOf iv jv) 73 0 = some (277, iv 73) := rfl
theorem A_74 (i : Int32) : aI (hpOf iv jv) 74 0 i = if ¬ i < 0 ∧ i.toNatClampNeg < 277 then some (iv 74 i.toNatClampNeg) else none := rfl
theorem U_74 (i x : Int32) : uI (hpOf iv jv) 74 i x = if ¬ i < 0 ∧ i.toNatClampNeg < 277 then some (hpOf (up iv 74 i.toNatClampNeg x) jv) else none := by
  show (if ¬ i < 0 ∧ i.toNatClampNeg < 277 then some (va_up (hpOf iv jv) 74 (.inl (0, 277, .inl (upd (iv 74) i.toNatClampNeg x)))) else none) = _
  rw [hp_vi (iv := iv) (jv := jv) (k := 74) (j := i.toNatClampNeg) (x := x) (by rw [up_row]; rfl)]
theorem B_74 : aA (hpOf iv jv) 74 0 = some (277, iv 74) := rfl
theorem A_75 (i : Int32) : aI (hpOf iv jv) 75 0 i = if ¬ i < 0 ∧ i.toNatClampNeg < 277 then some (iv 75 i.toNatClampNeg) else none := rfl
theorem U_75 (i x : Int32) : uI (hpOf iv jv) 75 i x = if ¬ i < 0 ∧ i.toNatClampNeg < 277 then some (hpOf (up iv 75 i.toNatClampNeg x) jv) else none := by
  show (if ¬ i < 0 ∧ i.toNatClampNeg < 277 then some (va_up (hpOf iv jv) 75 (.inl (0, 277, .inl (upd (iv 75) i.toNatClampNeg x)))) else none) = _
  rw [hp_vi (iv := iv) (jv := jv) (k := 75) (j := i.toNatClampNeg) (x := x) (by rw [up_row]; rfl)]
theorem B_75 : aA (hpOf iv jv) 75 0 = some (277, iv 75) := rfl
theorem A_76 (i : Int32) : aI (hpOf iv jv) 76 0 i = if ¬ i < 0 ∧ i.toNatClampNeg < 3 then some (iv 76 i.toNatClampNeg) else none := rfl
theorem U_76 (i x : Int32) : uI (hpOf iv jv) 76 i x = if ¬ i < 0 ∧ i.toNatClampNeg < 3 then some (hpOf (up iv 76 i.toNatClampNeg x) jv) else none := by
  show (if ¬ i < 0 ∧ i.toNatClampNeg < 3 then some (va_up (hpOf iv jv) 76 (.inl (0, 3, .inl (upd (iv 76) i.toNatClampNeg x)))) else none) = _
  rw [hp_vi (iv := iv) (jv := jv) (k := 76) (j := i.toNatClampNeg) (x := x) (by rw [up_row]; rfl)]
theorem B_76 : aA (hpOf iv jv) 76 0 = some (3, iv 76) := rfl
theorem A_77 (i : Int32) : aI (hpOf iv jv) 77 0 i = if ¬ i < 0 ∧ i.toNatClampNeg < 8 then some (iv 77 i.toNatClampNeg) else none := rfl
theorem U_77 (i x : Int32) : uI (hpOf iv jv) 77 i x = if ¬ i < 0 ∧ i.toNatClampNeg < 8 then some (hpOf (up iv 77 i.toNatClampNeg x) jv) else none := by
  show (if ¬ i < 0 ∧ i.toNatClampNeg < 8 then some (va_up (hpOf iv jv) 77 (.inl (0, 8, .inl (upd (iv 77) i.toNatClampNeg x)))) else none) = _
  rw [hp_vi (iv := iv) (jv := jv) (k := 77) (j := i.toNatClampNeg) (x := x) (by rw [up_row]; rfl)]
theorem B_77 : aA (hpOf iv jv) 77 0 = some (8, iv 77) := rfl
theorem A_78 (i : Int32) : aI (hpOf iv jv) 78 0 i = if ¬ i < 0 ∧ i.toNatClampNeg < 8 then some (iv 78 i.toNatClampNeg) else none := rfl
theorem U_78 (i x : Int32) : uI (hpOf iv jv) 78 i x = if ¬ i < 0 ∧ i.toNatClampNeg < 8 then some (hpOf (up iv 78 i.toNatClampNeg x) jv) else none := by
  show (if ¬ i < 0 ∧ i.toNatClampNeg < 8 then some (va_up (hpOf iv jv) 78 (.inl (0, 8, .inl (upd (iv 78) i.toNatClampNeg x)))) else none) = _
  rw [hp_vi (iv := iv) (jv := jv) (k := 78) (j := i.toNatClampNeg) (x := x) (by rw [up_row]; rfl)]
theorem B_78 : aA (hpOf iv jv) 78 0 = some (8, iv 78) := rfl
theorem A_79 (i : Int32) : aI (hpOf iv jv) 79 0 i = if ¬ i < 0 ∧ i.toNatClampNeg < 8 then some (iv 79 i.toNatClampNeg) else none := rfl
theorem U_79 (i x : Int32) : uI (hpOf iv jv) 79 i x = if ¬ i < 0 ∧ i.toNatClampNeg < 8 then some (hpOf (up iv 79 i.toNatClampNeg x) jv) else none := by
  show (if ¬ i < 0 ∧ i.toNatClampNeg < 8 then some (va_up (hpOf iv jv) 79 (.inl (0, 8, .inl (upd (iv 79) i.toNatClampNeg x)))) else none) = _
  rw [hp_vi (iv := iv) (jv := jv) (k := 79) (j := i.toNatClampNeg) (x := x) (by rw [up_row]; rfl)]
theorem B_79 : aA (hpOf iv jv) 79 0 = some (8, iv 79) := rfl
theorem A_80 (i : Int32) : aI (hpOf iv jv) 80 0 i = if ¬ i < 0 ∧ i.toNatClampNeg < 37 then some (iv 80 i.toNatClampNeg) else none := rfl
theorem U_80 (i x : Int32) : uI (hpOf iv jv) 80 i x = if ¬ i < 0 ∧ i.toNatClampNeg < 37 then some (hpOf (up iv 80 i.toNatClampNeg x) jv) else none := by
  show (if ¬ i < 0 ∧ i.toNatClampNeg < 37 then some (va_up (hpOf iv jv) 80 (.inl (0, 37, .inl (upd (iv 80) i.toNatClampNeg x)))) else none) = _
  rw [hp_vi (iv := iv) (jv := jv) (k := 80) (j := i.toNatClampNeg) (x := x) (by rw [up_row]; rfl)]
theorem B_80 : aA (hpOf iv jv) 80 0 = some (37, iv 80) := rfl
theorem A_81 (i : Int32) : aI (hpOf iv jv) 81 1 i = if ¬ i < 0 ∧ i.toNatClampNeg < 256 then some (iv 81 i.toNatClampNeg) else none := rfl
theorem U_81 (i x : Int32) : uZ (hpOf iv jv) 81 i x = if ¬ i < 0 ∧ i.toNatClampNeg < 256 then some (hpOf (up iv 81 i.toNatClampNeg (nZ x)) jv) else none := by
  show (if ¬ i < 0 ∧ i.toNatClampNeg < 256 then some (va_up (hpOf iv jv) 81 (.inl (1, 256, .inl (upd (iv 81) i.toNatClampNeg (nZ x))))) else none) = _
  rw [hp_vi (iv := iv) (jv := jv) (k := 81) (j := i.toNatClampNeg) (x := (nZ x)) (by rw [up_row]; rfl)]
theorem B_81 : aA (hpOf iv jv) 81 1 = some (256, iv 81) := rfl
theorem A_82 (i : Int32) : aI (hpOf iv jv) 82 0 i = if ¬ i < 0 ∧ i.toNatClampNeg < 256 then some (iv 82 i.toNatClampNeg) else none := rfl
theorem U_82 (i x : Int32) : uI (hpOf iv jv) 82 i x = if ¬ i < 0 ∧ i.toNatClampNeg < 256 then some (hpOf (up iv 82 i.toNatClampNeg x) jv) else none := by
  show (if ¬ i < 0 ∧ i.toNatClampNeg < 256 then some (va_up (hpOf iv jv) 82 (.inl (0, 256, .inl (upd (iv 82) i.toNatClampNeg x)))) else none) = _
  rw [hp_vi (iv := iv) (jv := jv) (k := 82) (j := i.toNatClampNeg) (x := x) (by rw [up_row]; rfl)]
theorem B_82 : aA (hpOf iv jv) 82 0 = some (256, iv 82) := rfl
theorem A_83 (i : Int32) : aI (hpOf iv jv) 83 0 i = if ¬ i < 0 ∧ i.toNatClampNeg < 8 then some (iv 83 i.toNatClampNeg) else none := rfl
theorem U_83 (i x : Int32) : uI (hpOf iv jv) 83 i x = if ¬ i < 0 ∧ i.toNatClampNeg < 8 then some (hpOf (up iv 83 i.toNatClampNeg x) jv) else none := by
  show (if ¬ i < 0 ∧ i.toNatClampNeg < 8 then some (va_up (hpOf iv jv) 83 (.inl (0, 8, .inl (upd (iv 83) i.toNatClampNeg x)))) else none) = _
  rw [hp_vi (iv := iv) (jv := jv) (k := 83) (j := i.toNatClampNeg) (x := x) (by rw [up_row]; rfl)]
theorem B_83 : aA (hpOf iv jv) 83 0 = some (8, iv 83) := rfl
theorem A_84 (i : Int32) : aI (hpOf iv jv) 84 0 i = if ¬ i < 0 ∧ i.toNatClampNeg < 8 then some (iv 84 i.toNatClampNeg) else none := rfl
theorem U_84 (i x : Int32) : uI (hpOf iv jv) 84 i x = if ¬ i < 0 ∧ i.toNatClampNeg < 8 then some (hpOf (up iv 84 i.toNatClampNeg x) jv) else none := by
  show (if ¬ i < 0 ∧ i.toNatClampNeg < 8 then some (va_up (hpOf iv jv) 84 (.inl (0, 8, .inl (upd (iv 84) i.toNatClampNeg x)))) else none) = _
  rw [hp_vi (iv := iv) (jv := jv) (k := 84) (j := i.toNatClampNeg) (x := x) (by rw [up_row]; rfl)]
theorem B_84 : aA (hpOf iv jv) 84 0 = some (8, iv 84) := rfl
theorem A_85 (i : Int32) : aJ (hpOf iv jv) 85 i = if ¬ i < 0 ∧ i.toNatClampNeg < 610 then some (jv 85 i.toNatClampNeg) else none := rfl
theorem U_85 (i : Int32) (x : Int64) : uJ (hpOf iv jv) 85 i x = if ¬ i < 0 ∧ i.toNatClampNeg < 610 then some (hpOf iv (up jv 85 i.toNatClampNeg x)) else none := by
  show (if ¬ i < 0 ∧ i.toNatClampNeg < 610 then some (va_up (hpOf iv jv) 85 (.inl (2, 610, .inr (.inl (vp_updL (jv 85) i.toNatClampNeg x))))) else none) = _
  rw [hp_vj (iv := iv) (jv := jv) (k := 85) (j := i.toNatClampNeg) (x := x) (by rw [up_row]; rfl)]
theorem Ln_85 : aL (hpOf iv jv) 85 = some 610 := rfl
theorem A_86 (i : Int32) : aJ (hpOf iv jv) 86 i = if ¬ i < 0 ∧ i.toNatClampNeg < 610 then some (jv 86 i.toNatClampNeg) else none := rfl
theorem U_86 (i : Int32) (x : Int64) : uJ (hpOf iv jv) 86 i x = if ¬ i < 0 ∧ i.toNatClampNeg < 610 then some (hpOf iv (up jv 86 i.toNatClampNeg x)) else none := by
  show (if ¬ i < 0 ∧ i.toNatClampNeg < 610 then some (va_up (hpOf iv jv) 86 (.inl (2, 610, .inr (.inl (vp_updL (jv 86) i.toNatClampNeg x))))) else none) = _
  rw [hp_vj (iv := iv) (jv := jv) (k := 86) (j := i.toNatClampNeg) (x := x) (by rw [up_row]; rfl)]
theorem Ln_86 : aL (hpOf iv jv) 86 = some 610 := rfl
theorem Q_17 (i : Int32) : aQ (hpOf iv jv) 17 i = if 17 < NC ∧ 3 = 3 ∧ ¬ i < 0 ∧ i.toNatClampNeg < 2 then (if i.toNatClampNeg = 1 then some 34 else if i.toNatClampNeg = 0 then some 18 else none) else none := rfl
theorem Q_17_0 : aQ (hpOf iv jv) 17 0 = some 18 := rfl
theorem Q_17_1 : aQ (hpOf iv jv) 17 1 = some 34 := rfl
end LIT
/-- reads and writes at a place that is a number -/
theorem ai_nI {i N : Nat} {α : Type} {a b : α} (h : i < N) (hN : N < 2 ^ 31) : (if ¬ nI i < 0 ∧ (nI i).toNatClampNeg < N then a else b) = a := if_pos ⟨nI_pos (by omega), by rw [nI_clamp (by omega)]; exact h⟩
def iv0 : Nat → Nat → Int32 := up (up (up (up (fun _ _ => 0) 0 10 1) 13 2 (-1)) 30 2 (-1)) 46 2 (-1)
def jv0 : Nat → Nat → Int64 := up (fun _ _ => 0) 72 6 1
set_option maxRecDepth 100000 in
theorem cel_T : T0.mapIdx (fun k c => cel (iv0 k) (jv0 k) c) = T0 := rfl
theorem cel_in (k : Nat) (hk : k < 87) : cel (iv0 k) (jv0 k) (hp0 k) = hp0 k := by
  have hl : T0.length = 87 := rfl
  have h1 : T0[k]? = some (hp0 k) := by
    unfold hp0
    rw [List.getD_eq_getElem?_getD, List.getElem?_eq_getElem (by rw [hl]; exact hk)]
    rfl
  have h2 := congrArg (fun l => l[k]?) cel_T
  rw [List.getElem?_mapIdx, h1] at h2
  exact Option.some.inj h2
theorem hp0_of : hp0 = hpOf iv0 jv0 := by
  funext k
  unfold hpOf
  by_cases hk : k < 87
  · exact (cel_in k hk).symm
  · have e : hp0 k = .inr (0, []) := by
      unfold hp0
      rw [List.getD_eq_getElem?_getD, List.getElem?_eq_none (by show (87 : Nat) ≤ k; omega)]
      rfl
    rw [e]; rfl
