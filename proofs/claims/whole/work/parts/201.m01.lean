-- X0_append
def f_X0_append_L5 : Nat → Nat → Int64 → Int32 → PH → Option (Int32 × PH)
  | 0, _, _, _, _ => none
  | n + 1, a0, a1, a4, hp => (if a4 < 0 then (gI hp a0 0 0).bind fun x1 => (some (x1, hp)) else (gI hp a0 0 0).bind fun x2 => (if 200 ≤ x2 then (gI hp a0 0 0).bind fun x3 => (some (x3, hp)) else (gR hp a0 0 1).bind fun x4 => (gI hp a0 0 0).bind fun x5 => (uI hp x4 x5 (Int64.toInt32 ((jR a1 (8 * a4)) &&& 255))).bind fun hp6 => (gI hp6 a0 0 0).bind fun x7 => (pI hp6 a0 0 0 (x7 + 1)).bind fun hp8 => ((f_X0_append_L5 n) a0 a1 (a4 + (-1)) hp8)))
def f_X0_append (a0 : Nat) (a1 : Int64) (a3 : Int32) (hp : PH) : Option (Int32 × PH) := (f_X0_append_L5 NN a0 a1 (a3 - 1) hp)
set_option maxRecDepth 100000 in
set_option maxHeartbeats 4000000 in
theorem mf_X0_append_L5 {K : GK} : ∀ (n : Nat) (a0 : Nat) (a1 : Int64) (a4 : Int32) (hp : PH) (r : (Int32 × PH)), f_X0_append_L5 n a0 a1 a4 hp = some r → PW K (rmD (0)) 0 0 M_X0_append 5 [(0, .ref (ga K a0)), (1, .long a1), (4, .int a4)] [] hp (some (.int r.1)) r.2 := by
  intro n
  induction n with
  | zero =>
    intro a0 a1 a4 hp r h
    rw [f_X0_append_L5] at h
    cases h
  | succ n ih =>
    intro a0 a1 a4 hp r h
    rw [f_X0_append_L5] at h
    refine PW.iload 2 dX0_append_5 rfl ?_
    refine PW.if_lt (tgt := 57) dX0_append_7 (by decide) (fun c7 => ?_) (fun c7 => ?_)
    · rw [if_pos c7] at h
      refine PW.aload_n 0 dX0_append_57 rfl rfl ?_
      obtain ⟨x1, hx1, h⟩ := bind_some h
      refine PW.getI cls_X0 (j := 0) (by decide) dX0_append_58 wd_149 hx1 ?_
      have h := Option.some.inj h; subst h
      exact PW.ret dX0_append_61 trivial rfl
    · rw [if_neg c7] at h
      refine PW.aload_n 0 dX0_append_10 rfl rfl ?_
      obtain ⟨x2, hx2, h⟩ := bind_some h
      refine PW.getI cls_X0 (j := 0) (by decide) dX0_append_11 wd_149 hx2 ?_
      refine PW.sipush (x := 200) dX0_append_14 (by decide) ?_
      refine PW.icmp_ge (tgt := 57) dX0_append_17 (by decide) (fun c17 => ?_) (fun c17 => ?_)
      · rw [if_pos c17] at h
        refine PW.aload_n 0 dX0_append_57 rfl rfl ?_
        obtain ⟨x3, hx3, h⟩ := bind_some h
        refine PW.getI cls_X0 (j := 0) (by decide) dX0_append_58 wd_149 hx3 ?_
        have h := Option.some.inj h; subst h
        exact PW.ret dX0_append_61 trivial rfl
      · rw [if_neg c17] at h
        refine PW.aload_n 0 dX0_append_20 rfl rfl ?_
        obtain ⟨x4, hx4, h⟩ := bind_some h
        refine PW.getR cls_X0 (j := 1) (by decide) dX0_append_21 wd_153 hx4 ?_
        refine PW.aload_n 0 dX0_append_24 rfl rfl ?_
        obtain ⟨x5, hx5, h⟩ := bind_some h
        refine PW.getI cls_X0 (j := 0) (by decide) dX0_append_25 wd_149 hx5 ?_
        refine PW.lload_n 1 dX0_append_28 rfl rfl ?_
        refine PW.bipush (x := 8) dX0_append_29 (by decide) ?_
        refine PW.iload 2 dX0_append_31 rfl ?_
        refine PW.imul dX0_append_33 ?_
        refine PW.lshr dX0_append_34 ?_
        refine PW.ldc2 (x := 255) dX0_append_35 wd_535 ?_
        refine PW.land dX0_append_38 ?_
        refine PW.l2i dX0_append_39 ?_
        obtain ⟨hp6, hhp6, h⟩ := bind_some h
        refine PW.iast dX0_append_40 hhp6 ?_
        refine PW.aload_n 0 dX0_append_41 rfl rfl ?_
        refine PW.dup dX0_append_42 rfl ?_
        obtain ⟨x7, hx7, h⟩ := bind_some h
        refine PW.getI cls_X0 (j := 0) (by decide) dX0_append_43 wd_149 hx7 ?_
        refine PW.iconst (x := 1) dX0_append_46 (by decide) ?_
        refine PW.iadd dX0_append_47 ?_
        obtain ⟨hp8, hhp8, h⟩ := bind_some h
        refine PW.putI cls_X0 clw_X0 (j := 0) (by decide) dX0_append_48 wd_149 rfl rfl hhp8 ?_
        refine PW.iinc 2 (l' := [(4, .int (a4 + (-1))), (0, .ref (ga K a0)), (1, .long a1)]) dX0_append_51 rfl (x := a4) (y := (a4 + (-1))) rfl (by decide) rfl ?_
        refine PW.goto (tgt := 5) dX0_append_54 (by decide) ?_
        exact PW.sub (l' := [(0, .ref (ga K a0)), (1, .long a1), (4, .int (a4 + (-1)))]) [1, 2, 0] rfl (ih a0 a1 (a4 + (-1)) hp8 _ h)
set_option maxRecDepth 100000 in
set_option maxHeartbeats 4000000 in
theorem mf_X0_append {K : GK} : ∀ (a0 : Nat) (a1 : Int64) (a3 : Int32) (hp : PH) (r : (Int32 × PH)), f_X0_append a0 a1 a3 hp = some r → PM K (0) M_X0_append [.ref (ga K a0), .long a1, .int a3] hp (some (.int r.1)) r.2 := by
  intro a0 a1 a3 hp r h
  unfold f_X0_append at h
  refine PM.enter (l0 := [(0, .ref (ga K a0)), (1, .long a1), (3, .int a3)]) (by decide +kernel) rfl (Nat.le_of_ble_eq_true rfl) rfl ?_
  refine PW.iload_n 2 dX0_append_0 rfl rfl ?_
  refine PW.iconst (x := 1) dX0_append_1 (by decide) ?_
  refine PW.isub dX0_append_2 ?_
  refine PW.istore (l' := [(4, .int (a3 - 1)), (0, .ref (ga K a0)), (1, .long a1), (3, .int a3)]) dX0_append_3 (by decide) rfl ?_
  exact PW.sub (l' := [(0, .ref (ga K a0)), (1, .long a1), (4, .int (a3 - 1))]) [1, 2, 0] rfl (mf_X0_append_L5 NN a0 a1 (a3 - 1) hp _ h)
-- X0_at
def f_X0_at (a0 : Nat) (a1 : Int32) (hp : PH) : Option Int32 := (if a1 < 0 then (some (-1)) else (gI hp a0 0 0).bind fun x1 => (if x1 ≤ a1 then (some (-1)) else (gR hp a0 0 1).bind fun x2 => (aI hp x2 0 a1).bind fun x3 => (some x3)))
set_option maxRecDepth 100000 in
set_option maxHeartbeats 4000000 in
theorem mf_X0_at {K : GK} : ∀ (a0 : Nat) (a1 : Int32) (hp : PH) (r : Int32), f_X0_at a0 a1 hp = some r → PM K (0) M_X0_at [.ref (ga K a0), .int a1] hp (some (.int r)) hp := by
  intro a0 a1 hp r h
  unfold f_X0_at at h
  refine PM.enter (l0 := [(0, .ref (ga K a0)), (1, .int a1)]) (by decide +kernel) rfl (Nat.le_of_ble_eq_true rfl) rfl ?_
  refine PW.iload_n 1 dX0_at_0 rfl rfl ?_
  refine PW.if_lt (tgt := 21) dX0_at_1 (by decide) (fun c1 => ?_) (fun c1 => ?_)
  · rw [if_pos c1] at h
    refine PW.iconst (x := (-1)) dX0_at_21 (by decide) ?_
    have h := Option.some.inj h; subst h
    exact PW.ret dX0_at_22 trivial rfl
  · rw [if_neg c1] at h
    refine PW.iload_n 1 dX0_at_4 rfl rfl ?_
    refine PW.aload_n 0 dX0_at_5 rfl rfl ?_
    obtain ⟨x1, hx1, h⟩ := bind_some h
    refine PW.getI cls_X0 (j := 0) (by decide) dX0_at_6 wd_149 hx1 ?_
    refine PW.icmp_ge (tgt := 21) dX0_at_9 (by decide) (fun c9 => ?_) (fun c9 => ?_)
    · rw [if_pos c9] at h
      refine PW.iconst (x := (-1)) dX0_at_21 (by decide) ?_
      have h := Option.some.inj h; subst h
      exact PW.ret dX0_at_22 trivial rfl
    · rw [if_neg c9] at h
      refine PW.aload_n 0 dX0_at_12 rfl rfl ?_
      obtain ⟨x2, hx2, h⟩ := bind_some h
      refine PW.getR cls_X0 (j := 1) (by decide) dX0_at_13 wd_153 hx2 ?_
      refine PW.iload_n 1 dX0_at_16 rfl rfl ?_
      obtain ⟨x3, hx3, h⟩ := bind_some h
      refine PW.iald dX0_at_17 hx3 ?_
      refine PW.goto (tgt := 22) dX0_at_18 (by decide) ?_
      have h := Option.some.inj h; subst h
      exact PW.ret dX0_at_22 trivial rfl
-- X0_copyFrom
def f_X0_copyFrom (a0 : Nat) (a1 : Nat) (hp : PH) : Option PH := (gI hp a1 0 0).bind fun x1 => (pI hp a0 0 0 x1).bind fun hp2 => (gR hp2 a1 0 1).bind fun x3 => (gR hp2 a0 0 1).bind fun x4 => (cA hp2 x3 0 x4 0 200 0).bind fun hp5 => some hp5
set_option maxRecDepth 100000 in
set_option maxHeartbeats 4000000 in
theorem mf_X0_copyFrom {K : GK} : ∀ (a0 : Nat) (a1 : Nat) (hp : PH) (r : PH), f_X0_copyFrom a0 a1 hp = some r → PM K (1) M_X0_copyFrom [.ref (ga K a0), .ref (ga K a1)] hp none r := by
  intro a0 a1 hp r h
  unfold f_X0_copyFrom at h
  refine PM.enter (l0 := [(0, .ref (ga K a0)), (1, .ref (ga K a1))]) (by decide +kernel) rfl (Nat.le_of_ble_eq_true rfl) rfl ?_
  refine PW.aload_n 0 dX0_copyFrom_0 rfl rfl ?_
  refine PW.aload_n 1 dX0_copyFrom_1 rfl rfl ?_
  obtain ⟨x1, hx1, h⟩ := bind_some h
  refine PW.getI cls_X0 (j := 0) (by decide) dX0_copyFrom_2 wd_149 hx1 ?_
  obtain ⟨hp2, hhp2, h⟩ := bind_some h
  refine PW.putI cls_X0 clw_X0 (j := 0) (by decide) dX0_copyFrom_5 wd_149 rfl rfl hhp2 ?_
  refine PW.aload_n 1 dX0_copyFrom_8 rfl rfl ?_
  obtain ⟨x3, hx3, h⟩ := bind_some h
  refine PW.getR cls_X0 (j := 1) (by decide) dX0_copyFrom_9 wd_153 hx3 ?_
  refine PW.iconst (x := 0) dX0_copyFrom_12 (by decide) ?_
  refine PW.aload_n 0 dX0_copyFrom_13 rfl rfl ?_
  obtain ⟨x4, hx4, h⟩ := bind_some h
  refine PW.getR cls_X0 (j := 1) (by decide) dX0_copyFrom_14 wd_153 hx4 ?_
  refine PW.iconst (x := 0) dX0_copyFrom_17 (by decide) ?_
  refine PW.sipush (x := 200) dX0_copyFrom_18 (by decide) ?_
  obtain ⟨hp5, hhp5, h⟩ := bind_some h
  refine PW.copy dX0_copyFrom_21 wd_858 wd_654 wd_653 wd_72 rm_fr rm_lo hhp5 ?_
  have h := Option.some.inj h
  subst h
  exact PW.ret dX0_copyFrom_24 trivial rfl
-- X1_isDay
def f_X1_isDay (a0 : Int32) : Int32 := (if a0 < 0 then (0) else (if 146096 < a0 then (0) else (1)))
set_option maxRecDepth 100000 in
set_option maxHeartbeats 4000000 in
theorem mf_X1_isDay {K : GK} {hp : PH} : ∀ (a0 : Int32) (r : Int32), f_X1_isDay a0 = r → PM K (0) M_X1_isDay [.int a0] hp (some (.int r)) hp := by
  intro a0 r h
  unfold f_X1_isDay at h
  refine PM.enter (l0 := [(0, .int a0)]) (by decide +kernel) rfl (Nat.le_of_ble_eq_true rfl) rfl ?_
  refine PW.iload_n 0 dX1_isDay_0 rfl rfl ?_
  refine PW.if_lt (tgt := 14) dX1_isDay_1 (by decide) (fun c1 => ?_) (fun c1 => ?_)
  · rw [if_pos c1] at h
    refine PW.iconst (x := 0) dX1_isDay_14 (by decide) ?_
    subst h
    exact PW.ret dX1_isDay_15 (z_nar (Or.inl rfl)).1 rfl
  · rw [if_neg c1] at h
    refine PW.iload_n 0 dX1_isDay_4 rfl rfl ?_
    refine PW.ldc (x := 146096) dX1_isDay_5 wd_413 ?_
    refine PW.icmp_gt (tgt := 14) dX1_isDay_7 (by decide) (fun c7 => ?_) (fun c7 => ?_)
    · rw [if_pos c7] at h
      refine PW.iconst (x := 0) dX1_isDay_14 (by decide) ?_
      subst h
      exact PW.ret dX1_isDay_15 (z_nar (Or.inl rfl)).1 rfl
    · rw [if_neg c7] at h
      refine PW.iconst (x := 1) dX1_isDay_10 (by decide) ?_
      refine PW.goto (tgt := 15) dX1_isDay_11 (by decide) ?_
      subst h
      exact PW.ret dX1_isDay_15 (z_nar (Or.inr rfl)).1 rfl
-- X1_isYear
def f_X1_isYear (a0 : Int32) : Int32 := (if a0 < 1800 then (0) else (if 2199 < a0 then (0) else (1)))
set_option maxRecDepth 100000 in
set_option maxHeartbeats 4000000 in
theorem mf_X1_isYear {K : GK} {hp : PH} : ∀ (a0 : Int32) (r : Int32), f_X1_isYear a0 = r → PM K (0) M_X1_isYear [.int a0] hp (some (.int r)) hp := by
  intro a0 r h
  unfold f_X1_isYear at h
  refine PM.enter (l0 := [(0, .int a0)]) (by decide +kernel) rfl (Nat.le_of_ble_eq_true rfl) rfl ?_
  refine PW.iload_n 0 dX1_isYear_0 rfl rfl ?_
  refine PW.sipush (x := 1800) dX1_isYear_1 (by decide) ?_
  refine PW.icmp_lt (tgt := 18) dX1_isYear_4 (by decide) (fun c4 => ?_) (fun c4 => ?_)
  · rw [if_pos c4] at h
    refine PW.iconst (x := 0) dX1_isYear_18 (by decide) ?_
    subst h
    exact PW.ret dX1_isYear_19 (z_nar (Or.inl rfl)).1 rfl
  · rw [if_neg c4] at h
    refine PW.iload_n 0 dX1_isYear_7 rfl rfl ?_
    refine PW.sipush (x := 2199) dX1_isYear_8 (by decide) ?_
    refine PW.icmp_gt (tgt := 18) dX1_isYear_11 (by decide) (fun c11 => ?_) (fun c11 => ?_)
    · rw [if_pos c11] at h
      refine PW.iconst (x := 0) dX1_isYear_18 (by decide) ?_
      subst h
      exact PW.ret dX1_isYear_19 (z_nar (Or.inl rfl)).1 rfl
    · rw [if_neg c11] at h
      refine PW.iconst (x := 1) dX1_isYear_14 (by decide) ?_
      refine PW.goto (tgt := 19) dX1_isYear_15 (by decide) ?_
      subst h
      exact PW.ret dX1_isYear_19 (z_nar (Or.inr rfl)).1 rfl
-- X1_placeOfMonth
def f_X1_placeOfMonth (a0 : Int32) : Option Int32 := (if a0 < 1 then (some 0) else (if 13 < a0 then (some 0) else (aM (a0 - 1)).bind fun x1 => (some x1)))
set_option maxRecDepth 100000 in
set_option maxHeartbeats 4000000 in
theorem mf_X1_placeOfMonth {K : GK} {hp : PH} : ∀ (a0 : Int32) (r : Int32), f_X1_placeOfMonth a0 = some r → PM K (0) M_X1_placeOfMonth [.int a0] hp (some (.int r)) hp := by
  intro a0 r h
  unfold f_X1_placeOfMonth at h
  refine PM.enter (l0 := [(0, .int a0)]) (by decide +kernel) rfl (Nat.le_of_ble_eq_true rfl) rfl ?_
  refine PW.iload_n 0 dX1_placeOfMonth_0 rfl rfl ?_
  refine PW.iconst (x := 1) dX1_placeOfMonth_1 (by decide) ?_
  refine PW.icmp_lt (tgt := 21) dX1_placeOfMonth_2 (by decide) (fun c2 => ?_) (fun c2 => ?_)
  · rw [if_pos c2] at h
    refine PW.iconst (x := 0) dX1_placeOfMonth_21 (by decide) ?_
    have h := Option.some.inj h; subst h
    exact PW.ret dX1_placeOfMonth_22 trivial rfl
  · rw [if_neg c2] at h
    refine PW.iload_n 0 dX1_placeOfMonth_5 rfl rfl ?_
    refine PW.bipush (x := 13) dX1_placeOfMonth_6 (by decide) ?_
    refine PW.icmp_gt (tgt := 21) dX1_placeOfMonth_8 (by decide) (fun c8 => ?_) (fun c8 => ?_)
    · rw [if_pos c8] at h
      refine PW.iconst (x := 0) dX1_placeOfMonth_21 (by decide) ?_
      have h := Option.some.inj h; subst h
      exact PW.ret dX1_placeOfMonth_22 trivial rfl
    · rw [if_neg c8] at h
      refine PW.months dX1_placeOfMonth_11 wd_384 ?_
      refine PW.iload_n 0 dX1_placeOfMonth_14 rfl rfl ?_
      refine PW.iconst (x := 1) dX1_placeOfMonth_15 (by decide) ?_
      refine PW.isub dX1_placeOfMonth_16 ?_
      obtain ⟨x1, hx1, h⟩ := bind_some h
      refine PW.mald dX1_placeOfMonth_17 hx1 ?_
      refine PW.goto (tgt := 22) dX1_placeOfMonth_18 (by decide) ?_
      have h := Option.some.inj h; subst h
      exact PW.ret dX1_placeOfMonth_22 trivial rfl
-- X1_isLeap
def f_X1_isLeap (a0 : Int32) : Int32 := (if (iR a0 4) = 0 then (if (iR a0 100) = 0 then (if (iR a0 400) = 0 then (1) else (0)) else (1)) else (0))
set_option maxRecDepth 100000 in
set_option maxHeartbeats 4000000 in
theorem mf_X1_isLeap {K : GK} {hp : PH} : ∀ (a0 : Int32) (r : Int32), f_X1_isLeap a0 = r → PM K (0) M_X1_isLeap [.int a0] hp (some (.int r)) hp := by
  intro a0 r h
  unfold f_X1_isLeap at h
  refine PM.enter (l0 := [(0, .int a0)]) (by decide +kernel) rfl (Nat.le_of_ble_eq_true rfl) rfl ?_
  refine PW.iload_n 0 dX1_isLeap_0 rfl rfl ?_
  refine PW.iconst (x := 4) dX1_isLeap_1 (by decide) ?_
  refine PW.irem dX1_isLeap_2 (by decide) ?_
  refine PW.if_ne (tgt := 25) dX1_isLeap_3 (by decide) (fun c3 => ?_) (fun c3 => ?_)
  · rw [if_neg c3] at h
    refine PW.iconst (x := 0) dX1_isLeap_25 (by decide) ?_
    subst h
    exact PW.ret dX1_isLeap_26 (z_nar (Or.inl rfl)).1 rfl
  · rw [if_pos c3] at h
    refine PW.iload_n 0 dX1_isLeap_6 rfl rfl ?_
    refine PW.bipush (x := 100) dX1_isLeap_7 (by decide) ?_
    refine PW.irem dX1_isLeap_9 (by decide) ?_
    refine PW.if_ne (tgt := 21) dX1_isLeap_10 (by decide) (fun c10 => ?_) (fun c10 => ?_)
    · rw [if_neg c10] at h
      refine PW.iconst (x := 1) dX1_isLeap_21 (by decide) ?_
      refine PW.goto (tgt := 26) dX1_isLeap_22 (by decide) ?_
      subst h
      exact PW.ret dX1_isLeap_26 (z_nar (Or.inr rfl)).1 rfl
    · rw [if_pos c10] at h
      refine PW.iload_n 0 dX1_isLeap_13 rfl rfl ?_
      refine PW.sipush (x := 400) dX1_isLeap_14 (by decide) ?_
      refine PW.irem dX1_isLeap_17 (by decide) ?_
      refine PW.if_ne (tgt := 25) dX1_isLeap_18 (by decide) (fun c18 => ?_) (fun c18 => ?_)
      · rw [if_neg c18] at h
        refine PW.iconst (x := 0) dX1_isLeap_25 (by decide) ?_
        subst h
        exact PW.ret dX1_isLeap_26 (z_nar (Or.inl rfl)).1 rfl
      · rw [if_pos c18] at h
        refine PW.iconst (x := 1) dX1_isLeap_21 (by decide) ?_
        refine PW.goto (tgt := 26) dX1_isLeap_22 (by decide) ?_
        subst h
        exact PW.ret dX1_isLeap_26 (z_nar (Or.inr rfl)).1 rfl
-- X1_daysOfMonth
def f_X1_daysOfMonth (a0 : Int32) (a1 : Int32) : Option Int32 := (f_X1_placeOfMonth (a1 + 1)).bind fun q1 => (f_X1_placeOfMonth a1).bind fun q2 => (if a1 = 2 then (if (f_X1_isLeap a0) = 0 then (some ((q1 - q2) - 1)) else (some (q1 - q2))) else (some (q1 - q2)))
set_option maxRecDepth 100000 in
set_option maxHeartbeats 4000000 in
theorem mf_X1_daysOfMonth {K : GK} {hp : PH} : ∀ (a0 : Int32) (a1 : Int32) (r : Int32), f_X1_daysOfMonth a0 a1 = some r → PM K (1) M_X1_daysOfMonth [.int a0, .int a1] hp (some (.int r)) hp := by
  intro a0 a1 r h
  unfold f_X1_daysOfMonth at h
  refine PM.enter (l0 := [(0, .int a0), (1, .int a1)]) (by decide +kernel) rfl (Nat.le_of_ble_eq_true rfl) rfl ?_
  refine PW.iload_n 1 dX1_daysOfMonth_0 rfl rfl ?_
  refine PW.iconst (x := 1) dX1_daysOfMonth_1 (by decide) ?_
  refine PW.iadd dX1_daysOfMonth_2 ?_
  obtain ⟨q1, hq1, h⟩ := bind_some h
  refine PW.callSi (As := [.int (a1 + 1)]) (rest := []) cal_X1_placeOfMonth dX1_daysOfMonth_3 wd_381 rfl rfl (rmLe (by omega)) (Nat.le_of_ble_eq_true rfl) rm_0 (mf_X1_placeOfMonth (a1 + 1) _ hq1) ?_
  refine PW.iload_n 1 dX1_daysOfMonth_6 rfl rfl ?_
  obtain ⟨q2, hq2, h⟩ := bind_some h
  refine PW.callSi (As := [.int a1]) (rest := [.int q1]) cal_X1_placeOfMonth dX1_daysOfMonth_7 wd_381 rfl rfl (rmLe (by omega)) (Nat.le_of_ble_eq_true rfl) rm_0 (mf_X1_placeOfMonth a1 _ hq2) ?_
  refine PW.isub dX1_daysOfMonth_10 ?_
  refine PW.istore_n (l' := [(2, .int (q1 - q2)), (0, .int a0), (1, .int a1)]) dX1_daysOfMonth_11 rfl (by decide) rfl ?_
  refine PW.iload_n 2 dX1_daysOfMonth_12 rfl rfl ?_
  refine PW.iconst (x := 2) dX1_daysOfMonth_13 (by decide) ?_
  refine PW.icmp_ne (tgt := 30) dX1_daysOfMonth_14 (by decide) (fun c14 => ?_) (fun c14 => ?_)
  · rw [if_neg c14] at h
    refine PW.iload_n 0 dX1_daysOfMonth_30 rfl rfl ?_
    have h := Option.some.inj h; subst h
    exact PW.ret dX1_daysOfMonth_31 trivial rfl
  · rw [if_pos c14] at h
    refine PW.iload_n 1 dX1_daysOfMonth_17 rfl rfl ?_
    refine PW.callSi (As := [.int a0]) (rest := []) cal_X1_isLeap dX1_daysOfMonth_18 wd_386 rfl rfl (rmLe (by omega)) (Nat.le_of_ble_eq_true rfl) rm_0 (mf_X1_isLeap a0 _ rfl) ?_
    refine PW.if_ne (tgt := 30) dX1_daysOfMonth_21 (by decide) (fun c21 => ?_) (fun c21 => ?_)
    · rw [if_neg c21] at h
      refine PW.iload_n 0 dX1_daysOfMonth_30 rfl rfl ?_
      have h := Option.some.inj h; subst h
      exact PW.ret dX1_daysOfMonth_31 trivial rfl
    · rw [if_pos c21] at h
      refine PW.iload_n 0 dX1_daysOfMonth_24 rfl rfl ?_
      refine PW.iconst (x := 1) dX1_daysOfMonth_25 (by decide) ?_
      refine PW.isub dX1_daysOfMonth_26 ?_
      refine PW.goto (tgt := 31) dX1_daysOfMonth_27 (by decide) ?_
      have h := Option.some.inj h; subst h
      exact PW.ret dX1_daysOfMonth_31 trivial rfl
-- X1_has
def f_X1_has (a0 : Int32) (a1 : Int32) (a2 : Int32) : Option Int32 := (if (f_X1_isYear a0) = 0 then (some 0) else (if a1 < 1 then (some 0) else (if 12 < a1 then (some 0) else (if a2 < 1 then (some 0) else (f_X1_daysOfMonth a0 a1).bind fun q2 => (if q2 < a2 then (some 0) else (some 1))))))
set_option maxRecDepth 100000 in
set_option maxHeartbeats 4000000 in
theorem mf_X1_has {K : GK} {hp : PH} : ∀ (a0 : Int32) (a1 : Int32) (a2 : Int32) (r : Int32), f_X1_has a0 a1 a2 = some r → PM K (2) M_X1_has [.int a0, .int a1, .int a2] hp (some (.int r)) hp := by
  intro a0 a1 a2 r h
  unfold f_X1_has at h
  refine PM.enter (l0 := [(0, .int a0), (1, .int a1), (2, .int a2)]) (by decide +kernel) rfl (Nat.le_of_ble_eq_true rfl) rfl ?_
  refine PW.iload_n 0 dX1_has_0 rfl rfl ?_
  refine PW.callSi (As := [.int a0]) (rest := []) cal_X1_isYear dX1_has_1 wd_375 rfl rfl (rmLe (by omega)) (Nat.le_of_ble_eq_true rfl) rm_0 (mf_X1_isYear a0 _ rfl) ?_
  refine PW.if_eq (tgt := 36) dX1_has_4 (by decide) (fun c4 => ?_) (fun c4 => ?_)
  · rw [if_pos c4] at h
    refine PW.iconst (x := 0) dX1_has_36 (by decide) ?_
    have h := Option.some.inj h; subst h
    exact PW.ret dX1_has_37 (z_nar (Or.inl rfl)).1 rfl
  · rw [if_neg c4] at h
    refine PW.iload_n 1 dX1_has_7 rfl rfl ?_
    refine PW.iconst (x := 1) dX1_has_8 (by decide) ?_
    refine PW.icmp_lt (tgt := 36) dX1_has_9 (by decide) (fun c9 => ?_) (fun c9 => ?_)
    · rw [if_pos c9] at h
      refine PW.iconst (x := 0) dX1_has_36 (by decide) ?_
      have h := Option.some.inj h; subst h
      exact PW.ret dX1_has_37 (z_nar (Or.inl rfl)).1 rfl
    · rw [if_neg c9] at h
      refine PW.iload_n 1 dX1_has_12 rfl rfl ?_
      refine PW.bipush (x := 12) dX1_has_13 (by decide) ?_
      refine PW.icmp_gt (tgt := 36) dX1_has_15 (by decide) (fun c15 => ?_) (fun c15 => ?_)
      · rw [if_pos c15] at h
        refine PW.iconst (x := 0) dX1_has_36 (by decide) ?_
        have h := Option.some.inj h; subst h
        exact PW.ret dX1_has_37 (z_nar (Or.inl rfl)).1 rfl
      · rw [if_neg c15] at h
        refine PW.iload_n 2 dX1_has_18 rfl rfl ?_
        refine PW.iconst (x := 1) dX1_has_19 (by decide) ?_
        refine PW.icmp_lt (tgt := 36) dX1_has_20 (by decide) (fun c20 => ?_) (fun c20 => ?_)
        · rw [if_pos c20] at h
          refine PW.iconst (x := 0) dX1_has_36 (by decide) ?_
          have h := Option.some.inj h; subst h
          exact PW.ret dX1_has_37 (z_nar (Or.inl rfl)).1 rfl
        · rw [if_neg c20] at h
          refine PW.iload_n 2 dX1_has_23 rfl rfl ?_
          refine PW.iload_n 0 dX1_has_24 rfl rfl ?_
          refine PW.iload_n 1 dX1_has_25 rfl rfl ?_
          obtain ⟨q2, hq2, h⟩ := bind_some h
          refine PW.callSi (As := [.int a0, .int a1]) (rest := [.int a2]) cal_X1_daysOfMonth dX1_has_26 wd_378 rfl rfl (rmLe (by omega)) (Nat.le_of_ble_eq_true rfl) rm_0 (mf_X1_daysOfMonth a0 a1 _ hq2) ?_
          refine PW.icmp_gt (tgt := 36) dX1_has_29 (by decide) (fun c29 => ?_) (fun c29 => ?_)
          · rw [if_pos c29] at h
            refine PW.iconst (x := 0) dX1_has_36 (by decide) ?_
            have h := Option.some.inj h; subst h
            exact PW.ret dX1_has_37 (z_nar (Or.inl rfl)).1 rfl
          · rw [if_neg c29] at h
            refine PW.iconst (x := 1) dX1_has_32 (by decide) ?_
            refine PW.goto (tgt := 37) dX1_has_33 (by decide) ?_
            have h := Option.some.inj h; subst h
            exact PW.ret dX1_has_37 (z_nar (Or.inr rfl)).1 rfl
-- X1_firstDayOf
def f_X1_firstDayOf (a0 : Int32) : Int32 := ((((365 * (a0 - 1800)) + ((((a0 - 1) / 4) - ((a0 - 1) / 100)) + ((a0 - 1) / 400))) - 436))
set_option maxRecDepth 100000 in
set_option maxHeartbeats 4000000 in
theorem mf_X1_firstDayOf {K : GK} {hp : PH} : ∀ (a0 : Int32) (r : Int32), f_X1_firstDayOf a0 = r → PM K (0) M_X1_firstDayOf [.int a0] hp (some (.int r)) hp := by
  intro a0 r h
  unfold f_X1_firstDayOf at h
  refine PM.enter (l0 := [(0, .int a0)]) (by decide +kernel) rfl (Nat.le_of_ble_eq_true rfl) rfl ?_
  refine PW.iload_n 0 dX1_firstDayOf_0 rfl rfl ?_
  refine PW.iconst (x := 1) dX1_firstDayOf_1 (by decide) ?_
  refine PW.isub dX1_firstDayOf_2 ?_
  refine PW.istore_n (l' := [(1, .int (a0 - 1)), (0, .int a0)]) dX1_firstDayOf_3 rfl (by decide) rfl ?_
  refine PW.iload_n 0 dX1_firstDayOf_4 rfl rfl ?_
  refine PW.iconst (x := 4) dX1_firstDayOf_5 (by decide) ?_
  refine PW.idiv dX1_firstDayOf_6 (by decide) ?_
  refine PW.iload_n 0 dX1_firstDayOf_7 rfl rfl ?_
  refine PW.bipush (x := 100) dX1_firstDayOf_8 (by decide) ?_
  refine PW.idiv dX1_firstDayOf_10 (by decide) ?_
  refine PW.isub dX1_firstDayOf_11 ?_
  refine PW.iload_n 0 dX1_firstDayOf_12 rfl rfl ?_
  refine PW.sipush (x := 400) dX1_firstDayOf_13 (by decide) ?_
  refine PW.idiv dX1_firstDayOf_16 (by decide) ?_
  refine PW.iadd dX1_firstDayOf_17 ?_
  refine PW.istore_n (l' := [(2, .int ((((a0 - 1) / 4) - ((a0 - 1) / 100)) + ((a0 - 1) / 400))), (1, .int (a0 - 1)), (0, .int a0)]) dX1_firstDayOf_18 rfl (by decide) rfl ?_
  refine PW.sipush (x := 365) dX1_firstDayOf_19 (by decide) ?_
  refine PW.iload_n 2 dX1_firstDayOf_22 rfl rfl ?_
  refine PW.sipush (x := 1800) dX1_firstDayOf_23 (by decide) ?_
  refine PW.isub dX1_firstDayOf_26 ?_
  refine PW.imul dX1_firstDayOf_27 ?_
  refine PW.iload_n 0 dX1_firstDayOf_28 rfl rfl ?_
  refine PW.iadd dX1_firstDayOf_29 ?_
  refine PW.sipush (x := 436) dX1_firstDayOf_30 (by decide) ?_
  refine PW.isub dX1_firstDayOf_33 ?_
  subst h
  exact PW.ret dX1_firstDayOf_34 trivial rfl
-- X1_dayInYear
def f_X1_dayInYear (a0 : Int32) (a1 : Int32) : Int32 := (if a1 ≤ 59 then (((f_X1_firstDayOf a0) + a1)) else (if (f_X1_isLeap a0) = 0 then (((f_X1_firstDayOf a0) + (a1 - 1))) else (((f_X1_firstDayOf a0) + a1))))
set_option maxRecDepth 100000 in
set_option maxHeartbeats 4000000 in
theorem mf_X1_dayInYear {K : GK} {hp : PH} : ∀ (a0 : Int32) (a1 : Int32) (r : Int32), f_X1_dayInYear a0 a1 = r → PM K (1) M_X1_dayInYear [.int a0, .int a1] hp (some (.int r)) hp := by
  intro a0 a1 r h
  unfold f_X1_dayInYear at h
  refine PM.enter (l0 := [(0, .int a0), (1, .int a1)]) (by decide +kernel) rfl (Nat.le_of_ble_eq_true rfl) rfl ?_
  refine PW.iload_n 1 dX1_dayInYear_0 rfl rfl ?_
  refine PW.bipush (x := 59) dX1_dayInYear_1 (by decide) ?_
  refine PW.icmp_le (tgt := 19) dX1_dayInYear_3 (by decide) (fun c3 => ?_) (fun c3 => ?_)
  · rw [if_pos c3] at h
    refine PW.iload_n 1 dX1_dayInYear_19 rfl rfl ?_
    refine PW.istore_n (l' := [(2, .int a1), (0, .int a0), (1, .int a1)]) dX1_dayInYear_20 rfl (by decide) rfl ?_
    refine PW.iload_n 1 dX1_dayInYear_21 rfl rfl ?_
    refine PW.callSi (As := [.int a0]) (rest := []) cal_X1_firstDayOf dX1_dayInYear_22 wd_395 rfl rfl (rmLe (by omega)) (Nat.le_of_ble_eq_true rfl) rm_0 (mf_X1_firstDayOf a0 _ rfl) ?_
    refine PW.iload_n 0 dX1_dayInYear_25 rfl rfl ?_
    refine PW.iadd dX1_dayInYear_26 ?_
    subst h
    exact PW.ret dX1_dayInYear_27 trivial rfl
  · rw [if_neg c3] at h
    refine PW.iload_n 0 dX1_dayInYear_6 rfl rfl ?_
    refine PW.callSi (As := [.int a0]) (rest := []) cal_X1_isLeap dX1_dayInYear_7 wd_386 rfl rfl (rmLe (by omega)) (Nat.le_of_ble_eq_true rfl) rm_0 (mf_X1_isLeap a0 _ rfl) ?_
    refine PW.if_ne (tgt := 19) dX1_dayInYear_10 (by decide) (fun c10 => ?_) (fun c10 => ?_)
    · rw [if_neg c10] at h
      refine PW.iload_n 1 dX1_dayInYear_19 rfl rfl ?_
      refine PW.istore_n (l' := [(2, .int a1), (0, .int a0), (1, .int a1)]) dX1_dayInYear_20 rfl (by decide) rfl ?_
      refine PW.iload_n 1 dX1_dayInYear_21 rfl rfl ?_
      refine PW.callSi (As := [.int a0]) (rest := []) cal_X1_firstDayOf dX1_dayInYear_22 wd_395 rfl rfl (rmLe (by omega)) (Nat.le_of_ble_eq_true rfl) rm_0 (mf_X1_firstDayOf a0 _ rfl) ?_
      refine PW.iload_n 0 dX1_dayInYear_25 rfl rfl ?_
      refine PW.iadd dX1_dayInYear_26 ?_
      subst h
      exact PW.ret dX1_dayInYear_27 trivial rfl
    · rw [if_pos c10] at h
      refine PW.iload_n 1 dX1_dayInYear_13 rfl rfl ?_
      refine PW.iconst (x := 1) dX1_dayInYear_14 (by decide) ?_
      refine PW.isub dX1_dayInYear_15 ?_
      refine PW.goto (tgt := 20) dX1_dayInYear_16 (by decide) ?_
      refine PW.istore_n (l' := [(2, .int (a1 - 1)), (0, .int a0), (1, .int a1)]) dX1_dayInYear_20 rfl (by decide) rfl ?_
      refine PW.iload_n 1 dX1_dayInYear_21 rfl rfl ?_
      refine PW.callSi (As := [.int a0]) (rest := []) cal_X1_firstDayOf dX1_dayInYear_22 wd_395 rfl rfl (rmLe (by omega)) (Nat.le_of_ble_eq_true rfl) rm_0 (mf_X1_firstDayOf a0 _ rfl) ?_
      refine PW.iload_n 0 dX1_dayInYear_25 rfl rfl ?_
      refine PW.iadd dX1_dayInYear_26 ?_
      subst h
      exact PW.ret dX1_dayInYear_27 trivial rfl
-- X1_numberOf
def f_X1_numberOf (a0 : Int32) (a1 : Int32) (a2 : Int32) : Option Int32 := (f_X1_placeOfMonth a1).bind fun q1 => (some (f_X1_dayInYear a0 ((q1 + a2) - 1)))
set_option maxRecDepth 100000 in
set_option maxHeartbeats 4000000 in
theorem mf_X1_numberOf {K : GK} {hp : PH} : ∀ (a0 : Int32) (a1 : Int32) (a2 : Int32) (r : Int32), f_X1_numberOf a0 a1 a2 = some r → PM K (2) M_X1_numberOf [.int a0, .int a1, .int a2] hp (some (.int r)) hp := by
  intro a0 a1 a2 r h
  unfold f_X1_numberOf at h
  refine PM.enter (l0 := [(0, .int a0), (1, .int a1), (2, .int a2)]) (by decide +kernel) rfl (Nat.le_of_ble_eq_true rfl) rfl ?_
  refine PW.iload_n 0 dX1_numberOf_0 rfl rfl ?_
  refine PW.iload_n 1 dX1_numberOf_1 rfl rfl ?_
  obtain ⟨q1, hq1, h⟩ := bind_some h
  refine PW.callSi (As := [.int a1]) (rest := [.int a0]) cal_X1_placeOfMonth dX1_numberOf_2 wd_381 rfl rfl (rmLe (by omega)) (Nat.le_of_ble_eq_true rfl) rm_0 (mf_X1_placeOfMonth a1 _ hq1) ?_
  refine PW.iload_n 2 dX1_numberOf_5 rfl rfl ?_
  refine PW.iadd dX1_numberOf_6 ?_
  refine PW.iconst (x := 1) dX1_numberOf_7 (by decide) ?_
  refine PW.isub dX1_numberOf_8 ?_
  refine PW.callSi (As := [.int a0, .int ((q1 + a2) - 1)]) (rest := []) cal_X1_dayInYear dX1_numberOf_9 wd_392 rfl rfl (rmLe (by omega)) (Nat.le_of_ble_eq_true rfl) rm_0 (mf_X1_dayInYear a0 ((q1 + a2) - 1) _ rfl) ?_
  have h := Option.some.inj h; subst h
  exact PW.ret dX1_numberOf_12 trivial rfl
-- X1_yearOf
def f_X1_yearOf_L12 : Nat → Int32 → Int32 → Int32 → Option Int32
  | 0, _, _, _ => none
  | n + 1, a0, a1, a2 => (if 2 ≤ a2 then (some a1) else (if a0 < (f_X1_firstDayOf (a1 + 1)) then (some a1) else ((f_X1_yearOf_L12 n) a0 (a1 + 1) (a2 + 1))))
def f_X1_yearOf (a0 : Int32) : Option Int32 := (f_X1_yearOf_L12 NN a0 (1800 + (a0 / 366)) 0)
set_option maxRecDepth 100000 in
set_option maxHeartbeats 4000000 in
theorem mf_X1_yearOf_L12 {K : GK} {hp : PH} : ∀ (n : Nat) (a0 : Int32) (a1 : Int32) (a2 : Int32) (r : Int32), f_X1_yearOf_L12 n a0 a1 a2 = some r → PW K (rmD (1)) 0 0 M_X1_yearOf 12 [(0, .int a0), (1, .int a1), (2, .int a2)] [] hp (some (.int r)) hp := by
  intro n
  induction n with
  | zero =>
    intro a0 a1 a2 r h
    rw [f_X1_yearOf_L12] at h
    cases h
  | succ n ih =>
    intro a0 a1 a2 r h
    rw [f_X1_yearOf_L12] at h
    refine PW.iload_n 2 dX1_yearOf_12 rfl rfl ?_
    refine PW.iconst (x := 2) dX1_yearOf_13 (by decide) ?_
    refine PW.icmp_ge (tgt := 36) dX1_yearOf_14 (by decide) (fun c14 => ?_) (fun c14 => ?_)
    · rw [if_pos c14] at h
      refine PW.iload_n 1 dX1_yearOf_36 rfl rfl ?_
      have h := Option.some.inj h; subst h
      exact PW.ret dX1_yearOf_37 trivial rfl
    · rw [if_neg c14] at h
      refine PW.iload_n 1 dX1_yearOf_17 rfl rfl ?_
      refine PW.iconst (x := 1) dX1_yearOf_18 (by decide) ?_
      refine PW.iadd dX1_yearOf_19 ?_
      refine PW.callSi (As := [.int (a1 + 1)]) (rest := []) cal_X1_firstDayOf dX1_yearOf_20 wd_395 rfl rfl (rmLe (by omega)) (Nat.le_of_ble_eq_true rfl) rm_0 (mf_X1_firstDayOf (a1 + 1) _ rfl) ?_
      refine PW.iload_n 0 dX1_yearOf_23 rfl rfl ?_
      refine PW.icmp_gt (tgt := 36) dX1_yearOf_24 (by decide) (fun c24 => ?_) (fun c24 => ?_)
      · rw [if_pos c24] at h
        refine PW.iload_n 1 dX1_yearOf_36 rfl rfl ?_
        have h := Option.some.inj h; subst h
        exact PW.ret dX1_yearOf_37 trivial rfl
      · rw [if_neg c24] at h
        refine PW.iinc 1 (l' := [(1, .int (a1 + 1)), (0, .int a0), (2, .int a2)]) dX1_yearOf_27 rfl (x := a1) (y := (a1 + 1)) rfl (by decide) rfl ?_
        refine PW.iinc 2 (l' := [(2, .int (a2 + 1)), (1, .int (a1 + 1)), (0, .int a0)]) dX1_yearOf_30 rfl (x := a2) (y := (a2 + 1)) rfl (by decide) rfl ?_
        refine PW.goto (tgt := 12) dX1_yearOf_33 (by decide) ?_
        exact PW.sub (l' := [(0, .int a0), (1, .int (a1 + 1)), (2, .int (a2 + 1))]) [2, 1, 0] rfl (ih a0 (a1 + 1) (a2 + 1) _ h)
set_option maxRecDepth 100000 in
set_option maxHeartbeats 4000000 in
theorem mf_X1_yearOf {K : GK} {hp : PH} : ∀ (a0 : Int32) (r : Int32), f_X1_yearOf a0 = some r → PM K (1) M_X1_yearOf [.int a0] hp (some (.int r)) hp := by
  intro a0 r h
  unfold f_X1_yearOf at h
  refine PM.enter (l0 := [(0, .int a0)]) (by decide +kernel) rfl (Nat.le_of_ble_eq_true rfl) rfl ?_
  refine PW.sipush (x := 1800) dX1_yearOf_0 (by decide) ?_
  refine PW.iload_n 0 dX1_yearOf_3 rfl rfl ?_
  refine PW.sipush (x := 366) dX1_yearOf_4 (by decide) ?_
  refine PW.idiv dX1_yearOf_7 (by decide) ?_
  refine PW.iadd dX1_yearOf_8 ?_
  refine PW.istore_n (l' := [(1, .int (1800 + (a0 / 366))), (0, .int a0)]) dX1_yearOf_9 rfl (by decide) rfl ?_
  refine PW.iconst (x := 0) dX1_yearOf_10 (by decide) ?_
  refine PW.istore_n (l' := [(2, .int 0), (1, .int (1800 + (a0 / 366))), (0, .int a0)]) dX1_yearOf_11 rfl (by decide) rfl ?_
  exact PW.sub (l' := [(0, .int a0), (1, .int (1800 + (a0 / 366))), (2, .int 0)]) [2, 1, 0] rfl (mf_X1_yearOf_L12 NN a0 (1800 + (a0 / 366)) 0 _ h)
-- X1_placeOf
def f_X1_placeOf (a0 : Int32) (a1 : Int32) : Int32 := (if (a0 - (f_X1_firstDayOf a1)) < 59 then ((a0 - (f_X1_firstDayOf a1))) else (if (f_X1_isLeap a1) = 0 then (((a0 - (f_X1_firstDayOf a1)) + 1)) else ((a0 - (f_X1_firstDayOf a1)))))
set_option maxRecDepth 100000 in
set_option maxHeartbeats 4000000 in
theorem mf_X1_placeOf {K : GK} {hp : PH} : ∀ (a0 : Int32) (a1 : Int32) (r : Int32), f_X1_placeOf a0 a1 = r → PM K (1) M_X1_placeOf [.int a0, .int a1] hp (some (.int r)) hp := by
  intro a0 a1 r h
  unfold f_X1_placeOf at h
  refine PM.enter (l0 := [(0, .int a0), (1, .int a1)]) (by decide +kernel) rfl (Nat.le_of_ble_eq_true rfl) rfl ?_
  refine PW.iload_n 0 dX1_placeOf_0 rfl rfl ?_
  refine PW.iload_n 1 dX1_placeOf_1 rfl rfl ?_
  refine PW.callSi (As := [.int a1]) (rest := [.int a0]) cal_X1_firstDayOf dX1_placeOf_2 wd_395 rfl rfl (rmLe (by omega)) (Nat.le_of_ble_eq_true rfl) rm_0 (mf_X1_firstDayOf a1 _ rfl) ?_
  refine PW.isub dX1_placeOf_5 ?_
  refine PW.istore_n (l' := [(2, .int (a0 - (f_X1_firstDayOf a1))), (0, .int a0), (1, .int a1)]) dX1_placeOf_6 rfl (by decide) rfl ?_
  refine PW.iload_n 0 dX1_placeOf_7 rfl rfl ?_
  refine PW.bipush (x := 59) dX1_placeOf_8 (by decide) ?_
  refine PW.icmp_lt (tgt := 26) dX1_placeOf_10 (by decide) (fun c10 => ?_) (fun c10 => ?_)
  · rw [if_pos c10] at h
    refine PW.iload_n 0 dX1_placeOf_26 rfl rfl ?_
    subst h
    exact PW.ret dX1_placeOf_27 trivial rfl
  · rw [if_neg c10] at h
    refine PW.iload_n 2 dX1_placeOf_13 rfl rfl ?_
    refine PW.callSi (As := [.int a1]) (rest := []) cal_X1_isLeap dX1_placeOf_14 wd_386 rfl rfl (rmLe (by omega)) (Nat.le_of_ble_eq_true rfl) rm_0 (mf_X1_isLeap a1 _ rfl) ?_
    refine PW.if_ne (tgt := 26) dX1_placeOf_17 (by decide) (fun c17 => ?_) (fun c17 => ?_)
    · rw [if_neg c17] at h
      refine PW.iload_n 0 dX1_placeOf_26 rfl rfl ?_
      subst h
      exact PW.ret dX1_placeOf_27 trivial rfl
    · rw [if_pos c17] at h
      refine PW.iload_n 0 dX1_placeOf_20 rfl rfl ?_
      refine PW.iconst (x := 1) dX1_placeOf_21 (by decide) ?_
      refine PW.iadd dX1_placeOf_22 ?_
      refine PW.goto (tgt := 27) dX1_placeOf_23 (by decide) ?_
      subst h
      exact PW.ret dX1_placeOf_27 trivial rfl
-- X1_monthOf
def f_X1_monthOf_L2 : Nat → Int32 → Int32 → Option Int32
  | 0, _, _ => none
  | n + 1, a0, a1 => (if 12 ≤ a1 then (some a1) else (f_X1_placeOfMonth (a1 + 1)).bind fun q1 => (if a0 < q1 then (some a1) else ((f_X1_monthOf_L2 n) a0 (a1 + 1))))
def f_X1_monthOf (a0 : Int32) : Option Int32 := (f_X1_monthOf_L2 NN a0 1)
set_option maxRecDepth 100000 in
set_option maxHeartbeats 4000000 in
theorem mf_X1_monthOf_L2 {K : GK} {hp : PH} : ∀ (n : Nat) (a0 : Int32) (a1 : Int32) (r : Int32), f_X1_monthOf_L2 n a0 a1 = some r → PW K (rmD (1)) 0 0 M_X1_monthOf 2 [(0, .int a0), (1, .int a1)] [] hp (some (.int r)) hp := by
  intro n
  induction n with
  | zero =>
    intro a0 a1 r h
    rw [f_X1_monthOf_L2] at h
    cases h
  | succ n ih =>
    intro a0 a1 r h
    rw [f_X1_monthOf_L2] at h
    refine PW.iload_n 1 dX1_monthOf_2 rfl rfl ?_
    refine PW.bipush (x := 12) dX1_monthOf_3 (by decide) ?_
    refine PW.icmp_ge (tgt := 24) dX1_monthOf_5 (by decide) (fun c5 => ?_) (fun c5 => ?_)
    · rw [if_pos c5] at h
      refine PW.iload_n 1 dX1_monthOf_24 rfl rfl ?_
      have h := Option.some.inj h; subst h
      exact PW.ret dX1_monthOf_25 trivial rfl
    · rw [if_neg c5] at h
      refine PW.iload_n 1 dX1_monthOf_8 rfl rfl ?_
      refine PW.iconst (x := 1) dX1_monthOf_9 (by decide) ?_
      refine PW.iadd dX1_monthOf_10 ?_
      obtain ⟨q1, hq1, h⟩ := bind_some h
      refine PW.callSi (As := [.int (a1 + 1)]) (rest := []) cal_X1_placeOfMonth dX1_monthOf_11 wd_381 rfl rfl (rmLe (by omega)) (Nat.le_of_ble_eq_true rfl) rm_0 (mf_X1_placeOfMonth (a1 + 1) _ hq1) ?_
      refine PW.iload_n 0 dX1_monthOf_14 rfl rfl ?_
      refine PW.icmp_gt (tgt := 24) dX1_monthOf_15 (by decide) (fun c15 => ?_) (fun c15 => ?_)
      · rw [if_pos c15] at h
        refine PW.iload_n 1 dX1_monthOf_24 rfl rfl ?_
        have h := Option.some.inj h; subst h
        exact PW.ret dX1_monthOf_25 trivial rfl
      · rw [if_neg c15] at h
        refine PW.iinc 1 (l' := [(1, .int (a1 + 1)), (0, .int a0)]) dX1_monthOf_18 rfl (x := a1) (y := (a1 + 1)) rfl (by decide) rfl ?_
        refine PW.goto (tgt := 2) dX1_monthOf_21 (by decide) ?_
        exact PW.sub (l' := [(0, .int a0), (1, .int (a1 + 1))]) [1, 0] rfl (ih a0 (a1 + 1) _ h)
set_option maxRecDepth 100000 in
set_option maxHeartbeats 4000000 in
theorem mf_X1_monthOf {K : GK} {hp : PH} : ∀ (a0 : Int32) (r : Int32), f_X1_monthOf a0 = some r → PM K (1) M_X1_monthOf [.int a0] hp (some (.int r)) hp := by
  intro a0 r h
  unfold f_X1_monthOf at h
  refine PM.enter (l0 := [(0, .int a0)]) (by decide +kernel) rfl (Nat.le_of_ble_eq_true rfl) rfl ?_
  refine PW.iconst (x := 1) dX1_monthOf_0 (by decide) ?_
  refine PW.istore_n (l' := [(1, .int 1), (0, .int a0)]) dX1_monthOf_1 rfl (by decide) rfl ?_
  exact PW.sub (l' := [(0, .int a0), (1, .int 1)]) [1, 0] rfl (mf_X1_monthOf_L2 NN a0 1 _ h)
-- X2_begin
def f_X2_begin_L27 (k12 : Nat → Int32 → PH → Option PH) : Nat → Nat → Int32 → Int32 → PH → Option PH
  | 0, _, _, _, _ => none
  | n + 1, a0, a3, a4, hp => (gR hp a0 1 0).bind fun x5 => (gI hp x5 4 0).bind fun x6 => (if x6 ≤ a4 then (k12 a0 (a3 + 1) hp) else (gR hp a0 1 2).bind fun x7 => (aI hp x7 0 a3).bind fun x8 => (gR hp a0 1 0).bind fun x9 => (gR hp x9 4 3).bind fun x10 => (aI hp x10 0 a4).bind fun x11 => (if (iS x11 a3) = 0 then (uI hp x7 a3 (x8 + 0)).bind fun hp12 => ((f_X2_begin_L27 k12 n) a0 a3 (a4 + 1) hp12) else (uI hp x7 a3 (x8 + 1)).bind fun hp13 => ((f_X2_begin_L27 k12 n) a0 a3 (a4 + 1) hp13)))
def f_X2_begin_L12 : Nat → Nat → Int32 → PH → Option PH
  | 0, _, _, _ => none
  | n + 1, a0, a3, hp => (if 5 ≤ a3 then some hp else (gR hp a0 1 2).bind fun x3 => (uI hp x3 a3 0).bind fun hp4 => (f_X2_begin_L27 (f_X2_begin_L12 n) NN a0 a3 0 hp4))
def f_X2_begin (a0 : Nat) (a1 : Int32) (a2 : Int32) (hp : PH) : Option PH := (pI hp a0 1 4 a1).bind fun hp1 => (pI hp1 a0 1 5 a2).bind fun hp2 => (f_X2_begin_L12 NN a0 0 hp2)
set_option maxRecDepth 100000 in
set_option maxHeartbeats 4000000 in
theorem mf_X2_begin_L27 {K : GK} {k12 : Nat → Int32 → PH → Option PH} (hk12 : ∀ (a0 : Nat) (a3 : Int32) (hp : PH) (r : PH), k12 a0 a3 hp = some r → PW K (rmD (0)) 0 0 M_X2_begin 12 [(0, .ref (ga K a0)), (3, .int a3)] [] hp none r) : ∀ (n : Nat) (a0 : Nat) (a3 : Int32) (a4 : Int32) (hp : PH) (r : PH), f_X2_begin_L27 k12 n a0 a3 a4 hp = some r → PW K (rmD (0)) 0 0 M_X2_begin 27 [(0, .ref (ga K a0)), (3, .int a3), (4, .int a4)] [] hp none r := by
  intro n
  induction n with
  | zero =>
    intro a0 a3 a4 hp r h
    rw [f_X2_begin_L27] at h
    cases h
  | succ n ih =>
    intro a0 a3 a4 hp r h
    rw [f_X2_begin_L27] at h
    refine PW.iload 2 dX2_begin_27 rfl ?_
    refine PW.aload_n 0 dX2_begin_29 rfl rfl ?_
    obtain ⟨x5, hx5, h⟩ := bind_some h
    refine PW.getR cls_X2 (j := 0) (by decide) dX2_begin_30 wd_306 hx5 ?_
    obtain ⟨x6, hx6, h⟩ := bind_some h
    refine PW.getI cls_X5 (j := 0) (by decide) dX2_begin_33 wd_167 hx6 ?_
    refine PW.icmp_ge (tgt := 74) dX2_begin_36 (by decide) (fun c36 => ?_) (fun c36 => ?_)
    · rw [if_pos c36] at h
      refine PW.iinc 1 (l' := [(3, .int (a3 + 1)), (0, .ref (ga K a0)), (4, .int a4)]) dX2_begin_74 rfl (x := a3) (y := (a3 + 1)) rfl (by decide) rfl ?_
      refine PW.goto (tgt := 12) dX2_begin_77 (by decide) ?_
      exact PW.sub (l' := [(0, .ref (ga K a0)), (3, .int (a3 + 1))]) [1, 0] rfl (hk12 a0 (a3 + 1) hp _ h)
    · rw [if_neg c36] at h
      refine PW.aload_n 0 dX2_begin_39 rfl rfl ?_
      obtain ⟨x7, hx7, h⟩ := bind_some h
      refine PW.getR cls_X2 (j := 2) (by decide) dX2_begin_40 wd_308 hx7 ?_
      refine PW.iload_n 1 dX2_begin_43 rfl rfl ?_
      refine PW.dup2 dX2_begin_44 rfl rfl ?_
      obtain ⟨x8, hx8, h⟩ := bind_some h
      refine PW.iald dX2_begin_45 hx8 ?_
      refine PW.aload_n 0 dX2_begin_46 rfl rfl ?_
      obtain ⟨x9, hx9, h⟩ := bind_some h
      refine PW.getR cls_X2 (j := 0) (by decide) dX2_begin_47 wd_306 hx9 ?_
      obtain ⟨x10, hx10, h⟩ := bind_some h
      refine PW.getR cls_X5 (j := 3) (by decide) dX2_begin_50 wd_176 hx10 ?_
      refine PW.iload 2 dX2_begin_53 rfl ?_
      obtain ⟨x11, hx11, h⟩ := bind_some h
      refine PW.iald dX2_begin_55 hx11 ?_
      refine PW.iload_n 1 dX2_begin_56 rfl rfl ?_
      refine PW.ishr dX2_begin_57 ?_
      refine PW.if_eq (tgt := 65) dX2_begin_58 (by decide) (fun c58 => ?_) (fun c58 => ?_)
      · rw [if_pos c58] at h
        refine PW.iconst (x := 0) dX2_begin_65 (by decide) ?_
        refine PW.iadd dX2_begin_66 ?_
        obtain ⟨hp12, hhp12, h⟩ := bind_some h
        refine PW.iast dX2_begin_67 hhp12 ?_
        refine PW.iinc 2 (l' := [(4, .int (a4 + 1)), (0, .ref (ga K a0)), (3, .int a3)]) dX2_begin_68 rfl (x := a4) (y := (a4 + 1)) rfl (by decide) rfl ?_
        refine PW.goto (tgt := 27) dX2_begin_71 (by decide) ?_
        exact PW.sub (l' := [(0, .ref (ga K a0)), (3, .int a3), (4, .int (a4 + 1))]) [1, 2, 0] rfl (ih a0 a3 (a4 + 1) hp12 _ h)
      · rw [if_neg c58] at h
        refine PW.iconst (x := 1) dX2_begin_61 (by decide) ?_
        refine PW.goto (tgt := 66) dX2_begin_62 (by decide) ?_
        refine PW.iadd dX2_begin_66 ?_
        obtain ⟨hp13, hhp13, h⟩ := bind_some h
        refine PW.iast dX2_begin_67 hhp13 ?_
        refine PW.iinc 2 (l' := [(4, .int (a4 + 1)), (0, .ref (ga K a0)), (3, .int a3)]) dX2_begin_68 rfl (x := a4) (y := (a4 + 1)) rfl (by decide) rfl ?_
        refine PW.goto (tgt := 27) dX2_begin_71 (by decide) ?_
        exact PW.sub (l' := [(0, .ref (ga K a0)), (3, .int a3), (4, .int (a4 + 1))]) [1, 2, 0] rfl (ih a0 a3 (a4 + 1) hp13 _ h)
set_option maxRecDepth 100000 in
set_option maxHeartbeats 4000000 in
theorem mf_X2_begin_L12 {K : GK} : ∀ (n : Nat) (a0 : Nat) (a3 : Int32) (hp : PH) (r : PH), f_X2_begin_L12 n a0 a3 hp = some r → PW K (rmD (0)) 0 0 M_X2_begin 12 [(0, .ref (ga K a0)), (3, .int a3)] [] hp none r := by
  intro n
  induction n with
  | zero =>
    intro a0 a3 hp r h
    rw [f_X2_begin_L12] at h
    cases h
  | succ n ih =>
    intro a0 a3 hp r h
    rw [f_X2_begin_L12] at h
    refine PW.iload_n 1 dX2_begin_12 rfl rfl ?_
    refine PW.iconst (x := 5) dX2_begin_13 (by decide) ?_
    refine PW.icmp_ge (tgt := 80) dX2_begin_14 (by decide) (fun c14 => ?_) (fun c14 => ?_)
    · rw [if_pos c14] at h
      have h := Option.some.inj h
      subst h
      exact PW.ret dX2_begin_80 trivial rfl
    · rw [if_neg c14] at h
      refine PW.aload_n 0 dX2_begin_17 rfl rfl ?_
      obtain ⟨x3, hx3, h⟩ := bind_some h
      refine PW.getR cls_X2 (j := 2) (by decide) dX2_begin_18 wd_308 hx3 ?_
      refine PW.iload_n 1 dX2_begin_21 rfl rfl ?_
      refine PW.iconst (x := 0) dX2_begin_22 (by decide) ?_
      obtain ⟨hp4, hhp4, h⟩ := bind_some h
      refine PW.iast dX2_begin_23 hhp4 ?_
      refine PW.iconst (x := 0) dX2_begin_24 (by decide) ?_
      refine PW.istore (l' := [(4, .int 0), (0, .ref (ga K a0)), (3, .int a3)]) dX2_begin_25 (by decide) rfl ?_
      exact PW.sub (l' := [(0, .ref (ga K a0)), (3, .int a3), (4, .int 0)]) [1, 2, 0] rfl (mf_X2_begin_L27 ih NN a0 a3 0 hp4 _ h)
set_option maxRecDepth 100000 in
set_option maxHeartbeats 4000000 in
theorem mf_X2_begin {K : GK} : ∀ (a0 : Nat) (a1 : Int32) (a2 : Int32) (hp : PH) (r : PH), f_X2_begin a0 a1 a2 hp = some r → PM K (0) M_X2_begin [.ref (ga K a0), .int a1, .int a2] hp none r := by
  intro a0 a1 a2 hp r h
  unfold f_X2_begin at h
  refine PM.enter (l0 := [(0, .ref (ga K a0)), (1, .int a1), (2, .int a2)]) (by decide +kernel) rfl (Nat.le_of_ble_eq_true rfl) rfl ?_
  refine PW.aload_n 0 dX2_begin_0 rfl rfl ?_
  refine PW.iload_n 1 dX2_begin_1 rfl rfl ?_
  obtain ⟨hp1, hhp1, h⟩ := bind_some h
  refine PW.putI cls_X2 clw_X2 (j := 4) (by decide) dX2_begin_2 wd_310 rfl rfl hhp1 ?_
  refine PW.aload_n 0 dX2_begin_5 rfl rfl ?_
  refine PW.iload_n 2 dX2_begin_6 rfl rfl ?_
  obtain ⟨hp2, hhp2, h⟩ := bind_some h
  refine PW.putI cls_X2 clw_X2 (j := 5) (by decide) dX2_begin_7 wd_311 rfl rfl hhp2 ?_
  refine PW.iconst (x := 0) dX2_begin_10 (by decide) ?_
  refine PW.istore_n (l' := [(3, .int 0), (0, .ref (ga K a0)), (1, .int a1), (2, .int a2)]) dX2_begin_11 rfl (by decide) rfl ?_
  exact PW.sub (l' := [(0, .ref (ga K a0)), (3, .int 0)]) [1, 0] rfl (mf_X2_begin_L12 NN a0 0 hp2 _ h)
-- X2_freeWays
def f_X2_freeWays_L4 : Nat → Nat → Int32 → Int32 → PH → Option Int32
  | 0, _, _, _, _ => none
  | n + 1, a0, a2, a3, hp => (if 5 ≤ a3 then (some a2) else (gI hp a0 1 4).bind fun x1 => (if a3 = x1 then ((f_X2_freeWays_L4 n) a0 (a2 * 1) (a3 + 1) hp) else ((f_X2_freeWays_L4 n) a0 (a2 * 10) (a3 + 1) hp)))
def f_X2_freeWays (a0 : Nat) (a1 : Int32) (hp : PH) : Option Int32 := (f_X2_freeWays_L4 NN a0 1 a1 hp)
set_option maxRecDepth 100000 in
set_option maxHeartbeats 4000000 in
theorem mf_X2_freeWays_L4 {K : GK} : ∀ (n : Nat) (a0 : Nat) (a2 : Int32) (a3 : Int32) (hp : PH) (r : Int32), f_X2_freeWays_L4 n a0 a2 a3 hp = some r → PW K (rmD (0)) 0 0 M_X2_freeWays 4 [(0, .ref (ga K a0)), (2, .int a2), (3, .int a3)] [] hp (some (.int r)) hp := by
  intro n
  induction n with
  | zero =>
    intro a0 a2 a3 hp r h
    rw [f_X2_freeWays_L4] at h
    cases h
  | succ n ih =>
    intro a0 a2 a3 hp r h
    rw [f_X2_freeWays_L4] at h
    refine PW.iload_n 2 dX2_freeWays_4 rfl rfl ?_
    refine PW.iconst (x := 5) dX2_freeWays_5 (by decide) ?_
    refine PW.icmp_ge (tgt := 32) dX2_freeWays_6 (by decide) (fun c6 => ?_) (fun c6 => ?_)
    · rw [if_pos c6] at h
      refine PW.iload_n 1 dX2_freeWays_32 rfl rfl ?_
      have h := Option.some.inj h; subst h
      exact PW.ret dX2_freeWays_33 trivial rfl
    · rw [if_neg c6] at h
      refine PW.iload_n 1 dX2_freeWays_9 rfl rfl ?_
      refine PW.iload_n 2 dX2_freeWays_10 rfl rfl ?_
      refine PW.aload_n 0 dX2_freeWays_11 rfl rfl ?_
      obtain ⟨x1, hx1, h⟩ := bind_some h
      refine PW.getI cls_X2 (j := 4) (by decide) dX2_freeWays_12 wd_310 hx1 ?_
      refine PW.icmp_ne (tgt := 22) dX2_freeWays_15 (by decide) (fun c15 => ?_) (fun c15 => ?_)
      · rw [if_neg c15] at h
        refine PW.bipush (x := 10) dX2_freeWays_22 (by decide) ?_
        refine PW.imul dX2_freeWays_24 ?_
        refine PW.istore_n (l' := [(2, .int (a2 * 10)), (0, .ref (ga K a0)), (3, .int a3)]) dX2_freeWays_25 rfl (by decide) rfl ?_
        refine PW.iinc 2 (l' := [(3, .int (a3 + 1)), (2, .int (a2 * 10)), (0, .ref (ga K a0))]) dX2_freeWays_26 rfl (x := a3) (y := (a3 + 1)) rfl (by decide) rfl ?_
        refine PW.goto (tgt := 4) dX2_freeWays_29 (by decide) ?_
        exact PW.sub (l' := [(0, .ref (ga K a0)), (2, .int (a2 * 10)), (3, .int (a3 + 1))]) [2, 1, 0] rfl (ih a0 (a2 * 10) (a3 + 1) hp _ h)
      · rw [if_pos c15] at h
        refine PW.iconst (x := 1) dX2_freeWays_18 (by decide) ?_
        refine PW.goto (tgt := 24) dX2_freeWays_19 (by decide) ?_
        refine PW.imul dX2_freeWays_24 ?_
        refine PW.istore_n (l' := [(2, .int (a2 * 1)), (0, .ref (ga K a0)), (3, .int a3)]) dX2_freeWays_25 rfl (by decide) rfl ?_
        refine PW.iinc 2 (l' := [(3, .int (a3 + 1)), (2, .int (a2 * 1)), (0, .ref (ga K a0))]) dX2_freeWays_26 rfl (x := a3) (y := (a3 + 1)) rfl (by decide) rfl ?_
        refine PW.goto (tgt := 4) dX2_freeWays_29 (by decide) ?_
        exact PW.sub (l' := [(0, .ref (ga K a0)), (2, .int (a2 * 1)), (3, .int (a3 + 1))]) [2, 1, 0] rfl (ih a0 (a2 * 1) (a3 + 1) hp _ h)
set_option maxRecDepth 100000 in
set_option maxHeartbeats 4000000 in
theorem mf_X2_freeWays {K : GK} : ∀ (a0 : Nat) (a1 : Int32) (hp : PH) (r : Int32), f_X2_freeWays a0 a1 hp = some r → PM K (0) M_X2_freeWays [.ref (ga K a0), .int a1] hp (some (.int r)) hp := by
  intro a0 a1 hp r h
  unfold f_X2_freeWays at h
  refine PM.enter (l0 := [(0, .ref (ga K a0)), (1, .int a1)]) (by decide +kernel) rfl (Nat.le_of_ble_eq_true rfl) rfl ?_
  refine PW.iconst (x := 1) dX2_freeWays_0 (by decide) ?_
  refine PW.istore_n (l' := [(2, .int 1), (0, .ref (ga K a0)), (1, .int a1)]) dX2_freeWays_1 rfl (by decide) rfl ?_
  refine PW.iload_n 2 dX2_freeWays_2 rfl rfl ?_
  refine PW.istore_n (l' := [(3, .int a1), (2, .int 1), (0, .ref (ga K a0)), (1, .int a1)]) dX2_freeWays_3 rfl (by decide) rfl ?_
  exact PW.sub (l' := [(0, .ref (ga K a0)), (2, .int 1), (3, .int a1)]) [2, 1, 0] rfl (mf_X2_freeWays_L4 NN a0 1 a1 hp _ h)
-- X2_neededFigure
def f_X2_neededFigure_L13 : Nat → Nat → Int32 → Int32 → Int32 → Int32 → PH → Option Int32
  | 0, _, _, _, _, _, _ => none
  | n + 1, a0, a1, a2, a3, a4, hp => (if a2 ≤ a4 then (some (iR (10 - (iR a3 10)) 10)) else (gR hp a0 1 0).bind fun x4 => (gR hp x4 4 3).bind fun x5 => (aI hp x5 0 a1).bind fun x6 => (if ((iS x6 a4) &&& 1) = 0 then ((f_X2_neededFigure_L13 n) a0 a1 a2 a3 (a4 + 1) hp) else (gR hp a0 1 1).bind fun x7 => (aI hp x7 0 a4).bind fun x8 => ((f_X2_neededFigure_L13 n) a0 a1 a2 (a3 + x8) (a4 + 1) hp)))
def f_X2_neededFigure (a0 : Nat) (a1 : Int32) (a2 : Int32) (hp : PH) : Option Int32 := (gR hp a0 1 0).bind fun x1 => (gR hp x1 4 4).bind fun x2 => (aI hp x2 0 a1).bind fun x3 => (f_X2_neededFigure_L13 NN a0 a1 a2 x3 0 hp)
set_option maxRecDepth 100000 in
set_option maxHeartbeats 4000000 in
theorem mf_X2_neededFigure_L13 {K : GK} : ∀ (n : Nat) (a0 : Nat) (a1 : Int32) (a2 : Int32) (a3 : Int32) (a4 : Int32) (hp : PH) (r : Int32), f_X2_neededFigure_L13 n a0 a1 a2 a3 a4 hp = some r → PW K (rmD (0)) 0 0 M_X2_neededFigure 13 [(0, .ref (ga K a0)), (1, .int a1), (2, .int a2), (3, .int a3), (4, .int a4)] [] hp (some (.int r)) hp := by
  intro n
  induction n with
  | zero =>
    intro a0 a1 a2 a3 a4 hp r h
    rw [f_X2_neededFigure_L13] at h
    cases h
  | succ n ih =>
    intro a0 a1 a2 a3 a4 hp r h
    rw [f_X2_neededFigure_L13] at h
    refine PW.iload 4 dX2_neededFigure_13 rfl ?_
    refine PW.iload_n 2 dX2_neededFigure_15 rfl rfl ?_
    refine PW.icmp_ge (tgt := 52) dX2_neededFigure_16 (by decide) (fun c16 => ?_) (fun c16 => ?_)
    · rw [if_pos c16] at h
      refine PW.bipush (x := 10) dX2_neededFigure_52 (by decide) ?_
      refine PW.iload_n 3 dX2_neededFigure_54 rfl rfl ?_
      refine PW.bipush (x := 10) dX2_neededFigure_55 (by decide) ?_
      refine PW.irem dX2_neededFigure_57 (by decide) ?_
      refine PW.isub dX2_neededFigure_58 ?_
      refine PW.bipush (x := 10) dX2_neededFigure_59 (by decide) ?_
      refine PW.irem dX2_neededFigure_61 (by decide) ?_
      have h := Option.some.inj h; subst h
      exact PW.ret dX2_neededFigure_62 trivial rfl
    · rw [if_neg c16] at h
      refine PW.aload_n 0 dX2_neededFigure_19 rfl rfl ?_
      obtain ⟨x4, hx4, h⟩ := bind_some h
      refine PW.getR cls_X2 (j := 0) (by decide) dX2_neededFigure_20 wd_306 hx4 ?_
      obtain ⟨x5, hx5, h⟩ := bind_some h
      refine PW.getR cls_X5 (j := 3) (by decide) dX2_neededFigure_23 wd_176 hx5 ?_
      refine PW.iload_n 1 dX2_neededFigure_26 rfl rfl ?_
      obtain ⟨x6, hx6, h⟩ := bind_some h
      refine PW.iald dX2_neededFigure_27 hx6 ?_
      refine PW.iload 4 dX2_neededFigure_28 rfl ?_
      refine PW.ishr dX2_neededFigure_30 ?_
      refine PW.iconst (x := 1) dX2_neededFigure_31 (by decide) ?_
      refine PW.iand dX2_neededFigure_32 ?_
      refine PW.if_eq (tgt := 46) dX2_neededFigure_33 (by decide) (fun c33 => ?_) (fun c33 => ?_)
      · rw [if_pos c33] at h
        refine PW.iinc 4 (l' := [(4, .int (a4 + 1)), (0, .ref (ga K a0)), (1, .int a1), (2, .int a2), (3, .int a3)]) dX2_neededFigure_46 rfl (x := a4) (y := (a4 + 1)) rfl (by decide) rfl ?_
        refine PW.goto (tgt := 13) dX2_neededFigure_49 (by decide) ?_
        exact PW.sub (l' := [(0, .ref (ga K a0)), (1, .int a1), (2, .int a2), (3, .int a3), (4, .int (a4 + 1))]) [1, 2, 3, 4, 0] rfl (ih a0 a1 a2 a3 (a4 + 1) hp _ h)
      · rw [if_neg c33] at h
        refine PW.iload_n 3 dX2_neededFigure_36 rfl rfl ?_
        refine PW.aload_n 0 dX2_neededFigure_37 rfl rfl ?_
        obtain ⟨x7, hx7, h⟩ := bind_some h
        refine PW.getR cls_X2 (j := 1) (by decide) dX2_neededFigure_38 wd_307 hx7 ?_
        refine PW.iload 4 dX2_neededFigure_41 rfl ?_
        obtain ⟨x8, hx8, h⟩ := bind_some h
        refine PW.iald dX2_neededFigure_43 hx8 ?_
        refine PW.iadd dX2_neededFigure_44 ?_
        refine PW.istore_n (l' := [(3, .int (a3 + x8)), (0, .ref (ga K a0)), (1, .int a1), (2, .int a2), (4, .int a4)]) dX2_neededFigure_45 rfl (by decide) rfl ?_
        refine PW.iinc 4 (l' := [(4, .int (a4 + 1)), (3, .int (a3 + x8)), (0, .ref (ga K a0)), (1, .int a1), (2, .int a2)]) dX2_neededFigure_46 rfl (x := a4) (y := (a4 + 1)) rfl (by decide) rfl ?_
        refine PW.goto (tgt := 13) dX2_neededFigure_49 (by decide) ?_
        exact PW.sub (l' := [(0, .ref (ga K a0)), (1, .int a1), (2, .int a2), (3, .int (a3 + x8)), (4, .int (a4 + 1))]) [2, 3, 4, 1, 0] rfl (ih a0 a1 a2 (a3 + x8) (a4 + 1) hp _ h)
set_option maxRecDepth 100000 in
set_option maxHeartbeats 4000000 in
theorem mf_X2_neededFigure {K : GK} : ∀ (a0 : Nat) (a1 : Int32) (a2 : Int32) (hp : PH) (r : Int32), f_X2_neededFigure a0 a1 a2 hp = some r → PM K (0) M_X2_neededFigure [.ref (ga K a0), .int a1, .int a2] hp (some (.int r)) hp := by
  intro a0 a1 a2 hp r h
  unfold f_X2_neededFigure at h
  refine PM.enter (l0 := [(0, .ref (ga K a0)), (1, .int a1), (2, .int a2)]) (by decide +kernel) rfl (Nat.le_of_ble_eq_true rfl) rfl ?_
  refine PW.aload_n 0 dX2_neededFigure_0 rfl rfl ?_
  obtain ⟨x1, hx1, h⟩ := bind_some h
  refine PW.getR cls_X2 (j := 0) (by decide) dX2_neededFigure_1 wd_306 hx1 ?_
  obtain ⟨x2, hx2, h⟩ := bind_some h
  refine PW.getR cls_X5 (j := 4) (by decide) dX2_neededFigure_4 wd_179 hx2 ?_
  refine PW.iload_n 1 dX2_neededFigure_7 rfl rfl ?_
  obtain ⟨x3, hx3, h⟩ := bind_some h
  refine PW.iald dX2_neededFigure_8 hx3 ?_
  refine PW.istore_n (l' := [(3, .int x3), (0, .ref (ga K a0)), (1, .int a1), (2, .int a2)]) dX2_neededFigure_9 rfl (by decide) rfl ?_
  refine PW.iconst (x := 0) dX2_neededFigure_10 (by decide) ?_
  refine PW.istore (l' := [(4, .int 0), (3, .int x3), (0, .ref (ga K a0)), (1, .int a1), (2, .int a2)]) dX2_neededFigure_11 (by decide) rfl ?_
  exact PW.sub (l' := [(0, .ref (ga K a0)), (1, .int a1), (2, .int a2), (3, .int x3), (4, .int 0)]) [2, 3, 4, 1, 0] rfl (mf_X2_neededFigure_L13 NN a0 a1 a2 x3 0 hp _ h)
-- X2_weighFigures
def f_X2_weighFigures_L126 : Nat → Nat → Int32 → Int32 → Int32 → PH → Option PH
  | 0, _, _, _, _, _ => none
  | n + 1, a0, a2, a3, a4, hp => (if 10 ≤ a4 then some hp else (gR hp a0 1 3).bind fun x3 => (aI hp x3 0 (a2 + a4)).bind fun x4 => (uI hp x3 (a2 + a4) (x4 + a3)).bind fun hp5 => ((f_X2_weighFigures_L126 n) a0 a2 a3 (a4 + 1) hp5))
def f_X2_weighFigures_J94 (k33 : Nat → Int32 → Int32 → Int32 → Int32 → PH → Option PH) (a0 : Nat) (a1 : Int32) (a2 : Int32) (a3 : Int32) (a4 : Int32) (s0 : Int32) (s1 : Int32) (s2 : Int32) (s3 : Nat) (hp : PH) : Option PH := (uI hp s3 s2 (s1 + s0)).bind fun hp15 => (gR hp15 a0 1 0).bind fun x16 => (gR hp15 x16 4 5).bind fun x17 => (aI hp15 x17 1 a4).bind fun x18 => (if x18 = 0 then (k33 a0 a1 a2 (a3 + 0) (a4 + 1) hp15) else (k33 a0 a1 a2 (a3 + 1) (a4 + 1) hp15))
def f_X2_weighFigures_L33 : Nat → Nat → Int32 → Int32 → Int32 → Int32 → PH → Option PH
  | 0, _, _, _, _, _, _ => none
  | n + 1, a0, a1, a2, a3, a4, hp => (gR hp a0 1 0).bind fun x1 => (gI hp x1 4 0).bind fun x2 => (if x2 ≤ a4 then (f_X2_weighFigures_L126 NN a0 a2 a3 0 hp) else (gR hp a0 1 0).bind fun x6 => (gR hp x6 4 3).bind fun x7 => (aI hp x7 0 a4).bind fun x8 => (if (iS x8 a1) = 1 then (gR hp a0 1 3).bind fun x9 => (vC hp a0 1 (f_X2_neededFigure a0 a4 a1 hp)).bind fun q10 => (aI hp x9 0 (a2 + q10)).bind fun x11 => (gR hp a0 1 0).bind fun x12 => (gR hp x12 4 5).bind fun x13 => (aI hp x13 1 a4).bind fun x14 => (if x14 = 0 then (f_X2_weighFigures_J94 (f_X2_weighFigures_L33 n) a0 a1 a2 a3 a4 1 x11 (a2 + q10) x9 hp) else (f_X2_weighFigures_J94 (f_X2_weighFigures_L33 n) a0 a1 a2 a3 a4 (-1) x11 (a2 + q10) x9 hp)) else ((f_X2_weighFigures_L33 n) a0 a1 a2 a3 (a4 + 1) hp)))
def f_X2_weighFigures_L7 : Nat → Nat → Int32 → Int32 → Int32 → PH → Option PH
  | 0, _, _, _, _, _ => none
  | n + 1, a0, a1, a2, a3, hp => (if 10 ≤ a3 then (f_X2_weighFigures_L33 NN a0 a1 a2 0 0 hp) else (gR hp a0 1 3).bind fun x19 => (uI hp x19 (a2 + a3) 0).bind fun hp20 => ((f_X2_weighFigures_L7 n) a0 a1 a2 (a3 + 1) hp20))
def f_X2_weighFigures (a0 : Nat) (a1 : Int32) (hp : PH) : Option PH := (f_X2_weighFigures_L7 NN a0 a1 (a1 * 10) 0 hp)
set_option maxRecDepth 100000 in
set_option maxHeartbeats 4000000 in
theorem mf_X2_weighFigures_L126 {K : GK} : ∀ (n : Nat) (a0 : Nat) (a2 : Int32) (a3 : Int32) (a4 : Int32) (hp : PH) (r : PH), f_X2_weighFigures_L126 n a0 a2 a3 a4 hp = some r → PW K (rmD (1)) 0 0 M_X2_weighFigures 126 [(0, .ref (ga K a0)), (2, .int a2), (3, .int a3), (4, .int a4)] [] hp none r := by
  intro n
  induction n with
  | zero =>
    intro a0 a2 a3 a4 hp r h
    rw [f_X2_weighFigures_L126] at h
    cases h
  | succ n ih =>
    intro a0 a2 a3 a4 hp r h
    rw [f_X2_weighFigures_L126] at h
    refine PW.iload 3 dX2_weighFigures_126 rfl ?_
    refine PW.bipush (x := 10) dX2_weighFigures_128 (by decide) ?_
    refine PW.icmp_ge (tgt := 152) dX2_weighFigures_130 (by decide) (fun c130 => ?_) (fun c130 => ?_)
    · rw [if_pos c130] at h
      have h := Option.some.inj h
      subst h
      exact PW.ret dX2_weighFigures_152 trivial rfl
    · rw [if_neg c130] at h
      refine PW.aload_n 0 dX2_weighFigures_133 rfl rfl ?_
      obtain ⟨x3, hx3, h⟩ := bind_some h
      refine PW.getR cls_X2 (j := 3) (by decide) dX2_weighFigures_134 wd_309 hx3 ?_
      refine PW.iload_n 1 dX2_weighFigures_137 rfl rfl ?_
      refine PW.iload 3 dX2_weighFigures_138 rfl ?_
      refine PW.iadd dX2_weighFigures_140 ?_
      refine PW.dup2 dX2_weighFigures_141 rfl rfl ?_
      obtain ⟨x4, hx4, h⟩ := bind_some h
      refine PW.iald dX2_weighFigures_142 hx4 ?_
      refine PW.iload_n 2 dX2_weighFigures_143 rfl rfl ?_
      refine PW.iadd dX2_weighFigures_144 ?_
      obtain ⟨hp5, hhp5, h⟩ := bind_some h
      refine PW.iast dX2_weighFigures_145 hhp5 ?_
      refine PW.iinc 3 (l' := [(4, .int (a4 + 1)), (0, .ref (ga K a0)), (2, .int a2), (3, .int a3)]) dX2_weighFigures_146 rfl (x := a4) (y := (a4 + 1)) rfl (by decide) rfl ?_
      refine PW.goto (tgt := 126) dX2_weighFigures_149 (by decide) ?_
      exact PW.sub (l' := [(0, .ref (ga K a0)), (2, .int a2), (3, .int a3), (4, .int (a4 + 1))]) [1, 2, 3, 0] rfl (ih a0 a2 a3 (a4 + 1) hp5 _ h)
set_option maxRecDepth 100000 in
set_option maxHeartbeats 4000000 in
theorem mf_X2_weighFigures_J94 {K : GK} {k33 : Nat → Int32 → Int32 → Int32 → Int32 → PH → Option PH} (hk33 : ∀ (a0 : Nat) (a1 : Int32) (a2 : Int32) (a3 : Int32) (a4 : Int32) (hp : PH) (r : PH), k33 a0 a1 a2 a3 a4 hp = some r → PW K (rmD (1)) 0 0 M_X2_weighFigures 33 [(0, .ref (ga K a0)), (1, .int a1), (2, .int a2), (3, .int a3), (4, .int a4)] [] hp none r) : ∀ (a0 : Nat) (a1 : Int32) (a2 : Int32) (a3 : Int32) (a4 : Int32) (s0 : Int32) (s1 : Int32) (s2 : Int32) (s3 : Nat) (hp : PH) (r : PH), f_X2_weighFigures_J94 k33 a0 a1 a2 a3 a4 s0 s1 s2 s3 hp = some r → PW K (rmD (1)) 0 0 M_X2_weighFigures 94 [(0, .ref (ga K a0)), (1, .int a1), (2, .int a2), (3, .int a3), (4, .int a4)] [.int s0, .int s1, .int s2, .ref (ga K s3)] hp none r := by
  intro a0 a1 a2 a3 a4 s0 s1 s2 s3 hp r h
  unfold f_X2_weighFigures_J94 at h
  refine PW.iadd dX2_weighFigures_94 ?_
  obtain ⟨hp15, hhp15, h⟩ := bind_some h
  refine PW.iast dX2_weighFigures_95 hhp15 ?_
  refine PW.iload_n 3 dX2_weighFigures_96 rfl rfl ?_
  refine PW.aload_n 0 dX2_weighFigures_97 rfl rfl ?_
  obtain ⟨x16, hx16, h⟩ := bind_some h
  refine PW.getR cls_X2 (j := 0) (by decide) dX2_weighFigures_98 wd_306 hx16 ?_
  obtain ⟨x17, hx17, h⟩ := bind_some h
  refine PW.getR cls_X5 (j := 5) (by decide) dX2_weighFigures_101 wd_182 hx17 ?_
  refine PW.iload 4 dX2_weighFigures_104 rfl ?_
  obtain ⟨x18, hx18, h⟩ := bind_some h
  refine PW.zald dX2_weighFigures_106 hx18 ?_
  refine PW.if_eq (tgt := 114) dX2_weighFigures_107 (by decide) (fun c107 => ?_) (fun c107 => ?_)
  · rw [if_pos c107] at h
    refine PW.iconst (x := 0) dX2_weighFigures_114 (by decide) ?_
    refine PW.iadd dX2_weighFigures_115 ?_
    refine PW.istore_n (l' := [(3, .int (a3 + 0)), (0, .ref (ga K a0)), (1, .int a1), (2, .int a2), (4, .int a4)]) dX2_weighFigures_116 rfl (by decide) rfl ?_
    refine PW.iinc 4 (l' := [(4, .int (a4 + 1)), (3, .int (a3 + 0)), (0, .ref (ga K a0)), (1, .int a1), (2, .int a2)]) dX2_weighFigures_117 rfl (x := a4) (y := (a4 + 1)) rfl (by decide) rfl ?_
    refine PW.goto (tgt := 33) dX2_weighFigures_120 (by decide) ?_
    exact PW.sub (l' := [(0, .ref (ga K a0)), (1, .int a1), (2, .int a2), (3, .int (a3 + 0)), (4, .int (a4 + 1))]) [2, 3, 4, 1, 0] rfl (hk33 a0 a1 a2 (a3 + 0) (a4 + 1) hp15 _ h)
  · rw [if_neg c107] at h
    refine PW.iconst (x := 1) dX2_weighFigures_110 (by decide) ?_
    refine PW.goto (tgt := 115) dX2_weighFigures_111 (by decide) ?_
    refine PW.iadd dX2_weighFigures_115 ?_
    refine PW.istore_n (l' := [(3, .int (a3 + 1)), (0, .ref (ga K a0)), (1, .int a1), (2, .int a2), (4, .int a4)]) dX2_weighFigures_116 rfl (by decide) rfl ?_
    refine PW.iinc 4 (l' := [(4, .int (a4 + 1)), (3, .int (a3 + 1)), (0, .ref (ga K a0)), (1, .int a1), (2, .int a2)]) dX2_weighFigures_117 rfl (x := a4) (y := (a4 + 1)) rfl (by decide) rfl ?_
    refine PW.goto (tgt := 33) dX2_weighFigures_120 (by decide) ?_
    exact PW.sub (l' := [(0, .ref (ga K a0)), (1, .int a1), (2, .int a2), (3, .int (a3 + 1)), (4, .int (a4 + 1))]) [2, 3, 4, 1, 0] rfl (hk33 a0 a1 a2 (a3 + 1) (a4 + 1) hp15 _ h)
set_option maxRecDepth 100000 in
set_option maxHeartbeats 4000000 in
theorem mf_X2_weighFigures_L33 {K : GK} : ∀ (n : Nat) (a0 : Nat) (a1 : Int32) (a2 : Int32) (a3 : Int32) (a4 : Int32) (hp : PH) (r : PH), f_X2_weighFigures_L33 n a0 a1 a2 a3 a4 hp = some r → PW K (rmD (1)) 0 0 M_X2_weighFigures 33 [(0, .ref (ga K a0)), (1, .int a1), (2, .int a2), (3, .int a3), (4, .int a4)] [] hp none r := by
  intro n
  induction n with
  | zero =>
    intro a0 a1 a2 a3 a4 hp r h
    rw [f_X2_weighFigures_L33] at h
    cases h
  | succ n ih =>
    intro a0 a1 a2 a3 a4 hp r h
    rw [f_X2_weighFigures_L33] at h
    refine PW.iload 4 dX2_weighFigures_33 rfl ?_
    refine PW.aload_n 0 dX2_weighFigures_35 rfl rfl ?_
    obtain ⟨x1, hx1, h⟩ := bind_some h
    refine PW.getR cls_X2 (j := 0) (by decide) dX2_weighFigures_36 wd_306 hx1 ?_
    obtain ⟨x2, hx2, h⟩ := bind_some h
    refine PW.getI cls_X5 (j := 0) (by decide) dX2_weighFigures_39 wd_167 hx2 ?_
    refine PW.icmp_ge (tgt := 123) dX2_weighFigures_42 (by decide) (fun c42 => ?_) (fun c42 => ?_)
    · rw [if_pos c42] at h
      refine PW.iconst (x := 0) dX2_weighFigures_123 (by decide) ?_
      refine PW.istore (l' := [(4, .int 0), (0, .ref (ga K a0)), (1, .int a1), (2, .int a2), (3, .int a3)]) dX2_weighFigures_124 (by decide) rfl ?_
      exact PW.sub (l' := [(0, .ref (ga K a0)), (2, .int a2), (3, .int a3), (4, .int 0)]) [1, 3, 4, 0] rfl (mf_X2_weighFigures_L126 NN a0 a2 a3 0 hp _ h)
    · rw [if_neg c42] at h
      refine PW.aload_n 0 dX2_weighFigures_45 rfl rfl ?_
      obtain ⟨x6, hx6, h⟩ := bind_some h
      refine PW.getR cls_X2 (j := 0) (by decide) dX2_weighFigures_46 wd_306 hx6 ?_
      obtain ⟨x7, hx7, h⟩ := bind_some h
      refine PW.getR cls_X5 (j := 3) (by decide) dX2_weighFigures_49 wd_176 hx7 ?_
      refine PW.iload 4 dX2_weighFigures_52 rfl ?_
      obtain ⟨x8, hx8, h⟩ := bind_some h
      refine PW.iald dX2_weighFigures_54 hx8 ?_
      refine PW.iload_n 1 dX2_weighFigures_55 rfl rfl ?_
      refine PW.ishr dX2_weighFigures_56 ?_
      refine PW.iconst (x := 1) dX2_weighFigures_57 (by decide) ?_
      refine PW.icmp_ne (tgt := 117) dX2_weighFigures_58 (by decide) (fun c58 => ?_) (fun c58 => ?_)
      · rw [if_neg c58] at h
        refine PW.iinc 4 (l' := [(4, .int (a4 + 1)), (0, .ref (ga K a0)), (1, .int a1), (2, .int a2), (3, .int a3)]) dX2_weighFigures_117 rfl (x := a4) (y := (a4 + 1)) rfl (by decide) rfl ?_
        refine PW.goto (tgt := 33) dX2_weighFigures_120 (by decide) ?_
        exact PW.sub (l' := [(0, .ref (ga K a0)), (1, .int a1), (2, .int a2), (3, .int a3), (4, .int (a4 + 1))]) [1, 2, 3, 4, 0] rfl (ih a0 a1 a2 a3 (a4 + 1) hp _ h)
      · rw [if_pos c58] at h
        refine PW.aload_n 0 dX2_weighFigures_61 rfl rfl ?_
        obtain ⟨x9, hx9, h⟩ := bind_some h
        refine PW.getR cls_X2 (j := 3) (by decide) dX2_weighFigures_62 wd_309 hx9 ?_
        refine PW.iload_n 2 dX2_weighFigures_65 rfl rfl ?_
        refine PW.aload_n 0 dX2_weighFigures_66 rfl rfl ?_
        refine PW.iload 4 dX2_weighFigures_67 rfl ?_
        refine PW.iload_n 1 dX2_weighFigures_69 rfl rfl ?_
        obtain ⟨q10, hq10, h⟩ := bind_some h
        obtain ⟨hkq10, hcq10, hq10⟩ := vC_spec hq10
        refine PW.callVi (As := [.int a4, .int a1]) (rest := [.int a2, .ref (ga K x9)]) (k := a0) cal_X2_neededFigure dX2_weighFigures_70 wd_817 rfl rfl (rmLe (by omega)) (Nat.le_of_ble_eq_true rfl) rm_0 hkq10 hcq10 (mf_X2_neededFigure a0 a4 a1 hp _ hq10) ?_
        refine PW.iadd dX2_weighFigures_73 ?_
        refine PW.dup2 dX2_weighFigures_74 rfl rfl ?_
        obtain ⟨x11, hx11, h⟩ := bind_some h
        refine PW.iald dX2_weighFigures_75 hx11 ?_
        refine PW.aload_n 0 dX2_weighFigures_76 rfl rfl ?_
        obtain ⟨x12, hx12, h⟩ := bind_some h
        refine PW.getR cls_X2 (j := 0) (by decide) dX2_weighFigures_77 wd_306 hx12 ?_
        obtain ⟨x13, hx13, h⟩ := bind_some h
        refine PW.getR cls_X5 (j := 5) (by decide) dX2_weighFigures_80 wd_182 hx13 ?_
        refine PW.iload 4 dX2_weighFigures_83 rfl ?_
        obtain ⟨x14, hx14, h⟩ := bind_some h
        refine PW.zald dX2_weighFigures_85 hx14 ?_
        refine PW.if_eq (tgt := 93) dX2_weighFigures_86 (by decide) (fun c86 => ?_) (fun c86 => ?_)
        · rw [if_pos c86] at h
          refine PW.iconst (x := 1) dX2_weighFigures_93 (by decide) ?_
          exact PW.sub (l' := [(0, .ref (ga K a0)), (1, .int a1), (2, .int a2), (3, .int a3), (4, .int a4)]) [0, 1, 2, 3, 4] rfl (mf_X2_weighFigures_J94 ih a0 a1 a2 a3 a4 1 x11 (a2 + q10) x9 hp _ h)
        · rw [if_neg c86] at h
          refine PW.iconst (x := (-1)) dX2_weighFigures_89 (by decide) ?_
          refine PW.goto (tgt := 94) dX2_weighFigures_90 (by decide) ?_
          exact PW.sub (l' := [(0, .ref (ga K a0)), (1, .int a1), (2, .int a2), (3, .int a3), (4, .int a4)]) [0, 1, 2, 3, 4] rfl (mf_X2_weighFigures_J94 ih a0 a1 a2 a3 a4 (-1) x11 (a2 + q10) x9 hp _ h)
set_option maxRecDepth 100000 in
set_option maxHeartbeats 4000000 in
theorem mf_X2_weighFigures_L7 {K : GK} : ∀ (n : Nat) (a0 : Nat) (a1 : Int32) (a2 : Int32) (a3 : Int32) (hp : PH) (r : PH), f_X2_weighFigures_L7 n a0 a1 a2 a3 hp = some r → PW K (rmD (1)) 0 0 M_X2_weighFigures 7 [(0, .ref (ga K a0)), (1, .int a1), (2, .int a2), (3, .int a3)] [] hp none r := by
  intro n
  induction n with
  | zero =>
    intro a0 a1 a2 a3 hp r h
    rw [f_X2_weighFigures_L7] at h
    cases h
  | succ n ih =>
    intro a0 a1 a2 a3 hp r h
    rw [f_X2_weighFigures_L7] at h
    refine PW.iload_n 3 dX2_weighFigures_7 rfl rfl ?_
    refine PW.bipush (x := 10) dX2_weighFigures_8 (by decide) ?_
    refine PW.icmp_ge (tgt := 28) dX2_weighFigures_10 (by decide) (fun c10 => ?_) (fun c10 => ?_)
    · rw [if_pos c10] at h
      refine PW.iconst (x := 0) dX2_weighFigures_28 (by decide) ?_
      refine PW.istore_n (l' := [(3, .int 0), (0, .ref (ga K a0)), (1, .int a1), (2, .int a2)]) dX2_weighFigures_29 rfl (by decide) rfl ?_
      refine PW.iconst (x := 0) dX2_weighFigures_30 (by decide) ?_
      refine PW.istore (l' := [(4, .int 0), (3, .int 0), (0, .ref (ga K a0)), (1, .int a1), (2, .int a2)]) dX2_weighFigures_31 (by decide) rfl ?_
      exact PW.sub (l' := [(0, .ref (ga K a0)), (1, .int a1), (2, .int a2), (3, .int 0), (4, .int 0)]) [2, 3, 4, 1, 0] rfl (mf_X2_weighFigures_L33 NN a0 a1 a2 0 0 hp _ h)
    · rw [if_neg c10] at h
      refine PW.aload_n 0 dX2_weighFigures_13 rfl rfl ?_
      obtain ⟨x19, hx19, h⟩ := bind_some h
      refine PW.getR cls_X2 (j := 3) (by decide) dX2_weighFigures_14 wd_309 hx19 ?_
      refine PW.iload_n 2 dX2_weighFigures_17 rfl rfl ?_
      refine PW.iload_n 3 dX2_weighFigures_18 rfl rfl ?_
      refine PW.iadd dX2_weighFigures_19 ?_
      refine PW.iconst (x := 0) dX2_weighFigures_20 (by decide) ?_
      obtain ⟨hp20, hhp20, h⟩ := bind_some h
      refine PW.iast dX2_weighFigures_21 hhp20 ?_
      refine PW.iinc 3 (l' := [(3, .int (a3 + 1)), (0, .ref (ga K a0)), (1, .int a1), (2, .int a2)]) dX2_weighFigures_22 rfl (x := a3) (y := (a3 + 1)) rfl (by decide) rfl ?_
      refine PW.goto (tgt := 7) dX2_weighFigures_25 (by decide) ?_
      exact PW.sub (l' := [(0, .ref (ga K a0)), (1, .int a1), (2, .int a2), (3, .int (a3 + 1))]) [1, 2, 3, 0] rfl (ih a0 a1 a2 (a3 + 1) hp20 _ h)
set_option maxRecDepth 100000 in
set_option maxHeartbeats 4000000 in
theorem mf_X2_weighFigures {K : GK} : ∀ (a0 : Nat) (a1 : Int32) (hp : PH) (r : PH), f_X2_weighFigures a0 a1 hp = some r → PM K (1) M_X2_weighFigures [.ref (ga K a0), .int a1] hp none r := by
  intro a0 a1 hp r h
  unfold f_X2_weighFigures at h
  refine PM.enter (l0 := [(0, .ref (ga K a0)), (1, .int a1)]) (by decide +kernel) rfl (Nat.le_of_ble_eq_true rfl) rfl ?_
  refine PW.iload_n 1 dX2_weighFigures_0 rfl rfl ?_
  refine PW.bipush (x := 10) dX2_weighFigures_1 (by decide) ?_
  refine PW.imul dX2_weighFigures_3 ?_
  refine PW.istore_n (l' := [(2, .int (a1 * 10)), (0, .ref (ga K a0)), (1, .int a1)]) dX2_weighFigures_4 rfl (by decide) rfl ?_
  refine PW.iconst (x := 0) dX2_weighFigures_5 (by decide) ?_
  refine PW.istore_n (l' := [(3, .int 0), (2, .int (a1 * 10)), (0, .ref (ga K a0)), (1, .int a1)]) dX2_weighFigures_6 rfl (by decide) rfl ?_
  exact PW.sub (l' := [(0, .ref (ga K a0)), (1, .int a1), (2, .int (a1 * 10)), (3, .int 0)]) [2, 3, 1, 0] rfl (mf_X2_weighFigures_L7 NN a0 a1 (a1 * 10) 0 hp _ h)
