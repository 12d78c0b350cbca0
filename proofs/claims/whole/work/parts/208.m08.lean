-- X10_worth
def f_X10_worth_L44 : Nat → Nat → Int32 → Int32 → Int32 → Int32 → PH → Option (Int32 × PH)
  | 0, _, _, _, _, _, _ => none
  | n + 1, a0, a1, a2, a4, a5, hp => (gR hp a0 9 0).bind fun x8 => (gR hp x8 7 0).bind fun x9 => (vC hp x9 6 (f_X7_everyone x9 hp)).bind fun q10 => (if q10 < a5 then (some (a4, hp)) else (if ((iS a5 a1) &&& 1) = 0 then ((f_X10_worth_L44 n) a0 a1 a2 a4 (a5 + 1) hp) else (gR hp a0 9 5).bind fun x11 => (vC hp x11 2 (f_X3_reason x11 a5 a2 hp)).bind fun q12 => (if q12 = 0 then ((f_X10_worth_L44 n) a0 a1 a2 (a4 + 1) (a5 + 1) hp) else ((f_X10_worth_L44 n) a0 a1 a2 a4 (a5 + 1) hp))))
def f_X10_worth (a0 : Nat) (a1 : Int32) (a2 : Int32) (a3 : Int32) (hp : PH) : Option (Int32 × PH) := (gR hp a0 9 0).bind fun x1 => (gR hp x1 7 0).bind fun x2 => (vC hp x2 6 (f_X7_hasPerson x2 a1 hp)).bind fun q3 => (if q3 = 0 then (vC hp a0 9 (f_X10_refuse a0 (-2) hp)).bind fun q4 => (some (q4.1, q4.2)) else (vC hp a0 9 (f_X10_isPlace a0 a2 a3 hp)).bind fun q5 => (if q5 = 0 then (vC hp a0 9 (f_X10_refuse a0 (-2) hp)).bind fun q13 => (some (q13.1, q13.2)) else (gR hp a0 9 5).bind fun x6 => (vC hp x6 2 (f_X3_standOn x6 a3 hp)).bind fun q7 => (f_X10_worth_L44 NN a0 a1 a2 0 1 q7)))
set_option maxRecDepth 100000 in
set_option maxHeartbeats 4000000 in
theorem mf_X10_worth_L44 {K : GK} : ∀ (n : Nat) (a0 : Nat) (a1 : Int32) (a2 : Int32) (a4 : Int32) (a5 : Int32) (hp : PH) (r : (Int32 × PH)), f_X10_worth_L44 n a0 a1 a2 a4 a5 hp = some r → PW K (rmD (4)) 0 0 M_X10_worth 44 [(0, .ref (ga K a0)), (1, .int a1), (2, .int a2), (4, .int a4), (5, .int a5)] [] hp (some (.int r.1)) r.2 := by
  intro n
  induction n with
  | zero =>
    intro a0 a1 a2 a4 a5 hp r h
    rw [f_X10_worth_L44] at h
    cases h
  | succ n ih =>
    intro a0 a1 a2 a4 a5 hp r h
    rw [f_X10_worth_L44] at h
    refine PW.iload 4 dX10_worth_44 rfl ?_
    refine PW.aload_n 0 dX10_worth_46 rfl rfl ?_
    obtain ⟨x8, hx8, h⟩ := bind_some h
    refine PW.getR cls_X10 (j := 0) (by decide) dX10_worth_47 wd_325 hx8 ?_
    obtain ⟨x9, hx9, h⟩ := bind_some h
    refine PW.getR cls_X8 (j := 0) (by decide) dX10_worth_50 wd_198 hx9 ?_
    obtain ⟨q10, hq10, h⟩ := bind_some h
    obtain ⟨hkq10, hcq10, hq10⟩ := vC_spec hq10
    refine PW.callVi (As := []) (rest := [.int a5]) (k := x9) cal_X7_everyone dX10_worth_53 wd_660 rfl rfl (rmLe (by omega)) (Nat.le_of_ble_eq_true rfl) rm_0 hkq10 hcq10 (mf_X7_everyone x9 hp _ hq10) ?_
    refine PW.icmp_gt (tgt := 90) dX10_worth_56 (by decide) (fun c56 => ?_) (fun c56 => ?_)
    · rw [if_pos c56] at h
      refine PW.iload 3 dX10_worth_90 rfl ?_
      have h := Option.some.inj h; subst h
      exact PW.ret dX10_worth_92 trivial rfl
    · rw [if_neg c56] at h
      refine PW.iload 4 dX10_worth_59 rfl ?_
      refine PW.iload_n 1 dX10_worth_61 rfl rfl ?_
      refine PW.ishr dX10_worth_62 ?_
      refine PW.iconst (x := 1) dX10_worth_63 (by decide) ?_
      refine PW.iand dX10_worth_64 ?_
      refine PW.if_eq (tgt := 84) dX10_worth_65 (by decide) (fun c65 => ?_) (fun c65 => ?_)
      · rw [if_pos c65] at h
        refine PW.iinc 4 (l' := [(5, .int (a5 + 1)), (0, .ref (ga K a0)), (1, .int a1), (2, .int a2), (4, .int a4)]) dX10_worth_84 rfl (x := a5) (y := (a5 + 1)) rfl (by decide) rfl ?_
        refine PW.goto (tgt := 44) dX10_worth_87 (by decide) ?_
        exact PW.sub (l' := [(0, .ref (ga K a0)), (1, .int a1), (2, .int a2), (4, .int a4), (5, .int (a5 + 1))]) [1, 2, 3, 4, 0] rfl (ih a0 a1 a2 a4 (a5 + 1) hp _ h)
      · rw [if_neg c65] at h
        refine PW.aload_n 0 dX10_worth_68 rfl rfl ?_
        obtain ⟨x11, hx11, h⟩ := bind_some h
        refine PW.getR cls_X10 (j := 5) (by decide) dX10_worth_69 wd_330 hx11 ?_
        refine PW.iload 4 dX10_worth_72 rfl ?_
        refine PW.iload_n 2 dX10_worth_74 rfl rfl ?_
        obtain ⟨q12, hq12, h⟩ := bind_some h
        obtain ⟨hkq12, hcq12, hq12⟩ := vC_spec hq12
        refine PW.callVi (As := [.int a5, .int a2]) (rest := []) (k := x11) cal_X3_reason dX10_worth_75 wd_498 rfl rfl (rmLe (by omega)) (Nat.le_of_ble_eq_true rfl) rm_0 hkq12 hcq12 (mf_X3_reason x11 a5 a2 hp _ hq12) ?_
        refine PW.if_ne (tgt := 84) dX10_worth_78 (by decide) (fun c78 => ?_) (fun c78 => ?_)
        · rw [if_neg c78] at h
          refine PW.iinc 4 (l' := [(5, .int (a5 + 1)), (0, .ref (ga K a0)), (1, .int a1), (2, .int a2), (4, .int a4)]) dX10_worth_84 rfl (x := a5) (y := (a5 + 1)) rfl (by decide) rfl ?_
          refine PW.goto (tgt := 44) dX10_worth_87 (by decide) ?_
          exact PW.sub (l' := [(0, .ref (ga K a0)), (1, .int a1), (2, .int a2), (4, .int a4), (5, .int (a5 + 1))]) [1, 2, 3, 4, 0] rfl (ih a0 a1 a2 a4 (a5 + 1) hp _ h)
        · rw [if_pos c78] at h
          refine PW.iinc 3 (l' := [(4, .int (a4 + 1)), (0, .ref (ga K a0)), (1, .int a1), (2, .int a2), (5, .int a5)]) dX10_worth_81 rfl (x := a4) (y := (a4 + 1)) rfl (by decide) rfl ?_
          refine PW.iinc 4 (l' := [(5, .int (a5 + 1)), (4, .int (a4 + 1)), (0, .ref (ga K a0)), (1, .int a1), (2, .int a2)]) dX10_worth_84 rfl (x := a5) (y := (a5 + 1)) rfl (by decide) rfl ?_
          refine PW.goto (tgt := 44) dX10_worth_87 (by decide) ?_
          exact PW.sub (l' := [(0, .ref (ga K a0)), (1, .int a1), (2, .int a2), (4, .int (a4 + 1)), (5, .int (a5 + 1))]) [2, 3, 4, 1, 0] rfl (ih a0 a1 a2 (a4 + 1) (a5 + 1) hp _ h)
set_option maxRecDepth 100000 in
set_option maxHeartbeats 4000000 in
theorem mf_X10_worth {K : GK} : ∀ (a0 : Nat) (a1 : Int32) (a2 : Int32) (a3 : Int32) (hp : PH) (r : (Int32 × PH)), f_X10_worth a0 a1 a2 a3 hp = some r → PM K (4) M_X10_worth [.ref (ga K a0), .int a1, .int a2, .int a3] hp (some (.int r.1)) r.2 := by
  intro a0 a1 a2 a3 hp r h
  unfold f_X10_worth at h
  refine PM.enter (l0 := [(0, .ref (ga K a0)), (1, .int a1), (2, .int a2), (3, .int a3)]) (by decide +kernel) rfl (Nat.le_of_ble_eq_true rfl) rfl ?_
  refine PW.aload_n 0 dX10_worth_0 rfl rfl ?_
  obtain ⟨x1, hx1, h⟩ := bind_some h
  refine PW.getR cls_X10 (j := 0) (by decide) dX10_worth_1 wd_325 hx1 ?_
  obtain ⟨x2, hx2, h⟩ := bind_some h
  refine PW.getR cls_X8 (j := 0) (by decide) dX10_worth_4 wd_198 hx2 ?_
  refine PW.iload_n 1 dX10_worth_7 rfl rfl ?_
  obtain ⟨q3, hq3, h⟩ := bind_some h
  obtain ⟨hkq3, hcq3, hq3⟩ := vC_spec hq3
  refine PW.callVi (As := [.int a1]) (rest := []) (k := x2) cal_X7_hasPerson dX10_worth_8 wd_452 rfl rfl (rmLe (by omega)) (Nat.le_of_ble_eq_true rfl) rm_0 hkq3 hcq3 (mf_X7_hasPerson x2 a1 hp _ hq3) ?_
  refine PW.if_eq (tgt := 23) dX10_worth_11 (by decide) (fun c11 => ?_) (fun c11 => ?_)
  · rw [if_pos c11] at h
    refine PW.aload_n 0 dX10_worth_23 rfl rfl ?_
    refine PW.bipush (x := (-2)) dX10_worth_24 (by decide) ?_
    obtain ⟨q4, hq4, h⟩ := bind_some h
    obtain ⟨hkq4, hcq4, hq4⟩ := vC_spec hq4
    refine PW.callVi (As := [.int (-2)]) (rest := []) (k := a0) cal_X10_refuse dX10_worth_26 wd_398 rfl rfl (rmLe (by omega)) (Nat.le_of_ble_eq_true rfl) rm_0 hkq4 hcq4 (mf_X10_refuse a0 (-2) hp _ hq4) ?_
    have h := Option.some.inj h; subst h
    exact PW.ret dX10_worth_29 trivial rfl
  · rw [if_neg c11] at h
    refine PW.aload_n 0 dX10_worth_14 rfl rfl ?_
    refine PW.iload_n 2 dX10_worth_15 rfl rfl ?_
    refine PW.iload_n 3 dX10_worth_16 rfl rfl ?_
    obtain ⟨q5, hq5, h⟩ := bind_some h
    obtain ⟨hkq5, hcq5, hq5⟩ := vC_spec hq5
    refine PW.callVi (As := [.int a2, .int a3]) (rest := []) (k := a0) cal_X10_isPlace dX10_worth_17 wd_484 rfl rfl (rmLe (by omega)) (Nat.le_of_ble_eq_true rfl) rm_0 hkq5 hcq5 (mf_X10_isPlace a0 a2 a3 hp _ hq5) ?_
    refine PW.if_ne (tgt := 30) dX10_worth_20 (by decide) (fun c20 => ?_) (fun c20 => ?_)
    · rw [if_neg c20] at h
      refine PW.aload_n 0 dX10_worth_30 rfl rfl ?_
      obtain ⟨x6, hx6, h⟩ := bind_some h
      refine PW.getR cls_X10 (j := 5) (by decide) dX10_worth_31 wd_330 hx6 ?_
      refine PW.iload_n 3 dX10_worth_34 rfl rfl ?_
      obtain ⟨q7, hq7, h⟩ := bind_some h
      obtain ⟨hkq7, hcq7, hq7⟩ := vC_spec hq7
      refine PW.callVv (As := [.int a3]) (rest := []) (k := x6) cal_X3_standOn dX10_worth_35 wd_492 rfl rfl (rmLe (by omega)) (Nat.le_of_ble_eq_true rfl) rm_0 hkq7 hcq7 (mf_X3_standOn x6 a3 hp _ hq7) ?_
      refine PW.iconst (x := 0) dX10_worth_38 (by decide) ?_
      refine PW.istore (l' := [(4, .int 0), (0, .ref (ga K a0)), (1, .int a1), (2, .int a2), (3, .int a3)]) dX10_worth_39 (by decide) rfl ?_
      refine PW.iconst (x := 1) dX10_worth_41 (by decide) ?_
      refine PW.istore (l' := [(5, .int 1), (4, .int 0), (0, .ref (ga K a0)), (1, .int a1), (2, .int a2), (3, .int a3)]) dX10_worth_42 (by decide) rfl ?_
      exact PW.sub (l' := [(0, .ref (ga K a0)), (1, .int a1), (2, .int a2), (4, .int 0), (5, .int 1)]) [2, 3, 4, 1, 0] rfl (mf_X10_worth_L44 NN a0 a1 a2 0 1 q7 _ h)
    · rw [if_pos c20] at h
      refine PW.aload_n 0 dX10_worth_23 rfl rfl ?_
      refine PW.bipush (x := (-2)) dX10_worth_24 (by decide) ?_
      obtain ⟨q13, hq13, h⟩ := bind_some h
      obtain ⟨hkq13, hcq13, hq13⟩ := vC_spec hq13
      refine PW.callVi (As := [.int (-2)]) (rest := []) (k := a0) cal_X10_refuse dX10_worth_26 wd_398 rfl rfl (rmLe (by omega)) (Nat.le_of_ble_eq_true rfl) rm_0 hkq13 hcq13 (mf_X10_refuse a0 (-2) hp _ hq13) ?_
      have h := Option.some.inj h; subst h
      exact PW.ret dX10_worth_29 trivial rfl
-- X10_dates
def f_X10_dates (a0 : Nat) (a1 : Int32) (a2 : Int32) (a3 : Int32) (hp : PH) : Option (Int32 × PH) := (gR hp a0 9 0).bind fun x1 => (gR hp x1 7 0).bind fun x2 => (vC hp x2 6 (f_X7_hasCompany x2 a1 hp)).bind fun q3 => (if q3 = 0 then (vC hp a0 9 (f_X10_refuse a0 (-2) hp)).bind fun q4 => (some (q4.1, q4.2)) else (gR hp a0 9 0).bind fun x5 => (gR hp x5 7 0).bind fun x6 => (vC hp x6 6 (f_X7_hasGate x6 a2 hp)).bind fun q7 => (if q7 = 0 then (vC hp a0 9 (f_X10_refuse a0 (-2) hp)).bind fun q8 => (some (q8.1, q8.2)) else (if (f_X1_isYear a3) = 0 then (vC hp a0 9 (f_X10_refuse a0 (-2) hp)).bind fun q12 => (some (q12.1, q12.2)) else (gR hp a0 9 5).bind fun x10 => (vC hp x10 2 (f_X3_daysOfYear x10 a1 a2 a3 hp)).bind fun q11 => (some (q11.1, q11.2)))))
set_option maxRecDepth 100000 in
set_option maxHeartbeats 4000000 in
theorem mf_X10_dates {K : GK} : ∀ (a0 : Nat) (a1 : Int32) (a2 : Int32) (a3 : Int32) (hp : PH) (r : (Int32 × PH)), f_X10_dates a0 a1 a2 a3 hp = some r → PM K (8) M_X10_dates [.ref (ga K a0), .int a1, .int a2, .int a3] hp (some (.int r.1)) r.2 := by
  intro a0 a1 a2 a3 hp r h
  unfold f_X10_dates at h
  refine PM.enter (l0 := [(0, .ref (ga K a0)), (1, .int a1), (2, .int a2), (3, .int a3)]) (by decide +kernel) rfl (Nat.le_of_ble_eq_true rfl) rfl ?_
  refine PW.aload_n 0 dX10_dates_0 rfl rfl ?_
  obtain ⟨x1, hx1, h⟩ := bind_some h
  refine PW.getR cls_X10 (j := 0) (by decide) dX10_dates_1 wd_325 hx1 ?_
  obtain ⟨x2, hx2, h⟩ := bind_some h
  refine PW.getR cls_X8 (j := 0) (by decide) dX10_dates_4 wd_198 hx2 ?_
  refine PW.iload_n 1 dX10_dates_7 rfl rfl ?_
  obtain ⟨q3, hq3, h⟩ := bind_some h
  obtain ⟨hkq3, hcq3, hq3⟩ := vC_spec hq3
  refine PW.callVi (As := [.int a1]) (rest := []) (k := x2) cal_X7_hasCompany dX10_dates_8 wd_472 rfl rfl (rmLe (by omega)) (Nat.le_of_ble_eq_true rfl) rm_0 hkq3 hcq3 (mf_X7_hasCompany x2 a1 hp _ hq3) ?_
  refine PW.if_eq (tgt := 35) dX10_dates_11 (by decide) (fun c11 => ?_) (fun c11 => ?_)
  · rw [if_pos c11] at h
    refine PW.aload_n 0 dX10_dates_35 rfl rfl ?_
    refine PW.bipush (x := (-2)) dX10_dates_36 (by decide) ?_
    obtain ⟨q4, hq4, h⟩ := bind_some h
    obtain ⟨hkq4, hcq4, hq4⟩ := vC_spec hq4
    refine PW.callVi (As := [.int (-2)]) (rest := []) (k := a0) cal_X10_refuse dX10_dates_38 wd_398 rfl rfl (rmLe (by omega)) (Nat.le_of_ble_eq_true rfl) rm_0 hkq4 hcq4 (mf_X10_refuse a0 (-2) hp _ hq4) ?_
    have h := Option.some.inj h; subst h
    exact PW.ret dX10_dates_41 trivial rfl
  · rw [if_neg c11] at h
    refine PW.aload_n 0 dX10_dates_14 rfl rfl ?_
    obtain ⟨x5, hx5, h⟩ := bind_some h
    refine PW.getR cls_X10 (j := 0) (by decide) dX10_dates_15 wd_325 hx5 ?_
    obtain ⟨x6, hx6, h⟩ := bind_some h
    refine PW.getR cls_X8 (j := 0) (by decide) dX10_dates_18 wd_198 hx6 ?_
    refine PW.iload_n 2 dX10_dates_21 rfl rfl ?_
    obtain ⟨q7, hq7, h⟩ := bind_some h
    obtain ⟨hkq7, hcq7, hq7⟩ := vC_spec hq7
    refine PW.callVi (As := [.int a2]) (rest := []) (k := x6) cal_X7_hasGate dX10_dates_22 wd_488 rfl rfl (rmLe (by omega)) (Nat.le_of_ble_eq_true rfl) rm_0 hkq7 hcq7 (mf_X7_hasGate x6 a2 hp _ hq7) ?_
    refine PW.if_eq (tgt := 35) dX10_dates_25 (by decide) (fun c25 => ?_) (fun c25 => ?_)
    · rw [if_pos c25] at h
      refine PW.aload_n 0 dX10_dates_35 rfl rfl ?_
      refine PW.bipush (x := (-2)) dX10_dates_36 (by decide) ?_
      obtain ⟨q8, hq8, h⟩ := bind_some h
      obtain ⟨hkq8, hcq8, hq8⟩ := vC_spec hq8
      refine PW.callVi (As := [.int (-2)]) (rest := []) (k := a0) cal_X10_refuse dX10_dates_38 wd_398 rfl rfl (rmLe (by omega)) (Nat.le_of_ble_eq_true rfl) rm_0 hkq8 hcq8 (mf_X10_refuse a0 (-2) hp _ hq8) ?_
      have h := Option.some.inj h; subst h
      exact PW.ret dX10_dates_41 trivial rfl
    · rw [if_neg c25] at h
      refine PW.iload_n 3 dX10_dates_28 rfl rfl ?_
      refine PW.callSi (As := [.int a3]) (rest := []) cal_X1_isYear dX10_dates_29 wd_703 rfl rfl (rmLe (by omega)) (Nat.le_of_ble_eq_true rfl) rm_0 (mf_X1_isYear a3 _ rfl) ?_
      refine PW.if_ne (tgt := 42) dX10_dates_32 (by decide) (fun c32 => ?_) (fun c32 => ?_)
      · rw [if_neg c32] at h
        refine PW.aload_n 0 dX10_dates_42 rfl rfl ?_
        obtain ⟨x10, hx10, h⟩ := bind_some h
        refine PW.getR cls_X10 (j := 5) (by decide) dX10_dates_43 wd_330 hx10 ?_
        refine PW.iload_n 1 dX10_dates_46 rfl rfl ?_
        refine PW.iload_n 2 dX10_dates_47 rfl rfl ?_
        refine PW.iload_n 3 dX10_dates_48 rfl rfl ?_
        obtain ⟨q11, hq11, h⟩ := bind_some h
        obtain ⟨hkq11, hcq11, hq11⟩ := vC_spec hq11
        refine PW.callVi (As := [.int a1, .int a2, .int a3]) (rest := []) (k := x10) cal_X3_daysOfYear dX10_dates_49 wd_704 rfl rfl (rmLe (by omega)) (Nat.le_of_ble_eq_true rfl) rm_0 hkq11 hcq11 (mf_X3_daysOfYear x10 a1 a2 a3 hp _ hq11) ?_
        have h := Option.some.inj h; subst h
        exact PW.ret dX10_dates_52 trivial rfl
      · rw [if_pos c32] at h
        refine PW.aload_n 0 dX10_dates_35 rfl rfl ?_
        refine PW.bipush (x := (-2)) dX10_dates_36 (by decide) ?_
        obtain ⟨q12, hq12, h⟩ := bind_some h
        obtain ⟨hkq12, hcq12, hq12⟩ := vC_spec hq12
        refine PW.callVi (As := [.int (-2)]) (rest := []) (k := a0) cal_X10_refuse dX10_dates_38 wd_398 rfl rfl (rmLe (by omega)) (Nat.le_of_ble_eq_true rfl) rm_0 hkq12 hcq12 (mf_X10_refuse a0 (-2) hp _ hq12) ?_
        have h := Option.some.inj h; subst h
        exact PW.ret dX10_dates_41 trivial rfl
-- X10_next
def f_X10_next (a0 : Nat) (a1 : Int32) (a2 : Int32) (a3 : Int32) (hp : PH) : Option (Int32 × PH) := (gR hp a0 9 0).bind fun x1 => (gR hp x1 7 0).bind fun x2 => (vC hp x2 6 (f_X7_hasCompany x2 a1 hp)).bind fun q3 => (if q3 = 0 then (vC hp a0 9 (f_X10_refuse a0 (-2) hp)).bind fun q4 => (some (q4.1, q4.2)) else (vC hp a0 9 (f_X10_isPlace a0 a2 a3 hp)).bind fun q5 => (if q5 = 0 then (vC hp a0 9 (f_X10_refuse a0 (-2) hp)).bind fun q8 => (some (q8.1, q8.2)) else (gR hp a0 9 5).bind fun x6 => (vC hp x6 2 (f_X3_firstDay x6 a1 a2 a3 hp)).bind fun q7 => (some (q7.1, q7.2))))
set_option maxRecDepth 100000 in
set_option maxHeartbeats 4000000 in
theorem mf_X10_next {K : GK} : ∀ (a0 : Nat) (a1 : Int32) (a2 : Int32) (a3 : Int32) (hp : PH) (r : (Int32 × PH)), f_X10_next a0 a1 a2 a3 hp = some r → PM K (8) M_X10_next [.ref (ga K a0), .int a1, .int a2, .int a3] hp (some (.int r.1)) r.2 := by
  intro a0 a1 a2 a3 hp r h
  unfold f_X10_next at h
  refine PM.enter (l0 := [(0, .ref (ga K a0)), (1, .int a1), (2, .int a2), (3, .int a3)]) (by decide +kernel) rfl (Nat.le_of_ble_eq_true rfl) rfl ?_
  refine PW.aload_n 0 dX10_next_0 rfl rfl ?_
  obtain ⟨x1, hx1, h⟩ := bind_some h
  refine PW.getR cls_X10 (j := 0) (by decide) dX10_next_1 wd_325 hx1 ?_
  obtain ⟨x2, hx2, h⟩ := bind_some h
  refine PW.getR cls_X8 (j := 0) (by decide) dX10_next_4 wd_198 hx2 ?_
  refine PW.iload_n 1 dX10_next_7 rfl rfl ?_
  obtain ⟨q3, hq3, h⟩ := bind_some h
  obtain ⟨hkq3, hcq3, hq3⟩ := vC_spec hq3
  refine PW.callVi (As := [.int a1]) (rest := []) (k := x2) cal_X7_hasCompany dX10_next_8 wd_472 rfl rfl (rmLe (by omega)) (Nat.le_of_ble_eq_true rfl) rm_0 hkq3 hcq3 (mf_X7_hasCompany x2 a1 hp _ hq3) ?_
  refine PW.if_eq (tgt := 23) dX10_next_11 (by decide) (fun c11 => ?_) (fun c11 => ?_)
  · rw [if_pos c11] at h
    refine PW.aload_n 0 dX10_next_23 rfl rfl ?_
    refine PW.bipush (x := (-2)) dX10_next_24 (by decide) ?_
    obtain ⟨q4, hq4, h⟩ := bind_some h
    obtain ⟨hkq4, hcq4, hq4⟩ := vC_spec hq4
    refine PW.callVi (As := [.int (-2)]) (rest := []) (k := a0) cal_X10_refuse dX10_next_26 wd_398 rfl rfl (rmLe (by omega)) (Nat.le_of_ble_eq_true rfl) rm_0 hkq4 hcq4 (mf_X10_refuse a0 (-2) hp _ hq4) ?_
    have h := Option.some.inj h; subst h
    exact PW.ret dX10_next_29 trivial rfl
  · rw [if_neg c11] at h
    refine PW.aload_n 0 dX10_next_14 rfl rfl ?_
    refine PW.iload_n 2 dX10_next_15 rfl rfl ?_
    refine PW.iload_n 3 dX10_next_16 rfl rfl ?_
    obtain ⟨q5, hq5, h⟩ := bind_some h
    obtain ⟨hkq5, hcq5, hq5⟩ := vC_spec hq5
    refine PW.callVi (As := [.int a2, .int a3]) (rest := []) (k := a0) cal_X10_isPlace dX10_next_17 wd_484 rfl rfl (rmLe (by omega)) (Nat.le_of_ble_eq_true rfl) rm_0 hkq5 hcq5 (mf_X10_isPlace a0 a2 a3 hp _ hq5) ?_
    refine PW.if_ne (tgt := 30) dX10_next_20 (by decide) (fun c20 => ?_) (fun c20 => ?_)
    · rw [if_neg c20] at h
      refine PW.aload_n 0 dX10_next_30 rfl rfl ?_
      obtain ⟨x6, hx6, h⟩ := bind_some h
      refine PW.getR cls_X10 (j := 5) (by decide) dX10_next_31 wd_330 hx6 ?_
      refine PW.iload_n 1 dX10_next_34 rfl rfl ?_
      refine PW.iload_n 2 dX10_next_35 rfl rfl ?_
      refine PW.iload_n 3 dX10_next_36 rfl rfl ?_
      obtain ⟨q7, hq7, h⟩ := bind_some h
      obtain ⟨hkq7, hcq7, hq7⟩ := vC_spec hq7
      refine PW.callVi (As := [.int a1, .int a2, .int a3]) (rest := []) (k := x6) cal_X3_firstDay dX10_next_37 wd_725 rfl rfl (rmLe (by omega)) (Nat.le_of_ble_eq_true rfl) rm_0 hkq7 hcq7 (mf_X3_firstDay x6 a1 a2 a3 hp _ hq7) ?_
      have h := Option.some.inj h; subst h
      exact PW.ret dX10_next_40 trivial rfl
    · rw [if_pos c20] at h
      refine PW.aload_n 0 dX10_next_23 rfl rfl ?_
      refine PW.bipush (x := (-2)) dX10_next_24 (by decide) ?_
      obtain ⟨q8, hq8, h⟩ := bind_some h
      obtain ⟨hkq8, hcq8, hq8⟩ := vC_spec hq8
      refine PW.callVi (As := [.int (-2)]) (rest := []) (k := a0) cal_X10_refuse dX10_next_26 wd_398 rfl rfl (rmLe (by omega)) (Nat.le_of_ble_eq_true rfl) rm_0 hkq8 hcq8 (mf_X10_refuse a0 (-2) hp _ hq8) ?_
      have h := Option.some.inj h; subst h
      exact PW.ret dX10_next_29 trivial rfl
-- X10_wedding
def f_X10_wedding (a0 : Nat) (a1 : Int32) (a2 : Int32) (a3 : Int32) (a4 : Int32) (hp : PH) : Option (Int32 × PH) := (gR hp a0 9 0).bind fun x1 => (gR hp x1 7 0).bind fun x2 => (vC hp x2 6 (f_X7_hasSet x2 a1 hp)).bind fun q3 => (if q3 = 0 then (vC hp a0 9 (f_X10_refuse a0 (-2) hp)).bind fun q4 => (some (q4.1, q4.2)) else (gR hp a0 9 0).bind fun x5 => (gR hp x5 7 0).bind fun x6 => (vC hp x6 6 (f_X7_hasSet x6 a2 hp)).bind fun q7 => (if q7 = 0 then (vC hp a0 9 (f_X10_refuse a0 (-2) hp)).bind fun q8 => (some (q8.1, q8.2)) else (if (a1 &&& a2) = 0 then (vC hp a0 9 (f_X10_isPlace a0 a3 a4 hp)).bind fun q10 => (if q10 = 0 then (vC hp a0 9 (f_X10_refuse a0 (-2) hp)).bind fun q13 => (some (q13.1, q13.2)) else (gR hp a0 9 6).bind fun x11 => (vC hp x11 3 (f_X4_firstDayForBoth x11 a1 a2 a3 a4 hp)).bind fun q12 => (some (q12.1, q12.2))) else (vC hp a0 9 (f_X10_refuse a0 (-2) hp)).bind fun q9 => (some (q9.1, q9.2)))))
set_option maxRecDepth 100000 in
set_option maxHeartbeats 4000000 in
theorem mf_X10_wedding {K : GK} : ∀ (a0 : Nat) (a1 : Int32) (a2 : Int32) (a3 : Int32) (a4 : Int32) (hp : PH) (r : (Int32 × PH)), f_X10_wedding a0 a1 a2 a3 a4 hp = some r → PM K (10) M_X10_wedding [.ref (ga K a0), .int a1, .int a2, .int a3, .int a4] hp (some (.int r.1)) r.2 := by
  intro a0 a1 a2 a3 a4 hp r h
  unfold f_X10_wedding at h
  refine PM.enter (l0 := [(0, .ref (ga K a0)), (1, .int a1), (2, .int a2), (3, .int a3), (4, .int a4)]) (by decide +kernel) rfl (Nat.le_of_ble_eq_true rfl) rfl ?_
  refine PW.aload_n 0 dX10_wedding_0 rfl rfl ?_
  obtain ⟨x1, hx1, h⟩ := bind_some h
  refine PW.getR cls_X10 (j := 0) (by decide) dX10_wedding_1 wd_325 hx1 ?_
  obtain ⟨x2, hx2, h⟩ := bind_some h
  refine PW.getR cls_X8 (j := 0) (by decide) dX10_wedding_4 wd_198 hx2 ?_
  refine PW.iload_n 1 dX10_wedding_7 rfl rfl ?_
  obtain ⟨q3, hq3, h⟩ := bind_some h
  obtain ⟨hkq3, hcq3, hq3⟩ := vC_spec hq3
  refine PW.callVi (As := [.int a1]) (rest := []) (k := x2) cal_X7_hasSet dX10_wedding_8 wd_666 rfl rfl (rmLe (by omega)) (Nat.le_of_ble_eq_true rfl) rm_0 hkq3 hcq3 (mf_X7_hasSet x2 a1 hp _ hq3) ?_
  refine PW.if_eq (tgt := 44) dX10_wedding_11 (by decide) (fun c11 => ?_) (fun c11 => ?_)
  · rw [if_pos c11] at h
    refine PW.aload_n 0 dX10_wedding_44 rfl rfl ?_
    refine PW.bipush (x := (-2)) dX10_wedding_45 (by decide) ?_
    obtain ⟨q4, hq4, h⟩ := bind_some h
    obtain ⟨hkq4, hcq4, hq4⟩ := vC_spec hq4
    refine PW.callVi (As := [.int (-2)]) (rest := []) (k := a0) cal_X10_refuse dX10_wedding_47 wd_398 rfl rfl (rmLe (by omega)) (Nat.le_of_ble_eq_true rfl) rm_0 hkq4 hcq4 (mf_X10_refuse a0 (-2) hp _ hq4) ?_
    have h := Option.some.inj h; subst h
    exact PW.ret dX10_wedding_50 trivial rfl
  · rw [if_neg c11] at h
    refine PW.aload_n 0 dX10_wedding_14 rfl rfl ?_
    obtain ⟨x5, hx5, h⟩ := bind_some h
    refine PW.getR cls_X10 (j := 0) (by decide) dX10_wedding_15 wd_325 hx5 ?_
    obtain ⟨x6, hx6, h⟩ := bind_some h
    refine PW.getR cls_X8 (j := 0) (by decide) dX10_wedding_18 wd_198 hx6 ?_
    refine PW.iload_n 2 dX10_wedding_21 rfl rfl ?_
    obtain ⟨q7, hq7, h⟩ := bind_some h
    obtain ⟨hkq7, hcq7, hq7⟩ := vC_spec hq7
    refine PW.callVi (As := [.int a2]) (rest := []) (k := x6) cal_X7_hasSet dX10_wedding_22 wd_666 rfl rfl (rmLe (by omega)) (Nat.le_of_ble_eq_true rfl) rm_0 hkq7 hcq7 (mf_X7_hasSet x6 a2 hp _ hq7) ?_
    refine PW.if_eq (tgt := 44) dX10_wedding_25 (by decide) (fun c25 => ?_) (fun c25 => ?_)
    · rw [if_pos c25] at h
      refine PW.aload_n 0 dX10_wedding_44 rfl rfl ?_
      refine PW.bipush (x := (-2)) dX10_wedding_45 (by decide) ?_
      obtain ⟨q8, hq8, h⟩ := bind_some h
      obtain ⟨hkq8, hcq8, hq8⟩ := vC_spec hq8
      refine PW.callVi (As := [.int (-2)]) (rest := []) (k := a0) cal_X10_refuse dX10_wedding_47 wd_398 rfl rfl (rmLe (by omega)) (Nat.le_of_ble_eq_true rfl) rm_0 hkq8 hcq8 (mf_X10_refuse a0 (-2) hp _ hq8) ?_
      have h := Option.some.inj h; subst h
      exact PW.ret dX10_wedding_50 trivial rfl
    · rw [if_neg c25] at h
      refine PW.iload_n 1 dX10_wedding_28 rfl rfl ?_
      refine PW.iload_n 2 dX10_wedding_29 rfl rfl ?_
      refine PW.iand dX10_wedding_30 ?_
      refine PW.if_ne (tgt := 44) dX10_wedding_31 (by decide) (fun c31 => ?_) (fun c31 => ?_)
      · rw [if_neg c31] at h
        refine PW.aload_n 0 dX10_wedding_44 rfl rfl ?_
        refine PW.bipush (x := (-2)) dX10_wedding_45 (by decide) ?_
        obtain ⟨q9, hq9, h⟩ := bind_some h
        obtain ⟨hkq9, hcq9, hq9⟩ := vC_spec hq9
        refine PW.callVi (As := [.int (-2)]) (rest := []) (k := a0) cal_X10_refuse dX10_wedding_47 wd_398 rfl rfl (rmLe (by omega)) (Nat.le_of_ble_eq_true rfl) rm_0 hkq9 hcq9 (mf_X10_refuse a0 (-2) hp _ hq9) ?_
        have h := Option.some.inj h; subst h
        exact PW.ret dX10_wedding_50 trivial rfl
      · rw [if_pos c31] at h
        refine PW.aload_n 0 dX10_wedding_34 rfl rfl ?_
        refine PW.iload_n 3 dX10_wedding_35 rfl rfl ?_
        refine PW.iload 4 dX10_wedding_36 rfl ?_
        obtain ⟨q10, hq10, h⟩ := bind_some h
        obtain ⟨hkq10, hcq10, hq10⟩ := vC_spec hq10
        refine PW.callVi (As := [.int a3, .int a4]) (rest := []) (k := a0) cal_X10_isPlace dX10_wedding_38 wd_484 rfl rfl (rmLe (by omega)) (Nat.le_of_ble_eq_true rfl) rm_0 hkq10 hcq10 (mf_X10_isPlace a0 a3 a4 hp _ hq10) ?_
        refine PW.if_ne (tgt := 51) dX10_wedding_41 (by decide) (fun c41 => ?_) (fun c41 => ?_)
        · rw [if_neg c41] at h
          refine PW.aload_n 0 dX10_wedding_51 rfl rfl ?_
          obtain ⟨x11, hx11, h⟩ := bind_some h
          refine PW.getR cls_X10 (j := 6) (by decide) dX10_wedding_52 wd_331 hx11 ?_
          refine PW.iload_n 1 dX10_wedding_55 rfl rfl ?_
          refine PW.iload_n 2 dX10_wedding_56 rfl rfl ?_
          refine PW.iload_n 3 dX10_wedding_57 rfl rfl ?_
          refine PW.iload 4 dX10_wedding_58 rfl ?_
          obtain ⟨q12, hq12, h⟩ := bind_some h
          obtain ⟨hkq12, hcq12, hq12⟩ := vC_spec hq12
          refine PW.callVi (As := [.int a1, .int a2, .int a3, .int a4]) (rest := []) (k := x11) cal_X4_firstDayForBoth dX10_wedding_60 wd_734 rfl rfl (rmLe (by omega)) (Nat.le_of_ble_eq_true rfl) rm_0 hkq12 hcq12 (mf_X4_firstDayForBoth x11 a1 a2 a3 a4 hp _ hq12) ?_
          have h := Option.some.inj h; subst h
          exact PW.ret dX10_wedding_63 trivial rfl
        · rw [if_pos c41] at h
          refine PW.aload_n 0 dX10_wedding_44 rfl rfl ?_
          refine PW.bipush (x := (-2)) dX10_wedding_45 (by decide) ?_
          obtain ⟨q13, hq13, h⟩ := bind_some h
          obtain ⟨hkq13, hcq13, hq13⟩ := vC_spec hq13
          refine PW.callVi (As := [.int (-2)]) (rest := []) (k := a0) cal_X10_refuse dX10_wedding_47 wd_398 rfl rfl (rmLe (by omega)) (Nat.le_of_ble_eq_true rfl) rm_0 hkq13 hcq13 (mf_X10_refuse a0 (-2) hp _ hq13) ?_
          have h := Option.some.inj h; subst h
          exact PW.ret dX10_wedding_50 trivial rfl
-- X10_crowd
def f_X10_crowd (a0 : Nat) (a1 : Int32) (a2 : Int32) (hp : PH) : Option (Int32 × PH) := (if a1 < 0 then (vC hp a0 9 (f_X10_refuse a0 (-2) hp)).bind fun q1 => (some (q1.1, q1.2)) else (if 10 ≤ a1 then (vC hp a0 9 (f_X10_refuse a0 (-2) hp)).bind fun q2 => (some (q2.1, q2.2)) else (if a2 < 0 then (vC hp a0 9 (f_X10_refuse a0 (-2) hp)).bind fun q3 => (some (q3.1, q3.2)) else (if a2 ≤ 6 then (gR hp a0 9 0).bind fun x4 => (gR hp x4 7 2).bind fun x5 => (aI hp x5 0 a1).bind fun x6 => (gR hp a0 9 0).bind fun x7 => (gR hp x7 7 2).bind fun x8 => (uI hp x8 a1 a2).bind fun hp9 => (some (x6, hp9)) else (vC hp a0 9 (f_X10_refuse a0 (-2) hp)).bind fun q10 => (some (q10.1, q10.2))))))
set_option maxRecDepth 100000 in
set_option maxHeartbeats 4000000 in
theorem mf_X10_crowd {K : GK} : ∀ (a0 : Nat) (a1 : Int32) (a2 : Int32) (hp : PH) (r : (Int32 × PH)), f_X10_crowd a0 a1 a2 hp = some r → PM K (2) M_X10_crowd [.ref (ga K a0), .int a1, .int a2] hp (some (.int r.1)) r.2 := by
  intro a0 a1 a2 hp r h
  unfold f_X10_crowd at h
  refine PM.enter (l0 := [(0, .ref (ga K a0)), (1, .int a1), (2, .int a2)]) (by decide +kernel) rfl (Nat.le_of_ble_eq_true rfl) rfl ?_
  refine PW.iload_n 1 dX10_crowd_0 rfl rfl ?_
  refine PW.if_lt (tgt := 20) dX10_crowd_1 (by decide) (fun c1 => ?_) (fun c1 => ?_)
  · rw [if_pos c1] at h
    refine PW.aload_n 0 dX10_crowd_20 rfl rfl ?_
    refine PW.bipush (x := (-2)) dX10_crowd_21 (by decide) ?_
    obtain ⟨q1, hq1, h⟩ := bind_some h
    obtain ⟨hkq1, hcq1, hq1⟩ := vC_spec hq1
    refine PW.callVi (As := [.int (-2)]) (rest := []) (k := a0) cal_X10_refuse dX10_crowd_23 wd_398 rfl rfl (rmLe (by omega)) (Nat.le_of_ble_eq_true rfl) rm_0 hkq1 hcq1 (mf_X10_refuse a0 (-2) hp _ hq1) ?_
    have h := Option.some.inj h; subst h
    exact PW.ret dX10_crowd_26 trivial rfl
  · rw [if_neg c1] at h
    refine PW.iload_n 1 dX10_crowd_4 rfl rfl ?_
    refine PW.bipush (x := 10) dX10_crowd_5 (by decide) ?_
    refine PW.icmp_ge (tgt := 20) dX10_crowd_7 (by decide) (fun c7 => ?_) (fun c7 => ?_)
    · rw [if_pos c7] at h
      refine PW.aload_n 0 dX10_crowd_20 rfl rfl ?_
      refine PW.bipush (x := (-2)) dX10_crowd_21 (by decide) ?_
      obtain ⟨q2, hq2, h⟩ := bind_some h
      obtain ⟨hkq2, hcq2, hq2⟩ := vC_spec hq2
      refine PW.callVi (As := [.int (-2)]) (rest := []) (k := a0) cal_X10_refuse dX10_crowd_23 wd_398 rfl rfl (rmLe (by omega)) (Nat.le_of_ble_eq_true rfl) rm_0 hkq2 hcq2 (mf_X10_refuse a0 (-2) hp _ hq2) ?_
      have h := Option.some.inj h; subst h
      exact PW.ret dX10_crowd_26 trivial rfl
    · rw [if_neg c7] at h
      refine PW.iload_n 2 dX10_crowd_10 rfl rfl ?_
      refine PW.if_lt (tgt := 20) dX10_crowd_11 (by decide) (fun c11 => ?_) (fun c11 => ?_)
      · rw [if_pos c11] at h
        refine PW.aload_n 0 dX10_crowd_20 rfl rfl ?_
        refine PW.bipush (x := (-2)) dX10_crowd_21 (by decide) ?_
        obtain ⟨q3, hq3, h⟩ := bind_some h
        obtain ⟨hkq3, hcq3, hq3⟩ := vC_spec hq3
        refine PW.callVi (As := [.int (-2)]) (rest := []) (k := a0) cal_X10_refuse dX10_crowd_23 wd_398 rfl rfl (rmLe (by omega)) (Nat.le_of_ble_eq_true rfl) rm_0 hkq3 hcq3 (mf_X10_refuse a0 (-2) hp _ hq3) ?_
        have h := Option.some.inj h; subst h
        exact PW.ret dX10_crowd_26 trivial rfl
      · rw [if_neg c11] at h
        refine PW.iload_n 2 dX10_crowd_14 rfl rfl ?_
        refine PW.bipush (x := 6) dX10_crowd_15 (by decide) ?_
        refine PW.icmp_le (tgt := 27) dX10_crowd_17 (by decide) (fun c17 => ?_) (fun c17 => ?_)
        · rw [if_pos c17] at h
          refine PW.aload_n 0 dX10_crowd_27 rfl rfl ?_
          obtain ⟨x4, hx4, h⟩ := bind_some h
          refine PW.getR cls_X10 (j := 0) (by decide) dX10_crowd_28 wd_325 hx4 ?_
          obtain ⟨x5, hx5, h⟩ := bind_some h
          refine PW.getR cls_X8 (j := 2) (by decide) dX10_crowd_31 wd_202 hx5 ?_
          refine PW.iload_n 1 dX10_crowd_34 rfl rfl ?_
          obtain ⟨x6, hx6, h⟩ := bind_some h
          refine PW.iald dX10_crowd_35 hx6 ?_
          refine PW.istore_n (l' := [(3, .int x6), (0, .ref (ga K a0)), (1, .int a1), (2, .int a2)]) dX10_crowd_36 rfl (by decide) rfl ?_
          refine PW.aload_n 1 dX10_crowd_37 rfl rfl ?_
          obtain ⟨x7, hx7, h⟩ := bind_some h
          refine PW.getR cls_X10 (j := 0) (by decide) dX10_crowd_38 wd_325 hx7 ?_
          obtain ⟨x8, hx8, h⟩ := bind_some h
          refine PW.getR cls_X8 (j := 2) (by decide) dX10_crowd_41 wd_202 hx8 ?_
          refine PW.iload_n 2 dX10_crowd_44 rfl rfl ?_
          refine PW.iload_n 3 dX10_crowd_45 rfl rfl ?_
          obtain ⟨hp9, hhp9, h⟩ := bind_some h
          refine PW.iast dX10_crowd_46 hhp9 ?_
          refine PW.iload_n 0 dX10_crowd_47 rfl rfl ?_
          have h := Option.some.inj h; subst h
          exact PW.ret dX10_crowd_48 trivial rfl
        · rw [if_neg c17] at h
          refine PW.aload_n 0 dX10_crowd_20 rfl rfl ?_
          refine PW.bipush (x := (-2)) dX10_crowd_21 (by decide) ?_
          obtain ⟨q10, hq10, h⟩ := bind_some h
          obtain ⟨hkq10, hcq10, hq10⟩ := vC_spec hq10
          refine PW.callVi (As := [.int (-2)]) (rest := []) (k := a0) cal_X10_refuse dX10_crowd_23 wd_398 rfl rfl (rmLe (by omega)) (Nat.le_of_ble_eq_true rfl) rm_0 hkq10 hcq10 (mf_X10_refuse a0 (-2) hp _ hq10) ?_
          have h := Option.some.inj h; subst h
          exact PW.ret dX10_crowd_26 trivial rfl
-- X10_tens
def f_X10_tens (a0 : Nat) (a1 : Int32) (hp : PH) : Option (Int64 × PH) := (if a1 < 0 then (vC hp a0 9 (f_X10_refuse a0 (-2) hp)).bind fun q1 => (some ((Int32.toInt64 q1.1), q1.2)) else (if a1 ≤ 60 then (gR hp a0 9 7).bind fun x2 => (vC hp x2 8 (f_X9_countSets x2 hp)).bind fun q3 => (gR q3.2 a0 9 7).bind fun x4 => (vC q3.2 x4 8 (f_X9_setsOfTens x4 a1 q3.2)).bind fun q5 => (some (q5, q3.2)) else (vC hp a0 9 (f_X10_refuse a0 (-2) hp)).bind fun q6 => (some ((Int32.toInt64 q6.1), q6.2))))
set_option maxRecDepth 100000 in
set_option maxHeartbeats 4000000 in
theorem mf_X10_tens {K : GK} : ∀ (a0 : Nat) (a1 : Int32) (hp : PH) (r : (Int64 × PH)), f_X10_tens a0 a1 hp = some r → PM K (2) M_X10_tens [.ref (ga K a0), .int a1] hp (some (.long r.1)) r.2 := by
  intro a0 a1 hp r h
  unfold f_X10_tens at h
  refine PM.enter (l0 := [(0, .ref (ga K a0)), (1, .int a1)]) (by decide +kernel) rfl (Nat.le_of_ble_eq_true rfl) rfl ?_
  refine PW.iload_n 1 dX10_tens_0 rfl rfl ?_
  refine PW.if_lt (tgt := 10) dX10_tens_1 (by decide) (fun c1 => ?_) (fun c1 => ?_)
  · rw [if_pos c1] at h
    refine PW.aload_n 0 dX10_tens_10 rfl rfl ?_
    refine PW.bipush (x := (-2)) dX10_tens_11 (by decide) ?_
    obtain ⟨q1, hq1, h⟩ := bind_some h
    obtain ⟨hkq1, hcq1, hq1⟩ := vC_spec hq1
    refine PW.callVi (As := [.int (-2)]) (rest := []) (k := a0) cal_X10_refuse dX10_tens_13 wd_398 rfl rfl (rmLe (by omega)) (Nat.le_of_ble_eq_true rfl) rm_0 hkq1 hcq1 (mf_X10_refuse a0 (-2) hp _ hq1) ?_
    refine PW.i2l dX10_tens_16 ?_
    have h := Option.some.inj h; subst h
    exact PW.ret dX10_tens_17 trivial rfl
  · rw [if_neg c1] at h
    refine PW.iload_n 1 dX10_tens_4 rfl rfl ?_
    refine PW.bipush (x := 60) dX10_tens_5 (by decide) ?_
    refine PW.icmp_le (tgt := 18) dX10_tens_7 (by decide) (fun c7 => ?_) (fun c7 => ?_)
    · rw [if_pos c7] at h
      refine PW.aload_n 0 dX10_tens_18 rfl rfl ?_
      obtain ⟨x2, hx2, h⟩ := bind_some h
      refine PW.getR cls_X10 (j := 7) (by decide) dX10_tens_19 wd_332 hx2 ?_
      obtain ⟨q3, hq3, h⟩ := bind_some h
      obtain ⟨hkq3, hcq3, hq3⟩ := vC_spec hq3
      refine PW.callVi (As := []) (rest := []) (k := x2) cal_X9_countSets dX10_tens_22 wd_753 rfl rfl (rmLe (by omega)) (Nat.le_of_ble_eq_true rfl) rm_0 hkq3 hcq3 (mf_X9_countSets x2 hp _ hq3) ?_
      refine PW.pop dX10_tens_25 rfl ?_
      refine PW.aload_n 0 dX10_tens_26 rfl rfl ?_
      obtain ⟨x4, hx4, h⟩ := bind_some h
      refine PW.getR cls_X10 (j := 7) (by decide) dX10_tens_27 wd_332 hx4 ?_
      refine PW.iload_n 1 dX10_tens_30 rfl rfl ?_
      obtain ⟨q5, hq5, h⟩ := bind_some h
      obtain ⟨hkq5, hcq5, hq5⟩ := vC_spec hq5
      refine PW.callVl (As := [.int a1]) (rest := []) (k := x4) cal_X9_setsOfTens dX10_tens_31 wd_761 rfl rfl (rmLe (by omega)) (Nat.le_of_ble_eq_true rfl) rm_0 hkq5 hcq5 (mf_X9_setsOfTens x4 a1 q3.2 _ hq5) ?_
      have h := Option.some.inj h; subst h
      exact PW.ret dX10_tens_34 trivial rfl
    · rw [if_neg c7] at h
      refine PW.aload_n 0 dX10_tens_10 rfl rfl ?_
      refine PW.bipush (x := (-2)) dX10_tens_11 (by decide) ?_
      obtain ⟨q6, hq6, h⟩ := bind_some h
      obtain ⟨hkq6, hcq6, hq6⟩ := vC_spec hq6
      refine PW.callVi (As := [.int (-2)]) (rest := []) (k := a0) cal_X10_refuse dX10_tens_13 wd_398 rfl rfl (rmLe (by omega)) (Nat.le_of_ble_eq_true rfl) rm_0 hkq6 hcq6 (mf_X10_refuse a0 (-2) hp _ hq6) ?_
      refine PW.i2l dX10_tens_16 ?_
      have h := Option.some.inj h; subst h
      exact PW.ret dX10_tens_17 trivial rfl
-- X10_spare
def f_X10_spare_L10 : Nat → Nat → Int32 → Int32 → PH → Option (Int32 × PH)
  | 0, _, _, _, _ => none
  | n + 1, a0, a1, a2, hp => (if a2 < 1 then (some (a1, hp)) else (gR hp a0 9 7).bind fun x3 => (vC hp x3 8 (f_X9_setsOfTens x3 a2 hp)).bind fun q4 => (if (lg_cmp q4 0) ≤ 0 then ((f_X10_spare_L10 n) a0 a1 (a2 + (-1)) hp) else (some ((a1 - a2), hp))))
def f_X10_spare (a0 : Nat) (hp : PH) : Option (Int32 × PH) := (gR hp a0 9 7).bind fun x1 => (vC hp x1 8 (f_X9_countSets x1 hp)).bind fun q2 => (f_X10_spare_L10 NN a0 q2.1 q2.1 q2.2)
set_option maxRecDepth 100000 in
set_option maxHeartbeats 4000000 in
theorem mf_X10_spare_L10 {K : GK} : ∀ (n : Nat) (a0 : Nat) (a1 : Int32) (a2 : Int32) (hp : PH) (r : (Int32 × PH)), f_X10_spare_L10 n a0 a1 a2 hp = some r → PW K (rmD (2)) 0 0 M_X10_spare 10 [(0, .ref (ga K a0)), (1, .int a1), (2, .int a2)] [] hp (some (.int r.1)) r.2 := by
  intro n
  induction n with
  | zero =>
    intro a0 a1 a2 hp r h
    rw [f_X10_spare_L10] at h
    cases h
  | succ n ih =>
    intro a0 a1 a2 hp r h
    rw [f_X10_spare_L10] at h
    refine PW.iload_n 2 dX10_spare_10 rfl rfl ?_
    refine PW.iconst (x := 1) dX10_spare_11 (by decide) ?_
    refine PW.icmp_lt (tgt := 38) dX10_spare_12 (by decide) (fun c12 => ?_) (fun c12 => ?_)
    · rw [if_pos c12] at h
      refine PW.iload_n 1 dX10_spare_38 rfl rfl ?_
      have h := Option.some.inj h; subst h
      exact PW.ret dX10_spare_39 trivial rfl
    · rw [if_neg c12] at h
      refine PW.aload_n 0 dX10_spare_15 rfl rfl ?_
      obtain ⟨x3, hx3, h⟩ := bind_some h
      refine PW.getR cls_X10 (j := 7) (by decide) dX10_spare_16 wd_332 hx3 ?_
      refine PW.iload_n 2 dX10_spare_19 rfl rfl ?_
      obtain ⟨q4, hq4, h⟩ := bind_some h
      obtain ⟨hkq4, hcq4, hq4⟩ := vC_spec hq4
      refine PW.callVl (As := [.int a2]) (rest := []) (k := x3) cal_X9_setsOfTens dX10_spare_20 wd_761 rfl rfl (rmLe (by omega)) (Nat.le_of_ble_eq_true rfl) rm_0 hkq4 hcq4 (mf_X9_setsOfTens x3 a2 hp _ hq4) ?_
      refine PW.lconst (x := 0) dX10_spare_23 (by decide) ?_
      refine PW.lcmp dX10_spare_24 ?_
      refine PW.if_le (tgt := 32) dX10_spare_25 (by decide) (fun c25 => ?_) (fun c25 => ?_)
      · rw [if_pos c25] at h
        refine PW.iinc 2 (l' := [(2, .int (a2 + (-1))), (0, .ref (ga K a0)), (1, .int a1)]) dX10_spare_32 rfl (x := a2) (y := (a2 + (-1))) rfl (by decide) rfl ?_
        refine PW.goto (tgt := 10) dX10_spare_35 (by decide) ?_
        exact PW.sub (l' := [(0, .ref (ga K a0)), (1, .int a1), (2, .int (a2 + (-1)))]) [1, 2, 0] rfl (ih a0 a1 (a2 + (-1)) hp _ h)
      · rw [if_neg c25] at h
        refine PW.iload_n 1 dX10_spare_28 rfl rfl ?_
        refine PW.iload_n 2 dX10_spare_29 rfl rfl ?_
        refine PW.isub dX10_spare_30 ?_
        have h := Option.some.inj h; subst h
        exact PW.ret dX10_spare_31 trivial rfl
set_option maxRecDepth 100000 in
set_option maxHeartbeats 4000000 in
theorem mf_X10_spare {K : GK} : ∀ (a0 : Nat) (hp : PH) (r : (Int32 × PH)), f_X10_spare a0 hp = some r → PM K (2) M_X10_spare [.ref (ga K a0)] hp (some (.int r.1)) r.2 := by
  intro a0 hp r h
  unfold f_X10_spare at h
  refine PM.enter (l0 := [(0, .ref (ga K a0))]) (by decide +kernel) rfl (Nat.le_of_ble_eq_true rfl) rfl ?_
  refine PW.aload_n 0 dX10_spare_0 rfl rfl ?_
  obtain ⟨x1, hx1, h⟩ := bind_some h
  refine PW.getR cls_X10 (j := 7) (by decide) dX10_spare_1 wd_332 hx1 ?_
  obtain ⟨q2, hq2, h⟩ := bind_some h
  obtain ⟨hkq2, hcq2, hq2⟩ := vC_spec hq2
  refine PW.callVi (As := []) (rest := []) (k := x1) cal_X9_countSets dX10_spare_4 wd_753 rfl rfl (rmLe (by omega)) (Nat.le_of_ble_eq_true rfl) rm_0 hkq2 hcq2 (mf_X9_countSets x1 hp _ hq2) ?_
  refine PW.istore_n (l' := [(1, .int q2.1), (0, .ref (ga K a0))]) dX10_spare_7 rfl (by decide) rfl ?_
  refine PW.iload_n 0 dX10_spare_8 rfl rfl ?_
  refine PW.istore_n (l' := [(2, .int q2.1), (1, .int q2.1), (0, .ref (ga K a0))]) dX10_spare_9 rfl (by decide) rfl ?_
  exact PW.sub (l' := [(0, .ref (ga K a0)), (1, .int q2.1), (2, .int q2.1)]) [2, 1, 0] rfl (mf_X10_spare_L10 NN a0 q2.1 q2.1 q2.2 _ h)
-- X10_passing
def f_X10_passing (a0 : Nat) (a1 : Int32) (a2 : Int32) (a3 : Int32) (hp : PH) : Option (Int32 × PH) := (if a1 < 1 then (vC hp a0 9 (f_X10_refuse a0 (-2) hp)).bind fun q1 => (some (q1.1, q1.2)) else (if 32 ≤ a1 then (vC hp a0 9 (f_X10_refuse a0 (-2) hp)).bind fun q2 => (some (q2.1, q2.2)) else (if a2 < 0 then (vC hp a0 9 (f_X10_refuse a0 (-2) hp)).bind fun q3 => (some (q3.1, q3.2)) else (if a2 ≤ 99 then (gR hp a0 9 0).bind fun x4 => (gR hp x4 7 3).bind fun x5 => (gI hp x5 4 0).bind fun x6 => (if 10 ≤ x6 then (vC hp a0 9 (f_X10_refuse a0 (-4) hp)).bind fun q7 => (some (q7.1, q7.2)) else (gR hp a0 9 0).bind fun x8 => (gR hp x8 7 3).bind fun x9 => (vC hp x9 4 (f_X5_append x9 a1 a2 a3 hp)).bind fun q10 => (some (q10.1, q10.2))) else (vC hp a0 9 (f_X10_refuse a0 (-2) hp)).bind fun q11 => (some (q11.1, q11.2))))))
set_option maxRecDepth 100000 in
set_option maxHeartbeats 4000000 in
theorem mf_X10_passing {K : GK} : ∀ (a0 : Nat) (a1 : Int32) (a2 : Int32) (a3 : Int32) (hp : PH) (r : (Int32 × PH)), f_X10_passing a0 a1 a2 a3 hp = some r → PM K (2) M_X10_passing [.ref (ga K a0), .int a1, .int a2, .int a3] hp (some (.int r.1)) r.2 := by
  intro a0 a1 a2 a3 hp r h
  unfold f_X10_passing at h
  refine PM.enter (l0 := [(0, .ref (ga K a0)), (1, .int a1), (2, .int a2), (3, .int a3)]) (by decide +kernel) rfl (Nat.le_of_ble_eq_true rfl) rfl ?_
  refine PW.iload_n 1 dX10_passing_0 rfl rfl ?_
  refine PW.iconst (x := 1) dX10_passing_1 (by decide) ?_
  refine PW.icmp_lt (tgt := 21) dX10_passing_2 (by decide) (fun c2 => ?_) (fun c2 => ?_)
  · rw [if_pos c2] at h
    refine PW.aload_n 0 dX10_passing_21 rfl rfl ?_
    refine PW.bipush (x := (-2)) dX10_passing_22 (by decide) ?_
    obtain ⟨q1, hq1, h⟩ := bind_some h
    obtain ⟨hkq1, hcq1, hq1⟩ := vC_spec hq1
    refine PW.callVi (As := [.int (-2)]) (rest := []) (k := a0) cal_X10_refuse dX10_passing_24 wd_398 rfl rfl (rmLe (by omega)) (Nat.le_of_ble_eq_true rfl) rm_0 hkq1 hcq1 (mf_X10_refuse a0 (-2) hp _ hq1) ?_
    have h := Option.some.inj h; subst h
    exact PW.ret dX10_passing_27 trivial rfl
  · rw [if_neg c2] at h
    refine PW.iload_n 1 dX10_passing_5 rfl rfl ?_
    refine PW.bipush (x := 32) dX10_passing_6 (by decide) ?_
    refine PW.icmp_ge (tgt := 21) dX10_passing_8 (by decide) (fun c8 => ?_) (fun c8 => ?_)
    · rw [if_pos c8] at h
      refine PW.aload_n 0 dX10_passing_21 rfl rfl ?_
      refine PW.bipush (x := (-2)) dX10_passing_22 (by decide) ?_
      obtain ⟨q2, hq2, h⟩ := bind_some h
      obtain ⟨hkq2, hcq2, hq2⟩ := vC_spec hq2
      refine PW.callVi (As := [.int (-2)]) (rest := []) (k := a0) cal_X10_refuse dX10_passing_24 wd_398 rfl rfl (rmLe (by omega)) (Nat.le_of_ble_eq_true rfl) rm_0 hkq2 hcq2 (mf_X10_refuse a0 (-2) hp _ hq2) ?_
      have h := Option.some.inj h; subst h
      exact PW.ret dX10_passing_27 trivial rfl
    · rw [if_neg c8] at h
      refine PW.iload_n 2 dX10_passing_11 rfl rfl ?_
      refine PW.if_lt (tgt := 21) dX10_passing_12 (by decide) (fun c12 => ?_) (fun c12 => ?_)
      · rw [if_pos c12] at h
        refine PW.aload_n 0 dX10_passing_21 rfl rfl ?_
        refine PW.bipush (x := (-2)) dX10_passing_22 (by decide) ?_
        obtain ⟨q3, hq3, h⟩ := bind_some h
        obtain ⟨hkq3, hcq3, hq3⟩ := vC_spec hq3
        refine PW.callVi (As := [.int (-2)]) (rest := []) (k := a0) cal_X10_refuse dX10_passing_24 wd_398 rfl rfl (rmLe (by omega)) (Nat.le_of_ble_eq_true rfl) rm_0 hkq3 hcq3 (mf_X10_refuse a0 (-2) hp _ hq3) ?_
        have h := Option.some.inj h; subst h
        exact PW.ret dX10_passing_27 trivial rfl
      · rw [if_neg c12] at h
        refine PW.iload_n 2 dX10_passing_15 rfl rfl ?_
        refine PW.bipush (x := 99) dX10_passing_16 (by decide) ?_
        refine PW.icmp_le (tgt := 28) dX10_passing_18 (by decide) (fun c18 => ?_) (fun c18 => ?_)
        · rw [if_pos c18] at h
          refine PW.aload_n 0 dX10_passing_28 rfl rfl ?_
          obtain ⟨x4, hx4, h⟩ := bind_some h
          refine PW.getR cls_X10 (j := 0) (by decide) dX10_passing_29 wd_325 hx4 ?_
          obtain ⟨x5, hx5, h⟩ := bind_some h
          refine PW.getR cls_X8 (j := 3) (by decide) dX10_passing_32 wd_204 hx5 ?_
          obtain ⟨x6, hx6, h⟩ := bind_some h
          refine PW.getI cls_X5 (j := 0) (by decide) dX10_passing_35 wd_168 hx6 ?_
          refine PW.bipush (x := 10) dX10_passing_38 (by decide) ?_
          refine PW.icmp_ge (tgt := 59) dX10_passing_40 (by decide) (fun c40 => ?_) (fun c40 => ?_)
          · rw [if_pos c40] at h
            refine PW.aload_n 0 dX10_passing_59 rfl rfl ?_
            refine PW.bipush (x := (-4)) dX10_passing_60 (by decide) ?_
            obtain ⟨q7, hq7, h⟩ := bind_some h
            obtain ⟨hkq7, hcq7, hq7⟩ := vC_spec hq7
            refine PW.callVi (As := [.int (-4)]) (rest := []) (k := a0) cal_X10_refuse dX10_passing_62 wd_398 rfl rfl (rmLe (by omega)) (Nat.le_of_ble_eq_true rfl) rm_0 hkq7 hcq7 (mf_X10_refuse a0 (-4) hp _ hq7) ?_
            have h := Option.some.inj h; subst h
            exact PW.ret dX10_passing_65 trivial rfl
          · rw [if_neg c40] at h
            refine PW.aload_n 0 dX10_passing_43 rfl rfl ?_
            obtain ⟨x8, hx8, h⟩ := bind_some h
            refine PW.getR cls_X10 (j := 0) (by decide) dX10_passing_44 wd_325 hx8 ?_
            obtain ⟨x9, hx9, h⟩ := bind_some h
            refine PW.getR cls_X8 (j := 3) (by decide) dX10_passing_47 wd_204 hx9 ?_
            refine PW.iload_n 1 dX10_passing_50 rfl rfl ?_
            refine PW.iload_n 2 dX10_passing_51 rfl rfl ?_
            refine PW.iload_n 3 dX10_passing_52 rfl rfl ?_
            obtain ⟨q10, hq10, h⟩ := bind_some h
            obtain ⟨hkq10, hcq10, hq10⟩ := vC_spec hq10
            refine PW.callVi (As := [.int a1, .int a2, .int a3]) (rest := []) (k := x9) cal_X5_append dX10_passing_53 wd_773 rfl rfl (rmLe (by omega)) (Nat.le_of_ble_eq_true rfl) rm_0 hkq10 hcq10 (mf_X5_append x9 a1 a2 a3 hp _ hq10) ?_
            refine PW.goto (tgt := 65) dX10_passing_56 (by decide) ?_
            have h := Option.some.inj h; subst h
            exact PW.ret dX10_passing_65 trivial rfl
        · rw [if_neg c18] at h
          refine PW.aload_n 0 dX10_passing_21 rfl rfl ?_
          refine PW.bipush (x := (-2)) dX10_passing_22 (by decide) ?_
          obtain ⟨q11, hq11, h⟩ := bind_some h
          obtain ⟨hkq11, hcq11, hq11⟩ := vC_spec hq11
          refine PW.callVi (As := [.int (-2)]) (rest := []) (k := a0) cal_X10_refuse dX10_passing_24 wd_398 rfl rfl (rmLe (by omega)) (Nat.le_of_ble_eq_true rfl) rm_0 hkq11 hcq11 (mf_X10_refuse a0 (-2) hp _ hq11) ?_
          have h := Option.some.inj h; subst h
          exact PW.ret dX10_passing_27 trivial rfl
-- X10_forget
def f_X10_forget (a0 : Nat) (hp : PH) : Option (Int32 × PH) := (gR hp a0 9 0).bind fun x1 => (gR hp x1 7 3).bind fun x2 => (vC hp x2 4 (f_X5_drop x2 hp)).bind fun q3 => (some (q3.1, q3.2))
set_option maxRecDepth 100000 in
set_option maxHeartbeats 4000000 in
theorem mf_X10_forget {K : GK} : ∀ (a0 : Nat) (hp : PH) (r : (Int32 × PH)), f_X10_forget a0 hp = some r → PM K (1) M_X10_forget [.ref (ga K a0)] hp (some (.int r.1)) r.2 := by
  intro a0 hp r h
  unfold f_X10_forget at h
  refine PM.enter (l0 := [(0, .ref (ga K a0))]) (by decide +kernel) rfl (Nat.le_of_ble_eq_true rfl) rfl ?_
  refine PW.aload_n 0 dX10_forget_0 rfl rfl ?_
  obtain ⟨x1, hx1, h⟩ := bind_some h
  refine PW.getR cls_X10 (j := 0) (by decide) dX10_forget_1 wd_325 hx1 ?_
  obtain ⟨x2, hx2, h⟩ := bind_some h
  refine PW.getR cls_X8 (j := 3) (by decide) dX10_forget_4 wd_204 hx2 ?_
  obtain ⟨q3, hq3, h⟩ := bind_some h
  obtain ⟨hkq3, hcq3, hq3⟩ := vC_spec hq3
  refine PW.callVi (As := []) (rest := []) (k := x2) cal_X5_drop dX10_forget_7 wd_781 rfl rfl (rmLe (by omega)) (Nat.le_of_ble_eq_true rfl) rm_0 hkq3 hcq3 (mf_X5_drop x2 hp _ hq3) ?_
  have h := Option.some.inj h; subst h
  exact PW.ret dX10_forget_10 trivial rfl
-- X10_liars
def f_X10_liars (a0 : Nat) (a1 : Int32) (hp : PH) : Option (Int32 × PH) := (if a1 < 0 then (vC hp a0 9 (f_X10_refuse a0 (-2) hp)).bind fun q1 => (some (q1.1, q1.2)) else (if a1 ≤ 3 then (gR hp a0 9 0).bind fun x2 => (gR hp x2 7 3).bind fun x3 => (vC hp x3 4 (f_X5_allow x3 a1 hp)).bind fun q4 => (some (q4.1, q4.2)) else (vC hp a0 9 (f_X10_refuse a0 (-2) hp)).bind fun q5 => (some (q5.1, q5.2))))
set_option maxRecDepth 100000 in
set_option maxHeartbeats 4000000 in
theorem mf_X10_liars {K : GK} : ∀ (a0 : Nat) (a1 : Int32) (hp : PH) (r : (Int32 × PH)), f_X10_liars a0 a1 hp = some r → PM K (2) M_X10_liars [.ref (ga K a0), .int a1] hp (some (.int r.1)) r.2 := by
  intro a0 a1 hp r h
  unfold f_X10_liars at h
  refine PM.enter (l0 := [(0, .ref (ga K a0)), (1, .int a1)]) (by decide +kernel) rfl (Nat.le_of_ble_eq_true rfl) rfl ?_
  refine PW.iload_n 1 dX10_liars_0 rfl rfl ?_
  refine PW.if_lt (tgt := 9) dX10_liars_1 (by decide) (fun c1 => ?_) (fun c1 => ?_)
  · rw [if_pos c1] at h
    refine PW.aload_n 0 dX10_liars_9 rfl rfl ?_
    refine PW.bipush (x := (-2)) dX10_liars_10 (by decide) ?_
    obtain ⟨q1, hq1, h⟩ := bind_some h
    obtain ⟨hkq1, hcq1, hq1⟩ := vC_spec hq1
    refine PW.callVi (As := [.int (-2)]) (rest := []) (k := a0) cal_X10_refuse dX10_liars_12 wd_398 rfl rfl (rmLe (by omega)) (Nat.le_of_ble_eq_true rfl) rm_0 hkq1 hcq1 (mf_X10_refuse a0 (-2) hp _ hq1) ?_
    refine PW.goto (tgt := 29) dX10_liars_15 (by decide) ?_
    have h := Option.some.inj h; subst h
    exact PW.ret dX10_liars_29 trivial rfl
  · rw [if_neg c1] at h
    refine PW.iload_n 1 dX10_liars_4 rfl rfl ?_
    refine PW.iconst (x := 3) dX10_liars_5 (by decide) ?_
    refine PW.icmp_le (tgt := 18) dX10_liars_6 (by decide) (fun c6 => ?_) (fun c6 => ?_)
    · rw [if_pos c6] at h
      refine PW.aload_n 0 dX10_liars_18 rfl rfl ?_
      obtain ⟨x2, hx2, h⟩ := bind_some h
      refine PW.getR cls_X10 (j := 0) (by decide) dX10_liars_19 wd_325 hx2 ?_
      obtain ⟨x3, hx3, h⟩ := bind_some h
      refine PW.getR cls_X8 (j := 3) (by decide) dX10_liars_22 wd_204 hx3 ?_
      refine PW.iload_n 1 dX10_liars_25 rfl rfl ?_
      obtain ⟨q4, hq4, h⟩ := bind_some h
      obtain ⟨hkq4, hcq4, hq4⟩ := vC_spec hq4
      refine PW.callVi (As := [.int a1]) (rest := []) (k := x3) cal_X5_allow dX10_liars_26 wd_789 rfl rfl (rmLe (by omega)) (Nat.le_of_ble_eq_true rfl) rm_0 hkq4 hcq4 (mf_X5_allow x3 a1 hp _ hq4) ?_
      have h := Option.some.inj h; subst h
      exact PW.ret dX10_liars_29 trivial rfl
    · rw [if_neg c6] at h
      refine PW.aload_n 0 dX10_liars_9 rfl rfl ?_
      refine PW.bipush (x := (-2)) dX10_liars_10 (by decide) ?_
      obtain ⟨q5, hq5, h⟩ := bind_some h
      obtain ⟨hkq5, hcq5, hq5⟩ := vC_spec hq5
      refine PW.callVi (As := [.int (-2)]) (rest := []) (k := a0) cal_X10_refuse dX10_liars_12 wd_398 rfl rfl (rmLe (by omega)) (Nat.le_of_ble_eq_true rfl) rm_0 hkq5 hcq5 (mf_X10_refuse a0 (-2) hp _ hq5) ?_
      refine PW.goto (tgt := 29) dX10_liars_15 (by decide) ?_
      have h := Option.some.inj h; subst h
      exact PW.ret dX10_liars_29 trivial rfl
-- X10_fits
def f_X10_fits (a0 : Nat) (a1 : Int32) (hp : PH) : Option (Int32 × PH) := (if (-1) ≤ a1 then (gR hp a0 9 8).bind fun x1 => (vC hp x1 1 (f_X2_countAll x1 hp)).bind fun q2 => (if a1 = (-1) then (some (q2.1, q2.2)) else (if q2.1 ≤ a1 then (some ((-5), q2.2)) else (gR q2.2 a0 9 8).bind fun x3 => (vC q2.2 x3 1 (f_X2_pick x3 a1 q2.2)).bind fun q4 => (some (q4.1, q4.2)))) else (vC hp a0 9 (f_X10_refuseAs a0 (-2) (-10) hp)).bind fun q5 => (some (q5.1, q5.2)))
set_option maxRecDepth 100000 in
set_option maxHeartbeats 4000000 in
theorem mf_X10_fits {K : GK} : ∀ (a0 : Nat) (a1 : Int32) (hp : PH) (r : (Int32 × PH)), f_X10_fits a0 a1 hp = some r → PM K (31) M_X10_fits [.ref (ga K a0), .int a1] hp (some (.int r.1)) r.2 := by
  intro a0 a1 hp r h
  unfold f_X10_fits at h
  refine PM.enter (l0 := [(0, .ref (ga K a0)), (1, .int a1)]) (by decide +kernel) rfl (Nat.le_of_ble_eq_true rfl) rfl ?_
  refine PW.iload_n 1 dX10_fits_0 rfl rfl ?_
  refine PW.iconst (x := (-1)) dX10_fits_1 (by decide) ?_
  refine PW.icmp_ge (tgt := 14) dX10_fits_2 (by decide) (fun c2 => ?_) (fun c2 => ?_)
  · rw [if_pos c2] at h
    refine PW.aload_n 0 dX10_fits_14 rfl rfl ?_
    obtain ⟨x1, hx1, h⟩ := bind_some h
    refine PW.getR cls_X10 (j := 8) (by decide) dX10_fits_15 wd_333 hx1 ?_
    obtain ⟨q2, hq2, h⟩ := bind_some h
    obtain ⟨hkq2, hcq2, hq2⟩ := vC_spec hq2
    refine PW.callVi (As := []) (rest := []) (k := x1) cal_X2_countAll dX10_fits_18 wd_797 rfl rfl (rmLe (by omega)) (Nat.le_of_ble_eq_true rfl) rm_0 hkq2 hcq2 (mf_X2_countAll x1 hp _ hq2) ?_
    refine PW.istore_n (l' := [(2, .int q2.1), (0, .ref (ga K a0)), (1, .int a1)]) dX10_fits_21 rfl (by decide) rfl ?_
    refine PW.iload_n 2 dX10_fits_22 rfl rfl ?_
    refine PW.iconst (x := (-1)) dX10_fits_23 (by decide) ?_
    refine PW.icmp_ne (tgt := 29) dX10_fits_24 (by decide) (fun c24 => ?_) (fun c24 => ?_)
    · rw [if_neg c24] at h
      refine PW.iload_n 2 dX10_fits_29 rfl rfl ?_
      refine PW.iload_n 0 dX10_fits_30 rfl rfl ?_
      refine PW.icmp_ge (tgt := 45) dX10_fits_31 (by decide) (fun c31 => ?_) (fun c31 => ?_)
      · rw [if_pos c31] at h
        refine PW.bipush (x := (-5)) dX10_fits_45 (by decide) ?_
        have h := Option.some.inj h; subst h
        exact PW.ret dX10_fits_47 trivial rfl
      · rw [if_neg c31] at h
        refine PW.aload_n 1 dX10_fits_34 rfl rfl ?_
        obtain ⟨x3, hx3, h⟩ := bind_some h
        refine PW.getR cls_X10 (j := 8) (by decide) dX10_fits_35 wd_333 hx3 ?_
        refine PW.iload_n 2 dX10_fits_38 rfl rfl ?_
        obtain ⟨q4, hq4, h⟩ := bind_some h
        obtain ⟨hkq4, hcq4, hq4⟩ := vC_spec hq4
        refine PW.callVi (As := [.int a1]) (rest := []) (k := x3) cal_X2_pick dX10_fits_39 wd_825 rfl rfl (rmLe (by omega)) (Nat.le_of_ble_eq_true rfl) rm_0 hkq4 hcq4 (mf_X2_pick x3 a1 q2.2 _ hq4) ?_
        refine PW.goto (tgt := 47) dX10_fits_42 (by decide) ?_
        have h := Option.some.inj h; subst h
        exact PW.ret dX10_fits_47 trivial rfl
    · rw [if_pos c24] at h
      refine PW.iload_n 0 dX10_fits_27 rfl rfl ?_
      have h := Option.some.inj h; subst h
      exact PW.ret dX10_fits_28 trivial rfl
  · rw [if_neg c2] at h
    refine PW.aload_n 0 dX10_fits_5 rfl rfl ?_
    refine PW.bipush (x := (-2)) dX10_fits_6 (by decide) ?_
    refine PW.bipush (x := (-10)) dX10_fits_8 (by decide) ?_
    obtain ⟨q5, hq5, h⟩ := bind_some h
    obtain ⟨hkq5, hcq5, hq5⟩ := vC_spec hq5
    refine PW.callVi (As := [.int (-2), .int (-10)]) (rest := []) (k := a0) cal_X10_refuseAs dX10_fits_10 wd_402 rfl rfl (rmLe (by omega)) (Nat.le_of_ble_eq_true rfl) rm_0 hkq5 hcq5 (mf_X10_refuseAs a0 (-2) (-10) hp _ hq5) ?_
    have h := Option.some.inj h; subst h
    exact PW.ret dX10_fits_13 trivial rfl
-- X10_setFraction
def f_X10_setFraction_J39 (a0 : Nat) (a1 : Int32) (a2 : Int32) (a3 : Int32) (hp : PH) : Option PH := (if a3 ≤ 0 then some hp else (dvI a1 a3).bind fun x1 => (pI hp a0 9 9 x1).bind fun hp2 => (dvI a2 a3).bind fun x3 => (pI hp2 a0 9 10 x3).bind fun hp4 => some hp4)
def f_X10_setFraction_L8 : Nat → Nat → Int32 → Int32 → Int32 → Int32 → Int32 → PH → Option PH
  | 0, _, _, _, _, _, _, _ => none
  | n + 1, a0, a1, a2, a3, a4, a5, hp => (if 64 ≤ a5 then (f_X10_setFraction_J39 a0 a1 a2 a3 hp) else (if a4 = 0 then (f_X10_setFraction_J39 a0 a1 a2 a3 hp) else (rmI a3 a4).bind fun x5 => ((f_X10_setFraction_L8 n) a0 a1 a2 a4 x5 (a5 + 1) hp)))
def f_X10_setFraction (a0 : Nat) (a1 : Int32) (a2 : Int32) (hp : PH) : Option PH := (f_X10_setFraction_L8 NN a0 a1 a2 a2 a1 0 hp)
set_option maxRecDepth 100000 in
set_option maxHeartbeats 4000000 in
theorem mf_X10_setFraction_J39 {K : GK} : ∀ (a0 : Nat) (a1 : Int32) (a2 : Int32) (a3 : Int32) (hp : PH) (r : PH), f_X10_setFraction_J39 a0 a1 a2 a3 hp = some r → PW K (rmD (0)) 0 0 M_X10_setFraction 39 [(0, .ref (ga K a0)), (1, .int a1), (2, .int a2), (3, .int a3)] [] hp none r := by
  intro a0 a1 a2 a3 hp r h
  unfold f_X10_setFraction_J39 at h
  refine PW.iload_n 3 dX10_setFraction_39 rfl rfl ?_
  refine PW.if_le (tgt := 57) dX10_setFraction_40 (by decide) (fun c40 => ?_) (fun c40 => ?_)
  · rw [if_pos c40] at h
    have h := Option.some.inj h
    subst h
    exact PW.ret dX10_setFraction_57 trivial rfl
  · rw [if_neg c40] at h
    refine PW.aload_n 0 dX10_setFraction_43 rfl rfl ?_
    refine PW.iload_n 1 dX10_setFraction_44 rfl rfl ?_
    refine PW.iload_n 3 dX10_setFraction_45 rfl rfl ?_
    obtain ⟨x1, hx1, h⟩ := bind_some h
    refine PW.idivQ dX10_setFraction_46 hx1 ?_
    obtain ⟨hp2, hhp2, h⟩ := bind_some h
    refine PW.putI cls_X10 clw_X10 (j := 9) (by decide) dX10_setFraction_47 wd_334 rfl rfl hhp2 ?_
    refine PW.aload_n 0 dX10_setFraction_50 rfl rfl ?_
    refine PW.iload_n 2 dX10_setFraction_51 rfl rfl ?_
    refine PW.iload_n 3 dX10_setFraction_52 rfl rfl ?_
    obtain ⟨x3, hx3, h⟩ := bind_some h
    refine PW.idivQ dX10_setFraction_53 hx3 ?_
    obtain ⟨hp4, hhp4, h⟩ := bind_some h
    refine PW.putI cls_X10 clw_X10 (j := 10) (by decide) dX10_setFraction_54 wd_335 rfl rfl hhp4 ?_
    have h := Option.some.inj h
    subst h
    exact PW.ret dX10_setFraction_57 trivial rfl
set_option maxRecDepth 100000 in
set_option maxHeartbeats 4000000 in
theorem mf_X10_setFraction_L8 {K : GK} : ∀ (n : Nat) (a0 : Nat) (a1 : Int32) (a2 : Int32) (a3 : Int32) (a4 : Int32) (a5 : Int32) (hp : PH) (r : PH), f_X10_setFraction_L8 n a0 a1 a2 a3 a4 a5 hp = some r → PW K (rmD (0)) 0 0 M_X10_setFraction 8 [(0, .ref (ga K a0)), (1, .int a1), (2, .int a2), (3, .int a3), (4, .int a4), (5, .int a5)] [] hp none r := by
  intro n
  induction n with
  | zero =>
    intro a0 a1 a2 a3 a4 a5 hp r h
    rw [f_X10_setFraction_L8] at h
    cases h
  | succ n ih =>
    intro a0 a1 a2 a3 a4 a5 hp r h
    rw [f_X10_setFraction_L8] at h
    refine PW.iload 5 dX10_setFraction_8 rfl ?_
    refine PW.bipush (x := 64) dX10_setFraction_10 (by decide) ?_
    refine PW.icmp_ge (tgt := 39) dX10_setFraction_12 (by decide) (fun c12 => ?_) (fun c12 => ?_)
    · rw [if_pos c12] at h
      exact PW.sub (l' := [(0, .ref (ga K a0)), (1, .int a1), (2, .int a2), (3, .int a3)]) [0, 1, 2, 3] rfl (mf_X10_setFraction_J39 a0 a1 a2 a3 hp _ h)
    · rw [if_neg c12] at h
      refine PW.iload 4 dX10_setFraction_15 rfl ?_
      refine PW.if_eq (tgt := 39) dX10_setFraction_17 (by decide) (fun c17 => ?_) (fun c17 => ?_)
      · rw [if_pos c17] at h
        exact PW.sub (l' := [(0, .ref (ga K a0)), (1, .int a1), (2, .int a2), (3, .int a3)]) [0, 1, 2, 3] rfl (mf_X10_setFraction_J39 a0 a1 a2 a3 hp _ h)
      · rw [if_neg c17] at h
        refine PW.iload_n 3 dX10_setFraction_20 rfl rfl ?_
        refine PW.iload 4 dX10_setFraction_21 rfl ?_
        obtain ⟨x5, hx5, h⟩ := bind_some h
        refine PW.iremQ dX10_setFraction_23 hx5 ?_
        refine PW.istore (l' := [(6, .int x5), (0, .ref (ga K a0)), (1, .int a1), (2, .int a2), (3, .int a3), (4, .int a4), (5, .int a5)]) dX10_setFraction_24 (by decide) rfl ?_
        refine PW.iload 5 dX10_setFraction_26 rfl ?_
        refine PW.istore_n (l' := [(3, .int a4), (6, .int x5), (0, .ref (ga K a0)), (1, .int a1), (2, .int a2), (4, .int a4), (5, .int a5)]) dX10_setFraction_28 rfl (by decide) rfl ?_
        refine PW.iload 1 dX10_setFraction_29 rfl ?_
        refine PW.istore (l' := [(4, .int x5), (3, .int a4), (6, .int x5), (0, .ref (ga K a0)), (1, .int a1), (2, .int a2), (5, .int a5)]) dX10_setFraction_31 (by decide) rfl ?_
        refine PW.iinc 6 (l' := [(5, .int (a5 + 1)), (4, .int x5), (3, .int a4), (6, .int x5), (0, .ref (ga K a0)), (1, .int a1), (2, .int a2)]) dX10_setFraction_33 rfl (x := a5) (y := (a5 + 1)) rfl (by decide) rfl ?_
        refine PW.goto (tgt := 8) dX10_setFraction_36 (by decide) ?_
        exact PW.sub (l' := [(0, .ref (ga K a0)), (1, .int a1), (2, .int a2), (3, .int a4), (4, .int x5), (5, .int (a5 + 1))]) [4, 5, 6, 2, 1, 0] rfl (ih a0 a1 a2 a4 x5 (a5 + 1) hp _ h)
set_option maxRecDepth 100000 in
set_option maxHeartbeats 4000000 in
theorem mf_X10_setFraction {K : GK} : ∀ (a0 : Nat) (a1 : Int32) (a2 : Int32) (hp : PH) (r : PH), f_X10_setFraction a0 a1 a2 hp = some r → PM K (0) M_X10_setFraction [.ref (ga K a0), .int a1, .int a2] hp none r := by
  intro a0 a1 a2 hp r h
  unfold f_X10_setFraction at h
  refine PM.enter (l0 := [(0, .ref (ga K a0)), (1, .int a1), (2, .int a2)]) (by decide +kernel) rfl (Nat.le_of_ble_eq_true rfl) rfl ?_
  refine PW.iload_n 2 dX10_setFraction_0 rfl rfl ?_
  refine PW.istore_n (l' := [(3, .int a2), (0, .ref (ga K a0)), (1, .int a1), (2, .int a2)]) dX10_setFraction_1 rfl (by decide) rfl ?_
  refine PW.iload_n 2 dX10_setFraction_2 rfl rfl ?_
  refine PW.istore (l' := [(4, .int a1), (3, .int a2), (0, .ref (ga K a0)), (1, .int a1), (2, .int a2)]) dX10_setFraction_3 (by decide) rfl ?_
  refine PW.iconst (x := 0) dX10_setFraction_5 (by decide) ?_
  refine PW.istore (l' := [(5, .int 0), (4, .int a1), (3, .int a2), (0, .ref (ga K a0)), (1, .int a1), (2, .int a2)]) dX10_setFraction_6 (by decide) rfl ?_
  exact PW.sub (l' := [(0, .ref (ga K a0)), (1, .int a1), (2, .int a2), (3, .int a2), (4, .int a1), (5, .int 0)]) [3, 4, 5, 2, 1, 0] rfl (mf_X10_setFraction_L8 NN a0 a1 a2 a2 a1 0 hp _ h)
-- X10_untold
def f_X10_untold (a0 : Nat) (a1 : Int32) (a2 : Int32) (hp : PH) : Option (Int32 × PH) := (if a1 < 0 then (vC hp a0 9 (f_X10_refuse a0 (-2) hp)).bind fun q1 => (some (q1.1, q1.2)) else (if 5 ≤ a1 then (vC hp a0 9 (f_X10_refuse a0 (-2) hp)).bind fun q2 => (some (q2.1, q2.2)) else (if a2 < 0 then (vC hp a0 9 (f_X10_refuse a0 (-2) hp)).bind fun q3 => (some (q3.1, q3.2)) else (if a2 ≤ 9 then (gR hp a0 9 8).bind fun x4 => (vC hp x4 1 (f_X2_countAll x4 hp)).bind fun q5 => (if q5.1 = 0 then (vC q5.2 a0 9 (f_X10_refuse a0 (-3) q5.2)).bind fun q9 => (some (q9.1, q9.2)) else (gR q5.2 a0 9 8).bind fun x6 => (vC q5.2 x6 1 (f_X2_countWith x6 a1 a2 q5.2)).bind fun q7 => (vC q7.2 a0 9 (f_X10_setFraction a0 q7.1 q5.1 q7.2)).bind fun q8 => (some (1, q8))) else (vC hp a0 9 (f_X10_refuse a0 (-2) hp)).bind fun q10 => (some (q10.1, q10.2))))))
set_option maxRecDepth 100000 in
set_option maxHeartbeats 4000000 in
theorem mf_X10_untold {K : GK} : ∀ (a0 : Nat) (a1 : Int32) (a2 : Int32) (hp : PH) (r : (Int32 × PH)), f_X10_untold a0 a1 a2 hp = some r → PM K (30) M_X10_untold [.ref (ga K a0), .int a1, .int a2] hp (some (.int r.1)) r.2 := by
  intro a0 a1 a2 hp r h
  unfold f_X10_untold at h
  refine PM.enter (l0 := [(0, .ref (ga K a0)), (1, .int a1), (2, .int a2)]) (by decide +kernel) rfl (Nat.le_of_ble_eq_true rfl) rfl ?_
  refine PW.iload_n 1 dX10_untold_0 rfl rfl ?_
  refine PW.if_lt (tgt := 19) dX10_untold_1 (by decide) (fun c1 => ?_) (fun c1 => ?_)
  · rw [if_pos c1] at h
    refine PW.aload_n 0 dX10_untold_19 rfl rfl ?_
    refine PW.bipush (x := (-2)) dX10_untold_20 (by decide) ?_
    obtain ⟨q1, hq1, h⟩ := bind_some h
    obtain ⟨hkq1, hcq1, hq1⟩ := vC_spec hq1
    refine PW.callVi (As := [.int (-2)]) (rest := []) (k := a0) cal_X10_refuse dX10_untold_22 wd_398 rfl rfl (rmLe (by omega)) (Nat.le_of_ble_eq_true rfl) rm_0 hkq1 hcq1 (mf_X10_refuse a0 (-2) hp _ hq1) ?_
    have h := Option.some.inj h; subst h
    exact PW.ret dX10_untold_25 trivial rfl
  · rw [if_neg c1] at h
    refine PW.iload_n 1 dX10_untold_4 rfl rfl ?_
    refine PW.iconst (x := 5) dX10_untold_5 (by decide) ?_
    refine PW.icmp_ge (tgt := 19) dX10_untold_6 (by decide) (fun c6 => ?_) (fun c6 => ?_)
    · rw [if_pos c6] at h
      refine PW.aload_n 0 dX10_untold_19 rfl rfl ?_
      refine PW.bipush (x := (-2)) dX10_untold_20 (by decide) ?_
      obtain ⟨q2, hq2, h⟩ := bind_some h
      obtain ⟨hkq2, hcq2, hq2⟩ := vC_spec hq2
      refine PW.callVi (As := [.int (-2)]) (rest := []) (k := a0) cal_X10_refuse dX10_untold_22 wd_398 rfl rfl (rmLe (by omega)) (Nat.le_of_ble_eq_true rfl) rm_0 hkq2 hcq2 (mf_X10_refuse a0 (-2) hp _ hq2) ?_
      have h := Option.some.inj h; subst h
      exact PW.ret dX10_untold_25 trivial rfl
    · rw [if_neg c6] at h
      refine PW.iload_n 2 dX10_untold_9 rfl rfl ?_
      refine PW.if_lt (tgt := 19) dX10_untold_10 (by decide) (fun c10 => ?_) (fun c10 => ?_)
      · rw [if_pos c10] at h
        refine PW.aload_n 0 dX10_untold_19 rfl rfl ?_
        refine PW.bipush (x := (-2)) dX10_untold_20 (by decide) ?_
        obtain ⟨q3, hq3, h⟩ := bind_some h
        obtain ⟨hkq3, hcq3, hq3⟩ := vC_spec hq3
        refine PW.callVi (As := [.int (-2)]) (rest := []) (k := a0) cal_X10_refuse dX10_untold_22 wd_398 rfl rfl (rmLe (by omega)) (Nat.le_of_ble_eq_true rfl) rm_0 hkq3 hcq3 (mf_X10_refuse a0 (-2) hp _ hq3) ?_
        have h := Option.some.inj h; subst h
        exact PW.ret dX10_untold_25 trivial rfl
      · rw [if_neg c10] at h
        refine PW.iload_n 2 dX10_untold_13 rfl rfl ?_
        refine PW.bipush (x := 9) dX10_untold_14 (by decide) ?_
        refine PW.icmp_le (tgt := 26) dX10_untold_16 (by decide) (fun c16 => ?_) (fun c16 => ?_)
        · rw [if_pos c16] at h
          refine PW.aload_n 0 dX10_untold_26 rfl rfl ?_
          obtain ⟨x4, hx4, h⟩ := bind_some h
          refine PW.getR cls_X10 (j := 8) (by decide) dX10_untold_27 wd_333 hx4 ?_
          obtain ⟨q5, hq5, h⟩ := bind_some h
          obtain ⟨hkq5, hcq5, hq5⟩ := vC_spec hq5
          refine PW.callVi (As := []) (rest := []) (k := x4) cal_X2_countAll dX10_untold_30 wd_797 rfl rfl (rmLe (by omega)) (Nat.le_of_ble_eq_true rfl) rm_0 hkq5 hcq5 (mf_X2_countAll x4 hp _ hq5) ?_
          refine PW.istore_n (l' := [(3, .int q5.1), (0, .ref (ga K a0)), (1, .int a1), (2, .int a2)]) dX10_untold_33 rfl (by decide) rfl ?_
          refine PW.iload_n 0 dX10_untold_34 rfl rfl ?_
          refine PW.if_ne (tgt := 45) dX10_untold_35 (by decide) (fun c35 => ?_) (fun c35 => ?_)
          · rw [if_neg c35] at h
            refine PW.aload_n 1 dX10_untold_45 rfl rfl ?_
            refine PW.aload_n 1 dX10_untold_46 rfl rfl ?_
            obtain ⟨x6, hx6, h⟩ := bind_some h
            refine PW.getR cls_X10 (j := 8) (by decide) dX10_untold_47 wd_333 hx6 ?_
            refine PW.iload_n 2 dX10_untold_50 rfl rfl ?_
            refine PW.iload_n 3 dX10_untold_51 rfl rfl ?_
            obtain ⟨q7, hq7, h⟩ := bind_some h
            obtain ⟨hkq7, hcq7, hq7⟩ := vC_spec hq7
            refine PW.callVi (As := [.int a1, .int a2]) (rest := [.ref (ga K a0)]) (k := x6) cal_X2_countWith dX10_untold_52 wd_833 rfl rfl (rmLe (by omega)) (Nat.le_of_ble_eq_true rfl) rm_0 hkq7 hcq7 (mf_X2_countWith x6 a1 a2 q5.2 _ hq7) ?_
            refine PW.iload_n 0 dX10_untold_55 rfl rfl ?_
            obtain ⟨q8, hq8, h⟩ := bind_some h
            obtain ⟨hkq8, hcq8, hq8⟩ := vC_spec hq8
            refine PW.callVv (As := [.int q7.1, .int q5.1]) (rest := []) (k := a0) cal_X10_setFraction dX10_untold_56 wd_837 rfl rfl (rmLe (by omega)) (Nat.le_of_ble_eq_true rfl) rm_0 hkq8 hcq8 (mf_X10_setFraction a0 q7.1 q5.1 q7.2 _ hq8) ?_
            refine PW.iconst (x := 1) dX10_untold_59 (by decide) ?_
            have h := Option.some.inj h; subst h
            exact PW.ret dX10_untold_60 trivial rfl
          · rw [if_pos c35] at h
            refine PW.aload_n 1 dX10_untold_38 rfl rfl ?_
            refine PW.bipush (x := (-3)) dX10_untold_39 (by decide) ?_
            obtain ⟨q9, hq9, h⟩ := bind_some h
            obtain ⟨hkq9, hcq9, hq9⟩ := vC_spec hq9
            refine PW.callVi (As := [.int (-3)]) (rest := []) (k := a0) cal_X10_refuse dX10_untold_41 wd_398 rfl rfl (rmLe (by omega)) (Nat.le_of_ble_eq_true rfl) rm_0 hkq9 hcq9 (mf_X10_refuse a0 (-3) q5.2 _ hq9) ?_
            have h := Option.some.inj h; subst h
            exact PW.ret dX10_untold_44 trivial rfl
        · rw [if_neg c16] at h
          refine PW.aload_n 0 dX10_untold_19 rfl rfl ?_
          refine PW.bipush (x := (-2)) dX10_untold_20 (by decide) ?_
          obtain ⟨q10, hq10, h⟩ := bind_some h
          obtain ⟨hkq10, hcq10, hq10⟩ := vC_spec hq10
          refine PW.callVi (As := [.int (-2)]) (rest := []) (k := a0) cal_X10_refuse dX10_untold_22 wd_398 rfl rfl (rmLe (by omega)) (Nat.le_of_ble_eq_true rfl) rm_0 hkq10 hcq10 (mf_X10_refuse a0 (-2) hp _ hq10) ?_
          have h := Option.some.inj h; subst h
          exact PW.ret dX10_untold_25 trivial rfl
