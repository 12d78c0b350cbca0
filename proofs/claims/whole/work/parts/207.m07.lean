-- X10_pair
def f_X10_pair_J65 (a0 : Nat) (a1 : Int32) (a2 : Int32) (s0 : Nat) (hp : PH) : Option (Int32 × PH) := (f_X7_tie s0 a1 a2 hp).bind fun q10 => (if q10.1 = 0 then (vC q10.2 a0 9 (f_X10_refuse a0 (-3) q10.2)).bind fun q11 => (some (q11.1, q11.2)) else (some (1, q10.2)))
def f_X10_pair (a0 : Nat) (a1 : Int32) (a2 : Int32) (a3 : Int32) (hp : PH) : Option (Int32 × PH) := (gR hp a0 9 0).bind fun x1 => (gR hp x1 7 0).bind fun x2 => (vC hp x2 6 (f_X7_hasPerson x2 a1 hp)).bind fun q3 => (if q3 = 0 then (vC hp a0 9 (f_X10_refuse a0 (-2) hp)).bind fun q4 => (some (q4.1, q4.2)) else (vC hp x2 6 (f_X7_hasPerson x2 a2 hp)).bind fun q5 => (if q5 = 0 then (vC hp a0 9 (f_X10_refuse a0 (-2) hp)).bind fun q6 => (some (q6.1, q6.2)) else (if a1 = a2 then (vC hp a0 9 (f_X10_refuse a0 (-2) hp)).bind fun q7 => (some (q7.1, q7.2)) else (if a3 < 0 then (vC hp a0 9 (f_X10_refuse a0 (-2) hp)).bind fun q8 => (some (q8.1, q8.2)) else (if a3 ≤ 1 then (if a3 = 0 then (gR hp x2 6 5).bind fun x12 => (f_X10_pair_J65 a0 a1 a2 x12 hp) else (gR hp x2 6 6).bind fun x9 => (f_X10_pair_J65 a0 a1 a2 x9 hp)) else (vC hp a0 9 (f_X10_refuse a0 (-2) hp)).bind fun q13 => (some (q13.1, q13.2)))))))
set_option maxRecDepth 100000 in
set_option maxHeartbeats 4000000 in
theorem mf_X10_pair_J65 {K : GK} : ∀ (a0 : Nat) (a1 : Int32) (a2 : Int32) (s0 : Nat) (hp : PH) (r : (Int32 × PH)), f_X10_pair_J65 a0 a1 a2 s0 hp = some r → PW K (rmD (2)) 0 0 M_X10_pair 65 [(0, .ref (ga K a0)), (1, .int a1), (2, .int a2)] [.ref (ga K s0)] hp (some (.int r.1)) r.2 := by
  intro a0 a1 a2 s0 hp r h
  unfold f_X10_pair_J65 at h
  refine PW.iload_n 1 dX10_pair_65 rfl rfl ?_
  refine PW.iload_n 2 dX10_pair_66 rfl rfl ?_
  obtain ⟨q10, hq10, h⟩ := bind_some h
  refine PW.callSi (As := [.ref (ga K s0), .int a1, .int a2]) (rest := []) cal_X7_tie dX10_pair_67 wd_456 rfl rfl (rmLe (by omega)) (Nat.le_of_ble_eq_true rfl) rm_0 (mf_X7_tie s0 a1 a2 hp _ hq10) ?_
  refine PW.if_eq (tgt := 77) dX10_pair_70 (by decide) (fun c70 => ?_) (fun c70 => ?_)
  · rw [if_pos c70] at h
    refine PW.aload_n 0 dX10_pair_77 rfl rfl ?_
    refine PW.bipush (x := (-3)) dX10_pair_78 (by decide) ?_
    obtain ⟨q11, hq11, h⟩ := bind_some h
    obtain ⟨hkq11, hcq11, hq11⟩ := vC_spec hq11
    refine PW.callVi (As := [.int (-3)]) (rest := []) (k := a0) cal_X10_refuse dX10_pair_80 wd_398 rfl rfl (rmLe (by omega)) (Nat.le_of_ble_eq_true rfl) rm_0 hkq11 hcq11 (mf_X10_refuse a0 (-3) q10.2 _ hq11) ?_
    have h := Option.some.inj h; subst h
    exact PW.ret dX10_pair_83 trivial rfl
  · rw [if_neg c70] at h
    refine PW.iconst (x := 1) dX10_pair_73 (by decide) ?_
    refine PW.goto (tgt := 83) dX10_pair_74 (by decide) ?_
    have h := Option.some.inj h; subst h
    exact PW.ret dX10_pair_83 trivial rfl
set_option maxRecDepth 100000 in
set_option maxHeartbeats 4000000 in
theorem mf_X10_pair {K : GK} : ∀ (a0 : Nat) (a1 : Int32) (a2 : Int32) (a3 : Int32) (hp : PH) (r : (Int32 × PH)), f_X10_pair a0 a1 a2 a3 hp = some r → PM K (2) M_X10_pair [.ref (ga K a0), .int a1, .int a2, .int a3] hp (some (.int r.1)) r.2 := by
  intro a0 a1 a2 a3 hp r h
  unfold f_X10_pair at h
  refine PM.enter (l0 := [(0, .ref (ga K a0)), (1, .int a1), (2, .int a2), (3, .int a3)]) (by decide +kernel) rfl (Nat.le_of_ble_eq_true rfl) rfl ?_
  refine PW.aload_n 0 dX10_pair_0 rfl rfl ?_
  obtain ⟨x1, hx1, h⟩ := bind_some h
  refine PW.getR cls_X10 (j := 0) (by decide) dX10_pair_1 wd_325 hx1 ?_
  obtain ⟨x2, hx2, h⟩ := bind_some h
  refine PW.getR cls_X8 (j := 0) (by decide) dX10_pair_4 wd_198 hx2 ?_
  refine PW.astore (l' := [(4, .ref (ga K x2)), (0, .ref (ga K a0)), (1, .int a1), (2, .int a2), (3, .int a3)]) dX10_pair_7 (by decide) rfl ?_
  refine PW.aload 0 dX10_pair_9 rfl ?_
  refine PW.iload_n 2 dX10_pair_11 rfl rfl ?_
  obtain ⟨q3, hq3, h⟩ := bind_some h
  obtain ⟨hkq3, hcq3, hq3⟩ := vC_spec hq3
  refine PW.callVi (As := [.int a1]) (rest := []) (k := x2) cal_X7_hasPerson dX10_pair_12 wd_452 rfl rfl (rmLe (by omega)) (Nat.le_of_ble_eq_true rfl) rm_0 hkq3 hcq3 (mf_X7_hasPerson x2 a1 hp _ hq3) ?_
  refine PW.if_eq (tgt := 41) dX10_pair_15 (by decide) (fun c15 => ?_) (fun c15 => ?_)
  · rw [if_pos c15] at h
    refine PW.aload_n 1 dX10_pair_41 rfl rfl ?_
    refine PW.bipush (x := (-2)) dX10_pair_42 (by decide) ?_
    obtain ⟨q4, hq4, h⟩ := bind_some h
    obtain ⟨hkq4, hcq4, hq4⟩ := vC_spec hq4
    refine PW.callVi (As := [.int (-2)]) (rest := []) (k := a0) cal_X10_refuse dX10_pair_44 wd_398 rfl rfl (rmLe (by omega)) (Nat.le_of_ble_eq_true rfl) rm_0 hkq4 hcq4 (mf_X10_refuse a0 (-2) hp _ hq4) ?_
    have h := Option.some.inj h; subst h
    exact PW.ret dX10_pair_47 trivial rfl
  · rw [if_neg c15] at h
    refine PW.aload 0 dX10_pair_18 rfl ?_
    refine PW.iload_n 3 dX10_pair_20 rfl rfl ?_
    obtain ⟨q5, hq5, h⟩ := bind_some h
    obtain ⟨hkq5, hcq5, hq5⟩ := vC_spec hq5
    refine PW.callVi (As := [.int a2]) (rest := []) (k := x2) cal_X7_hasPerson dX10_pair_21 wd_452 rfl rfl (rmLe (by omega)) (Nat.le_of_ble_eq_true rfl) rm_0 hkq5 hcq5 (mf_X7_hasPerson x2 a2 hp _ hq5) ?_
    refine PW.if_eq (tgt := 41) dX10_pair_24 (by decide) (fun c24 => ?_) (fun c24 => ?_)
    · rw [if_pos c24] at h
      refine PW.aload_n 1 dX10_pair_41 rfl rfl ?_
      refine PW.bipush (x := (-2)) dX10_pair_42 (by decide) ?_
      obtain ⟨q6, hq6, h⟩ := bind_some h
      obtain ⟨hkq6, hcq6, hq6⟩ := vC_spec hq6
      refine PW.callVi (As := [.int (-2)]) (rest := []) (k := a0) cal_X10_refuse dX10_pair_44 wd_398 rfl rfl (rmLe (by omega)) (Nat.le_of_ble_eq_true rfl) rm_0 hkq6 hcq6 (mf_X10_refuse a0 (-2) hp _ hq6) ?_
      have h := Option.some.inj h; subst h
      exact PW.ret dX10_pair_47 trivial rfl
    · rw [if_neg c24] at h
      refine PW.iload_n 2 dX10_pair_27 rfl rfl ?_
      refine PW.iload_n 3 dX10_pair_28 rfl rfl ?_
      refine PW.icmp_eq (tgt := 41) dX10_pair_29 (by decide) (fun c29 => ?_) (fun c29 => ?_)
      · rw [if_pos c29] at h
        refine PW.aload_n 1 dX10_pair_41 rfl rfl ?_
        refine PW.bipush (x := (-2)) dX10_pair_42 (by decide) ?_
        obtain ⟨q7, hq7, h⟩ := bind_some h
        obtain ⟨hkq7, hcq7, hq7⟩ := vC_spec hq7
        refine PW.callVi (As := [.int (-2)]) (rest := []) (k := a0) cal_X10_refuse dX10_pair_44 wd_398 rfl rfl (rmLe (by omega)) (Nat.le_of_ble_eq_true rfl) rm_0 hkq7 hcq7 (mf_X10_refuse a0 (-2) hp _ hq7) ?_
        have h := Option.some.inj h; subst h
        exact PW.ret dX10_pair_47 trivial rfl
      · rw [if_neg c29] at h
        refine PW.iload_n 4 dX10_pair_32 rfl rfl ?_
        refine PW.if_lt (tgt := 41) dX10_pair_33 (by decide) (fun c33 => ?_) (fun c33 => ?_)
        · rw [if_pos c33] at h
          refine PW.aload_n 1 dX10_pair_41 rfl rfl ?_
          refine PW.bipush (x := (-2)) dX10_pair_42 (by decide) ?_
          obtain ⟨q8, hq8, h⟩ := bind_some h
          obtain ⟨hkq8, hcq8, hq8⟩ := vC_spec hq8
          refine PW.callVi (As := [.int (-2)]) (rest := []) (k := a0) cal_X10_refuse dX10_pair_44 wd_398 rfl rfl (rmLe (by omega)) (Nat.le_of_ble_eq_true rfl) rm_0 hkq8 hcq8 (mf_X10_refuse a0 (-2) hp _ hq8) ?_
          have h := Option.some.inj h; subst h
          exact PW.ret dX10_pair_47 trivial rfl
        · rw [if_neg c33] at h
          refine PW.iload_n 4 dX10_pair_36 rfl rfl ?_
          refine PW.iconst (x := 1) dX10_pair_37 (by decide) ?_
          refine PW.icmp_le (tgt := 48) dX10_pair_38 (by decide) (fun c38 => ?_) (fun c38 => ?_)
          · rw [if_pos c38] at h
            refine PW.iload_n 4 dX10_pair_48 rfl rfl ?_
            refine PW.if_ne (tgt := 60) dX10_pair_49 (by decide) (fun c49 => ?_) (fun c49 => ?_)
            · rw [if_neg c49] at h
              refine PW.aload 0 dX10_pair_60 rfl ?_
              obtain ⟨x9, hx9, h⟩ := bind_some h
              refine PW.getR cls_X7 (j := 6) (by decide) dX10_pair_62 wd_116 hx9 ?_
              exact PW.sub (l' := [(0, .ref (ga K a0)), (1, .int a1), (2, .int a2)]) [1, 2, 3] rfl (mf_X10_pair_J65 a0 a1 a2 x9 hp _ h)
            · rw [if_pos c49] at h
              refine PW.aload 0 dX10_pair_52 rfl ?_
              obtain ⟨x12, hx12, h⟩ := bind_some h
              refine PW.getR cls_X7 (j := 5) (by decide) dX10_pair_54 wd_111 hx12 ?_
              refine PW.goto (tgt := 65) dX10_pair_57 (by decide) ?_
              exact PW.sub (l' := [(0, .ref (ga K a0)), (1, .int a1), (2, .int a2)]) [1, 2, 3] rfl (mf_X10_pair_J65 a0 a1 a2 x12 hp _ h)
          · rw [if_neg c38] at h
            refine PW.aload_n 1 dX10_pair_41 rfl rfl ?_
            refine PW.bipush (x := (-2)) dX10_pair_42 (by decide) ?_
            obtain ⟨q13, hq13, h⟩ := bind_some h
            obtain ⟨hkq13, hcq13, hq13⟩ := vC_spec hq13
            refine PW.callVi (As := [.int (-2)]) (rest := []) (k := a0) cal_X10_refuse dX10_pair_44 wd_398 rfl rfl (rmLe (by omega)) (Nat.le_of_ble_eq_true rfl) rm_0 hkq13 hcq13 (mf_X10_refuse a0 (-2) hp _ hq13) ?_
            have h := Option.some.inj h; subst h
            exact PW.ret dX10_pair_47 trivial rfl
-- X10_age
def f_X10_age (a0 : Nat) (a1 : Int32) (a2 : Int32) (hp : PH) : Option (Int32 × PH) := (gR hp a0 9 0).bind fun x1 => (gR hp x1 7 0).bind fun x2 => (vC hp x2 6 (f_X7_hasPerson x2 a1 hp)).bind fun q3 => (if q3 = 0 then (vC hp a0 9 (f_X10_refuse a0 (-2) hp)).bind fun q4 => (some (q4.1, q4.2)) else (if (f_X1_isDay a2) = 0 then (vC hp a0 9 (f_X10_refuse a0 (-2) hp)).bind fun q10 => (some (q10.1, q10.2)) else (gR hp a0 9 0).bind fun x6 => (gR hp x6 7 0).bind fun x7 => (f_X1_yearOf a2).bind fun q8 => (vC hp x7 6 (f_X7_yearsOf x7 a1 a2 q8 hp)).bind fun q9 => (some (q9, hp))))
set_option maxRecDepth 100000 in
set_option maxHeartbeats 4000000 in
theorem mf_X10_age {K : GK} : ∀ (a0 : Nat) (a1 : Int32) (a2 : Int32) (hp : PH) (r : (Int32 × PH)), f_X10_age a0 a1 a2 hp = some r → PM K (3) M_X10_age [.ref (ga K a0), .int a1, .int a2] hp (some (.int r.1)) r.2 := by
  intro a0 a1 a2 hp r h
  unfold f_X10_age at h
  refine PM.enter (l0 := [(0, .ref (ga K a0)), (1, .int a1), (2, .int a2)]) (by decide +kernel) rfl (Nat.le_of_ble_eq_true rfl) rfl ?_
  refine PW.aload_n 0 dX10_age_0 rfl rfl ?_
  obtain ⟨x1, hx1, h⟩ := bind_some h
  refine PW.getR cls_X10 (j := 0) (by decide) dX10_age_1 wd_325 hx1 ?_
  obtain ⟨x2, hx2, h⟩ := bind_some h
  refine PW.getR cls_X8 (j := 0) (by decide) dX10_age_4 wd_198 hx2 ?_
  refine PW.iload_n 1 dX10_age_7 rfl rfl ?_
  obtain ⟨q3, hq3, h⟩ := bind_some h
  obtain ⟨hkq3, hcq3, hq3⟩ := vC_spec hq3
  refine PW.callVi (As := [.int a1]) (rest := []) (k := x2) cal_X7_hasPerson dX10_age_8 wd_452 rfl rfl (rmLe (by omega)) (Nat.le_of_ble_eq_true rfl) rm_0 hkq3 hcq3 (mf_X7_hasPerson x2 a1 hp _ hq3) ?_
  refine PW.if_eq (tgt := 21) dX10_age_11 (by decide) (fun c11 => ?_) (fun c11 => ?_)
  · rw [if_pos c11] at h
    refine PW.aload_n 0 dX10_age_21 rfl rfl ?_
    refine PW.bipush (x := (-2)) dX10_age_22 (by decide) ?_
    obtain ⟨q4, hq4, h⟩ := bind_some h
    obtain ⟨hkq4, hcq4, hq4⟩ := vC_spec hq4
    refine PW.callVi (As := [.int (-2)]) (rest := []) (k := a0) cal_X10_refuse dX10_age_24 wd_398 rfl rfl (rmLe (by omega)) (Nat.le_of_ble_eq_true rfl) rm_0 hkq4 hcq4 (mf_X10_refuse a0 (-2) hp _ hq4) ?_
    have h := Option.some.inj h; subst h
    exact PW.ret dX10_age_27 trivial rfl
  · rw [if_neg c11] at h
    refine PW.iload_n 2 dX10_age_14 rfl rfl ?_
    refine PW.callSi (As := [.int a2]) (rest := []) cal_X1_isDay dX10_age_15 wd_410 rfl rfl (rmLe (by omega)) (Nat.le_of_ble_eq_true rfl) rm_0 (mf_X1_isDay a2 _ rfl) ?_
    refine PW.if_ne (tgt := 28) dX10_age_18 (by decide) (fun c18 => ?_) (fun c18 => ?_)
    · rw [if_neg c18] at h
      refine PW.aload_n 0 dX10_age_28 rfl rfl ?_
      obtain ⟨x6, hx6, h⟩ := bind_some h
      refine PW.getR cls_X10 (j := 0) (by decide) dX10_age_29 wd_325 hx6 ?_
      obtain ⟨x7, hx7, h⟩ := bind_some h
      refine PW.getR cls_X8 (j := 0) (by decide) dX10_age_32 wd_198 hx7 ?_
      refine PW.iload_n 1 dX10_age_35 rfl rfl ?_
      refine PW.iload_n 2 dX10_age_36 rfl rfl ?_
      refine PW.iload_n 2 dX10_age_37 rfl rfl ?_
      obtain ⟨q8, hq8, h⟩ := bind_some h
      refine PW.callSi (As := [.int a2]) (rest := [.int a2, .int a1, .ref (ga K x7)]) cal_X1_yearOf dX10_age_38 wd_414 rfl rfl (rmLe (by omega)) (Nat.le_of_ble_eq_true rfl) rm_0 (mf_X1_yearOf a2 _ hq8) ?_
      obtain ⟨q9, hq9, h⟩ := bind_some h
      obtain ⟨hkq9, hcq9, hq9⟩ := vC_spec hq9
      refine PW.callVi (As := [.int a1, .int a2, .int q8]) (rest := []) (k := x7) cal_X7_yearsOf dX10_age_41 wd_463 rfl rfl (rmLe (by omega)) (Nat.le_of_ble_eq_true rfl) rm_0 hkq9 hcq9 (mf_X7_yearsOf x7 a1 a2 q8 hp _ hq9) ?_
      have h := Option.some.inj h; subst h
      exact PW.ret dX10_age_44 trivial rfl
    · rw [if_pos c18] at h
      refine PW.aload_n 0 dX10_age_21 rfl rfl ?_
      refine PW.bipush (x := (-2)) dX10_age_22 (by decide) ?_
      obtain ⟨q10, hq10, h⟩ := bind_some h
      obtain ⟨hkq10, hcq10, hq10⟩ := vC_spec hq10
      refine PW.callVi (As := [.int (-2)]) (rest := []) (k := a0) cal_X10_refuse dX10_age_24 wd_398 rfl rfl (rmLe (by omega)) (Nat.le_of_ble_eq_true rfl) rm_0 hkq10 hcq10 (mf_X10_refuse a0 (-2) hp _ hq10) ?_
      have h := Option.some.inj h; subst h
      exact PW.ret dX10_age_27 trivial rfl
-- X10_isPlace
def f_X10_isPlace (a0 : Nat) (a1 : Int32) (a2 : Int32) (hp : PH) : Option Int32 := (gR hp a0 9 0).bind fun x1 => (gR hp x1 7 0).bind fun x2 => (vC hp x2 6 (f_X7_hasGate x2 a1 hp)).bind fun q3 => (if q3 = 0 then (some 0) else (if (f_X1_isDay a2) = 0 then (some 0) else (some 1)))
set_option maxRecDepth 100000 in
set_option maxHeartbeats 4000000 in
theorem mf_X10_isPlace {K : GK} : ∀ (a0 : Nat) (a1 : Int32) (a2 : Int32) (hp : PH) (r : Int32), f_X10_isPlace a0 a1 a2 hp = some r → PM K (1) M_X10_isPlace [.ref (ga K a0), .int a1, .int a2] hp (some (.int r)) hp := by
  intro a0 a1 a2 hp r h
  unfold f_X10_isPlace at h
  refine PM.enter (l0 := [(0, .ref (ga K a0)), (1, .int a1), (2, .int a2)]) (by decide +kernel) rfl (Nat.le_of_ble_eq_true rfl) rfl ?_
  refine PW.aload_n 0 dX10_isPlace_0 rfl rfl ?_
  obtain ⟨x1, hx1, h⟩ := bind_some h
  refine PW.getR cls_X10 (j := 0) (by decide) dX10_isPlace_1 wd_325 hx1 ?_
  obtain ⟨x2, hx2, h⟩ := bind_some h
  refine PW.getR cls_X8 (j := 0) (by decide) dX10_isPlace_4 wd_198 hx2 ?_
  refine PW.iload_n 1 dX10_isPlace_7 rfl rfl ?_
  obtain ⟨q3, hq3, h⟩ := bind_some h
  obtain ⟨hkq3, hcq3, hq3⟩ := vC_spec hq3
  refine PW.callVi (As := [.int a1]) (rest := []) (k := x2) cal_X7_hasGate dX10_isPlace_8 wd_488 rfl rfl (rmLe (by omega)) (Nat.le_of_ble_eq_true rfl) rm_0 hkq3 hcq3 (mf_X7_hasGate x2 a1 hp _ hq3) ?_
  refine PW.if_eq (tgt := 25) dX10_isPlace_11 (by decide) (fun c11 => ?_) (fun c11 => ?_)
  · rw [if_pos c11] at h
    refine PW.iconst (x := 0) dX10_isPlace_25 (by decide) ?_
    have h := Option.some.inj h; subst h
    exact PW.ret dX10_isPlace_26 (z_nar (Or.inl rfl)).1 rfl
  · rw [if_neg c11] at h
    refine PW.iload_n 2 dX10_isPlace_14 rfl rfl ?_
    refine PW.callSi (As := [.int a2]) (rest := []) cal_X1_isDay dX10_isPlace_15 wd_410 rfl rfl (rmLe (by omega)) (Nat.le_of_ble_eq_true rfl) rm_0 (mf_X1_isDay a2 _ rfl) ?_
    refine PW.if_eq (tgt := 25) dX10_isPlace_18 (by decide) (fun c18 => ?_) (fun c18 => ?_)
    · rw [if_pos c18] at h
      refine PW.iconst (x := 0) dX10_isPlace_25 (by decide) ?_
      have h := Option.some.inj h; subst h
      exact PW.ret dX10_isPlace_26 (z_nar (Or.inl rfl)).1 rfl
    · rw [if_neg c18] at h
      refine PW.iconst (x := 1) dX10_isPlace_21 (by decide) ?_
      refine PW.goto (tgt := 26) dX10_isPlace_22 (by decide) ?_
      have h := Option.some.inj h; subst h
      exact PW.ret dX10_isPlace_26 (z_nar (Or.inr rfl)).1 rfl
-- X10_why
def f_X10_why (a0 : Nat) (a1 : Int32) (a2 : Int32) (a3 : Int32) (hp : PH) : Option (Int32 × PH) := (gR hp a0 9 0).bind fun x1 => (gR hp x1 7 0).bind fun x2 => (vC hp x2 6 (f_X7_hasCompany x2 a1 hp)).bind fun q3 => (if q3 = 0 then (vC hp a0 9 (f_X10_refuseAs a0 (-2) (-10) hp)).bind fun q4 => (some (q4.1, q4.2)) else (vC hp a0 9 (f_X10_isPlace a0 a2 a3 hp)).bind fun q5 => (if q5 = 0 then (vC hp a0 9 (f_X10_refuseAs a0 (-2) (-10) hp)).bind fun q10 => (some (q10.1, q10.2)) else (gR hp a0 9 5).bind fun x6 => (vC hp x6 2 (f_X3_standOn x6 a3 hp)).bind fun q7 => (gR q7 a0 9 5).bind fun x8 => (vC q7 x8 2 (f_X3_reason x8 a1 a2 q7)).bind fun q9 => (some (q9, q7))))
set_option maxRecDepth 100000 in
set_option maxHeartbeats 4000000 in
theorem mf_X10_why {K : GK} : ∀ (a0 : Nat) (a1 : Int32) (a2 : Int32) (a3 : Int32) (hp : PH) (r : (Int32 × PH)), f_X10_why a0 a1 a2 a3 hp = some r → PM K (4) M_X10_why [.ref (ga K a0), .int a1, .int a2, .int a3] hp (some (.int r.1)) r.2 := by
  intro a0 a1 a2 a3 hp r h
  unfold f_X10_why at h
  refine PM.enter (l0 := [(0, .ref (ga K a0)), (1, .int a1), (2, .int a2), (3, .int a3)]) (by decide +kernel) rfl (Nat.le_of_ble_eq_true rfl) rfl ?_
  refine PW.aload_n 0 dX10_why_0 rfl rfl ?_
  obtain ⟨x1, hx1, h⟩ := bind_some h
  refine PW.getR cls_X10 (j := 0) (by decide) dX10_why_1 wd_325 hx1 ?_
  obtain ⟨x2, hx2, h⟩ := bind_some h
  refine PW.getR cls_X8 (j := 0) (by decide) dX10_why_4 wd_198 hx2 ?_
  refine PW.iload_n 1 dX10_why_7 rfl rfl ?_
  obtain ⟨q3, hq3, h⟩ := bind_some h
  obtain ⟨hkq3, hcq3, hq3⟩ := vC_spec hq3
  refine PW.callVi (As := [.int a1]) (rest := []) (k := x2) cal_X7_hasCompany dX10_why_8 wd_472 rfl rfl (rmLe (by omega)) (Nat.le_of_ble_eq_true rfl) rm_0 hkq3 hcq3 (mf_X7_hasCompany x2 a1 hp _ hq3) ?_
  refine PW.if_eq (tgt := 23) dX10_why_11 (by decide) (fun c11 => ?_) (fun c11 => ?_)
  · rw [if_pos c11] at h
    refine PW.aload_n 0 dX10_why_23 rfl rfl ?_
    refine PW.bipush (x := (-2)) dX10_why_24 (by decide) ?_
    refine PW.bipush (x := (-10)) dX10_why_26 (by decide) ?_
    obtain ⟨q4, hq4, h⟩ := bind_some h
    obtain ⟨hkq4, hcq4, hq4⟩ := vC_spec hq4
    refine PW.callVi (As := [.int (-2), .int (-10)]) (rest := []) (k := a0) cal_X10_refuseAs dX10_why_28 wd_402 rfl rfl (rmLe (by omega)) (Nat.le_of_ble_eq_true rfl) rm_0 hkq4 hcq4 (mf_X10_refuseAs a0 (-2) (-10) hp _ hq4) ?_
    have h := Option.some.inj h; subst h
    exact PW.ret dX10_why_31 trivial rfl
  · rw [if_neg c11] at h
    refine PW.aload_n 0 dX10_why_14 rfl rfl ?_
    refine PW.iload_n 2 dX10_why_15 rfl rfl ?_
    refine PW.iload_n 3 dX10_why_16 rfl rfl ?_
    obtain ⟨q5, hq5, h⟩ := bind_some h
    obtain ⟨hkq5, hcq5, hq5⟩ := vC_spec hq5
    refine PW.callVi (As := [.int a2, .int a3]) (rest := []) (k := a0) cal_X10_isPlace dX10_why_17 wd_484 rfl rfl (rmLe (by omega)) (Nat.le_of_ble_eq_true rfl) rm_0 hkq5 hcq5 (mf_X10_isPlace a0 a2 a3 hp _ hq5) ?_
    refine PW.if_ne (tgt := 32) dX10_why_20 (by decide) (fun c20 => ?_) (fun c20 => ?_)
    · rw [if_neg c20] at h
      refine PW.aload_n 0 dX10_why_32 rfl rfl ?_
      obtain ⟨x6, hx6, h⟩ := bind_some h
      refine PW.getR cls_X10 (j := 5) (by decide) dX10_why_33 wd_330 hx6 ?_
      refine PW.iload_n 3 dX10_why_36 rfl rfl ?_
      obtain ⟨q7, hq7, h⟩ := bind_some h
      obtain ⟨hkq7, hcq7, hq7⟩ := vC_spec hq7
      refine PW.callVv (As := [.int a3]) (rest := []) (k := x6) cal_X3_standOn dX10_why_37 wd_492 rfl rfl (rmLe (by omega)) (Nat.le_of_ble_eq_true rfl) rm_0 hkq7 hcq7 (mf_X3_standOn x6 a3 hp _ hq7) ?_
      refine PW.aload_n 0 dX10_why_40 rfl rfl ?_
      obtain ⟨x8, hx8, h⟩ := bind_some h
      refine PW.getR cls_X10 (j := 5) (by decide) dX10_why_41 wd_330 hx8 ?_
      refine PW.iload_n 1 dX10_why_44 rfl rfl ?_
      refine PW.iload_n 2 dX10_why_45 rfl rfl ?_
      obtain ⟨q9, hq9, h⟩ := bind_some h
      obtain ⟨hkq9, hcq9, hq9⟩ := vC_spec hq9
      refine PW.callVi (As := [.int a1, .int a2]) (rest := []) (k := x8) cal_X3_reason dX10_why_46 wd_498 rfl rfl (rmLe (by omega)) (Nat.le_of_ble_eq_true rfl) rm_0 hkq9 hcq9 (mf_X3_reason x8 a1 a2 q7 _ hq9) ?_
      have h := Option.some.inj h; subst h
      exact PW.ret dX10_why_49 trivial rfl
    · rw [if_pos c20] at h
      refine PW.aload_n 0 dX10_why_23 rfl rfl ?_
      refine PW.bipush (x := (-2)) dX10_why_24 (by decide) ?_
      refine PW.bipush (x := (-10)) dX10_why_26 (by decide) ?_
      obtain ⟨q10, hq10, h⟩ := bind_some h
      obtain ⟨hkq10, hcq10, hq10⟩ := vC_spec hq10
      refine PW.callVi (As := [.int (-2), .int (-10)]) (rest := []) (k := a0) cal_X10_refuseAs dX10_why_28 wd_402 rfl rfl (rmLe (by omega)) (Nat.le_of_ble_eq_true rfl) rm_0 hkq10 hcq10 (mf_X10_refuseAs a0 (-2) (-10) hp _ hq10) ?_
      have h := Option.some.inj h; subst h
      exact PW.ret dX10_why_31 trivial rfl
-- X10_type
def f_X10_type (a0 : Nat) (a1 : Int64) (a3 : Int32) (hp : PH) : Option (Int32 × PH) := (if a3 < 1 then (vC hp a0 9 (f_X10_refuse a0 (-2) hp)).bind fun q1 => (some (q1.1, q1.2)) else (if a3 ≤ 8 then (gR hp a0 9 0).bind fun x2 => (gR hp x2 7 1).bind fun x3 => (gI hp x3 0 0).bind fun x4 => (if 200 < (x4 + a3) then (vC hp a0 9 (f_X10_refuse a0 (-4) hp)).bind fun q5 => (some (q5.1, q5.2)) else (gR hp a0 9 0).bind fun x6 => (gR hp x6 7 1).bind fun x7 => (vC hp x7 0 (f_X0_append x7 a1 a3 hp)).bind fun q8 => (some (q8.1, q8.2))) else (vC hp a0 9 (f_X10_refuse a0 (-2) hp)).bind fun q9 => (some (q9.1, q9.2))))
set_option maxRecDepth 100000 in
set_option maxHeartbeats 4000000 in
theorem mf_X10_type {K : GK} : ∀ (a0 : Nat) (a1 : Int64) (a3 : Int32) (hp : PH) (r : (Int32 × PH)), f_X10_type a0 a1 a3 hp = some r → PM K (2) M_X10_type [.ref (ga K a0), .long a1, .int a3] hp (some (.int r.1)) r.2 := by
  intro a0 a1 a3 hp r h
  unfold f_X10_type at h
  refine PM.enter (l0 := [(0, .ref (ga K a0)), (1, .long a1), (3, .int a3)]) (by decide +kernel) rfl (Nat.le_of_ble_eq_true rfl) rfl ?_
  refine PW.iload_n 2 dX10_type_0 rfl rfl ?_
  refine PW.iconst (x := 1) dX10_type_1 (by decide) ?_
  refine PW.icmp_lt (tgt := 11) dX10_type_2 (by decide) (fun c2 => ?_) (fun c2 => ?_)
  · rw [if_pos c2] at h
    refine PW.aload_n 0 dX10_type_11 rfl rfl ?_
    refine PW.bipush (x := (-2)) dX10_type_12 (by decide) ?_
    obtain ⟨q1, hq1, h⟩ := bind_some h
    obtain ⟨hkq1, hcq1, hq1⟩ := vC_spec hq1
    refine PW.callVi (As := [.int (-2)]) (rest := []) (k := a0) cal_X10_refuse dX10_type_14 wd_398 rfl rfl (rmLe (by omega)) (Nat.le_of_ble_eq_true rfl) rm_0 hkq1 hcq1 (mf_X10_refuse a0 (-2) hp _ hq1) ?_
    have h := Option.some.inj h; subst h
    exact PW.ret dX10_type_17 trivial rfl
  · rw [if_neg c2] at h
    refine PW.iload_n 2 dX10_type_5 rfl rfl ?_
    refine PW.bipush (x := 8) dX10_type_6 (by decide) ?_
    refine PW.icmp_le (tgt := 18) dX10_type_8 (by decide) (fun c8 => ?_) (fun c8 => ?_)
    · rw [if_pos c8] at h
      refine PW.aload_n 0 dX10_type_18 rfl rfl ?_
      obtain ⟨x2, hx2, h⟩ := bind_some h
      refine PW.getR cls_X10 (j := 0) (by decide) dX10_type_19 wd_325 hx2 ?_
      obtain ⟨x3, hx3, h⟩ := bind_some h
      refine PW.getR cls_X8 (j := 1) (by decide) dX10_type_22 wd_200 hx3 ?_
      obtain ⟨x4, hx4, h⟩ := bind_some h
      refine PW.getI cls_X0 (j := 0) (by decide) dX10_type_25 wd_151 hx4 ?_
      refine PW.iload_n 2 dX10_type_28 rfl rfl ?_
      refine PW.iadd dX10_type_29 ?_
      refine PW.sipush (x := 200) dX10_type_30 (by decide) ?_
      refine PW.icmp_gt (tgt := 51) dX10_type_33 (by decide) (fun c33 => ?_) (fun c33 => ?_)
      · rw [if_pos c33] at h
        refine PW.aload_n 0 dX10_type_51 rfl rfl ?_
        refine PW.bipush (x := (-4)) dX10_type_52 (by decide) ?_
        obtain ⟨q5, hq5, h⟩ := bind_some h
        obtain ⟨hkq5, hcq5, hq5⟩ := vC_spec hq5
        refine PW.callVi (As := [.int (-4)]) (rest := []) (k := a0) cal_X10_refuse dX10_type_54 wd_398 rfl rfl (rmLe (by omega)) (Nat.le_of_ble_eq_true rfl) rm_0 hkq5 hcq5 (mf_X10_refuse a0 (-4) hp _ hq5) ?_
        have h := Option.some.inj h; subst h
        exact PW.ret dX10_type_57 trivial rfl
      · rw [if_neg c33] at h
        refine PW.aload_n 0 dX10_type_36 rfl rfl ?_
        obtain ⟨x6, hx6, h⟩ := bind_some h
        refine PW.getR cls_X10 (j := 0) (by decide) dX10_type_37 wd_325 hx6 ?_
        obtain ⟨x7, hx7, h⟩ := bind_some h
        refine PW.getR cls_X8 (j := 1) (by decide) dX10_type_40 wd_200 hx7 ?_
        refine PW.lload_n 1 dX10_type_43 rfl rfl ?_
        refine PW.iload_n 2 dX10_type_44 rfl rfl ?_
        obtain ⟨q8, hq8, h⟩ := bind_some h
        obtain ⟨hkq8, hcq8, hq8⟩ := vC_spec hq8
        refine PW.callVi (As := [.long a1, .int a3]) (rest := []) (k := x7) cal_X0_append dX10_type_45 wd_531 rfl rfl (rmLe (by omega)) (Nat.le_of_ble_eq_true rfl) rm_0 hkq8 hcq8 (mf_X0_append x7 a1 a3 hp _ hq8) ?_
        refine PW.goto (tgt := 57) dX10_type_48 (by decide) ?_
        have h := Option.some.inj h; subst h
        exact PW.ret dX10_type_57 trivial rfl
    · rw [if_neg c8] at h
      refine PW.aload_n 0 dX10_type_11 rfl rfl ?_
      refine PW.bipush (x := (-2)) dX10_type_12 (by decide) ?_
      obtain ⟨q9, hq9, h⟩ := bind_some h
      obtain ⟨hkq9, hcq9, hq9⟩ := vC_spec hq9
      refine PW.callVi (As := [.int (-2)]) (rest := []) (k := a0) cal_X10_refuse dX10_type_14 wd_398 rfl rfl (rmLe (by omega)) (Nat.le_of_ble_eq_true rfl) rm_0 hkq9 hcq9 (mf_X10_refuse a0 (-2) hp _ hq9) ?_
      have h := Option.some.inj h; subst h
      exact PW.ret dX10_type_17 trivial rfl
-- X10_clear
def f_X10_clear (a0 : Nat) (hp : PH) : Option (Int32 × PH) := (gR hp a0 9 0).bind fun x1 => (gR hp x1 7 1).bind fun x2 => (gI hp x2 0 0).bind fun x3 => (gR hp a0 9 0).bind fun x4 => (gR hp x4 7 1).bind fun x5 => (pI hp x5 0 0 0).bind fun hp6 => (some (x3, hp6))
set_option maxRecDepth 100000 in
set_option maxHeartbeats 4000000 in
theorem mf_X10_clear {K : GK} : ∀ (a0 : Nat) (hp : PH) (r : (Int32 × PH)), f_X10_clear a0 hp = some r → PM K (0) M_X10_clear [.ref (ga K a0)] hp (some (.int r.1)) r.2 := by
  intro a0 hp r h
  unfold f_X10_clear at h
  refine PM.enter (l0 := [(0, .ref (ga K a0))]) (by decide +kernel) rfl (Nat.le_of_ble_eq_true rfl) rfl ?_
  refine PW.aload_n 0 dX10_clear_0 rfl rfl ?_
  obtain ⟨x1, hx1, h⟩ := bind_some h
  refine PW.getR cls_X10 (j := 0) (by decide) dX10_clear_1 wd_325 hx1 ?_
  obtain ⟨x2, hx2, h⟩ := bind_some h
  refine PW.getR cls_X8 (j := 1) (by decide) dX10_clear_4 wd_200 hx2 ?_
  obtain ⟨x3, hx3, h⟩ := bind_some h
  refine PW.getI cls_X0 (j := 0) (by decide) dX10_clear_7 wd_151 hx3 ?_
  refine PW.istore_n (l' := [(1, .int x3), (0, .ref (ga K a0))]) dX10_clear_10 rfl (by decide) rfl ?_
  refine PW.aload_n 1 dX10_clear_11 rfl rfl ?_
  obtain ⟨x4, hx4, h⟩ := bind_some h
  refine PW.getR cls_X10 (j := 0) (by decide) dX10_clear_12 wd_325 hx4 ?_
  obtain ⟨x5, hx5, h⟩ := bind_some h
  refine PW.getR cls_X8 (j := 1) (by decide) dX10_clear_15 wd_200 hx5 ?_
  refine PW.iconst (x := 0) dX10_clear_18 (by decide) ?_
  obtain ⟨hp6, hhp6, h⟩ := bind_some h
  refine PW.putI cls_X0 clw_X0 (j := 0) (by decide) dX10_clear_19 wd_151 rfl rfl hhp6 ?_
  refine PW.iload_n 0 dX10_clear_22 rfl rfl ?_
  have h := Option.some.inj h; subst h
  exact PW.ret dX10_clear_23 trivial rfl
-- X10_read
def f_X10_read (a0 : Nat) (hp : PH) : Option (Int32 × PH) := (gR hp a0 9 4).bind fun x1 => (vC hp x1 5 (f_X6_takeBook x1 hp)).bind fun q2 => (if q2.1 < 0 then (some (q2.1, q2.2)) else (gR q2.2 a0 9 0).bind fun x3 => (gR q2.2 x3 7 0).bind fun x4 => (gR q2.2 a0 9 3).bind fun x5 => (vC q2.2 x4 6 (f_X7_copyFrom x4 x5 q2.2)).bind fun q6 => (some (q2.1, q6)))
set_option maxRecDepth 100000 in
set_option maxHeartbeats 4000000 in
theorem mf_X10_read {K : GK} : ∀ (a0 : Nat) (hp : PH) (r : (Int32 × PH)), f_X10_read a0 hp = some r → PM K (9) M_X10_read [.ref (ga K a0)] hp (some (.int r.1)) r.2 := by
  intro a0 hp r h
  unfold f_X10_read at h
  refine PM.enter (l0 := [(0, .ref (ga K a0))]) (by decide +kernel) rfl (Nat.le_of_ble_eq_true rfl) rfl ?_
  refine PW.aload_n 0 dX10_read_0 rfl rfl ?_
  obtain ⟨x1, hx1, h⟩ := bind_some h
  refine PW.getR cls_X10 (j := 4) (by decide) dX10_read_1 wd_329 hx1 ?_
  obtain ⟨q2, hq2, h⟩ := bind_some h
  obtain ⟨hkq2, hcq2, hq2⟩ := vC_spec hq2
  refine PW.callVi (As := []) (rest := []) (k := x1) cal_X6_takeBook dX10_read_4 wd_544 rfl rfl (rmLe (by omega)) (Nat.le_of_ble_eq_true rfl) rm_0 hkq2 hcq2 (mf_X6_takeBook x1 hp _ hq2) ?_
  refine PW.istore_n (l' := [(1, .int q2.1), (0, .ref (ga K a0))]) dX10_read_7 rfl (by decide) rfl ?_
  refine PW.iload_n 0 dX10_read_8 rfl rfl ?_
  refine PW.if_lt (tgt := 26) dX10_read_9 (by decide) (fun c9 => ?_) (fun c9 => ?_)
  · rw [if_pos c9] at h
    refine PW.iload_n 0 dX10_read_26 rfl rfl ?_
    have h := Option.some.inj h; subst h
    exact PW.ret dX10_read_27 trivial rfl
  · rw [if_neg c9] at h
    refine PW.aload_n 1 dX10_read_12 rfl rfl ?_
    obtain ⟨x3, hx3, h⟩ := bind_some h
    refine PW.getR cls_X10 (j := 0) (by decide) dX10_read_13 wd_325 hx3 ?_
    obtain ⟨x4, hx4, h⟩ := bind_some h
    refine PW.getR cls_X8 (j := 0) (by decide) dX10_read_16 wd_198 hx4 ?_
    refine PW.aload_n 1 dX10_read_19 rfl rfl ?_
    obtain ⟨x5, hx5, h⟩ := bind_some h
    refine PW.getR cls_X10 (j := 3) (by decide) dX10_read_20 wd_328 hx5 ?_
    obtain ⟨q6, hq6, h⟩ := bind_some h
    obtain ⟨hkq6, hcq6, hq6⟩ := vC_spec hq6
    refine PW.callVv (As := [.ref (ga K x5)]) (rest := []) (k := x4) cal_X7_copyFrom dX10_read_23 wd_648 rfl rfl (rmLe (by omega)) (Nat.le_of_ble_eq_true rfl) rm_0 hkq6 hcq6 (mf_X7_copyFrom x4 x5 q2.2 _ hq6) ?_
    refine PW.iload_n 0 dX10_read_26 rfl rfl ?_
    have h := Option.some.inj h; subst h
    exact PW.ret dX10_read_27 trivial rfl
-- X10_can
def f_X10_can_J76 (k48 : Nat → Int32 → Int32 → Int32 → Int32 → Int32 → PH → Option (Int32 × PH)) (a0 : Nat) (a1 : Int32) (a3 : Int32) (a4 : Int32) (a5 : Int32) (a6 : Int32) (hp : PH) : Option (Int32 × PH) := (gR hp a0 9 5).bind fun x10 => (vC hp x10 2 (f_X3_reason x10 a6 a1 hp)).bind fun q11 => (if q11 = 0 then (if a5 = a4 then (some (a6, hp)) else (k48 a0 a1 a3 a4 (a5 + 1) (a6 + 1) hp)) else (k48 a0 a1 a3 a4 a5 (a6 + 1) hp))
def f_X10_can_L48 : Nat → Nat → Int32 → Int32 → Int32 → Int32 → Int32 → PH → Option (Int32 × PH)
  | 0, _, _, _, _, _, _, _ => none
  | n + 1, a0, a1, a3, a4, a5, a6, hp => (gR hp a0 9 0).bind fun x7 => (gR hp x7 7 0).bind fun x8 => (vC hp x8 6 (f_X7_everyone x8 hp)).bind fun q9 => (if q9 < a6 then (if a4 = (-1) then (some (a5, hp)) else (some ((-5), hp))) else (if a3 = 0 then (f_X10_can_J76 (f_X10_can_L48 n) a0 a1 a3 a4 a5 a6 hp) else (if (f_J6_bitCount_0f7a4 a6) = a3 then (f_X10_can_J76 (f_X10_can_L48 n) a0 a1 a3 a4 a5 a6 hp) else ((f_X10_can_L48 n) a0 a1 a3 a4 a5 (a6 + 1) hp))))
def f_X10_can (a0 : Nat) (a1 : Int32) (a2 : Int32) (a3 : Int32) (a4 : Int32) (hp : PH) : Option (Int32 × PH) := (vC hp a0 9 (f_X10_isPlace a0 a1 a2 hp)).bind fun q1 => (if q1 = 0 then (vC hp a0 9 (f_X10_refuseAs a0 (-2) (-10) hp)).bind fun q2 => (some (q2.1, q2.2)) else (if a3 < 0 then (vC hp a0 9 (f_X10_refuseAs a0 (-2) (-10) hp)).bind fun q3 => (some (q3.1, q3.2)) else (if 8 < a3 then (vC hp a0 9 (f_X10_refuseAs a0 (-2) (-10) hp)).bind fun q4 => (some (q4.1, q4.2)) else (if (-1) ≤ a4 then (gR hp a0 9 5).bind fun x5 => (vC hp x5 2 (f_X3_standOn x5 a2 hp)).bind fun q6 => (f_X10_can_L48 NN a0 a1 a3 a4 0 1 q6) else (vC hp a0 9 (f_X10_refuseAs a0 (-2) (-10) hp)).bind fun q13 => (some (q13.1, q13.2))))))
set_option maxRecDepth 100000 in
set_option maxHeartbeats 4000000 in
theorem mf_X10_can_J76 {K : GK} {k48 : Nat → Int32 → Int32 → Int32 → Int32 → Int32 → PH → Option (Int32 × PH)} (hk48 : ∀ (a0 : Nat) (a1 : Int32) (a3 : Int32) (a4 : Int32) (a5 : Int32) (a6 : Int32) (hp : PH) (r : (Int32 × PH)), k48 a0 a1 a3 a4 a5 a6 hp = some r → PW K (rmD (4)) 0 0 M_X10_can 48 [(0, .ref (ga K a0)), (1, .int a1), (3, .int a3), (4, .int a4), (5, .int a5), (6, .int a6)] [] hp (some (.int r.1)) r.2) : ∀ (a0 : Nat) (a1 : Int32) (a3 : Int32) (a4 : Int32) (a5 : Int32) (a6 : Int32) (hp : PH) (r : (Int32 × PH)), f_X10_can_J76 k48 a0 a1 a3 a4 a5 a6 hp = some r → PW K (rmD (4)) 0 0 M_X10_can 76 [(0, .ref (ga K a0)), (1, .int a1), (3, .int a3), (4, .int a4), (5, .int a5), (6, .int a6)] [] hp (some (.int r.1)) r.2 := by
  intro a0 a1 a3 a4 a5 a6 hp r h
  unfold f_X10_can_J76 at h
  refine PW.aload_n 0 dX10_can_76 rfl rfl ?_
  obtain ⟨x10, hx10, h⟩ := bind_some h
  refine PW.getR cls_X10 (j := 5) (by decide) dX10_can_77 wd_330 hx10 ?_
  refine PW.iload 5 dX10_can_80 rfl ?_
  refine PW.iload_n 1 dX10_can_82 rfl rfl ?_
  obtain ⟨q11, hq11, h⟩ := bind_some h
  obtain ⟨hkq11, hcq11, hq11⟩ := vC_spec hq11
  refine PW.callVi (As := [.int a6, .int a1]) (rest := []) (k := x10) cal_X3_reason dX10_can_83 wd_498 rfl rfl (rmLe (by omega)) (Nat.le_of_ble_eq_true rfl) rm_0 hkq11 hcq11 (mf_X3_reason x10 a6 a1 hp _ hq11) ?_
  refine PW.if_ne (tgt := 102) dX10_can_86 (by decide) (fun c86 => ?_) (fun c86 => ?_)
  · rw [if_neg c86] at h
    refine PW.iinc 5 (l' := [(6, .int (a6 + 1)), (0, .ref (ga K a0)), (1, .int a1), (3, .int a3), (4, .int a4), (5, .int a5)]) dX10_can_102 rfl (x := a6) (y := (a6 + 1)) rfl (by decide) rfl ?_
    refine PW.goto (tgt := 48) dX10_can_105 (by decide) ?_
    exact PW.sub (l' := [(0, .ref (ga K a0)), (1, .int a1), (3, .int a3), (4, .int a4), (5, .int a5), (6, .int (a6 + 1))]) [1, 2, 3, 4, 5, 0] rfl (hk48 a0 a1 a3 a4 a5 (a6 + 1) hp _ h)
  · rw [if_pos c86] at h
    refine PW.iload 4 dX10_can_89 rfl ?_
    refine PW.iload 3 dX10_can_91 rfl ?_
    refine PW.icmp_ne (tgt := 99) dX10_can_93 (by decide) (fun c93 => ?_) (fun c93 => ?_)
    · rw [if_neg c93] at h
      refine PW.iinc 4 (l' := [(5, .int (a5 + 1)), (0, .ref (ga K a0)), (1, .int a1), (3, .int a3), (4, .int a4), (6, .int a6)]) dX10_can_99 rfl (x := a5) (y := (a5 + 1)) rfl (by decide) rfl ?_
      refine PW.iinc 5 (l' := [(6, .int (a6 + 1)), (5, .int (a5 + 1)), (0, .ref (ga K a0)), (1, .int a1), (3, .int a3), (4, .int a4)]) dX10_can_102 rfl (x := a6) (y := (a6 + 1)) rfl (by decide) rfl ?_
      refine PW.goto (tgt := 48) dX10_can_105 (by decide) ?_
      exact PW.sub (l' := [(0, .ref (ga K a0)), (1, .int a1), (3, .int a3), (4, .int a4), (5, .int (a5 + 1)), (6, .int (a6 + 1))]) [2, 3, 4, 5, 1, 0] rfl (hk48 a0 a1 a3 a4 (a5 + 1) (a6 + 1) hp _ h)
    · rw [if_pos c93] at h
      refine PW.iload 5 dX10_can_96 rfl ?_
      have h := Option.some.inj h; subst h
      exact PW.ret dX10_can_98 trivial rfl
set_option maxRecDepth 100000 in
set_option maxHeartbeats 4000000 in
theorem mf_X10_can_L48 {K : GK} : ∀ (n : Nat) (a0 : Nat) (a1 : Int32) (a3 : Int32) (a4 : Int32) (a5 : Int32) (a6 : Int32) (hp : PH) (r : (Int32 × PH)), f_X10_can_L48 n a0 a1 a3 a4 a5 a6 hp = some r → PW K (rmD (4)) 0 0 M_X10_can 48 [(0, .ref (ga K a0)), (1, .int a1), (3, .int a3), (4, .int a4), (5, .int a5), (6, .int a6)] [] hp (some (.int r.1)) r.2 := by
  intro n
  induction n with
  | zero =>
    intro a0 a1 a3 a4 a5 a6 hp r h
    rw [f_X10_can_L48] at h
    cases h
  | succ n ih =>
    intro a0 a1 a3 a4 a5 a6 hp r h
    rw [f_X10_can_L48] at h
    refine PW.iload 5 dX10_can_48 rfl ?_
    refine PW.aload_n 0 dX10_can_50 rfl rfl ?_
    obtain ⟨x7, hx7, h⟩ := bind_some h
    refine PW.getR cls_X10 (j := 0) (by decide) dX10_can_51 wd_325 hx7 ?_
    obtain ⟨x8, hx8, h⟩ := bind_some h
    refine PW.getR cls_X8 (j := 0) (by decide) dX10_can_54 wd_198 hx8 ?_
    obtain ⟨q9, hq9, h⟩ := bind_some h
    obtain ⟨hkq9, hcq9, hq9⟩ := vC_spec hq9
    refine PW.callVi (As := []) (rest := [.int a6]) (k := x8) cal_X7_everyone dX10_can_57 wd_660 rfl rfl (rmLe (by omega)) (Nat.le_of_ble_eq_true rfl) rm_0 hkq9 hcq9 (mf_X7_everyone x8 hp _ hq9) ?_
    refine PW.icmp_gt (tgt := 108) dX10_can_60 (by decide) (fun c60 => ?_) (fun c60 => ?_)
    · rw [if_pos c60] at h
      refine PW.iload 3 dX10_can_108 rfl ?_
      refine PW.iconst (x := (-1)) dX10_can_110 (by decide) ?_
      refine PW.icmp_ne (tgt := 119) dX10_can_111 (by decide) (fun c111 => ?_) (fun c111 => ?_)
      · rw [if_neg c111] at h
        refine PW.bipush (x := (-5)) dX10_can_119 (by decide) ?_
        have h := Option.some.inj h; subst h
        exact PW.ret dX10_can_121 trivial rfl
      · rw [if_pos c111] at h
        refine PW.iload 4 dX10_can_114 rfl ?_
        refine PW.goto (tgt := 121) dX10_can_116 (by decide) ?_
        have h := Option.some.inj h; subst h
        exact PW.ret dX10_can_121 trivial rfl
    · rw [if_neg c60] at h
      refine PW.iload_n 2 dX10_can_63 rfl rfl ?_
      refine PW.if_eq (tgt := 76) dX10_can_64 (by decide) (fun c64 => ?_) (fun c64 => ?_)
      · rw [if_pos c64] at h
        exact PW.sub (l' := [(0, .ref (ga K a0)), (1, .int a1), (3, .int a3), (4, .int a4), (5, .int a5), (6, .int a6)]) [0, 1, 2, 3, 4, 5] rfl (mf_X10_can_J76 ih a0 a1 a3 a4 a5 a6 hp _ h)
      · rw [if_neg c64] at h
        refine PW.iload 5 dX10_can_67 rfl ?_
        refine PW.callSi (As := [.int a6]) (rest := []) cal_J6_bitCount_0f7a4 dX10_can_69 wd_661 rfl rfl (rmLe (by omega)) (Nat.le_of_ble_eq_true rfl) rm_0 (mf_J6_bitCount_0f7a4 a6 _ rfl) ?_
        refine PW.iload_n 2 dX10_can_72 rfl rfl ?_
        refine PW.icmp_ne (tgt := 102) dX10_can_73 (by decide) (fun c73 => ?_) (fun c73 => ?_)
        · rw [if_neg c73] at h
          refine PW.iinc 5 (l' := [(6, .int (a6 + 1)), (0, .ref (ga K a0)), (1, .int a1), (3, .int a3), (4, .int a4), (5, .int a5)]) dX10_can_102 rfl (x := a6) (y := (a6 + 1)) rfl (by decide) rfl ?_
          refine PW.goto (tgt := 48) dX10_can_105 (by decide) ?_
          exact PW.sub (l' := [(0, .ref (ga K a0)), (1, .int a1), (3, .int a3), (4, .int a4), (5, .int a5), (6, .int (a6 + 1))]) [1, 2, 3, 4, 5, 0] rfl (ih a0 a1 a3 a4 a5 (a6 + 1) hp _ h)
        · rw [if_pos c73] at h
          exact PW.sub (l' := [(0, .ref (ga K a0)), (1, .int a1), (3, .int a3), (4, .int a4), (5, .int a5), (6, .int a6)]) [0, 1, 2, 3, 4, 5] rfl (mf_X10_can_J76 ih a0 a1 a3 a4 a5 a6 hp _ h)
set_option maxRecDepth 100000 in
set_option maxHeartbeats 4000000 in
theorem mf_X10_can {K : GK} : ∀ (a0 : Nat) (a1 : Int32) (a2 : Int32) (a3 : Int32) (a4 : Int32) (hp : PH) (r : (Int32 × PH)), f_X10_can a0 a1 a2 a3 a4 hp = some r → PM K (4) M_X10_can [.ref (ga K a0), .int a1, .int a2, .int a3, .int a4] hp (some (.int r.1)) r.2 := by
  intro a0 a1 a2 a3 a4 hp r h
  unfold f_X10_can at h
  refine PM.enter (l0 := [(0, .ref (ga K a0)), (1, .int a1), (2, .int a2), (3, .int a3), (4, .int a4)]) (by decide +kernel) rfl (Nat.le_of_ble_eq_true rfl) rfl ?_
  refine PW.aload_n 0 dX10_can_0 rfl rfl ?_
  refine PW.iload_n 1 dX10_can_1 rfl rfl ?_
  refine PW.iload_n 2 dX10_can_2 rfl rfl ?_
  obtain ⟨q1, hq1, h⟩ := bind_some h
  obtain ⟨hkq1, hcq1, hq1⟩ := vC_spec hq1
  refine PW.callVi (As := [.int a1, .int a2]) (rest := []) (k := a0) cal_X10_isPlace dX10_can_3 wd_484 rfl rfl (rmLe (by omega)) (Nat.le_of_ble_eq_true rfl) rm_0 hkq1 hcq1 (mf_X10_isPlace a0 a1 a2 hp _ hq1) ?_
  refine PW.if_eq (tgt := 25) dX10_can_6 (by decide) (fun c6 => ?_) (fun c6 => ?_)
  · rw [if_pos c6] at h
    refine PW.aload_n 0 dX10_can_25 rfl rfl ?_
    refine PW.bipush (x := (-2)) dX10_can_26 (by decide) ?_
    refine PW.bipush (x := (-10)) dX10_can_28 (by decide) ?_
    obtain ⟨q2, hq2, h⟩ := bind_some h
    obtain ⟨hkq2, hcq2, hq2⟩ := vC_spec hq2
    refine PW.callVi (As := [.int (-2), .int (-10)]) (rest := []) (k := a0) cal_X10_refuseAs dX10_can_30 wd_402 rfl rfl (rmLe (by omega)) (Nat.le_of_ble_eq_true rfl) rm_0 hkq2 hcq2 (mf_X10_refuseAs a0 (-2) (-10) hp _ hq2) ?_
    have h := Option.some.inj h; subst h
    exact PW.ret dX10_can_33 trivial rfl
  · rw [if_neg c6] at h
    refine PW.iload_n 3 dX10_can_9 rfl rfl ?_
    refine PW.if_lt (tgt := 25) dX10_can_10 (by decide) (fun c10 => ?_) (fun c10 => ?_)
    · rw [if_pos c10] at h
      refine PW.aload_n 0 dX10_can_25 rfl rfl ?_
      refine PW.bipush (x := (-2)) dX10_can_26 (by decide) ?_
      refine PW.bipush (x := (-10)) dX10_can_28 (by decide) ?_
      obtain ⟨q3, hq3, h⟩ := bind_some h
      obtain ⟨hkq3, hcq3, hq3⟩ := vC_spec hq3
      refine PW.callVi (As := [.int (-2), .int (-10)]) (rest := []) (k := a0) cal_X10_refuseAs dX10_can_30 wd_402 rfl rfl (rmLe (by omega)) (Nat.le_of_ble_eq_true rfl) rm_0 hkq3 hcq3 (mf_X10_refuseAs a0 (-2) (-10) hp _ hq3) ?_
      have h := Option.some.inj h; subst h
      exact PW.ret dX10_can_33 trivial rfl
    · rw [if_neg c10] at h
      refine PW.iload_n 3 dX10_can_13 rfl rfl ?_
      refine PW.bipush (x := 8) dX10_can_14 (by decide) ?_
      refine PW.icmp_gt (tgt := 25) dX10_can_16 (by decide) (fun c16 => ?_) (fun c16 => ?_)
      · rw [if_pos c16] at h
        refine PW.aload_n 0 dX10_can_25 rfl rfl ?_
        refine PW.bipush (x := (-2)) dX10_can_26 (by decide) ?_
        refine PW.bipush (x := (-10)) dX10_can_28 (by decide) ?_
        obtain ⟨q4, hq4, h⟩ := bind_some h
        obtain ⟨hkq4, hcq4, hq4⟩ := vC_spec hq4
        refine PW.callVi (As := [.int (-2), .int (-10)]) (rest := []) (k := a0) cal_X10_refuseAs dX10_can_30 wd_402 rfl rfl (rmLe (by omega)) (Nat.le_of_ble_eq_true rfl) rm_0 hkq4 hcq4 (mf_X10_refuseAs a0 (-2) (-10) hp _ hq4) ?_
        have h := Option.some.inj h; subst h
        exact PW.ret dX10_can_33 trivial rfl
      · rw [if_neg c16] at h
        refine PW.iload 4 dX10_can_19 rfl ?_
        refine PW.iconst (x := (-1)) dX10_can_21 (by decide) ?_
        refine PW.icmp_ge (tgt := 34) dX10_can_22 (by decide) (fun c22 => ?_) (fun c22 => ?_)
        · rw [if_pos c22] at h
          refine PW.aload_n 0 dX10_can_34 rfl rfl ?_
          obtain ⟨x5, hx5, h⟩ := bind_some h
          refine PW.getR cls_X10 (j := 5) (by decide) dX10_can_35 wd_330 hx5 ?_
          refine PW.iload_n 2 dX10_can_38 rfl rfl ?_
          obtain ⟨q6, hq6, h⟩ := bind_some h
          obtain ⟨hkq6, hcq6, hq6⟩ := vC_spec hq6
          refine PW.callVv (As := [.int a2]) (rest := []) (k := x5) cal_X3_standOn dX10_can_39 wd_492 rfl rfl (rmLe (by omega)) (Nat.le_of_ble_eq_true rfl) rm_0 hkq6 hcq6 (mf_X3_standOn x5 a2 hp _ hq6) ?_
          refine PW.iconst (x := 0) dX10_can_42 (by decide) ?_
          refine PW.istore (l' := [(5, .int 0), (0, .ref (ga K a0)), (1, .int a1), (2, .int a2), (3, .int a3), (4, .int a4)]) dX10_can_43 (by decide) rfl ?_
          refine PW.iconst (x := 1) dX10_can_45 (by decide) ?_
          refine PW.istore (l' := [(6, .int 1), (5, .int 0), (0, .ref (ga K a0)), (1, .int a1), (2, .int a2), (3, .int a3), (4, .int a4)]) dX10_can_46 (by decide) rfl ?_
          exact PW.sub (l' := [(0, .ref (ga K a0)), (1, .int a1), (3, .int a3), (4, .int a4), (5, .int 0), (6, .int 1)]) [2, 3, 5, 6, 1, 0] rfl (mf_X10_can_L48 NN a0 a1 a3 a4 0 1 q6 _ h)
        · rw [if_neg c22] at h
          refine PW.aload_n 0 dX10_can_25 rfl rfl ?_
          refine PW.bipush (x := (-2)) dX10_can_26 (by decide) ?_
          refine PW.bipush (x := (-10)) dX10_can_28 (by decide) ?_
          obtain ⟨q13, hq13, h⟩ := bind_some h
          obtain ⟨hkq13, hcq13, hq13⟩ := vC_spec hq13
          refine PW.callVi (As := [.int (-2), .int (-10)]) (rest := []) (k := a0) cal_X10_refuseAs dX10_can_30 wd_402 rfl rfl (rmLe (by omega)) (Nat.le_of_ble_eq_true rfl) rm_0 hkq13 hcq13 (mf_X10_refuseAs a0 (-2) (-10) hp _ hq13) ?_
          have h := Option.some.inj h; subst h
          exact PW.ret dX10_can_33 trivial rfl
-- X10_over
def f_X10_over (a0 : Nat) (a1 : Int32) (a2 : Int32) (a3 : Int32) (a4 : Int32) (hp : PH) : Option (Int32 × PH) := (gR hp a0 9 0).bind fun x1 => (gR hp x1 7 0).bind fun x2 => (vC hp x2 6 (f_X7_hasSet x2 a1 hp)).bind fun q3 => (if q3 = 0 then (vC hp a0 9 (f_X10_refuse a0 (-2) hp)).bind fun q4 => (some (q4.1, q4.2)) else (vC hp a0 9 (f_X10_isPlace a0 a2 a3 hp)).bind fun q5 => (if q5 = 0 then (vC hp a0 9 (f_X10_refuse a0 (-2) hp)).bind fun q6 => (some (q6.1, q6.2)) else (if a4 < 0 then (vC hp a0 9 (f_X10_refuse a0 (-2) hp)).bind fun q7 => (some (q7.1, q7.2)) else (if a4 ≤ 2 then (gR hp a0 9 5).bind fun x8 => (vC hp x8 2 (f_X3_standOn x8 a3 hp)).bind fun q9 => (gR q9 a0 9 6).bind fun x10 => (vC q9 x10 3 (f_X4_deal x10 a1 a2 q9)).bind fun q11 => (if a4 = 0 then (gR q11 a0 9 6).bind fun x16 => (gI q11 x16 3 5).bind fun x17 => (some ((f_J6_bitCount_0f7a4 x17), q11)) else (if a4 = 1 then (gR q11 a0 9 6).bind fun x14 => (gI q11 x14 3 4).bind fun x15 => (some (x15, q11)) else (gR q11 a0 9 6).bind fun x12 => (gI q11 x12 3 5).bind fun x13 => (some (x13, q11)))) else (vC hp a0 9 (f_X10_refuse a0 (-2) hp)).bind fun q19 => (some (q19.1, q19.2))))))
set_option maxRecDepth 100000 in
set_option maxHeartbeats 4000000 in
theorem mf_X10_over {K : GK} : ∀ (a0 : Nat) (a1 : Int32) (a2 : Int32) (a3 : Int32) (a4 : Int32) (hp : PH) (r : (Int32 × PH)), f_X10_over a0 a1 a2 a3 a4 hp = some r → PM K (9) M_X10_over [.ref (ga K a0), .int a1, .int a2, .int a3, .int a4] hp (some (.int r.1)) r.2 := by
  intro a0 a1 a2 a3 a4 hp r h
  unfold f_X10_over at h
  refine PM.enter (l0 := [(0, .ref (ga K a0)), (1, .int a1), (2, .int a2), (3, .int a3), (4, .int a4)]) (by decide +kernel) rfl (Nat.le_of_ble_eq_true rfl) rfl ?_
  refine PW.aload_n 0 dX10_over_0 rfl rfl ?_
  obtain ⟨x1, hx1, h⟩ := bind_some h
  refine PW.getR cls_X10 (j := 0) (by decide) dX10_over_1 wd_325 hx1 ?_
  obtain ⟨x2, hx2, h⟩ := bind_some h
  refine PW.getR cls_X8 (j := 0) (by decide) dX10_over_4 wd_198 hx2 ?_
  refine PW.iload_n 1 dX10_over_7 rfl rfl ?_
  obtain ⟨q3, hq3, h⟩ := bind_some h
  obtain ⟨hkq3, hcq3, hq3⟩ := vC_spec hq3
  refine PW.callVi (As := [.int a1]) (rest := []) (k := x2) cal_X7_hasSet dX10_over_8 wd_666 rfl rfl (rmLe (by omega)) (Nat.le_of_ble_eq_true rfl) rm_0 hkq3 hcq3 (mf_X7_hasSet x2 a1 hp _ hq3) ?_
  refine PW.if_eq (tgt := 34) dX10_over_11 (by decide) (fun c11 => ?_) (fun c11 => ?_)
  · rw [if_pos c11] at h
    refine PW.aload_n 0 dX10_over_34 rfl rfl ?_
    refine PW.bipush (x := (-2)) dX10_over_35 (by decide) ?_
    obtain ⟨q4, hq4, h⟩ := bind_some h
    obtain ⟨hkq4, hcq4, hq4⟩ := vC_spec hq4
    refine PW.callVi (As := [.int (-2)]) (rest := []) (k := a0) cal_X10_refuse dX10_over_37 wd_398 rfl rfl (rmLe (by omega)) (Nat.le_of_ble_eq_true rfl) rm_0 hkq4 hcq4 (mf_X10_refuse a0 (-2) hp _ hq4) ?_
    have h := Option.some.inj h; subst h
    exact PW.ret dX10_over_40 trivial rfl
  · rw [if_neg c11] at h
    refine PW.aload_n 0 dX10_over_14 rfl rfl ?_
    refine PW.iload_n 2 dX10_over_15 rfl rfl ?_
    refine PW.iload_n 3 dX10_over_16 rfl rfl ?_
    obtain ⟨q5, hq5, h⟩ := bind_some h
    obtain ⟨hkq5, hcq5, hq5⟩ := vC_spec hq5
    refine PW.callVi (As := [.int a2, .int a3]) (rest := []) (k := a0) cal_X10_isPlace dX10_over_17 wd_484 rfl rfl (rmLe (by omega)) (Nat.le_of_ble_eq_true rfl) rm_0 hkq5 hcq5 (mf_X10_isPlace a0 a2 a3 hp _ hq5) ?_
    refine PW.if_eq (tgt := 34) dX10_over_20 (by decide) (fun c20 => ?_) (fun c20 => ?_)
    · rw [if_pos c20] at h
      refine PW.aload_n 0 dX10_over_34 rfl rfl ?_
      refine PW.bipush (x := (-2)) dX10_over_35 (by decide) ?_
      obtain ⟨q6, hq6, h⟩ := bind_some h
      obtain ⟨hkq6, hcq6, hq6⟩ := vC_spec hq6
      refine PW.callVi (As := [.int (-2)]) (rest := []) (k := a0) cal_X10_refuse dX10_over_37 wd_398 rfl rfl (rmLe (by omega)) (Nat.le_of_ble_eq_true rfl) rm_0 hkq6 hcq6 (mf_X10_refuse a0 (-2) hp _ hq6) ?_
      have h := Option.some.inj h; subst h
      exact PW.ret dX10_over_40 trivial rfl
    · rw [if_neg c20] at h
      refine PW.iload 4 dX10_over_23 rfl ?_
      refine PW.if_lt (tgt := 34) dX10_over_25 (by decide) (fun c25 => ?_) (fun c25 => ?_)
      · rw [if_pos c25] at h
        refine PW.aload_n 0 dX10_over_34 rfl rfl ?_
        refine PW.bipush (x := (-2)) dX10_over_35 (by decide) ?_
        obtain ⟨q7, hq7, h⟩ := bind_some h
        obtain ⟨hkq7, hcq7, hq7⟩ := vC_spec hq7
        refine PW.callVi (As := [.int (-2)]) (rest := []) (k := a0) cal_X10_refuse dX10_over_37 wd_398 rfl rfl (rmLe (by omega)) (Nat.le_of_ble_eq_true rfl) rm_0 hkq7 hcq7 (mf_X10_refuse a0 (-2) hp _ hq7) ?_
        have h := Option.some.inj h; subst h
        exact PW.ret dX10_over_40 trivial rfl
      · rw [if_neg c25] at h
        refine PW.iload 4 dX10_over_28 rfl ?_
        refine PW.iconst (x := 2) dX10_over_30 (by decide) ?_
        refine PW.icmp_le (tgt := 41) dX10_over_31 (by decide) (fun c31 => ?_) (fun c31 => ?_)
        · rw [if_pos c31] at h
          refine PW.aload_n 0 dX10_over_41 rfl rfl ?_
          obtain ⟨x8, hx8, h⟩ := bind_some h
          refine PW.getR cls_X10 (j := 5) (by decide) dX10_over_42 wd_330 hx8 ?_
          refine PW.iload_n 3 dX10_over_45 rfl rfl ?_
          obtain ⟨q9, hq9, h⟩ := bind_some h
          obtain ⟨hkq9, hcq9, hq9⟩ := vC_spec hq9
          refine PW.callVv (As := [.int a3]) (rest := []) (k := x8) cal_X3_standOn dX10_over_46 wd_492 rfl rfl (rmLe (by omega)) (Nat.le_of_ble_eq_true rfl) rm_0 hkq9 hcq9 (mf_X3_standOn x8 a3 hp _ hq9) ?_
          refine PW.aload_n 0 dX10_over_49 rfl rfl ?_
          obtain ⟨x10, hx10, h⟩ := bind_some h
          refine PW.getR cls_X10 (j := 6) (by decide) dX10_over_50 wd_331 hx10 ?_
          refine PW.iload_n 1 dX10_over_53 rfl rfl ?_
          refine PW.iload_n 2 dX10_over_54 rfl rfl ?_
          obtain ⟨q11, hq11, h⟩ := bind_some h
          obtain ⟨hkq11, hcq11, hq11⟩ := vC_spec hq11
          refine PW.callVv (As := [.int a1, .int a2]) (rest := []) (k := x10) cal_X4_deal dX10_over_55 wd_667 rfl rfl (rmLe (by omega)) (Nat.le_of_ble_eq_true rfl) rm_0 hkq11 hcq11 (mf_X4_deal x10 a1 a2 q9 _ hq11) ?_
          refine PW.iload 4 dX10_over_58 rfl ?_
          refine PW.if_ne (tgt := 74) dX10_over_60 (by decide) (fun c60 => ?_) (fun c60 => ?_)
          · rw [if_neg c60] at h
            refine PW.iload 4 dX10_over_74 rfl ?_
            refine PW.iconst (x := 1) dX10_over_76 (by decide) ?_
            refine PW.icmp_ne (tgt := 90) dX10_over_77 (by decide) (fun c77 => ?_) (fun c77 => ?_)
            · rw [if_neg c77] at h
              refine PW.aload_n 0 dX10_over_90 rfl rfl ?_
              obtain ⟨x12, hx12, h⟩ := bind_some h
              refine PW.getR cls_X10 (j := 6) (by decide) dX10_over_91 wd_331 hx12 ?_
              obtain ⟨x13, hx13, h⟩ := bind_some h
              refine PW.getI cls_X4 (j := 5) (by decide) dX10_over_94 wd_272 hx13 ?_
              have h := Option.some.inj h; subst h
              exact PW.ret dX10_over_97 trivial rfl
            · rw [if_pos c77] at h
              refine PW.aload_n 0 dX10_over_80 rfl rfl ?_
              obtain ⟨x14, hx14, h⟩ := bind_some h
              refine PW.getR cls_X10 (j := 6) (by decide) dX10_over_81 wd_331 hx14 ?_
              obtain ⟨x15, hx15, h⟩ := bind_some h
              refine PW.getI cls_X4 (j := 4) (by decide) dX10_over_84 wd_270 hx15 ?_
              refine PW.goto (tgt := 97) dX10_over_87 (by decide) ?_
              have h := Option.some.inj h; subst h
              exact PW.ret dX10_over_97 trivial rfl
          · rw [if_pos c60] at h
            refine PW.aload_n 0 dX10_over_63 rfl rfl ?_
            obtain ⟨x16, hx16, h⟩ := bind_some h
            refine PW.getR cls_X10 (j := 6) (by decide) dX10_over_64 wd_331 hx16 ?_
            obtain ⟨x17, hx17, h⟩ := bind_some h
            refine PW.getI cls_X4 (j := 5) (by decide) dX10_over_67 wd_272 hx17 ?_
            refine PW.callSi (As := [.int x17]) (rest := []) cal_J6_bitCount_0f7a4 dX10_over_70 wd_661 rfl rfl (rmLe (by omega)) (Nat.le_of_ble_eq_true rfl) rm_0 (mf_J6_bitCount_0f7a4 x17 _ rfl) ?_
            have h := Option.some.inj h; subst h
            exact PW.ret dX10_over_73 trivial rfl
        · rw [if_neg c31] at h
          refine PW.aload_n 0 dX10_over_34 rfl rfl ?_
          refine PW.bipush (x := (-2)) dX10_over_35 (by decide) ?_
          obtain ⟨q19, hq19, h⟩ := bind_some h
          obtain ⟨hkq19, hcq19, hq19⟩ := vC_spec hq19
          refine PW.callVi (As := [.int (-2)]) (rest := []) (k := a0) cal_X10_refuse dX10_over_37 wd_398 rfl rfl (rmLe (by omega)) (Nat.le_of_ble_eq_true rfl) rm_0 hkq19 hcq19 (mf_X10_refuse a0 (-2) hp _ hq19) ?_
          have h := Option.some.inj h; subst h
          exact PW.ret dX10_over_40 trivial rfl
-- X10_parts
def f_X10_parts (a0 : Nat) (a1 : Int32) (a2 : Int32) (a3 : Int32) (a4 : Int32) (hp : PH) : Option (Int32 × PH) := (gR hp a0 9 0).bind fun x1 => (gR hp x1 7 0).bind fun x2 => (vC hp x2 6 (f_X7_hasSet x2 a1 hp)).bind fun q3 => (if q3 = 0 then (vC hp a0 9 (f_X10_refuseAs a0 (-2) (-10) hp)).bind fun q4 => (some (q4.1, q4.2)) else (vC hp a0 9 (f_X10_isPlace a0 a2 a3 hp)).bind fun q5 => (if q5 = 0 then (vC hp a0 9 (f_X10_refuseAs a0 (-2) (-10) hp)).bind fun q6 => (some (q6.1, q6.2)) else (if 0 ≤ a4 then (gR hp a0 9 5).bind fun x7 => (vC hp x7 2 (f_X3_standOn x7 a3 hp)).bind fun q8 => (gR q8 a0 9 6).bind fun x9 => (vC q8 x9 3 (f_X4_deal x9 a1 a2 q8)).bind fun q10 => (gR q10 a0 9 6).bind fun x11 => (gI q10 x11 3 4).bind fun x12 => (if x12 ≤ a4 then (some ((-5), q10)) else (gR q10 a0 9 6).bind fun x13 => (gR q10 x13 3 3).bind fun x14 => (aI q10 x14 0 a4).bind fun x15 => (some (x15, q10))) else (vC hp a0 9 (f_X10_refuseAs a0 (-2) (-10) hp)).bind fun q16 => (some (q16.1, q16.2)))))
set_option maxRecDepth 100000 in
set_option maxHeartbeats 4000000 in
theorem mf_X10_parts {K : GK} : ∀ (a0 : Nat) (a1 : Int32) (a2 : Int32) (a3 : Int32) (a4 : Int32) (hp : PH) (r : (Int32 × PH)), f_X10_parts a0 a1 a2 a3 a4 hp = some r → PM K (9) M_X10_parts [.ref (ga K a0), .int a1, .int a2, .int a3, .int a4] hp (some (.int r.1)) r.2 := by
  intro a0 a1 a2 a3 a4 hp r h
  unfold f_X10_parts at h
  refine PM.enter (l0 := [(0, .ref (ga K a0)), (1, .int a1), (2, .int a2), (3, .int a3), (4, .int a4)]) (by decide +kernel) rfl (Nat.le_of_ble_eq_true rfl) rfl ?_
  refine PW.aload_n 0 dX10_parts_0 rfl rfl ?_
  obtain ⟨x1, hx1, h⟩ := bind_some h
  refine PW.getR cls_X10 (j := 0) (by decide) dX10_parts_1 wd_325 hx1 ?_
  obtain ⟨x2, hx2, h⟩ := bind_some h
  refine PW.getR cls_X8 (j := 0) (by decide) dX10_parts_4 wd_198 hx2 ?_
  refine PW.iload_n 1 dX10_parts_7 rfl rfl ?_
  obtain ⟨q3, hq3, h⟩ := bind_some h
  obtain ⟨hkq3, hcq3, hq3⟩ := vC_spec hq3
  refine PW.callVi (As := [.int a1]) (rest := []) (k := x2) cal_X7_hasSet dX10_parts_8 wd_666 rfl rfl (rmLe (by omega)) (Nat.le_of_ble_eq_true rfl) rm_0 hkq3 hcq3 (mf_X7_hasSet x2 a1 hp _ hq3) ?_
  refine PW.if_eq (tgt := 28) dX10_parts_11 (by decide) (fun c11 => ?_) (fun c11 => ?_)
  · rw [if_pos c11] at h
    refine PW.aload_n 0 dX10_parts_28 rfl rfl ?_
    refine PW.bipush (x := (-2)) dX10_parts_29 (by decide) ?_
    refine PW.bipush (x := (-10)) dX10_parts_31 (by decide) ?_
    obtain ⟨q4, hq4, h⟩ := bind_some h
    obtain ⟨hkq4, hcq4, hq4⟩ := vC_spec hq4
    refine PW.callVi (As := [.int (-2), .int (-10)]) (rest := []) (k := a0) cal_X10_refuseAs dX10_parts_33 wd_402 rfl rfl (rmLe (by omega)) (Nat.le_of_ble_eq_true rfl) rm_0 hkq4 hcq4 (mf_X10_refuseAs a0 (-2) (-10) hp _ hq4) ?_
    have h := Option.some.inj h; subst h
    exact PW.ret dX10_parts_36 trivial rfl
  · rw [if_neg c11] at h
    refine PW.aload_n 0 dX10_parts_14 rfl rfl ?_
    refine PW.iload_n 2 dX10_parts_15 rfl rfl ?_
    refine PW.iload_n 3 dX10_parts_16 rfl rfl ?_
    obtain ⟨q5, hq5, h⟩ := bind_some h
    obtain ⟨hkq5, hcq5, hq5⟩ := vC_spec hq5
    refine PW.callVi (As := [.int a2, .int a3]) (rest := []) (k := a0) cal_X10_isPlace dX10_parts_17 wd_484 rfl rfl (rmLe (by omega)) (Nat.le_of_ble_eq_true rfl) rm_0 hkq5 hcq5 (mf_X10_isPlace a0 a2 a3 hp _ hq5) ?_
    refine PW.if_eq (tgt := 28) dX10_parts_20 (by decide) (fun c20 => ?_) (fun c20 => ?_)
    · rw [if_pos c20] at h
      refine PW.aload_n 0 dX10_parts_28 rfl rfl ?_
      refine PW.bipush (x := (-2)) dX10_parts_29 (by decide) ?_
      refine PW.bipush (x := (-10)) dX10_parts_31 (by decide) ?_
      obtain ⟨q6, hq6, h⟩ := bind_some h
      obtain ⟨hkq6, hcq6, hq6⟩ := vC_spec hq6
      refine PW.callVi (As := [.int (-2), .int (-10)]) (rest := []) (k := a0) cal_X10_refuseAs dX10_parts_33 wd_402 rfl rfl (rmLe (by omega)) (Nat.le_of_ble_eq_true rfl) rm_0 hkq6 hcq6 (mf_X10_refuseAs a0 (-2) (-10) hp _ hq6) ?_
      have h := Option.some.inj h; subst h
      exact PW.ret dX10_parts_36 trivial rfl
    · rw [if_neg c20] at h
      refine PW.iload 4 dX10_parts_23 rfl ?_
      refine PW.if_ge (tgt := 37) dX10_parts_25 (by decide) (fun c25 => ?_) (fun c25 => ?_)
      · rw [if_pos c25] at h
        refine PW.aload_n 0 dX10_parts_37 rfl rfl ?_
        obtain ⟨x7, hx7, h⟩ := bind_some h
        refine PW.getR cls_X10 (j := 5) (by decide) dX10_parts_38 wd_330 hx7 ?_
        refine PW.iload_n 3 dX10_parts_41 rfl rfl ?_
        obtain ⟨q8, hq8, h⟩ := bind_some h
        obtain ⟨hkq8, hcq8, hq8⟩ := vC_spec hq8
        refine PW.callVv (As := [.int a3]) (rest := []) (k := x7) cal_X3_standOn dX10_parts_42 wd_492 rfl rfl (rmLe (by omega)) (Nat.le_of_ble_eq_true rfl) rm_0 hkq8 hcq8 (mf_X3_standOn x7 a3 hp _ hq8) ?_
        refine PW.aload_n 0 dX10_parts_45 rfl rfl ?_
        obtain ⟨x9, hx9, h⟩ := bind_some h
        refine PW.getR cls_X10 (j := 6) (by decide) dX10_parts_46 wd_331 hx9 ?_
        refine PW.iload_n 1 dX10_parts_49 rfl rfl ?_
        refine PW.iload_n 2 dX10_parts_50 rfl rfl ?_
        obtain ⟨q10, hq10, h⟩ := bind_some h
        obtain ⟨hkq10, hcq10, hq10⟩ := vC_spec hq10
        refine PW.callVv (As := [.int a1, .int a2]) (rest := []) (k := x9) cal_X4_deal dX10_parts_51 wd_667 rfl rfl (rmLe (by omega)) (Nat.le_of_ble_eq_true rfl) rm_0 hkq10 hcq10 (mf_X4_deal x9 a1 a2 q8 _ hq10) ?_
        refine PW.iload 4 dX10_parts_54 rfl ?_
        refine PW.aload_n 0 dX10_parts_56 rfl rfl ?_
        obtain ⟨x11, hx11, h⟩ := bind_some h
        refine PW.getR cls_X10 (j := 6) (by decide) dX10_parts_57 wd_331 hx11 ?_
        obtain ⟨x12, hx12, h⟩ := bind_some h
        refine PW.getI cls_X4 (j := 4) (by decide) dX10_parts_60 wd_270 hx12 ?_
        refine PW.icmp_ge (tgt := 79) dX10_parts_63 (by decide) (fun c63 => ?_) (fun c63 => ?_)
        · rw [if_pos c63] at h
          refine PW.bipush (x := (-5)) dX10_parts_79 (by decide) ?_
          have h := Option.some.inj h; subst h
          exact PW.ret dX10_parts_81 trivial rfl
        · rw [if_neg c63] at h
          refine PW.aload_n 0 dX10_parts_66 rfl rfl ?_
          obtain ⟨x13, hx13, h⟩ := bind_some h
          refine PW.getR cls_X10 (j := 6) (by decide) dX10_parts_67 wd_331 hx13 ?_
          obtain ⟨x14, hx14, h⟩ := bind_some h
          refine PW.getR cls_X4 (j := 3) (by decide) dX10_parts_70 wd_268 hx14 ?_
          refine PW.iload 4 dX10_parts_73 rfl ?_
          obtain ⟨x15, hx15, h⟩ := bind_some h
          refine PW.iald dX10_parts_75 hx15 ?_
          refine PW.goto (tgt := 81) dX10_parts_76 (by decide) ?_
          have h := Option.some.inj h; subst h
          exact PW.ret dX10_parts_81 trivial rfl
      · rw [if_neg c25] at h
        refine PW.aload_n 0 dX10_parts_28 rfl rfl ?_
        refine PW.bipush (x := (-2)) dX10_parts_29 (by decide) ?_
        refine PW.bipush (x := (-10)) dX10_parts_31 (by decide) ?_
        obtain ⟨q16, hq16, h⟩ := bind_some h
        obtain ⟨hkq16, hcq16, hq16⟩ := vC_spec hq16
        refine PW.callVi (As := [.int (-2), .int (-10)]) (rest := []) (k := a0) cal_X10_refuseAs dX10_parts_33 wd_402 rfl rfl (rmLe (by omega)) (Nat.le_of_ble_eq_true rfl) rm_0 hkq16 hcq16 (mf_X10_refuseAs a0 (-2) (-10) hp _ hq16) ?_
        have h := Option.some.inj h; subst h
        exact PW.ret dX10_parts_36 trivial rfl
-- X10_lent
def f_X10_lent_J86 (k48 : Nat → Int32 → Int32 → Int32 → Int32 → Int32 → PH → Option (Int32 × PH)) (a0 : Nat) (a1 : Int32) (a2 : Int32) (a4 : Int32) (a5 : Int32) (a6 : Int32) (a7 : Int32) (s0 : Int32) (hp : PH) : Option (Int32 × PH) := (if (a6 &&& a1) = a1 then (if s0 = 0 then (k48 a0 a1 a2 a4 a5 (a6 + 1) hp) else (gR hp a0 9 5).bind fun x12 => (vC hp x12 2 (f_X3_reason x12 a6 a2 hp)).bind fun q13 => (if q13 = 0 then (k48 a0 a1 a2 a7 (f_J6_bitCount_0f7a4 a7) (a6 + 1) hp) else (k48 a0 a1 a2 a4 a5 (a6 + 1) hp))) else (k48 a0 a1 a2 a4 a5 (a6 + 1) hp))
def f_X10_lent_L48 : Nat → Nat → Int32 → Int32 → Int32 → Int32 → Int32 → PH → Option (Int32 × PH)
  | 0, _, _, _, _, _, _, _ => none
  | n + 1, a0, a1, a2, a4, a5, a6, hp => (gR hp a0 9 0).bind fun x8 => (gR hp x8 7 0).bind fun x9 => (vC hp x9 6 (f_X7_everyone x9 hp)).bind fun q10 => (if q10 < a6 then (some (a4, hp)) else (if a5 ≤ (f_J6_bitCount_0f7a4 (a6 &&& (a1 ^^^ (-1)))) then (f_X10_lent_J86 (f_X10_lent_L48 n) a0 a1 a2 a4 a5 a6 (a6 &&& (a1 ^^^ (-1))) 0 hp) else (f_X10_lent_J86 (f_X10_lent_L48 n) a0 a1 a2 a4 a5 a6 (a6 &&& (a1 ^^^ (-1))) 1 hp)))
def f_X10_lent (a0 : Nat) (a1 : Int32) (a2 : Int32) (a3 : Int32) (hp : PH) : Option (Int32 × PH) := (gR hp a0 9 0).bind fun x1 => (gR hp x1 7 0).bind fun x2 => (vC hp x2 6 (f_X7_hasSet x2 a1 hp)).bind fun q3 => (if q3 = 0 then (vC hp a0 9 (f_X10_refuse a0 (-2) hp)).bind fun q4 => (some (q4.1, q4.2)) else (vC hp a0 9 (f_X10_isPlace a0 a2 a3 hp)).bind fun q5 => (if q5 = 0 then (vC hp a0 9 (f_X10_refuse a0 (-2) hp)).bind fun q15 => (some (q15.1, q15.2)) else (gR hp a0 9 5).bind fun x6 => (vC hp x6 2 (f_X3_standOn x6 a3 hp)).bind fun q7 => (f_X10_lent_L48 NN a0 a1 a2 (-1) 9 1 q7)))
set_option maxRecDepth 100000 in
set_option maxHeartbeats 4000000 in
theorem mf_X10_lent_J86 {K : GK} {k48 : Nat → Int32 → Int32 → Int32 → Int32 → Int32 → PH → Option (Int32 × PH)} (hk48 : ∀ (a0 : Nat) (a1 : Int32) (a2 : Int32) (a4 : Int32) (a5 : Int32) (a6 : Int32) (hp : PH) (r : (Int32 × PH)), k48 a0 a1 a2 a4 a5 a6 hp = some r → PW K (rmD (4)) 0 0 M_X10_lent 48 [(0, .ref (ga K a0)), (1, .int a1), (2, .int a2), (4, .int a4), (5, .int a5), (6, .int a6)] [] hp (some (.int r.1)) r.2) : ∀ (a0 : Nat) (a1 : Int32) (a2 : Int32) (a4 : Int32) (a5 : Int32) (a6 : Int32) (a7 : Int32) (s0 : Int32) (hp : PH) (r : (Int32 × PH)), f_X10_lent_J86 k48 a0 a1 a2 a4 a5 a6 a7 s0 hp = some r → PW K (rmD (4)) 0 0 M_X10_lent 86 [(0, .ref (ga K a0)), (1, .int a1), (2, .int a2), (4, .int a4), (5, .int a5), (6, .int a6), (7, .int a7)] [.int s0] hp (some (.int r.1)) r.2 := by
  intro a0 a1 a2 a4 a5 a6 a7 s0 hp r h
  unfold f_X10_lent_J86 at h
  refine PW.istore (l' := [(8, .int s0), (0, .ref (ga K a0)), (1, .int a1), (2, .int a2), (4, .int a4), (5, .int a5), (6, .int a6), (7, .int a7)]) dX10_lent_86 (by decide) rfl ?_
  refine PW.iload 6 dX10_lent_88 rfl ?_
  refine PW.iload_n 2 dX10_lent_90 rfl rfl ?_
  refine PW.iand dX10_lent_91 ?_
  refine PW.iload_n 2 dX10_lent_92 rfl rfl ?_
  refine PW.icmp_ne (tgt := 125) dX10_lent_93 (by decide) (fun c93 => ?_) (fun c93 => ?_)
  · rw [if_neg c93] at h
    refine PW.iinc 6 (l' := [(6, .int (a6 + 1)), (8, .int s0), (0, .ref (ga K a0)), (1, .int a1), (2, .int a2), (4, .int a4), (5, .int a5), (7, .int a7)]) dX10_lent_125 rfl (x := a6) (y := (a6 + 1)) rfl (by decide) rfl ?_
    refine PW.goto (tgt := 48) dX10_lent_128 (by decide) ?_
    exact PW.sub (l' := [(0, .ref (ga K a0)), (1, .int a1), (2, .int a2), (4, .int a4), (5, .int a5), (6, .int (a6 + 1))]) [2, 3, 4, 5, 6, 0] rfl (hk48 a0 a1 a2 a4 a5 (a6 + 1) hp _ h)
  · rw [if_pos c93] at h
    refine PW.iload 0 dX10_lent_96 rfl ?_
    refine PW.if_eq (tgt := 125) dX10_lent_98 (by decide) (fun c98 => ?_) (fun c98 => ?_)
    · rw [if_pos c98] at h
      refine PW.iinc 6 (l' := [(6, .int (a6 + 1)), (8, .int s0), (0, .ref (ga K a0)), (1, .int a1), (2, .int a2), (4, .int a4), (5, .int a5), (7, .int a7)]) dX10_lent_125 rfl (x := a6) (y := (a6 + 1)) rfl (by decide) rfl ?_
      refine PW.goto (tgt := 48) dX10_lent_128 (by decide) ?_
      exact PW.sub (l' := [(0, .ref (ga K a0)), (1, .int a1), (2, .int a2), (4, .int a4), (5, .int a5), (6, .int (a6 + 1))]) [2, 3, 4, 5, 6, 0] rfl (hk48 a0 a1 a2 a4 a5 (a6 + 1) hp _ h)
    · rw [if_neg c98] at h
      refine PW.aload_n 1 dX10_lent_101 rfl rfl ?_
      obtain ⟨x12, hx12, h⟩ := bind_some h
      refine PW.getR cls_X10 (j := 5) (by decide) dX10_lent_102 wd_330 hx12 ?_
      refine PW.iload 6 dX10_lent_105 rfl ?_
      refine PW.iload_n 3 dX10_lent_107 rfl rfl ?_
      obtain ⟨q13, hq13, h⟩ := bind_some h
      obtain ⟨hkq13, hcq13, hq13⟩ := vC_spec hq13
      refine PW.callVi (As := [.int a6, .int a2]) (rest := []) (k := x12) cal_X3_reason dX10_lent_108 wd_498 rfl rfl (rmLe (by omega)) (Nat.le_of_ble_eq_true rfl) rm_0 hkq13 hcq13 (mf_X3_reason x12 a6 a2 hp _ hq13) ?_
      refine PW.if_ne (tgt := 125) dX10_lent_111 (by decide) (fun c111 => ?_) (fun c111 => ?_)
      · rw [if_neg c111] at h
        refine PW.iinc 6 (l' := [(6, .int (a6 + 1)), (8, .int s0), (0, .ref (ga K a0)), (1, .int a1), (2, .int a2), (4, .int a4), (5, .int a5), (7, .int a7)]) dX10_lent_125 rfl (x := a6) (y := (a6 + 1)) rfl (by decide) rfl ?_
        refine PW.goto (tgt := 48) dX10_lent_128 (by decide) ?_
        exact PW.sub (l' := [(0, .ref (ga K a0)), (1, .int a1), (2, .int a2), (4, .int a4), (5, .int a5), (6, .int (a6 + 1))]) [2, 3, 4, 5, 6, 0] rfl (hk48 a0 a1 a2 a4 a5 (a6 + 1) hp _ h)
      · rw [if_pos c111] at h
        refine PW.iload 7 dX10_lent_114 rfl ?_
        refine PW.istore (l' := [(4, .int a7), (8, .int s0), (0, .ref (ga K a0)), (1, .int a1), (2, .int a2), (5, .int a5), (6, .int a6), (7, .int a7)]) dX10_lent_116 (by decide) rfl ?_
        refine PW.iload 7 dX10_lent_118 rfl ?_
        refine PW.callSi (As := [.int a7]) (rest := []) cal_J6_bitCount_0f7a4 dX10_lent_120 wd_661 rfl rfl (rmLe (by omega)) (Nat.le_of_ble_eq_true rfl) rm_0 (mf_J6_bitCount_0f7a4 a7 _ rfl) ?_
        refine PW.istore (l' := [(5, .int (f_J6_bitCount_0f7a4 a7)), (4, .int a7), (8, .int s0), (0, .ref (ga K a0)), (1, .int a1), (2, .int a2), (6, .int a6), (7, .int a7)]) dX10_lent_123 (by decide) rfl ?_
        refine PW.iinc 6 (l' := [(6, .int (a6 + 1)), (5, .int (f_J6_bitCount_0f7a4 a7)), (4, .int a7), (8, .int s0), (0, .ref (ga K a0)), (1, .int a1), (2, .int a2), (7, .int a7)]) dX10_lent_125 rfl (x := a6) (y := (a6 + 1)) rfl (by decide) rfl ?_
        refine PW.goto (tgt := 48) dX10_lent_128 (by decide) ?_
        exact PW.sub (l' := [(0, .ref (ga K a0)), (1, .int a1), (2, .int a2), (4, .int a7), (5, .int (f_J6_bitCount_0f7a4 a7)), (6, .int (a6 + 1))]) [4, 5, 6, 2, 1, 0] rfl (hk48 a0 a1 a2 a7 (f_J6_bitCount_0f7a4 a7) (a6 + 1) hp _ h)
set_option maxRecDepth 100000 in
set_option maxHeartbeats 4000000 in
theorem mf_X10_lent_L48 {K : GK} : ∀ (n : Nat) (a0 : Nat) (a1 : Int32) (a2 : Int32) (a4 : Int32) (a5 : Int32) (a6 : Int32) (hp : PH) (r : (Int32 × PH)), f_X10_lent_L48 n a0 a1 a2 a4 a5 a6 hp = some r → PW K (rmD (4)) 0 0 M_X10_lent 48 [(0, .ref (ga K a0)), (1, .int a1), (2, .int a2), (4, .int a4), (5, .int a5), (6, .int a6)] [] hp (some (.int r.1)) r.2 := by
  intro n
  induction n with
  | zero =>
    intro a0 a1 a2 a4 a5 a6 hp r h
    rw [f_X10_lent_L48] at h
    cases h
  | succ n ih =>
    intro a0 a1 a2 a4 a5 a6 hp r h
    rw [f_X10_lent_L48] at h
    refine PW.iload 5 dX10_lent_48 rfl ?_
    refine PW.aload_n 0 dX10_lent_50 rfl rfl ?_
    obtain ⟨x8, hx8, h⟩ := bind_some h
    refine PW.getR cls_X10 (j := 0) (by decide) dX10_lent_51 wd_325 hx8 ?_
    obtain ⟨x9, hx9, h⟩ := bind_some h
    refine PW.getR cls_X8 (j := 0) (by decide) dX10_lent_54 wd_198 hx9 ?_
    obtain ⟨q10, hq10, h⟩ := bind_some h
    obtain ⟨hkq10, hcq10, hq10⟩ := vC_spec hq10
    refine PW.callVi (As := []) (rest := [.int a6]) (k := x9) cal_X7_everyone dX10_lent_57 wd_660 rfl rfl (rmLe (by omega)) (Nat.le_of_ble_eq_true rfl) rm_0 hkq10 hcq10 (mf_X7_everyone x9 hp _ hq10) ?_
    refine PW.icmp_gt (tgt := 131) dX10_lent_60 (by decide) (fun c60 => ?_) (fun c60 => ?_)
    · rw [if_pos c60] at h
      refine PW.iload 3 dX10_lent_131 rfl ?_
      have h := Option.some.inj h; subst h
      exact PW.ret dX10_lent_133 trivial rfl
    · rw [if_neg c60] at h
      refine PW.iload 5 dX10_lent_63 rfl ?_
      refine PW.iload_n 1 dX10_lent_65 rfl rfl ?_
      refine PW.iconst (x := (-1)) dX10_lent_66 (by decide) ?_
      refine PW.ixor dX10_lent_67 ?_
      refine PW.iand dX10_lent_68 ?_
      refine PW.istore (l' := [(7, .int (a6 &&& (a1 ^^^ (-1)))), (0, .ref (ga K a0)), (1, .int a1), (2, .int a2), (4, .int a4), (5, .int a5), (6, .int a6)]) dX10_lent_69 (by decide) rfl ?_
      refine PW.iload 0 dX10_lent_71 rfl ?_
      refine PW.callSi (As := [.int (a6 &&& (a1 ^^^ (-1)))]) (rest := []) cal_J6_bitCount_0f7a4 dX10_lent_73 wd_661 rfl rfl (rmLe (by omega)) (Nat.le_of_ble_eq_true rfl) rm_0 (mf_J6_bitCount_0f7a4 (a6 &&& (a1 ^^^ (-1))) _ rfl) ?_
      refine PW.iload 5 dX10_lent_76 rfl ?_
      refine PW.icmp_ge (tgt := 85) dX10_lent_78 (by decide) (fun c78 => ?_) (fun c78 => ?_)
      · rw [if_pos c78] at h
        refine PW.iconst (x := 0) dX10_lent_85 (by decide) ?_
        exact PW.sub (l' := [(0, .ref (ga K a0)), (1, .int a1), (2, .int a2), (4, .int a4), (5, .int a5), (6, .int a6), (7, .int (a6 &&& (a1 ^^^ (-1))))]) [1, 2, 3, 4, 5, 6, 0] rfl (mf_X10_lent_J86 ih a0 a1 a2 a4 a5 a6 (a6 &&& (a1 ^^^ (-1))) 0 hp _ h)
      · rw [if_neg c78] at h
        refine PW.iconst (x := 1) dX10_lent_81 (by decide) ?_
        refine PW.goto (tgt := 86) dX10_lent_82 (by decide) ?_
        exact PW.sub (l' := [(0, .ref (ga K a0)), (1, .int a1), (2, .int a2), (4, .int a4), (5, .int a5), (6, .int a6), (7, .int (a6 &&& (a1 ^^^ (-1))))]) [1, 2, 3, 4, 5, 6, 0] rfl (mf_X10_lent_J86 ih a0 a1 a2 a4 a5 a6 (a6 &&& (a1 ^^^ (-1))) 1 hp _ h)
set_option maxRecDepth 100000 in
set_option maxHeartbeats 4000000 in
theorem mf_X10_lent {K : GK} : ∀ (a0 : Nat) (a1 : Int32) (a2 : Int32) (a3 : Int32) (hp : PH) (r : (Int32 × PH)), f_X10_lent a0 a1 a2 a3 hp = some r → PM K (4) M_X10_lent [.ref (ga K a0), .int a1, .int a2, .int a3] hp (some (.int r.1)) r.2 := by
  intro a0 a1 a2 a3 hp r h
  unfold f_X10_lent at h
  refine PM.enter (l0 := [(0, .ref (ga K a0)), (1, .int a1), (2, .int a2), (3, .int a3)]) (by decide +kernel) rfl (Nat.le_of_ble_eq_true rfl) rfl ?_
  refine PW.aload_n 0 dX10_lent_0 rfl rfl ?_
  obtain ⟨x1, hx1, h⟩ := bind_some h
  refine PW.getR cls_X10 (j := 0) (by decide) dX10_lent_1 wd_325 hx1 ?_
  obtain ⟨x2, hx2, h⟩ := bind_some h
  refine PW.getR cls_X8 (j := 0) (by decide) dX10_lent_4 wd_198 hx2 ?_
  refine PW.iload_n 1 dX10_lent_7 rfl rfl ?_
  obtain ⟨q3, hq3, h⟩ := bind_some h
  obtain ⟨hkq3, hcq3, hq3⟩ := vC_spec hq3
  refine PW.callVi (As := [.int a1]) (rest := []) (k := x2) cal_X7_hasSet dX10_lent_8 wd_666 rfl rfl (rmLe (by omega)) (Nat.le_of_ble_eq_true rfl) rm_0 hkq3 hcq3 (mf_X7_hasSet x2 a1 hp _ hq3) ?_
  refine PW.if_eq (tgt := 23) dX10_lent_11 (by decide) (fun c11 => ?_) (fun c11 => ?_)
  · rw [if_pos c11] at h
    refine PW.aload_n 0 dX10_lent_23 rfl rfl ?_
    refine PW.bipush (x := (-2)) dX10_lent_24 (by decide) ?_
    obtain ⟨q4, hq4, h⟩ := bind_some h
    obtain ⟨hkq4, hcq4, hq4⟩ := vC_spec hq4
    refine PW.callVi (As := [.int (-2)]) (rest := []) (k := a0) cal_X10_refuse dX10_lent_26 wd_398 rfl rfl (rmLe (by omega)) (Nat.le_of_ble_eq_true rfl) rm_0 hkq4 hcq4 (mf_X10_refuse a0 (-2) hp _ hq4) ?_
    have h := Option.some.inj h; subst h
    exact PW.ret dX10_lent_29 trivial rfl
  · rw [if_neg c11] at h
    refine PW.aload_n 0 dX10_lent_14 rfl rfl ?_
    refine PW.iload_n 2 dX10_lent_15 rfl rfl ?_
    refine PW.iload_n 3 dX10_lent_16 rfl rfl ?_
    obtain ⟨q5, hq5, h⟩ := bind_some h
    obtain ⟨hkq5, hcq5, hq5⟩ := vC_spec hq5
    refine PW.callVi (As := [.int a2, .int a3]) (rest := []) (k := a0) cal_X10_isPlace dX10_lent_17 wd_484 rfl rfl (rmLe (by omega)) (Nat.le_of_ble_eq_true rfl) rm_0 hkq5 hcq5 (mf_X10_isPlace a0 a2 a3 hp _ hq5) ?_
    refine PW.if_ne (tgt := 30) dX10_lent_20 (by decide) (fun c20 => ?_) (fun c20 => ?_)
    · rw [if_neg c20] at h
      refine PW.aload_n 0 dX10_lent_30 rfl rfl ?_
      obtain ⟨x6, hx6, h⟩ := bind_some h
      refine PW.getR cls_X10 (j := 5) (by decide) dX10_lent_31 wd_330 hx6 ?_
      refine PW.iload_n 3 dX10_lent_34 rfl rfl ?_
      obtain ⟨q7, hq7, h⟩ := bind_some h
      obtain ⟨hkq7, hcq7, hq7⟩ := vC_spec hq7
      refine PW.callVv (As := [.int a3]) (rest := []) (k := x6) cal_X3_standOn dX10_lent_35 wd_492 rfl rfl (rmLe (by omega)) (Nat.le_of_ble_eq_true rfl) rm_0 hkq7 hcq7 (mf_X3_standOn x6 a3 hp _ hq7) ?_
      refine PW.iconst (x := (-1)) dX10_lent_38 (by decide) ?_
      refine PW.istore (l' := [(4, .int (-1)), (0, .ref (ga K a0)), (1, .int a1), (2, .int a2), (3, .int a3)]) dX10_lent_39 (by decide) rfl ?_
      refine PW.bipush (x := 9) dX10_lent_41 (by decide) ?_
      refine PW.istore (l' := [(5, .int 9), (4, .int (-1)), (0, .ref (ga K a0)), (1, .int a1), (2, .int a2), (3, .int a3)]) dX10_lent_43 (by decide) rfl ?_
      refine PW.iconst (x := 1) dX10_lent_45 (by decide) ?_
      refine PW.istore (l' := [(6, .int 1), (5, .int 9), (4, .int (-1)), (0, .ref (ga K a0)), (1, .int a1), (2, .int a2), (3, .int a3)]) dX10_lent_46 (by decide) rfl ?_
      exact PW.sub (l' := [(0, .ref (ga K a0)), (1, .int a1), (2, .int a2), (4, .int (-1)), (5, .int 9), (6, .int 1)]) [3, 4, 5, 2, 1, 0] rfl (mf_X10_lent_L48 NN a0 a1 a2 (-1) 9 1 q7 _ h)
    · rw [if_pos c20] at h
      refine PW.aload_n 0 dX10_lent_23 rfl rfl ?_
      refine PW.bipush (x := (-2)) dX10_lent_24 (by decide) ?_
      obtain ⟨q15, hq15, h⟩ := bind_some h
      obtain ⟨hkq15, hcq15, hq15⟩ := vC_spec hq15
      refine PW.callVi (As := [.int (-2)]) (rest := []) (k := a0) cal_X10_refuse dX10_lent_26 wd_398 rfl rfl (rmLe (by omega)) (Nat.le_of_ble_eq_true rfl) rm_0 hkq15 hcq15 (mf_X10_refuse a0 (-2) hp _ hq15) ?_
      have h := Option.some.inj h; subst h
      exact PW.ret dX10_lent_29 trivial rfl
