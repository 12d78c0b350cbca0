-- X7_addPerson
def f_X7_addPerson (a0 : Nat) (a1 : Int32) (hp : PH) : Option (Int32 × PH) := (gI hp a0 6 0).bind fun x1 => (if x1 < 8 then (gR hp a0 6 2).bind fun x2 => (gI hp a0 6 0).bind fun x3 => (uI hp x2 x3 a1).bind fun hp4 => (gR hp4 a0 6 3).bind fun x5 => (gI hp4 a0 6 0).bind fun x6 => (f_X1_yearOf a1).bind fun q7 => (uI hp4 x5 x6 q7).bind fun hp8 => (gR hp8 a0 6 4).bind fun x9 => (gI hp8 a0 6 0).bind fun x10 => (gR hp8 a0 6 3).bind fun x11 => (gI hp8 a0 6 0).bind fun x12 => (aI hp8 x11 0 x12).bind fun x13 => (uI hp8 x9 x10 (f_X1_placeOf a1 x13)).bind fun hp15 => (gR hp15 a0 6 5).bind fun x16 => (gI hp15 a0 6 0).bind fun x17 => (uI hp15 x16 x17 0).bind fun hp18 => (gR hp18 a0 6 6).bind fun x19 => (gI hp18 a0 6 0).bind fun x20 => (uI hp18 x19 x20 0).bind fun hp21 => (gI hp21 a0 6 0).bind fun x22 => (pI hp21 a0 6 0 (x22 + 1)).bind fun hp23 => (some (x22, hp23)) else (some ((-4), hp)))
set_option maxRecDepth 100000 in
set_option maxHeartbeats 4000000 in
theorem mf_X7_addPerson {K : GK} : ∀ (a0 : Nat) (a1 : Int32) (hp : PH) (r : (Int32 × PH)), f_X7_addPerson a0 a1 hp = some r → PM K (2) M_X7_addPerson [.ref (ga K a0), .int a1] hp (some (.int r.1)) r.2 := by
  intro a0 a1 hp r h
  unfold f_X7_addPerson at h
  refine PM.enter (l0 := [(0, .ref (ga K a0)), (1, .int a1)]) (by decide +kernel) rfl (Nat.le_of_ble_eq_true rfl) rfl ?_
  refine PW.aload_n 0 dX7_addPerson_0 rfl rfl ?_
  obtain ⟨x1, hx1, h⟩ := bind_some h
  refine PW.getI cls_X7 (j := 0) (by decide) dX7_addPerson_1 wd_97 hx1 ?_
  refine PW.bipush (x := 8) dX7_addPerson_4 (by decide) ?_
  refine PW.icmp_lt (tgt := 12) dX7_addPerson_6 (by decide) (fun c6 => ?_) (fun c6 => ?_)
  · rw [if_pos c6] at h
    refine PW.aload_n 0 dX7_addPerson_12 rfl rfl ?_
    obtain ⟨x2, hx2, h⟩ := bind_some h
    refine PW.getR cls_X7 (j := 2) (by decide) dX7_addPerson_13 wd_103 hx2 ?_
    refine PW.aload_n 0 dX7_addPerson_16 rfl rfl ?_
    obtain ⟨x3, hx3, h⟩ := bind_some h
    refine PW.getI cls_X7 (j := 0) (by decide) dX7_addPerson_17 wd_97 hx3 ?_
    refine PW.iload_n 1 dX7_addPerson_20 rfl rfl ?_
    obtain ⟨hp4, hhp4, h⟩ := bind_some h
    refine PW.iast dX7_addPerson_21 hhp4 ?_
    refine PW.aload_n 0 dX7_addPerson_22 rfl rfl ?_
    obtain ⟨x5, hx5, h⟩ := bind_some h
    refine PW.getR cls_X7 (j := 3) (by decide) dX7_addPerson_23 wd_105 hx5 ?_
    refine PW.aload_n 0 dX7_addPerson_26 rfl rfl ?_
    obtain ⟨x6, hx6, h⟩ := bind_some h
    refine PW.getI cls_X7 (j := 0) (by decide) dX7_addPerson_27 wd_97 hx6 ?_
    refine PW.iload_n 1 dX7_addPerson_30 rfl rfl ?_
    obtain ⟨q7, hq7, h⟩ := bind_some h
    refine PW.callSi (As := [.int a1]) (rest := [.int x6, .ref (ga K x5)]) cal_X1_yearOf dX7_addPerson_31 wd_432 rfl rfl (rmLe (by omega)) (Nat.le_of_ble_eq_true rfl) rm_0 (mf_X1_yearOf a1 _ hq7) ?_
    obtain ⟨hp8, hhp8, h⟩ := bind_some h
    refine PW.iast dX7_addPerson_34 hhp8 ?_
    refine PW.aload_n 0 dX7_addPerson_35 rfl rfl ?_
    obtain ⟨x9, hx9, h⟩ := bind_some h
    refine PW.getR cls_X7 (j := 4) (by decide) dX7_addPerson_36 wd_106 hx9 ?_
    refine PW.aload_n 0 dX7_addPerson_39 rfl rfl ?_
    obtain ⟨x10, hx10, h⟩ := bind_some h
    refine PW.getI cls_X7 (j := 0) (by decide) dX7_addPerson_40 wd_97 hx10 ?_
    refine PW.iload_n 1 dX7_addPerson_43 rfl rfl ?_
    refine PW.aload_n 0 dX7_addPerson_44 rfl rfl ?_
    obtain ⟨x11, hx11, h⟩ := bind_some h
    refine PW.getR cls_X7 (j := 3) (by decide) dX7_addPerson_45 wd_105 hx11 ?_
    refine PW.aload_n 0 dX7_addPerson_48 rfl rfl ?_
    obtain ⟨x12, hx12, h⟩ := bind_some h
    refine PW.getI cls_X7 (j := 0) (by decide) dX7_addPerson_49 wd_97 hx12 ?_
    obtain ⟨x13, hx13, h⟩ := bind_some h
    refine PW.iald dX7_addPerson_52 hx13 ?_
    refine PW.callSi (As := [.int a1, .int x13]) (rest := [.int x10, .ref (ga K x9)]) cal_X1_placeOf dX7_addPerson_53 wd_433 rfl rfl (rmLe (by omega)) (Nat.le_of_ble_eq_true rfl) rm_0 (mf_X1_placeOf a1 x13 _ rfl) ?_
    obtain ⟨hp15, hhp15, h⟩ := bind_some h
    refine PW.iast dX7_addPerson_56 hhp15 ?_
    refine PW.aload_n 0 dX7_addPerson_57 rfl rfl ?_
    obtain ⟨x16, hx16, h⟩ := bind_some h
    refine PW.getR cls_X7 (j := 5) (by decide) dX7_addPerson_58 wd_107 hx16 ?_
    refine PW.aload_n 0 dX7_addPerson_61 rfl rfl ?_
    obtain ⟨x17, hx17, h⟩ := bind_some h
    refine PW.getI cls_X7 (j := 0) (by decide) dX7_addPerson_62 wd_97 hx17 ?_
    refine PW.iconst (x := 0) dX7_addPerson_65 (by decide) ?_
    obtain ⟨hp18, hhp18, h⟩ := bind_some h
    refine PW.iast dX7_addPerson_66 hhp18 ?_
    refine PW.aload_n 0 dX7_addPerson_67 rfl rfl ?_
    obtain ⟨x19, hx19, h⟩ := bind_some h
    refine PW.getR cls_X7 (j := 6) (by decide) dX7_addPerson_68 wd_112 hx19 ?_
    refine PW.aload_n 0 dX7_addPerson_71 rfl rfl ?_
    obtain ⟨x20, hx20, h⟩ := bind_some h
    refine PW.getI cls_X7 (j := 0) (by decide) dX7_addPerson_72 wd_97 hx20 ?_
    refine PW.iconst (x := 0) dX7_addPerson_75 (by decide) ?_
    obtain ⟨hp21, hhp21, h⟩ := bind_some h
    refine PW.iast dX7_addPerson_76 hhp21 ?_
    refine PW.aload_n 0 dX7_addPerson_77 rfl rfl ?_
    refine PW.dup dX7_addPerson_78 rfl ?_
    obtain ⟨x22, hx22, h⟩ := bind_some h
    refine PW.getI cls_X7 (j := 0) (by decide) dX7_addPerson_79 wd_97 hx22 ?_
    refine PW.dup_x1 dX7_addPerson_82 rfl rfl ?_
    refine PW.iconst (x := 1) dX7_addPerson_83 (by decide) ?_
    refine PW.iadd dX7_addPerson_84 ?_
    obtain ⟨hp23, hhp23, h⟩ := bind_some h
    refine PW.putI cls_X7 clw_X7 (j := 0) (by decide) dX7_addPerson_85 wd_97 rfl rfl hhp23 ?_
    have h := Option.some.inj h; subst h
    exact PW.ret dX7_addPerson_88 trivial rfl
  · rw [if_neg c6] at h
    refine PW.bipush (x := (-4)) dX7_addPerson_9 (by decide) ?_
    have h := Option.some.inj h; subst h
    exact PW.ret dX7_addPerson_11 trivial rfl
-- X6_takePerson
def f_X6_takePerson (a0 : Nat) (hp : PH) : Option (Int32 × PH) := (gR hp a0 5 1).bind fun x1 => (gI hp x1 6 0).bind fun x2 => (if 8 ≤ x2 then (some (0, hp)) else (vC hp a0 5 (f_X6_takeNumber a0 1800 2199 hp)).bind fun q3 => (if q3.1 = 0 then (some (0, q3.2)) else (gI q3.2 a0 5 5).bind fun x4 => (vC q3.2 a0 5 (f_X6_takeNumber a0 1 12 q3.2)).bind fun q5 => (if q5.1 = 0 then (some (0, q5.2)) else (gI q5.2 a0 5 5).bind fun x6 => (f_X1_daysOfMonth x4 x6).bind fun q7 => (vC q5.2 a0 5 (f_X6_takeNumber a0 1 q7 q5.2)).bind fun q8 => (if q8.1 = 0 then (some (0, q8.2)) else (gR q8.2 a0 5 1).bind fun x9 => (gI q8.2 a0 5 5).bind fun x10 => (f_X1_numberOf x4 x6 x10).bind fun q11 => (vC q8.2 x9 6 (f_X7_addPerson x9 q11 q8.2)).bind fun q12 => (some (1, q12.2))))))
set_option maxRecDepth 100000 in
set_option maxHeartbeats 4000000 in
theorem mf_X6_takePerson {K : GK} : ∀ (a0 : Nat) (hp : PH) (r : (Int32 × PH)), f_X6_takePerson a0 hp = some r → PM K (3) M_X6_takePerson [.ref (ga K a0)] hp (some (.int r.1)) r.2 := by
  intro a0 hp r h
  unfold f_X6_takePerson at h
  refine PM.enter (l0 := [(0, .ref (ga K a0))]) (by decide +kernel) rfl (Nat.le_of_ble_eq_true rfl) rfl ?_
  refine PW.aload_n 0 dX6_takePerson_0 rfl rfl ?_
  obtain ⟨x1, hx1, h⟩ := bind_some h
  refine PW.getR cls_X6 (j := 1) (by decide) dX6_takePerson_1 wd_224 hx1 ?_
  obtain ⟨x2, hx2, h⟩ := bind_some h
  refine PW.getI cls_X7 (j := 0) (by decide) dX6_takePerson_4 wd_96 hx2 ?_
  refine PW.bipush (x := 8) dX6_takePerson_7 (by decide) ?_
  refine PW.icmp_ge (tgt := 25) dX6_takePerson_9 (by decide) (fun c9 => ?_) (fun c9 => ?_)
  · rw [if_pos c9] at h
    refine PW.iconst (x := 0) dX6_takePerson_25 (by decide) ?_
    have h := Option.some.inj h; subst h
    exact PW.ret dX6_takePerson_26 (z_nar (Or.inl rfl)).1 rfl
  · rw [if_neg c9] at h
    refine PW.aload_n 0 dX6_takePerson_12 rfl rfl ?_
    refine PW.sipush (x := 1800) dX6_takePerson_13 (by decide) ?_
    refine PW.sipush (x := 2199) dX6_takePerson_16 (by decide) ?_
    obtain ⟨q3, hq3, h⟩ := bind_some h
    obtain ⟨hkq3, hcq3, hq3⟩ := vC_spec hq3
    refine PW.callVi (As := [.int 1800, .int 2199]) (rest := []) (k := a0) cal_X6_takeNumber dX6_takePerson_19 wd_624 rfl rfl (rmLe (by omega)) (Nat.le_of_ble_eq_true rfl) rm_0 hkq3 hcq3 (mf_X6_takeNumber a0 1800 2199 hp _ hq3) ?_
    refine PW.if_ne (tgt := 27) dX6_takePerson_22 (by decide) (fun c22 => ?_) (fun c22 => ?_)
    · rw [if_neg c22] at h
      refine PW.aload_n 0 dX6_takePerson_27 rfl rfl ?_
      obtain ⟨x4, hx4, h⟩ := bind_some h
      refine PW.getI cls_X6 (j := 5) (by decide) dX6_takePerson_28 wd_228 hx4 ?_
      refine PW.istore_n (l' := [(1, .int x4), (0, .ref (ga K a0))]) dX6_takePerson_31 rfl (by decide) rfl ?_
      refine PW.aload_n 1 dX6_takePerson_32 rfl rfl ?_
      refine PW.iconst (x := 1) dX6_takePerson_33 (by decide) ?_
      refine PW.bipush (x := 12) dX6_takePerson_34 (by decide) ?_
      obtain ⟨q5, hq5, h⟩ := bind_some h
      obtain ⟨hkq5, hcq5, hq5⟩ := vC_spec hq5
      refine PW.callVi (As := [.int 1, .int 12]) (rest := []) (k := a0) cal_X6_takeNumber dX6_takePerson_36 wd_624 rfl rfl (rmLe (by omega)) (Nat.le_of_ble_eq_true rfl) rm_0 hkq5 hcq5 (mf_X6_takeNumber a0 1 12 q3.2 _ hq5) ?_
      refine PW.if_ne (tgt := 44) dX6_takePerson_39 (by decide) (fun c39 => ?_) (fun c39 => ?_)
      · rw [if_neg c39] at h
        refine PW.aload_n 1 dX6_takePerson_44 rfl rfl ?_
        obtain ⟨x6, hx6, h⟩ := bind_some h
        refine PW.getI cls_X6 (j := 5) (by decide) dX6_takePerson_45 wd_228 hx6 ?_
        refine PW.istore_n (l' := [(2, .int x6), (1, .int x4), (0, .ref (ga K a0))]) dX6_takePerson_48 rfl (by decide) rfl ?_
        refine PW.aload_n 2 dX6_takePerson_49 rfl rfl ?_
        refine PW.iconst (x := 1) dX6_takePerson_50 (by decide) ?_
        refine PW.iload_n 1 dX6_takePerson_51 rfl rfl ?_
        refine PW.iload_n 0 dX6_takePerson_52 rfl rfl ?_
        obtain ⟨q7, hq7, h⟩ := bind_some h
        refine PW.callSi (As := [.int x4, .int x6]) (rest := [.int 1, .ref (ga K a0)]) cal_X1_daysOfMonth dX6_takePerson_53 wd_628 rfl rfl (rmLe (by omega)) (Nat.le_of_ble_eq_true rfl) rm_0 (mf_X1_daysOfMonth x4 x6 _ hq7) ?_
        obtain ⟨q8, hq8, h⟩ := bind_some h
        obtain ⟨hkq8, hcq8, hq8⟩ := vC_spec hq8
        refine PW.callVi (As := [.int 1, .int q7]) (rest := []) (k := a0) cal_X6_takeNumber dX6_takePerson_56 wd_624 rfl rfl (rmLe (by omega)) (Nat.le_of_ble_eq_true rfl) rm_0 hkq8 hcq8 (mf_X6_takeNumber a0 1 q7 q5.2 _ hq8) ?_
        refine PW.if_ne (tgt := 64) dX6_takePerson_59 (by decide) (fun c59 => ?_) (fun c59 => ?_)
        · rw [if_neg c59] at h
          refine PW.aload_n 2 dX6_takePerson_64 rfl rfl ?_
          obtain ⟨x9, hx9, h⟩ := bind_some h
          refine PW.getR cls_X6 (j := 1) (by decide) dX6_takePerson_65 wd_224 hx9 ?_
          refine PW.iload_n 1 dX6_takePerson_68 rfl rfl ?_
          refine PW.iload_n 0 dX6_takePerson_69 rfl rfl ?_
          refine PW.aload_n 2 dX6_takePerson_70 rfl rfl ?_
          obtain ⟨x10, hx10, h⟩ := bind_some h
          refine PW.getI cls_X6 (j := 5) (by decide) dX6_takePerson_71 wd_228 hx10 ?_
          obtain ⟨q11, hq11, h⟩ := bind_some h
          refine PW.callSi (As := [.int x4, .int x6, .int x10]) (rest := [.ref (ga K x9)]) cal_X1_numberOf dX6_takePerson_74 wd_629 rfl rfl (rmLe (by omega)) (Nat.le_of_ble_eq_true rfl) rm_0 (mf_X1_numberOf x4 x6 x10 _ hq11) ?_
          obtain ⟨q12, hq12, h⟩ := bind_some h
          obtain ⟨hkq12, hcq12, hq12⟩ := vC_spec hq12
          refine PW.callVi (As := [.int q11]) (rest := []) (k := x9) cal_X7_addPerson dX6_takePerson_77 wd_630 rfl rfl (rmLe (by omega)) (Nat.le_of_ble_eq_true rfl) rm_0 hkq12 hcq12 (mf_X7_addPerson x9 q11 q8.2 _ hq12) ?_
          refine PW.pop dX6_takePerson_80 rfl ?_
          refine PW.iconst (x := 1) dX6_takePerson_81 (by decide) ?_
          have h := Option.some.inj h; subst h
          exact PW.ret dX6_takePerson_82 (z_nar (Or.inr rfl)).1 rfl
        · rw [if_pos c59] at h
          refine PW.iconst (x := 0) dX6_takePerson_62 (by decide) ?_
          have h := Option.some.inj h; subst h
          exact PW.ret dX6_takePerson_63 (z_nar (Or.inl rfl)).1 rfl
      · rw [if_pos c39] at h
        refine PW.iconst (x := 0) dX6_takePerson_42 (by decide) ?_
        have h := Option.some.inj h; subst h
        exact PW.ret dX6_takePerson_43 (z_nar (Or.inl rfl)).1 rfl
    · rw [if_pos c22] at h
      refine PW.iconst (x := 0) dX6_takePerson_25 (by decide) ?_
      have h := Option.some.inj h; subst h
      exact PW.ret dX6_takePerson_26 (z_nar (Or.inl rfl)).1 rfl
-- X7_addGate
def f_X7_addGate (a0 : Nat) (a1 : Int32) (a2 : Int32) (hp : PH) : Option (Int32 × PH) := (gI hp a0 6 1).bind fun x1 => (if x1 < 4 then (gR hp a0 6 7).bind fun x2 => (gI hp a0 6 1).bind fun x3 => (uI hp x2 x3 a1).bind fun hp4 => (gR hp4 a0 6 8).bind fun x5 => (gI hp4 a0 6 1).bind fun x6 => (uI hp4 x5 x6 a2).bind fun hp7 => (gI hp7 a0 6 1).bind fun x8 => (pI hp7 a0 6 1 (x8 + 1)).bind fun hp9 => (some (x8, hp9)) else (some ((-4), hp)))
set_option maxRecDepth 100000 in
set_option maxHeartbeats 4000000 in
theorem mf_X7_addGate {K : GK} : ∀ (a0 : Nat) (a1 : Int32) (a2 : Int32) (hp : PH) (r : (Int32 × PH)), f_X7_addGate a0 a1 a2 hp = some r → PM K (0) M_X7_addGate [.ref (ga K a0), .int a1, .int a2] hp (some (.int r.1)) r.2 := by
  intro a0 a1 a2 hp r h
  unfold f_X7_addGate at h
  refine PM.enter (l0 := [(0, .ref (ga K a0)), (1, .int a1), (2, .int a2)]) (by decide +kernel) rfl (Nat.le_of_ble_eq_true rfl) rfl ?_
  refine PW.aload_n 0 dX7_addGate_0 rfl rfl ?_
  obtain ⟨x1, hx1, h⟩ := bind_some h
  refine PW.getI cls_X7 (j := 1) (by decide) dX7_addGate_1 wd_101 hx1 ?_
  refine PW.iconst (x := 4) dX7_addGate_4 (by decide) ?_
  refine PW.icmp_lt (tgt := 11) dX7_addGate_5 (by decide) (fun c5 => ?_) (fun c5 => ?_)
  · rw [if_pos c5] at h
    refine PW.aload_n 0 dX7_addGate_11 rfl rfl ?_
    obtain ⟨x2, hx2, h⟩ := bind_some h
    refine PW.getR cls_X7 (j := 7) (by decide) dX7_addGate_12 wd_117 hx2 ?_
    refine PW.aload_n 0 dX7_addGate_15 rfl rfl ?_
    obtain ⟨x3, hx3, h⟩ := bind_some h
    refine PW.getI cls_X7 (j := 1) (by decide) dX7_addGate_16 wd_101 hx3 ?_
    refine PW.iload_n 1 dX7_addGate_19 rfl rfl ?_
    obtain ⟨hp4, hhp4, h⟩ := bind_some h
    refine PW.iast dX7_addGate_20 hhp4 ?_
    refine PW.aload_n 0 dX7_addGate_21 rfl rfl ?_
    obtain ⟨x5, hx5, h⟩ := bind_some h
    refine PW.getR cls_X7 (j := 8) (by decide) dX7_addGate_22 wd_120 hx5 ?_
    refine PW.aload_n 0 dX7_addGate_25 rfl rfl ?_
    obtain ⟨x6, hx6, h⟩ := bind_some h
    refine PW.getI cls_X7 (j := 1) (by decide) dX7_addGate_26 wd_101 hx6 ?_
    refine PW.iload_n 2 dX7_addGate_29 rfl rfl ?_
    obtain ⟨hp7, hhp7, h⟩ := bind_some h
    refine PW.iast dX7_addGate_30 hhp7 ?_
    refine PW.aload_n 0 dX7_addGate_31 rfl rfl ?_
    refine PW.dup dX7_addGate_32 rfl ?_
    obtain ⟨x8, hx8, h⟩ := bind_some h
    refine PW.getI cls_X7 (j := 1) (by decide) dX7_addGate_33 wd_101 hx8 ?_
    refine PW.dup_x1 dX7_addGate_36 rfl rfl ?_
    refine PW.iconst (x := 1) dX7_addGate_37 (by decide) ?_
    refine PW.iadd dX7_addGate_38 ?_
    obtain ⟨hp9, hhp9, h⟩ := bind_some h
    refine PW.putI cls_X7 clw_X7 (j := 1) (by decide) dX7_addGate_39 wd_101 rfl rfl hhp9 ?_
    have h := Option.some.inj h; subst h
    exact PW.ret dX7_addGate_42 trivial rfl
  · rw [if_neg c5] at h
    refine PW.bipush (x := (-4)) dX7_addGate_8 (by decide) ?_
    have h := Option.some.inj h; subst h
    exact PW.ret dX7_addGate_10 trivial rfl
-- X6_takeGate
def f_X6_takeGate (a0 : Nat) (hp : PH) : Option (Int32 × PH) := (gR hp a0 5 1).bind fun x1 => (gI hp x1 6 1).bind fun x2 => (if 4 ≤ x2 then (some (0, hp)) else (vC hp a0 5 (f_X6_takeNumber a0 0 4 hp)).bind fun q3 => (if q3.1 = 0 then (some (0, q3.2)) else (gI q3.2 a0 5 5).bind fun x4 => (vC q3.2 a0 5 (f_X6_takeNumber a0 1 8 q3.2)).bind fun q5 => (if q5.1 = 0 then (some (0, q5.2)) else (gR q5.2 a0 5 1).bind fun x6 => (gI q5.2 a0 5 5).bind fun x7 => (vC q5.2 x6 6 (f_X7_addGate x6 x4 x7 q5.2)).bind fun q8 => (some (1, q8.2)))))
set_option maxRecDepth 100000 in
set_option maxHeartbeats 4000000 in
theorem mf_X6_takeGate {K : GK} : ∀ (a0 : Nat) (hp : PH) (r : (Int32 × PH)), f_X6_takeGate a0 hp = some r → PM K (3) M_X6_takeGate [.ref (ga K a0)] hp (some (.int r.1)) r.2 := by
  intro a0 hp r h
  unfold f_X6_takeGate at h
  refine PM.enter (l0 := [(0, .ref (ga K a0))]) (by decide +kernel) rfl (Nat.le_of_ble_eq_true rfl) rfl ?_
  refine PW.aload_n 0 dX6_takeGate_0 rfl rfl ?_
  obtain ⟨x1, hx1, h⟩ := bind_some h
  refine PW.getR cls_X6 (j := 1) (by decide) dX6_takeGate_1 wd_224 hx1 ?_
  obtain ⟨x2, hx2, h⟩ := bind_some h
  refine PW.getI cls_X7 (j := 1) (by decide) dX6_takeGate_4 wd_100 hx2 ?_
  refine PW.iconst (x := 4) dX6_takeGate_7 (by decide) ?_
  refine PW.icmp_ge (tgt := 20) dX6_takeGate_8 (by decide) (fun c8 => ?_) (fun c8 => ?_)
  · rw [if_pos c8] at h
    refine PW.iconst (x := 0) dX6_takeGate_20 (by decide) ?_
    have h := Option.some.inj h; subst h
    exact PW.ret dX6_takeGate_21 (z_nar (Or.inl rfl)).1 rfl
  · rw [if_neg c8] at h
    refine PW.aload_n 0 dX6_takeGate_11 rfl rfl ?_
    refine PW.iconst (x := 0) dX6_takeGate_12 (by decide) ?_
    refine PW.iconst (x := 4) dX6_takeGate_13 (by decide) ?_
    obtain ⟨q3, hq3, h⟩ := bind_some h
    obtain ⟨hkq3, hcq3, hq3⟩ := vC_spec hq3
    refine PW.callVi (As := [.int 0, .int 4]) (rest := []) (k := a0) cal_X6_takeNumber dX6_takeGate_14 wd_624 rfl rfl (rmLe (by omega)) (Nat.le_of_ble_eq_true rfl) rm_0 hkq3 hcq3 (mf_X6_takeNumber a0 0 4 hp _ hq3) ?_
    refine PW.if_ne (tgt := 22) dX6_takeGate_17 (by decide) (fun c17 => ?_) (fun c17 => ?_)
    · rw [if_neg c17] at h
      refine PW.aload_n 0 dX6_takeGate_22 rfl rfl ?_
      obtain ⟨x4, hx4, h⟩ := bind_some h
      refine PW.getI cls_X6 (j := 5) (by decide) dX6_takeGate_23 wd_228 hx4 ?_
      refine PW.istore_n (l' := [(1, .int x4), (0, .ref (ga K a0))]) dX6_takeGate_26 rfl (by decide) rfl ?_
      refine PW.aload_n 1 dX6_takeGate_27 rfl rfl ?_
      refine PW.iconst (x := 1) dX6_takeGate_28 (by decide) ?_
      refine PW.bipush (x := 8) dX6_takeGate_29 (by decide) ?_
      obtain ⟨q5, hq5, h⟩ := bind_some h
      obtain ⟨hkq5, hcq5, hq5⟩ := vC_spec hq5
      refine PW.callVi (As := [.int 1, .int 8]) (rest := []) (k := a0) cal_X6_takeNumber dX6_takeGate_31 wd_624 rfl rfl (rmLe (by omega)) (Nat.le_of_ble_eq_true rfl) rm_0 hkq5 hcq5 (mf_X6_takeNumber a0 1 8 q3.2 _ hq5) ?_
      refine PW.if_ne (tgt := 39) dX6_takeGate_34 (by decide) (fun c34 => ?_) (fun c34 => ?_)
      · rw [if_neg c34] at h
        refine PW.aload_n 1 dX6_takeGate_39 rfl rfl ?_
        obtain ⟨x6, hx6, h⟩ := bind_some h
        refine PW.getR cls_X6 (j := 1) (by decide) dX6_takeGate_40 wd_224 hx6 ?_
        refine PW.iload_n 0 dX6_takeGate_43 rfl rfl ?_
        refine PW.aload_n 1 dX6_takeGate_44 rfl rfl ?_
        obtain ⟨x7, hx7, h⟩ := bind_some h
        refine PW.getI cls_X6 (j := 5) (by decide) dX6_takeGate_45 wd_228 hx7 ?_
        obtain ⟨q8, hq8, h⟩ := bind_some h
        obtain ⟨hkq8, hcq8, hq8⟩ := vC_spec hq8
        refine PW.callVi (As := [.int x4, .int x7]) (rest := []) (k := x6) cal_X7_addGate dX6_takeGate_48 wd_636 rfl rfl (rmLe (by omega)) (Nat.le_of_ble_eq_true rfl) rm_0 hkq8 hcq8 (mf_X7_addGate x6 x4 x7 q5.2 _ hq8) ?_
        refine PW.pop dX6_takeGate_51 rfl ?_
        refine PW.iconst (x := 1) dX6_takeGate_52 (by decide) ?_
        have h := Option.some.inj h; subst h
        exact PW.ret dX6_takeGate_53 (z_nar (Or.inr rfl)).1 rfl
      · rw [if_pos c34] at h
        refine PW.iconst (x := 0) dX6_takeGate_37 (by decide) ?_
        have h := Option.some.inj h; subst h
        exact PW.ret dX6_takeGate_38 (z_nar (Or.inl rfl)).1 rfl
    · rw [if_pos c17] at h
      refine PW.iconst (x := 0) dX6_takeGate_20 (by decide) ?_
      have h := Option.some.inj h; subst h
      exact PW.ret dX6_takeGate_21 (z_nar (Or.inl rfl)).1 rfl
-- X7_tie
def f_X7_tie (a0 : Nat) (a1 : Int32) (a2 : Int32) (hp : PH) : Option (Int32 × PH) := (aI hp a0 0 a1).bind fun x1 => (if ((iS x1 a2) &&& 1) = 0 then (aI hp a0 0 a1).bind fun x2 => (uI hp a0 a1 (x2 ||| (iL 1 a2))).bind fun hp3 => (aI hp3 a0 0 a2).bind fun x4 => (uI hp3 a0 a2 (x4 ||| (iL 1 a1))).bind fun hp5 => (some (1, hp5)) else (some (0, hp)))
set_option maxRecDepth 100000 in
set_option maxHeartbeats 4000000 in
theorem mf_X7_tie {K : GK} : ∀ (a0 : Nat) (a1 : Int32) (a2 : Int32) (hp : PH) (r : (Int32 × PH)), f_X7_tie a0 a1 a2 hp = some r → PM K (0) M_X7_tie [.ref (ga K a0), .int a1, .int a2] hp (some (.int r.1)) r.2 := by
  intro a0 a1 a2 hp r h
  unfold f_X7_tie at h
  refine PM.enter (l0 := [(0, .ref (ga K a0)), (1, .int a1), (2, .int a2)]) (by decide +kernel) rfl (Nat.le_of_ble_eq_true rfl) rfl ?_
  refine PW.aload_n 0 dX7_tie_0 rfl rfl ?_
  refine PW.iload_n 1 dX7_tie_1 rfl rfl ?_
  obtain ⟨x1, hx1, h⟩ := bind_some h
  refine PW.iald dX7_tie_2 hx1 ?_
  refine PW.iload_n 2 dX7_tie_3 rfl rfl ?_
  refine PW.ishr dX7_tie_4 ?_
  refine PW.iconst (x := 1) dX7_tie_5 (by decide) ?_
  refine PW.iand dX7_tie_6 ?_
  refine PW.if_eq (tgt := 12) dX7_tie_7 (by decide) (fun c7 => ?_) (fun c7 => ?_)
  · rw [if_pos c7] at h
    refine PW.aload_n 0 dX7_tie_12 rfl rfl ?_
    refine PW.iload_n 1 dX7_tie_13 rfl rfl ?_
    refine PW.dup2 dX7_tie_14 rfl rfl ?_
    obtain ⟨x2, hx2, h⟩ := bind_some h
    refine PW.iald dX7_tie_15 hx2 ?_
    refine PW.iconst (x := 1) dX7_tie_16 (by decide) ?_
    refine PW.iload_n 2 dX7_tie_17 rfl rfl ?_
    refine PW.ishl dX7_tie_18 ?_
    refine PW.ior dX7_tie_19 ?_
    obtain ⟨hp3, hhp3, h⟩ := bind_some h
    refine PW.iast dX7_tie_20 hhp3 ?_
    refine PW.aload_n 0 dX7_tie_21 rfl rfl ?_
    refine PW.iload_n 2 dX7_tie_22 rfl rfl ?_
    refine PW.dup2 dX7_tie_23 rfl rfl ?_
    obtain ⟨x4, hx4, h⟩ := bind_some h
    refine PW.iald dX7_tie_24 hx4 ?_
    refine PW.iconst (x := 1) dX7_tie_25 (by decide) ?_
    refine PW.iload_n 1 dX7_tie_26 rfl rfl ?_
    refine PW.ishl dX7_tie_27 ?_
    refine PW.ior dX7_tie_28 ?_
    obtain ⟨hp5, hhp5, h⟩ := bind_some h
    refine PW.iast dX7_tie_29 hhp5 ?_
    refine PW.iconst (x := 1) dX7_tie_30 (by decide) ?_
    have h := Option.some.inj h; subst h
    exact PW.ret dX7_tie_31 (z_nar (Or.inr rfl)).1 rfl
  · rw [if_neg c7] at h
    refine PW.iconst (x := 0) dX7_tie_10 (by decide) ?_
    have h := Option.some.inj h; subst h
    exact PW.ret dX7_tie_11 (z_nar (Or.inl rfl)).1 rfl
-- X6_takeTie
def f_X6_takeTie (a0 : Nat) (a1 : Nat) (hp : PH) : Option (Int32 × PH) := (gR hp a0 5 1).bind fun x1 => (gI hp x1 6 0).bind fun x2 => (vC hp a0 5 (f_X6_takeNumber a0 0 (x2 - 1) hp)).bind fun q3 => (if q3.1 = 0 then (some (0, q3.2)) else (gI q3.2 a0 5 5).bind fun x4 => (gR q3.2 a0 5 1).bind fun x5 => (gI q3.2 x5 6 0).bind fun x6 => (vC q3.2 a0 5 (f_X6_takeNumber a0 0 (x6 - 1) q3.2)).bind fun q7 => (if q7.1 = 0 then (some (0, q7.2)) else (gI q7.2 a0 5 5).bind fun x8 => (if x8 = x4 then (some (0, q7.2)) else (gI q7.2 a0 5 5).bind fun x9 => (f_X7_tie a1 x4 x9 q7.2).bind fun q10 => (some (1, q10.2)))))
set_option maxRecDepth 100000 in
set_option maxHeartbeats 4000000 in
theorem mf_X6_takeTie {K : GK} : ∀ (a0 : Nat) (a1 : Nat) (hp : PH) (r : (Int32 × PH)), f_X6_takeTie a0 a1 hp = some r → PM K (3) M_X6_takeTie [.ref (ga K a0), .ref (ga K a1)] hp (some (.int r.1)) r.2 := by
  intro a0 a1 hp r h
  unfold f_X6_takeTie at h
  refine PM.enter (l0 := [(0, .ref (ga K a0)), (1, .ref (ga K a1))]) (by decide +kernel) rfl (Nat.le_of_ble_eq_true rfl) rfl ?_
  refine PW.aload_n 0 dX6_takeTie_0 rfl rfl ?_
  refine PW.iconst (x := 0) dX6_takeTie_1 (by decide) ?_
  refine PW.aload_n 0 dX6_takeTie_2 rfl rfl ?_
  obtain ⟨x1, hx1, h⟩ := bind_some h
  refine PW.getR cls_X6 (j := 1) (by decide) dX6_takeTie_3 wd_224 hx1 ?_
  obtain ⟨x2, hx2, h⟩ := bind_some h
  refine PW.getI cls_X7 (j := 0) (by decide) dX6_takeTie_6 wd_96 hx2 ?_
  refine PW.iconst (x := 1) dX6_takeTie_9 (by decide) ?_
  refine PW.isub dX6_takeTie_10 ?_
  obtain ⟨q3, hq3, h⟩ := bind_some h
  obtain ⟨hkq3, hcq3, hq3⟩ := vC_spec hq3
  refine PW.callVi (As := [.int 0, .int (x2 - 1)]) (rest := []) (k := a0) cal_X6_takeNumber dX6_takeTie_11 wd_624 rfl rfl (rmLe (by omega)) (Nat.le_of_ble_eq_true rfl) rm_0 hkq3 hcq3 (mf_X6_takeNumber a0 0 (x2 - 1) hp _ hq3) ?_
  refine PW.if_ne (tgt := 19) dX6_takeTie_14 (by decide) (fun c14 => ?_) (fun c14 => ?_)
  · rw [if_neg c14] at h
    refine PW.aload_n 0 dX6_takeTie_19 rfl rfl ?_
    obtain ⟨x4, hx4, h⟩ := bind_some h
    refine PW.getI cls_X6 (j := 5) (by decide) dX6_takeTie_20 wd_228 hx4 ?_
    refine PW.istore_n (l' := [(2, .int x4), (0, .ref (ga K a0)), (1, .ref (ga K a1))]) dX6_takeTie_23 rfl (by decide) rfl ?_
    refine PW.aload_n 1 dX6_takeTie_24 rfl rfl ?_
    refine PW.iconst (x := 0) dX6_takeTie_25 (by decide) ?_
    refine PW.aload_n 1 dX6_takeTie_26 rfl rfl ?_
    obtain ⟨x5, hx5, h⟩ := bind_some h
    refine PW.getR cls_X6 (j := 1) (by decide) dX6_takeTie_27 wd_224 hx5 ?_
    obtain ⟨x6, hx6, h⟩ := bind_some h
    refine PW.getI cls_X7 (j := 0) (by decide) dX6_takeTie_30 wd_96 hx6 ?_
    refine PW.iconst (x := 1) dX6_takeTie_33 (by decide) ?_
    refine PW.isub dX6_takeTie_34 ?_
    obtain ⟨q7, hq7, h⟩ := bind_some h
    obtain ⟨hkq7, hcq7, hq7⟩ := vC_spec hq7
    refine PW.callVi (As := [.int 0, .int (x6 - 1)]) (rest := []) (k := a0) cal_X6_takeNumber dX6_takeTie_35 wd_624 rfl rfl (rmLe (by omega)) (Nat.le_of_ble_eq_true rfl) rm_0 hkq7 hcq7 (mf_X6_takeNumber a0 0 (x6 - 1) q3.2 _ hq7) ?_
    refine PW.if_eq (tgt := 49) dX6_takeTie_38 (by decide) (fun c38 => ?_) (fun c38 => ?_)
    · rw [if_pos c38] at h
      refine PW.iconst (x := 0) dX6_takeTie_49 (by decide) ?_
      have h := Option.some.inj h; subst h
      exact PW.ret dX6_takeTie_50 (z_nar (Or.inl rfl)).1 rfl
    · rw [if_neg c38] at h
      refine PW.aload_n 1 dX6_takeTie_41 rfl rfl ?_
      obtain ⟨x8, hx8, h⟩ := bind_some h
      refine PW.getI cls_X6 (j := 5) (by decide) dX6_takeTie_42 wd_228 hx8 ?_
      refine PW.iload_n 0 dX6_takeTie_45 rfl rfl ?_
      refine PW.icmp_ne (tgt := 51) dX6_takeTie_46 (by decide) (fun c46 => ?_) (fun c46 => ?_)
      · rw [if_neg c46] at h
        refine PW.aload_n 2 dX6_takeTie_51 rfl rfl ?_
        refine PW.iload_n 0 dX6_takeTie_52 rfl rfl ?_
        refine PW.aload_n 1 dX6_takeTie_53 rfl rfl ?_
        obtain ⟨x9, hx9, h⟩ := bind_some h
        refine PW.getI cls_X6 (j := 5) (by decide) dX6_takeTie_54 wd_228 hx9 ?_
        obtain ⟨q10, hq10, h⟩ := bind_some h
        refine PW.callSi (As := [.ref (ga K a1), .int x4, .int x9]) (rest := []) cal_X7_tie dX6_takeTie_57 wd_642 rfl rfl (rmLe (by omega)) (Nat.le_of_ble_eq_true rfl) rm_0 (mf_X7_tie a1 x4 x9 q7.2 _ hq10) ?_
        refine PW.pop dX6_takeTie_60 rfl ?_
        refine PW.iconst (x := 1) dX6_takeTie_61 (by decide) ?_
        have h := Option.some.inj h; subst h
        exact PW.ret dX6_takeTie_62 (z_nar (Or.inr rfl)).1 rfl
      · rw [if_pos c46] at h
        refine PW.iconst (x := 0) dX6_takeTie_49 (by decide) ?_
        have h := Option.some.inj h; subst h
        exact PW.ret dX6_takeTie_50 (z_nar (Or.inl rfl)).1 rfl
  · rw [if_pos c14] at h
    refine PW.iconst (x := 0) dX6_takeTie_17 (by decide) ?_
    have h := Option.some.inj h; subst h
    exact PW.ret dX6_takeTie_18 (z_nar (Or.inl rfl)).1 rfl
-- X6_takeContent
def f_X6_takeContent (a0 : Nat) (hp : PH) : Option (Int32 × PH) := (vC hp a0 5 (f_X6_isWord a0 0 hp)).bind fun q1 => (if q1 = 0 then (vC hp a0 5 (f_X6_isWord a0 1 hp)).bind fun q2 => (if q2 = 0 then (vC hp a0 5 (f_X6_isWord a0 2 hp)).bind fun q3 => (if q3 = 0 then (vC hp a0 5 (f_X6_isWord a0 3 hp)).bind fun q4 => (if q4 = 0 then (some (0, hp)) else (gR hp a0 5 1).bind fun x5 => (gR hp x5 6 6).bind fun x6 => (vC hp a0 5 (f_X6_takeTie a0 x6 hp)).bind fun q7 => (if q7.1 = 0 then (some (0, q7.2)) else (some (1, q7.2)))) else (gR hp a0 5 1).bind fun x8 => (gR hp x8 6 5).bind fun x9 => (vC hp a0 5 (f_X6_takeTie a0 x9 hp)).bind fun q10 => ((zR q10.1).bind fun z => some (z, q10.2))) else (vC hp a0 5 (f_X6_takeGate a0 hp)).bind fun q11 => ((zR q11.1).bind fun z => some (z, q11.2))) else (vC hp a0 5 (f_X6_takePerson a0 hp)).bind fun q12 => ((zR q12.1).bind fun z => some (z, q12.2)))
set_option maxRecDepth 100000 in
set_option maxHeartbeats 4000000 in
theorem mf_X6_takeContent {K : GK} : ∀ (a0 : Nat) (hp : PH) (r : (Int32 × PH)), f_X6_takeContent a0 hp = some r → PM K (7) M_X6_takeContent [.ref (ga K a0)] hp (some (.int r.1)) r.2 := by
  intro a0 hp r h
  unfold f_X6_takeContent at h
  refine PM.enter (l0 := [(0, .ref (ga K a0))]) (by decide +kernel) rfl (Nat.le_of_ble_eq_true rfl) rfl ?_
  refine PW.aload_n 0 dX6_takeContent_0 rfl rfl ?_
  refine PW.ldcS (j := 0) dX6_takeContent_1 ⟨by decide, rfl, rfl⟩ ?_
  obtain ⟨q1, hq1, h⟩ := bind_some h
  obtain ⟨hkq1, hcq1, hq1⟩ := vC_spec hq1
  refine PW.callVi (As := [.ref (gsK K 0)]) (rest := []) (k := a0) cal_X6_isWord dX6_takeContent_3 wd_568 rfl rfl (rmLe (by omega)) (Nat.le_of_ble_eq_true rfl) rm_0 hkq1 hcq1 (mf_X6_isWord a0 0 hp _ hq1) ?_
  refine PW.if_eq (tgt := 14) dX6_takeContent_6 (by decide) (fun c6 => ?_) (fun c6 => ?_)
  · rw [if_pos c6] at h
    refine PW.aload_n 0 dX6_takeContent_14 rfl rfl ?_
    refine PW.ldcS (j := 1) dX6_takeContent_15 ⟨by decide, rfl, rfl⟩ ?_
    obtain ⟨q2, hq2, h⟩ := bind_some h
    obtain ⟨hkq2, hcq2, hq2⟩ := vC_spec hq2
    refine PW.callVi (As := [.ref (gsK K 1)]) (rest := []) (k := a0) cal_X6_isWord dX6_takeContent_17 wd_568 rfl rfl (rmLe (by omega)) (Nat.le_of_ble_eq_true rfl) rm_0 hkq2 hcq2 (mf_X6_isWord a0 1 hp _ hq2) ?_
    refine PW.if_eq (tgt := 28) dX6_takeContent_20 (by decide) (fun c20 => ?_) (fun c20 => ?_)
    · rw [if_pos c20] at h
      refine PW.aload_n 0 dX6_takeContent_28 rfl rfl ?_
      refine PW.ldcS (j := 2) dX6_takeContent_29 ⟨by decide, rfl, rfl⟩ ?_
      obtain ⟨q3, hq3, h⟩ := bind_some h
      obtain ⟨hkq3, hcq3, hq3⟩ := vC_spec hq3
      refine PW.callVi (As := [.ref (gsK K 2)]) (rest := []) (k := a0) cal_X6_isWord dX6_takeContent_31 wd_568 rfl rfl (rmLe (by omega)) (Nat.le_of_ble_eq_true rfl) rm_0 hkq3 hcq3 (mf_X6_isWord a0 2 hp _ hq3) ?_
      refine PW.if_eq (tgt := 49) dX6_takeContent_34 (by decide) (fun c34 => ?_) (fun c34 => ?_)
      · rw [if_pos c34] at h
        refine PW.aload_n 0 dX6_takeContent_49 rfl rfl ?_
        refine PW.ldcS (j := 3) dX6_takeContent_50 ⟨by decide, rfl, rfl⟩ ?_
        obtain ⟨q4, hq4, h⟩ := bind_some h
        obtain ⟨hkq4, hcq4, hq4⟩ := vC_spec hq4
        refine PW.callVi (As := [.ref (gsK K 3)]) (rest := []) (k := a0) cal_X6_isWord dX6_takeContent_52 wd_568 rfl rfl (rmLe (by omega)) (Nat.le_of_ble_eq_true rfl) rm_0 hkq4 hcq4 (mf_X6_isWord a0 3 hp _ hq4) ?_
        refine PW.if_eq (tgt := 76) dX6_takeContent_55 (by decide) (fun c55 => ?_) (fun c55 => ?_)
        · rw [if_pos c55] at h
          refine PW.iconst (x := 0) dX6_takeContent_76 (by decide) ?_
          have h := Option.some.inj h; subst h
          exact PW.ret dX6_takeContent_77 (z_nar (Or.inl rfl)).1 rfl
        · rw [if_neg c55] at h
          refine PW.aload_n 0 dX6_takeContent_58 rfl rfl ?_
          refine PW.aload_n 0 dX6_takeContent_59 rfl rfl ?_
          obtain ⟨x5, hx5, h⟩ := bind_some h
          refine PW.getR cls_X6 (j := 1) (by decide) dX6_takeContent_60 wd_224 hx5 ?_
          obtain ⟨x6, hx6, h⟩ := bind_some h
          refine PW.getR cls_X7 (j := 6) (by decide) dX6_takeContent_63 wd_113 hx6 ?_
          obtain ⟨q7, hq7, h⟩ := bind_some h
          obtain ⟨hkq7, hcq7, hq7⟩ := vC_spec hq7
          refine PW.callVi (As := [.ref (ga K x6)]) (rest := []) (k := a0) cal_X6_takeTie dX6_takeContent_66 wd_638 rfl rfl (rmLe (by omega)) (Nat.le_of_ble_eq_true rfl) rm_0 hkq7 hcq7 (mf_X6_takeTie a0 x6 hp _ hq7) ?_
          refine PW.if_eq (tgt := 76) dX6_takeContent_69 (by decide) (fun c69 => ?_) (fun c69 => ?_)
          · rw [if_pos c69] at h
            refine PW.iconst (x := 0) dX6_takeContent_76 (by decide) ?_
            have h := Option.some.inj h; subst h
            exact PW.ret dX6_takeContent_77 (z_nar (Or.inl rfl)).1 rfl
          · rw [if_neg c69] at h
            refine PW.iconst (x := 1) dX6_takeContent_72 (by decide) ?_
            refine PW.goto (tgt := 77) dX6_takeContent_73 (by decide) ?_
            have h := Option.some.inj h; subst h
            exact PW.ret dX6_takeContent_77 (z_nar (Or.inr rfl)).1 rfl
      · rw [if_neg c34] at h
        refine PW.aload_n 0 dX6_takeContent_37 rfl rfl ?_
        refine PW.aload_n 0 dX6_takeContent_38 rfl rfl ?_
        obtain ⟨x8, hx8, h⟩ := bind_some h
        refine PW.getR cls_X6 (j := 1) (by decide) dX6_takeContent_39 wd_224 hx8 ?_
        obtain ⟨x9, hx9, h⟩ := bind_some h
        refine PW.getR cls_X7 (j := 5) (by decide) dX6_takeContent_42 wd_108 hx9 ?_
        obtain ⟨q10, hq10, h⟩ := bind_some h
        obtain ⟨hkq10, hcq10, hq10⟩ := vC_spec hq10
        refine PW.callVi (As := [.ref (ga K x9)]) (rest := []) (k := a0) cal_X6_takeTie dX6_takeContent_45 wd_638 rfl rfl (rmLe (by omega)) (Nat.le_of_ble_eq_true rfl) rm_0 hkq10 hcq10 (mf_X6_takeTie a0 x9 hp _ hq10) ?_
        obtain ⟨z, hzz, h⟩ := bind_some h
        obtain ⟨hz, e9⟩ := zR_spec hzz
        subst e9
        have h := Option.some.inj h
        subst h
        exact PW.ret dX6_takeContent_48 (z_nar hz).1 rfl
    · rw [if_neg c20] at h
      refine PW.aload_n 0 dX6_takeContent_23 rfl rfl ?_
      obtain ⟨q11, hq11, h⟩ := bind_some h
      obtain ⟨hkq11, hcq11, hq11⟩ := vC_spec hq11
      refine PW.callVi (As := []) (rest := []) (k := a0) cal_X6_takeGate dX6_takeContent_24 wd_632 rfl rfl (rmLe (by omega)) (Nat.le_of_ble_eq_true rfl) rm_0 hkq11 hcq11 (mf_X6_takeGate a0 hp _ hq11) ?_
      obtain ⟨z, hzz, h⟩ := bind_some h
      obtain ⟨hz, e9⟩ := zR_spec hzz
      subst e9
      have h := Option.some.inj h
      subst h
      exact PW.ret dX6_takeContent_27 (z_nar hz).1 rfl
  · rw [if_neg c6] at h
    refine PW.aload_n 0 dX6_takeContent_9 rfl rfl ?_
    obtain ⟨q12, hq12, h⟩ := bind_some h
    obtain ⟨hkq12, hcq12, hq12⟩ := vC_spec hq12
    refine PW.callVi (As := []) (rest := []) (k := a0) cal_X6_takePerson dX6_takeContent_10 wd_620 rfl rfl (rmLe (by omega)) (Nat.le_of_ble_eq_true rfl) rm_0 hkq12 hcq12 (mf_X6_takePerson a0 hp _ hq12) ?_
    obtain ⟨z, hzz, h⟩ := bind_some h
    obtain ⟨hz, e9⟩ := zR_spec hzz
    subst e9
    have h := Option.some.inj h
    subst h
    exact PW.ret dX6_takeContent_13 (z_nar hz).1 rfl
-- X6_takeSemicolon
def f_X6_takeSemicolon (a0 : Nat) (hp : PH) : Option (Int32 × PH) := (vC hp a0 5 (f_X6_takeToken a0 hp)).bind fun q1 => (gI q1 a0 5 4).bind fun x2 => (if x2 = 3 then (some (1, q1)) else (some (0, q1)))
set_option maxRecDepth 100000 in
set_option maxHeartbeats 4000000 in
theorem mf_X6_takeSemicolon {K : GK} : ∀ (a0 : Nat) (hp : PH) (r : (Int32 × PH)), f_X6_takeSemicolon a0 hp = some r → PM K (2) M_X6_takeSemicolon [.ref (ga K a0)] hp (some (.int r.1)) r.2 := by
  intro a0 hp r h
  unfold f_X6_takeSemicolon at h
  refine PM.enter (l0 := [(0, .ref (ga K a0))]) (by decide +kernel) rfl (Nat.le_of_ble_eq_true rfl) rfl ?_
  refine PW.aload_n 0 dX6_takeSemicolon_0 rfl rfl ?_
  obtain ⟨q1, hq1, h⟩ := bind_some h
  obtain ⟨hkq1, hcq1, hq1⟩ := vC_spec hq1
  refine PW.callVv (As := []) (rest := []) (k := a0) cal_X6_takeToken dX6_takeSemicolon_1 wd_552 rfl rfl (rmLe (by omega)) (Nat.le_of_ble_eq_true rfl) rm_0 hkq1 hcq1 (mf_X6_takeToken a0 hp _ hq1) ?_
  refine PW.aload_n 0 dX6_takeSemicolon_4 rfl rfl ?_
  obtain ⟨x2, hx2, h⟩ := bind_some h
  refine PW.getI cls_X6 (j := 4) (by decide) dX6_takeSemicolon_5 wd_227 hx2 ?_
  refine PW.iconst (x := 3) dX6_takeSemicolon_8 (by decide) ?_
  refine PW.icmp_ne (tgt := 16) dX6_takeSemicolon_9 (by decide) (fun c9 => ?_) (fun c9 => ?_)
  · rw [if_neg c9] at h
    refine PW.iconst (x := 0) dX6_takeSemicolon_16 (by decide) ?_
    have h := Option.some.inj h; subst h
    exact PW.ret dX6_takeSemicolon_17 (z_nar (Or.inl rfl)).1 rfl
  · rw [if_pos c9] at h
    refine PW.iconst (x := 1) dX6_takeSemicolon_12 (by decide) ?_
    refine PW.goto (tgt := 17) dX6_takeSemicolon_13 (by decide) ?_
    have h := Option.some.inj h; subst h
    exact PW.ret dX6_takeSemicolon_17 (z_nar (Or.inr rfl)).1 rfl
-- X6_takeBook
def f_X6_takeBook_L18 : Nat → Nat → Int32 → PH → Option (Int32 × PH)
  | 0, _, _, _ => none
  | n + 1, a0, a1, hp => (if 200 < a1 then (some (a1, hp)) else (gI hp a0 5 4).bind fun x5 => (if x5 = 0 then (some (a1, hp)) else (vC hp a0 5 (f_X6_takeContent a0 hp)).bind fun q6 => (if q6.1 = 0 then (gI q6.2 a0 5 2).bind fun x7 => (some (((-10) - x7), q6.2)) else (vC q6.2 a0 5 (f_X6_takeSemicolon a0 q6.2)).bind fun q8 => (if q8.1 = 0 then (gI q8.2 a0 5 2).bind fun x10 => (some (((-10) - x10), q8.2)) else (vC q8.2 a0 5 (f_X6_takeToken a0 q8.2)).bind fun q9 => ((f_X6_takeBook_L18 n) a0 (a1 + 1) q9)))))
def f_X6_takeBook (a0 : Nat) (hp : PH) : Option (Int32 × PH) := (gR hp a0 5 1).bind fun x1 => (vC hp x1 6 (f_X7_empty x1 hp)).bind fun q2 => (pI q2 a0 5 3 0).bind fun hp3 => (vC hp3 a0 5 (f_X6_takeToken a0 hp3)).bind fun q4 => (f_X6_takeBook_L18 NN a0 0 q4)
set_option maxRecDepth 100000 in
set_option maxHeartbeats 4000000 in
theorem mf_X6_takeBook_L18 {K : GK} : ∀ (n : Nat) (a0 : Nat) (a1 : Int32) (hp : PH) (r : (Int32 × PH)), f_X6_takeBook_L18 n a0 a1 hp = some r → PW K (rmD (8)) 0 0 M_X6_takeBook 18 [(0, .ref (ga K a0)), (1, .int a1)] [] hp (some (.int r.1)) r.2 := by
  intro n
  induction n with
  | zero =>
    intro a0 a1 hp r h
    rw [f_X6_takeBook_L18] at h
    cases h
  | succ n ih =>
    intro a0 a1 hp r h
    rw [f_X6_takeBook_L18] at h
    refine PW.iload_n 1 dX6_takeBook_18 rfl rfl ?_
    refine PW.sipush (x := 200) dX6_takeBook_19 (by decide) ?_
    refine PW.icmp_gt (tgt := 64) dX6_takeBook_22 (by decide) (fun c22 => ?_) (fun c22 => ?_)
    · rw [if_pos c22] at h
      refine PW.iload_n 1 dX6_takeBook_64 rfl rfl ?_
      have h := Option.some.inj h; subst h
      exact PW.ret dX6_takeBook_65 trivial rfl
    · rw [if_neg c22] at h
      refine PW.aload_n 0 dX6_takeBook_25 rfl rfl ?_
      obtain ⟨x5, hx5, h⟩ := bind_some h
      refine PW.getI cls_X6 (j := 4) (by decide) dX6_takeBook_26 wd_227 hx5 ?_
      refine PW.if_eq (tgt := 64) dX6_takeBook_29 (by decide) (fun c29 => ?_) (fun c29 => ?_)
      · rw [if_pos c29] at h
        refine PW.iload_n 1 dX6_takeBook_64 rfl rfl ?_
        have h := Option.some.inj h; subst h
        exact PW.ret dX6_takeBook_65 trivial rfl
      · rw [if_neg c29] at h
        refine PW.aload_n 0 dX6_takeBook_32 rfl rfl ?_
        obtain ⟨q6, hq6, h⟩ := bind_some h
        obtain ⟨hkq6, hcq6, hq6⟩ := vC_spec hq6
        refine PW.callVi (As := []) (rest := []) (k := a0) cal_X6_takeContent dX6_takeBook_33 wd_563 rfl rfl (rmLe (by omega)) (Nat.le_of_ble_eq_true rfl) rm_0 hkq6 hcq6 (mf_X6_takeContent a0 hp _ hq6) ?_
        refine PW.if_eq (tgt := 46) dX6_takeBook_36 (by decide) (fun c36 => ?_) (fun c36 => ?_)
        · rw [if_pos c36] at h
          refine PW.bipush (x := (-10)) dX6_takeBook_46 (by decide) ?_
          refine PW.aload_n 0 dX6_takeBook_48 rfl rfl ?_
          obtain ⟨x7, hx7, h⟩ := bind_some h
          refine PW.getI cls_X6 (j := 2) (by decide) dX6_takeBook_49 wd_225 hx7 ?_
          refine PW.isub dX6_takeBook_52 ?_
          have h := Option.some.inj h; subst h
          exact PW.ret dX6_takeBook_53 trivial rfl
        · rw [if_neg c36] at h
          refine PW.aload_n 0 dX6_takeBook_39 rfl rfl ?_
          obtain ⟨q8, hq8, h⟩ := bind_some h
          obtain ⟨hkq8, hcq8, hq8⟩ := vC_spec hq8
          refine PW.callVi (As := []) (rest := []) (k := a0) cal_X6_takeSemicolon dX6_takeBook_40 wd_644 rfl rfl (rmLe (by omega)) (Nat.le_of_ble_eq_true rfl) rm_0 hkq8 hcq8 (mf_X6_takeSemicolon a0 q6.2 _ hq8) ?_
          refine PW.if_ne (tgt := 54) dX6_takeBook_43 (by decide) (fun c43 => ?_) (fun c43 => ?_)
          · rw [if_neg c43] at h
            refine PW.iinc 1 (l' := [(1, .int (a1 + 1)), (0, .ref (ga K a0))]) dX6_takeBook_54 rfl (x := a1) (y := (a1 + 1)) rfl (by decide) rfl ?_
            refine PW.aload_n 1 dX6_takeBook_57 rfl rfl ?_
            obtain ⟨q9, hq9, h⟩ := bind_some h
            obtain ⟨hkq9, hcq9, hq9⟩ := vC_spec hq9
            refine PW.callVv (As := []) (rest := []) (k := a0) cal_X6_takeToken dX6_takeBook_58 wd_552 rfl rfl (rmLe (by omega)) (Nat.le_of_ble_eq_true rfl) rm_0 hkq9 hcq9 (mf_X6_takeToken a0 q8.2 _ hq9) ?_
            refine PW.goto (tgt := 18) dX6_takeBook_61 (by decide) ?_
            exact PW.sub (l' := [(0, .ref (ga K a0)), (1, .int (a1 + 1))]) [1, 0] rfl (ih a0 (a1 + 1) q9 _ h)
          · rw [if_pos c43] at h
            refine PW.bipush (x := (-10)) dX6_takeBook_46 (by decide) ?_
            refine PW.aload_n 0 dX6_takeBook_48 rfl rfl ?_
            obtain ⟨x10, hx10, h⟩ := bind_some h
            refine PW.getI cls_X6 (j := 2) (by decide) dX6_takeBook_49 wd_225 hx10 ?_
            refine PW.isub dX6_takeBook_52 ?_
            have h := Option.some.inj h; subst h
            exact PW.ret dX6_takeBook_53 trivial rfl
set_option maxRecDepth 100000 in
set_option maxHeartbeats 4000000 in
theorem mf_X6_takeBook {K : GK} : ∀ (a0 : Nat) (hp : PH) (r : (Int32 × PH)), f_X6_takeBook a0 hp = some r → PM K (8) M_X6_takeBook [.ref (ga K a0)] hp (some (.int r.1)) r.2 := by
  intro a0 hp r h
  unfold f_X6_takeBook at h
  refine PM.enter (l0 := [(0, .ref (ga K a0))]) (by decide +kernel) rfl (Nat.le_of_ble_eq_true rfl) rfl ?_
  refine PW.aload_n 0 dX6_takeBook_0 rfl rfl ?_
  obtain ⟨x1, hx1, h⟩ := bind_some h
  refine PW.getR cls_X6 (j := 1) (by decide) dX6_takeBook_1 wd_224 hx1 ?_
  obtain ⟨q2, hq2, h⟩ := bind_some h
  obtain ⟨hkq2, hcq2, hq2⟩ := vC_spec hq2
  refine PW.callVv (As := []) (rest := []) (k := x1) cal_X7_empty dX6_takeBook_4 wd_548 rfl rfl (rmLe (by omega)) (Nat.le_of_ble_eq_true rfl) rm_0 hkq2 hcq2 (mf_X7_empty x1 hp _ hq2) ?_
  refine PW.aload_n 0 dX6_takeBook_7 rfl rfl ?_
  refine PW.iconst (x := 0) dX6_takeBook_8 (by decide) ?_
  obtain ⟨hp3, hhp3, h⟩ := bind_some h
  refine PW.putI cls_X6 clw_X6 (j := 3) (by decide) dX6_takeBook_9 wd_226 rfl rfl hhp3 ?_
  refine PW.iconst (x := 0) dX6_takeBook_12 (by decide) ?_
  refine PW.istore_n (l' := [(1, .int 0), (0, .ref (ga K a0))]) dX6_takeBook_13 rfl (by decide) rfl ?_
  refine PW.aload_n 1 dX6_takeBook_14 rfl rfl ?_
  obtain ⟨q4, hq4, h⟩ := bind_some h
  obtain ⟨hkq4, hcq4, hq4⟩ := vC_spec hq4
  refine PW.callVv (As := []) (rest := []) (k := a0) cal_X6_takeToken dX6_takeBook_15 wd_552 rfl rfl (rmLe (by omega)) (Nat.le_of_ble_eq_true rfl) rm_0 hkq4 hcq4 (mf_X6_takeToken a0 hp3 _ hq4) ?_
  exact PW.sub (l' := [(0, .ref (ga K a0)), (1, .int 0)]) [1, 0] rfl (mf_X6_takeBook_L18 NN a0 0 q4 _ h)
-- X7_isLaw
def f_X7_isLaw (a0 : Int32) : Int32 := (if a0 < 0 then (0) else (if 4 < a0 then (0) else (1)))
set_option maxRecDepth 100000 in
set_option maxHeartbeats 4000000 in
theorem mf_X7_isLaw {K : GK} {hp : PH} : ∀ (a0 : Int32) (r : Int32), f_X7_isLaw a0 = r → PM K (0) M_X7_isLaw [.int a0] hp (some (.int r)) hp := by
  intro a0 r h
  unfold f_X7_isLaw at h
  refine PM.enter (l0 := [(0, .int a0)]) (by decide +kernel) rfl (Nat.le_of_ble_eq_true rfl) rfl ?_
  refine PW.iload_n 0 dX7_isLaw_0 rfl rfl ?_
  refine PW.if_lt (tgt := 13) dX7_isLaw_1 (by decide) (fun c1 => ?_) (fun c1 => ?_)
  · rw [if_pos c1] at h
    refine PW.iconst (x := 0) dX7_isLaw_13 (by decide) ?_
    subst h
    exact PW.ret dX7_isLaw_14 (z_nar (Or.inl rfl)).1 rfl
  · rw [if_neg c1] at h
    refine PW.iload_n 0 dX7_isLaw_4 rfl rfl ?_
    refine PW.iconst (x := 4) dX7_isLaw_5 (by decide) ?_
    refine PW.icmp_gt (tgt := 13) dX7_isLaw_6 (by decide) (fun c6 => ?_) (fun c6 => ?_)
    · rw [if_pos c6] at h
      refine PW.iconst (x := 0) dX7_isLaw_13 (by decide) ?_
      subst h
      exact PW.ret dX7_isLaw_14 (z_nar (Or.inl rfl)).1 rfl
    · rw [if_neg c6] at h
      refine PW.iconst (x := 1) dX7_isLaw_9 (by decide) ?_
      refine PW.goto (tgt := 14) dX7_isLaw_10 (by decide) ?_
      subst h
      exact PW.ret dX7_isLaw_14 (z_nar (Or.inr rfl)).1 rfl
-- X7_isSeats
def f_X7_isSeats (a0 : Int32) : Int32 := (if a0 < 1 then (0) else (if 8 < a0 then (0) else (1)))
set_option maxRecDepth 100000 in
set_option maxHeartbeats 4000000 in
theorem mf_X7_isSeats {K : GK} {hp : PH} : ∀ (a0 : Int32) (r : Int32), f_X7_isSeats a0 = r → PM K (0) M_X7_isSeats [.int a0] hp (some (.int r)) hp := by
  intro a0 r h
  unfold f_X7_isSeats at h
  refine PM.enter (l0 := [(0, .int a0)]) (by decide +kernel) rfl (Nat.le_of_ble_eq_true rfl) rfl ?_
  refine PW.iload_n 0 dX7_isSeats_0 rfl rfl ?_
  refine PW.iconst (x := 1) dX7_isSeats_1 (by decide) ?_
  refine PW.icmp_lt (tgt := 15) dX7_isSeats_2 (by decide) (fun c2 => ?_) (fun c2 => ?_)
  · rw [if_pos c2] at h
    refine PW.iconst (x := 0) dX7_isSeats_15 (by decide) ?_
    subst h
    exact PW.ret dX7_isSeats_16 (z_nar (Or.inl rfl)).1 rfl
  · rw [if_neg c2] at h
    refine PW.iload_n 0 dX7_isSeats_5 rfl rfl ?_
    refine PW.bipush (x := 8) dX7_isSeats_6 (by decide) ?_
    refine PW.icmp_gt (tgt := 15) dX7_isSeats_8 (by decide) (fun c8 => ?_) (fun c8 => ?_)
    · rw [if_pos c8] at h
      refine PW.iconst (x := 0) dX7_isSeats_15 (by decide) ?_
      subst h
      exact PW.ret dX7_isSeats_16 (z_nar (Or.inl rfl)).1 rfl
    · rw [if_neg c8] at h
      refine PW.iconst (x := 1) dX7_isSeats_11 (by decide) ?_
      refine PW.goto (tgt := 16) dX7_isSeats_12 (by decide) ?_
      subst h
      exact PW.ret dX7_isSeats_16 (z_nar (Or.inr rfl)).1 rfl
-- X7_hasPerson
def f_X7_hasPerson (a0 : Nat) (a1 : Int32) (hp : PH) : Option Int32 := (if a1 < 0 then (some 0) else (gI hp a0 6 0).bind fun x1 => (if x1 ≤ a1 then (some 0) else (some 1)))
set_option maxRecDepth 100000 in
set_option maxHeartbeats 4000000 in
theorem mf_X7_hasPerson {K : GK} : ∀ (a0 : Nat) (a1 : Int32) (hp : PH) (r : Int32), f_X7_hasPerson a0 a1 hp = some r → PM K (0) M_X7_hasPerson [.ref (ga K a0), .int a1] hp (some (.int r)) hp := by
  intro a0 a1 hp r h
  unfold f_X7_hasPerson at h
  refine PM.enter (l0 := [(0, .ref (ga K a0)), (1, .int a1)]) (by decide +kernel) rfl (Nat.le_of_ble_eq_true rfl) rfl ?_
  refine PW.iload_n 1 dX7_hasPerson_0 rfl rfl ?_
  refine PW.if_lt (tgt := 16) dX7_hasPerson_1 (by decide) (fun c1 => ?_) (fun c1 => ?_)
  · rw [if_pos c1] at h
    refine PW.iconst (x := 0) dX7_hasPerson_16 (by decide) ?_
    have h := Option.some.inj h; subst h
    exact PW.ret dX7_hasPerson_17 (z_nar (Or.inl rfl)).1 rfl
  · rw [if_neg c1] at h
    refine PW.iload_n 1 dX7_hasPerson_4 rfl rfl ?_
    refine PW.aload_n 0 dX7_hasPerson_5 rfl rfl ?_
    obtain ⟨x1, hx1, h⟩ := bind_some h
    refine PW.getI cls_X7 (j := 0) (by decide) dX7_hasPerson_6 wd_97 hx1 ?_
    refine PW.icmp_ge (tgt := 16) dX7_hasPerson_9 (by decide) (fun c9 => ?_) (fun c9 => ?_)
    · rw [if_pos c9] at h
      refine PW.iconst (x := 0) dX7_hasPerson_16 (by decide) ?_
      have h := Option.some.inj h; subst h
      exact PW.ret dX7_hasPerson_17 (z_nar (Or.inl rfl)).1 rfl
    · rw [if_neg c9] at h
      refine PW.iconst (x := 1) dX7_hasPerson_12 (by decide) ?_
      refine PW.goto (tgt := 17) dX7_hasPerson_13 (by decide) ?_
      have h := Option.some.inj h; subst h
      exact PW.ret dX7_hasPerson_17 (z_nar (Or.inr rfl)).1 rfl
-- X7_hasGate
def f_X7_hasGate (a0 : Nat) (a1 : Int32) (hp : PH) : Option Int32 := (if a1 < 0 then (some 0) else (gI hp a0 6 1).bind fun x1 => (if x1 ≤ a1 then (some 0) else (some 1)))
set_option maxRecDepth 100000 in
set_option maxHeartbeats 4000000 in
theorem mf_X7_hasGate {K : GK} : ∀ (a0 : Nat) (a1 : Int32) (hp : PH) (r : Int32), f_X7_hasGate a0 a1 hp = some r → PM K (0) M_X7_hasGate [.ref (ga K a0), .int a1] hp (some (.int r)) hp := by
  intro a0 a1 hp r h
  unfold f_X7_hasGate at h
  refine PM.enter (l0 := [(0, .ref (ga K a0)), (1, .int a1)]) (by decide +kernel) rfl (Nat.le_of_ble_eq_true rfl) rfl ?_
  refine PW.iload_n 1 dX7_hasGate_0 rfl rfl ?_
  refine PW.if_lt (tgt := 16) dX7_hasGate_1 (by decide) (fun c1 => ?_) (fun c1 => ?_)
  · rw [if_pos c1] at h
    refine PW.iconst (x := 0) dX7_hasGate_16 (by decide) ?_
    have h := Option.some.inj h; subst h
    exact PW.ret dX7_hasGate_17 (z_nar (Or.inl rfl)).1 rfl
  · rw [if_neg c1] at h
    refine PW.iload_n 1 dX7_hasGate_4 rfl rfl ?_
    refine PW.aload_n 0 dX7_hasGate_5 rfl rfl ?_
    obtain ⟨x1, hx1, h⟩ := bind_some h
    refine PW.getI cls_X7 (j := 1) (by decide) dX7_hasGate_6 wd_101 hx1 ?_
    refine PW.icmp_ge (tgt := 16) dX7_hasGate_9 (by decide) (fun c9 => ?_) (fun c9 => ?_)
    · rw [if_pos c9] at h
      refine PW.iconst (x := 0) dX7_hasGate_16 (by decide) ?_
      have h := Option.some.inj h; subst h
      exact PW.ret dX7_hasGate_17 (z_nar (Or.inl rfl)).1 rfl
    · rw [if_neg c9] at h
      refine PW.iconst (x := 1) dX7_hasGate_12 (by decide) ?_
      refine PW.goto (tgt := 17) dX7_hasGate_13 (by decide) ?_
      have h := Option.some.inj h; subst h
      exact PW.ret dX7_hasGate_17 (z_nar (Or.inr rfl)).1 rfl
-- X7_everyone
def f_X7_everyone (a0 : Nat) (hp : PH) : Option Int32 := (gI hp a0 6 0).bind fun x1 => (some ((iL 1 x1) - 1))
set_option maxRecDepth 100000 in
set_option maxHeartbeats 4000000 in
theorem mf_X7_everyone {K : GK} : ∀ (a0 : Nat) (hp : PH) (r : Int32), f_X7_everyone a0 hp = some r → PM K (0) M_X7_everyone [.ref (ga K a0)] hp (some (.int r)) hp := by
  intro a0 hp r h
  unfold f_X7_everyone at h
  refine PM.enter (l0 := [(0, .ref (ga K a0))]) (by decide +kernel) rfl (Nat.le_of_ble_eq_true rfl) rfl ?_
  refine PW.iconst (x := 1) dX7_everyone_0 (by decide) ?_
  refine PW.aload_n 0 dX7_everyone_1 rfl rfl ?_
  obtain ⟨x1, hx1, h⟩ := bind_some h
  refine PW.getI cls_X7 (j := 0) (by decide) dX7_everyone_2 wd_97 hx1 ?_
  refine PW.ishl dX7_everyone_5 ?_
  refine PW.iconst (x := 1) dX7_everyone_6 (by decide) ?_
  refine PW.isub dX7_everyone_7 ?_
  have h := Option.some.inj h; subst h
  exact PW.ret dX7_everyone_8 trivial rfl
-- X7_hasSet
def f_X7_hasSet (a0 : Nat) (a1 : Int32) (hp : PH) : Option Int32 := (if a1 < 0 then (some 0) else (vC hp a0 6 (f_X7_everyone a0 hp)).bind fun q1 => (if q1 < a1 then (some 0) else (some 1)))
set_option maxRecDepth 100000 in
set_option maxHeartbeats 4000000 in
theorem mf_X7_hasSet {K : GK} : ∀ (a0 : Nat) (a1 : Int32) (hp : PH) (r : Int32), f_X7_hasSet a0 a1 hp = some r → PM K (1) M_X7_hasSet [.ref (ga K a0), .int a1] hp (some (.int r)) hp := by
  intro a0 a1 hp r h
  unfold f_X7_hasSet at h
  refine PM.enter (l0 := [(0, .ref (ga K a0)), (1, .int a1)]) (by decide +kernel) rfl (Nat.le_of_ble_eq_true rfl) rfl ?_
  refine PW.iload_n 1 dX7_hasSet_0 rfl rfl ?_
  refine PW.if_lt (tgt := 16) dX7_hasSet_1 (by decide) (fun c1 => ?_) (fun c1 => ?_)
  · rw [if_pos c1] at h
    refine PW.iconst (x := 0) dX7_hasSet_16 (by decide) ?_
    have h := Option.some.inj h; subst h
    exact PW.ret dX7_hasSet_17 (z_nar (Or.inl rfl)).1 rfl
  · rw [if_neg c1] at h
    refine PW.iload_n 1 dX7_hasSet_4 rfl rfl ?_
    refine PW.aload_n 0 dX7_hasSet_5 rfl rfl ?_
    obtain ⟨q1, hq1, h⟩ := bind_some h
    obtain ⟨hkq1, hcq1, hq1⟩ := vC_spec hq1
    refine PW.callVi (As := []) (rest := [.int a1]) (k := a0) cal_X7_everyone dX7_hasSet_6 wd_480 rfl rfl (rmLe (by omega)) (Nat.le_of_ble_eq_true rfl) rm_0 hkq1 hcq1 (mf_X7_everyone a0 hp _ hq1) ?_
    refine PW.icmp_gt (tgt := 16) dX7_hasSet_9 (by decide) (fun c9 => ?_) (fun c9 => ?_)
    · rw [if_pos c9] at h
      refine PW.iconst (x := 0) dX7_hasSet_16 (by decide) ?_
      have h := Option.some.inj h; subst h
      exact PW.ret dX7_hasSet_17 (z_nar (Or.inl rfl)).1 rfl
    · rw [if_neg c9] at h
      refine PW.iconst (x := 1) dX7_hasSet_12 (by decide) ?_
      refine PW.goto (tgt := 17) dX7_hasSet_13 (by decide) ?_
      have h := Option.some.inj h; subst h
      exact PW.ret dX7_hasSet_17 (z_nar (Or.inr rfl)).1 rfl
-- X7_hasCompany
def f_X7_hasCompany (a0 : Nat) (a1 : Int32) (hp : PH) : Option Int32 := (if a1 = 0 then (some 0) else (vC hp a0 6 (f_X7_hasSet a0 a1 hp)).bind fun q1 => (if q1 = 0 then (some 0) else (some 1)))
set_option maxRecDepth 100000 in
set_option maxHeartbeats 4000000 in
theorem mf_X7_hasCompany {K : GK} : ∀ (a0 : Nat) (a1 : Int32) (hp : PH) (r : Int32), f_X7_hasCompany a0 a1 hp = some r → PM K (2) M_X7_hasCompany [.ref (ga K a0), .int a1] hp (some (.int r)) hp := by
  intro a0 a1 hp r h
  unfold f_X7_hasCompany at h
  refine PM.enter (l0 := [(0, .ref (ga K a0)), (1, .int a1)]) (by decide +kernel) rfl (Nat.le_of_ble_eq_true rfl) rfl ?_
  refine PW.iload_n 1 dX7_hasCompany_0 rfl rfl ?_
  refine PW.if_eq (tgt := 16) dX7_hasCompany_1 (by decide) (fun c1 => ?_) (fun c1 => ?_)
  · rw [if_pos c1] at h
    refine PW.iconst (x := 0) dX7_hasCompany_16 (by decide) ?_
    have h := Option.some.inj h; subst h
    exact PW.ret dX7_hasCompany_17 (z_nar (Or.inl rfl)).1 rfl
  · rw [if_neg c1] at h
    refine PW.aload_n 0 dX7_hasCompany_4 rfl rfl ?_
    refine PW.iload_n 1 dX7_hasCompany_5 rfl rfl ?_
    obtain ⟨q1, hq1, h⟩ := bind_some h
    obtain ⟨hkq1, hcq1, hq1⟩ := vC_spec hq1
    refine PW.callVi (As := [.int a1]) (rest := []) (k := a0) cal_X7_hasSet dX7_hasCompany_6 wd_476 rfl rfl (rmLe (by omega)) (Nat.le_of_ble_eq_true rfl) rm_0 hkq1 hcq1 (mf_X7_hasSet a0 a1 hp _ hq1) ?_
    refine PW.if_eq (tgt := 16) dX7_hasCompany_9 (by decide) (fun c9 => ?_) (fun c9 => ?_)
    · rw [if_pos c9] at h
      refine PW.iconst (x := 0) dX7_hasCompany_16 (by decide) ?_
      have h := Option.some.inj h; subst h
      exact PW.ret dX7_hasCompany_17 (z_nar (Or.inl rfl)).1 rfl
    · rw [if_neg c9] at h
      refine PW.iconst (x := 1) dX7_hasCompany_12 (by decide) ?_
      refine PW.goto (tgt := 17) dX7_hasCompany_13 (by decide) ?_
      have h := Option.some.inj h; subst h
      exact PW.ret dX7_hasCompany_17 (z_nar (Or.inr rfl)).1 rfl
-- X7_copyFrom
def f_X7_copyFrom (a0 : Nat) (a1 : Nat) (hp : PH) : Option PH := (gI hp a1 6 0).bind fun x1 => (pI hp a0 6 0 x1).bind fun hp2 => (gI hp2 a1 6 1).bind fun x3 => (pI hp2 a0 6 1 x3).bind fun hp4 => (gR hp4 a1 6 2).bind fun x5 => (gR hp4 a0 6 2).bind fun x6 => (cA hp4 x5 0 x6 0 8 0).bind fun hp7 => (gR hp7 a1 6 3).bind fun x8 => (gR hp7 a0 6 3).bind fun x9 => (cA hp7 x8 0 x9 0 8 0).bind fun hp10 => (gR hp10 a1 6 4).bind fun x11 => (gR hp10 a0 6 4).bind fun x12 => (cA hp10 x11 0 x12 0 8 0).bind fun hp13 => (gR hp13 a1 6 5).bind fun x14 => (gR hp13 a0 6 5).bind fun x15 => (cA hp13 x14 0 x15 0 8 0).bind fun hp16 => (gR hp16 a1 6 6).bind fun x17 => (gR hp16 a0 6 6).bind fun x18 => (cA hp16 x17 0 x18 0 8 0).bind fun hp19 => (gR hp19 a1 6 7).bind fun x20 => (gR hp19 a0 6 7).bind fun x21 => (cA hp19 x20 0 x21 0 4 0).bind fun hp22 => (gR hp22 a1 6 8).bind fun x23 => (gR hp22 a0 6 8).bind fun x24 => (cA hp22 x23 0 x24 0 4 0).bind fun hp25 => some hp25
set_option maxRecDepth 100000 in
set_option maxHeartbeats 4000000 in
theorem mf_X7_copyFrom {K : GK} : ∀ (a0 : Nat) (a1 : Nat) (hp : PH) (r : PH), f_X7_copyFrom a0 a1 hp = some r → PM K (1) M_X7_copyFrom [.ref (ga K a0), .ref (ga K a1)] hp none r := by
  intro a0 a1 hp r h
  unfold f_X7_copyFrom at h
  refine PM.enter (l0 := [(0, .ref (ga K a0)), (1, .ref (ga K a1))]) (by decide +kernel) rfl (Nat.le_of_ble_eq_true rfl) rfl ?_
  refine PW.aload_n 0 dX7_copyFrom_0 rfl rfl ?_
  refine PW.aload_n 1 dX7_copyFrom_1 rfl rfl ?_
  obtain ⟨x1, hx1, h⟩ := bind_some h
  refine PW.getI cls_X7 (j := 0) (by decide) dX7_copyFrom_2 wd_97 hx1 ?_
  obtain ⟨hp2, hhp2, h⟩ := bind_some h
  refine PW.putI cls_X7 clw_X7 (j := 0) (by decide) dX7_copyFrom_5 wd_97 rfl rfl hhp2 ?_
  refine PW.aload_n 0 dX7_copyFrom_8 rfl rfl ?_
  refine PW.aload_n 1 dX7_copyFrom_9 rfl rfl ?_
  obtain ⟨x3, hx3, h⟩ := bind_some h
  refine PW.getI cls_X7 (j := 1) (by decide) dX7_copyFrom_10 wd_101 hx3 ?_
  obtain ⟨hp4, hhp4, h⟩ := bind_some h
  refine PW.putI cls_X7 clw_X7 (j := 1) (by decide) dX7_copyFrom_13 wd_101 rfl rfl hhp4 ?_
  refine PW.aload_n 1 dX7_copyFrom_16 rfl rfl ?_
  obtain ⟨x5, hx5, h⟩ := bind_some h
  refine PW.getR cls_X7 (j := 2) (by decide) dX7_copyFrom_17 wd_103 hx5 ?_
  refine PW.iconst (x := 0) dX7_copyFrom_20 (by decide) ?_
  refine PW.aload_n 0 dX7_copyFrom_21 rfl rfl ?_
  obtain ⟨x6, hx6, h⟩ := bind_some h
  refine PW.getR cls_X7 (j := 2) (by decide) dX7_copyFrom_22 wd_103 hx6 ?_
  refine PW.iconst (x := 0) dX7_copyFrom_25 (by decide) ?_
  refine PW.bipush (x := 8) dX7_copyFrom_26 (by decide) ?_
  obtain ⟨hp7, hhp7, h⟩ := bind_some h
  refine PW.copy dX7_copyFrom_28 wd_652 wd_654 wd_653 wd_72 rm_fr rm_lo hhp7 ?_
  refine PW.aload_n 1 dX7_copyFrom_31 rfl rfl ?_
  obtain ⟨x8, hx8, h⟩ := bind_some h
  refine PW.getR cls_X7 (j := 3) (by decide) dX7_copyFrom_32 wd_105 hx8 ?_
  refine PW.iconst (x := 0) dX7_copyFrom_35 (by decide) ?_
  refine PW.aload_n 0 dX7_copyFrom_36 rfl rfl ?_
  obtain ⟨x9, hx9, h⟩ := bind_some h
  refine PW.getR cls_X7 (j := 3) (by decide) dX7_copyFrom_37 wd_105 hx9 ?_
  refine PW.iconst (x := 0) dX7_copyFrom_40 (by decide) ?_
  refine PW.bipush (x := 8) dX7_copyFrom_41 (by decide) ?_
  obtain ⟨hp10, hhp10, h⟩ := bind_some h
  refine PW.copy dX7_copyFrom_43 wd_652 wd_654 wd_653 wd_72 rm_fr rm_lo hhp10 ?_
  refine PW.aload_n 1 dX7_copyFrom_46 rfl rfl ?_
  obtain ⟨x11, hx11, h⟩ := bind_some h
  refine PW.getR cls_X7 (j := 4) (by decide) dX7_copyFrom_47 wd_106 hx11 ?_
  refine PW.iconst (x := 0) dX7_copyFrom_50 (by decide) ?_
  refine PW.aload_n 0 dX7_copyFrom_51 rfl rfl ?_
  obtain ⟨x12, hx12, h⟩ := bind_some h
  refine PW.getR cls_X7 (j := 4) (by decide) dX7_copyFrom_52 wd_106 hx12 ?_
  refine PW.iconst (x := 0) dX7_copyFrom_55 (by decide) ?_
  refine PW.bipush (x := 8) dX7_copyFrom_56 (by decide) ?_
  obtain ⟨hp13, hhp13, h⟩ := bind_some h
  refine PW.copy dX7_copyFrom_58 wd_652 wd_654 wd_653 wd_72 rm_fr rm_lo hhp13 ?_
  refine PW.aload_n 1 dX7_copyFrom_61 rfl rfl ?_
  obtain ⟨x14, hx14, h⟩ := bind_some h
  refine PW.getR cls_X7 (j := 5) (by decide) dX7_copyFrom_62 wd_107 hx14 ?_
  refine PW.iconst (x := 0) dX7_copyFrom_65 (by decide) ?_
  refine PW.aload_n 0 dX7_copyFrom_66 rfl rfl ?_
  obtain ⟨x15, hx15, h⟩ := bind_some h
  refine PW.getR cls_X7 (j := 5) (by decide) dX7_copyFrom_67 wd_107 hx15 ?_
  refine PW.iconst (x := 0) dX7_copyFrom_70 (by decide) ?_
  refine PW.bipush (x := 8) dX7_copyFrom_71 (by decide) ?_
  obtain ⟨hp16, hhp16, h⟩ := bind_some h
  refine PW.copy dX7_copyFrom_73 wd_652 wd_654 wd_653 wd_72 rm_fr rm_lo hhp16 ?_
  refine PW.aload_n 1 dX7_copyFrom_76 rfl rfl ?_
  obtain ⟨x17, hx17, h⟩ := bind_some h
  refine PW.getR cls_X7 (j := 6) (by decide) dX7_copyFrom_77 wd_112 hx17 ?_
  refine PW.iconst (x := 0) dX7_copyFrom_80 (by decide) ?_
  refine PW.aload_n 0 dX7_copyFrom_81 rfl rfl ?_
  obtain ⟨x18, hx18, h⟩ := bind_some h
  refine PW.getR cls_X7 (j := 6) (by decide) dX7_copyFrom_82 wd_112 hx18 ?_
  refine PW.iconst (x := 0) dX7_copyFrom_85 (by decide) ?_
  refine PW.bipush (x := 8) dX7_copyFrom_86 (by decide) ?_
  obtain ⟨hp19, hhp19, h⟩ := bind_some h
  refine PW.copy dX7_copyFrom_88 wd_652 wd_654 wd_653 wd_72 rm_fr rm_lo hhp19 ?_
  refine PW.aload_n 1 dX7_copyFrom_91 rfl rfl ?_
  obtain ⟨x20, hx20, h⟩ := bind_some h
  refine PW.getR cls_X7 (j := 7) (by decide) dX7_copyFrom_92 wd_117 hx20 ?_
  refine PW.iconst (x := 0) dX7_copyFrom_95 (by decide) ?_
  refine PW.aload_n 0 dX7_copyFrom_96 rfl rfl ?_
  obtain ⟨x21, hx21, h⟩ := bind_some h
  refine PW.getR cls_X7 (j := 7) (by decide) dX7_copyFrom_97 wd_117 hx21 ?_
  refine PW.iconst (x := 0) dX7_copyFrom_100 (by decide) ?_
  refine PW.iconst (x := 4) dX7_copyFrom_101 (by decide) ?_
  obtain ⟨hp22, hhp22, h⟩ := bind_some h
  refine PW.copy dX7_copyFrom_102 wd_652 wd_654 wd_653 wd_72 rm_fr rm_lo hhp22 ?_
  refine PW.aload_n 1 dX7_copyFrom_105 rfl rfl ?_
  obtain ⟨x23, hx23, h⟩ := bind_some h
  refine PW.getR cls_X7 (j := 8) (by decide) dX7_copyFrom_106 wd_120 hx23 ?_
  refine PW.iconst (x := 0) dX7_copyFrom_109 (by decide) ?_
  refine PW.aload_n 0 dX7_copyFrom_110 rfl rfl ?_
  obtain ⟨x24, hx24, h⟩ := bind_some h
  refine PW.getR cls_X7 (j := 8) (by decide) dX7_copyFrom_111 wd_120 hx24 ?_
  refine PW.iconst (x := 0) dX7_copyFrom_114 (by decide) ?_
  refine PW.iconst (x := 4) dX7_copyFrom_115 (by decide) ?_
  obtain ⟨hp25, hhp25, h⟩ := bind_some h
  refine PW.copy dX7_copyFrom_116 wd_652 wd_654 wd_653 wd_72 rm_fr rm_lo hhp25 ?_
  have h := Option.some.inj h
  subst h
  exact PW.ret dX7_copyFrom_119 trivial rfl
-- X8_copyFrom
def f_X8_copyFrom (a0 : Nat) (a1 : Nat) (hp : PH) : Option PH := (gR hp a0 7 0).bind fun x1 => (gR hp a1 7 0).bind fun x2 => (vC hp x1 6 (f_X7_copyFrom x1 x2 hp)).bind fun q3 => (gR q3 a0 7 1).bind fun x4 => (gR q3 a1 7 1).bind fun x5 => (vC q3 x4 0 (f_X0_copyFrom x4 x5 q3)).bind fun q6 => (gR q6 a1 7 2).bind fun x7 => (gR q6 a0 7 2).bind fun x8 => (cA q6 x7 0 x8 0 10 0).bind fun hp9 => (gR hp9 a0 7 3).bind fun x10 => (gR hp9 a1 7 3).bind fun x11 => (vC hp9 x10 4 (f_X5_copyFrom x10 x11 hp9)).bind fun q12 => some q12
set_option maxRecDepth 100000 in
set_option maxHeartbeats 4000000 in
theorem mf_X8_copyFrom {K : GK} : ∀ (a0 : Nat) (a1 : Nat) (hp : PH) (r : PH), f_X8_copyFrom a0 a1 hp = some r → PM K (2) M_X8_copyFrom [.ref (ga K a0), .ref (ga K a1)] hp none r := by
  intro a0 a1 hp r h
  unfold f_X8_copyFrom at h
  refine PM.enter (l0 := [(0, .ref (ga K a0)), (1, .ref (ga K a1))]) (by decide +kernel) rfl (Nat.le_of_ble_eq_true rfl) rfl ?_
  refine PW.aload_n 0 dX8_copyFrom_0 rfl rfl ?_
  obtain ⟨x1, hx1, h⟩ := bind_some h
  refine PW.getR cls_X8 (j := 0) (by decide) dX8_copyFrom_1 wd_197 hx1 ?_
  refine PW.aload_n 1 dX8_copyFrom_4 rfl rfl ?_
  obtain ⟨x2, hx2, h⟩ := bind_some h
  refine PW.getR cls_X8 (j := 0) (by decide) dX8_copyFrom_5 wd_197 hx2 ?_
  obtain ⟨q3, hq3, h⟩ := bind_some h
  obtain ⟨hkq3, hcq3, hq3⟩ := vC_spec hq3
  refine PW.callVv (As := [.ref (ga K x2)]) (rest := []) (k := x1) cal_X7_copyFrom dX8_copyFrom_8 wd_853 rfl rfl (rmLe (by omega)) (Nat.le_of_ble_eq_true rfl) rm_0 hkq3 hcq3 (mf_X7_copyFrom x1 x2 hp _ hq3) ?_
  refine PW.aload_n 0 dX8_copyFrom_11 rfl rfl ?_
  obtain ⟨x4, hx4, h⟩ := bind_some h
  refine PW.getR cls_X8 (j := 1) (by decide) dX8_copyFrom_12 wd_199 hx4 ?_
  refine PW.aload_n 1 dX8_copyFrom_15 rfl rfl ?_
  obtain ⟨x5, hx5, h⟩ := bind_some h
  refine PW.getR cls_X8 (j := 1) (by decide) dX8_copyFrom_16 wd_199 hx5 ?_
  obtain ⟨q6, hq6, h⟩ := bind_some h
  obtain ⟨hkq6, hcq6, hq6⟩ := vC_spec hq6
  refine PW.callVv (As := [.ref (ga K x5)]) (rest := []) (k := x4) cal_X0_copyFrom dX8_copyFrom_19 wd_854 rfl rfl (rmLe (by omega)) (Nat.le_of_ble_eq_true rfl) rm_0 hkq6 hcq6 (mf_X0_copyFrom x4 x5 q3 _ hq6) ?_
  refine PW.aload_n 1 dX8_copyFrom_22 rfl rfl ?_
  obtain ⟨x7, hx7, h⟩ := bind_some h
  refine PW.getR cls_X8 (j := 2) (by decide) dX8_copyFrom_23 wd_201 hx7 ?_
  refine PW.iconst (x := 0) dX8_copyFrom_26 (by decide) ?_
  refine PW.aload_n 0 dX8_copyFrom_27 rfl rfl ?_
  obtain ⟨x8, hx8, h⟩ := bind_some h
  refine PW.getR cls_X8 (j := 2) (by decide) dX8_copyFrom_28 wd_201 hx8 ?_
  refine PW.iconst (x := 0) dX8_copyFrom_31 (by decide) ?_
  refine PW.bipush (x := 10) dX8_copyFrom_32 (by decide) ?_
  obtain ⟨hp9, hhp9, h⟩ := bind_some h
  refine PW.copy dX8_copyFrom_34 wd_859 wd_654 wd_653 wd_72 rm_fr rm_lo hhp9 ?_
  refine PW.aload_n 0 dX8_copyFrom_37 rfl rfl ?_
  obtain ⟨x10, hx10, h⟩ := bind_some h
  refine PW.getR cls_X8 (j := 3) (by decide) dX8_copyFrom_38 wd_203 hx10 ?_
  refine PW.aload_n 1 dX8_copyFrom_41 rfl rfl ?_
  obtain ⟨x11, hx11, h⟩ := bind_some h
  refine PW.getR cls_X8 (j := 3) (by decide) dX8_copyFrom_42 wd_203 hx11 ?_
  obtain ⟨q12, hq12, h⟩ := bind_some h
  obtain ⟨hkq12, hcq12, hq12⟩ := vC_spec hq12
  refine PW.callVv (As := [.ref (ga K x11)]) (rest := []) (k := x10) cal_X5_copyFrom dX8_copyFrom_45 wd_860 rfl rfl (rmLe (by omega)) (Nat.le_of_ble_eq_true rfl) rm_0 hkq12 hcq12 (mf_X5_copyFrom x10 x11 hp9 _ hq12) ?_
  have h := Option.some.inj h
  subst h
  exact PW.ret dX8_copyFrom_48 trivial rfl
