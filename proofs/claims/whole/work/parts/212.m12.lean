-- X11_isNumber
def f_X11_isNumber (a0 : Nat) (a1 : Int32) (a2 : Int32) (hp : PH) : Option (Int32 × PH) := (vC hp a0 10 (f_X11_nextToken a0 hp)).bind fun q1 => (gI q1 a0 10 16).bind fun x2 => (if x2 = 2 then (gJ q1 a0 10 17).bind fun x3 => (if (f_X11_in x3 (Int32.toInt64 a1) (Int32.toInt64 a2)) = 0 then (some (0, q1)) else (some (1, q1))) else (some (0, q1)))
set_option maxRecDepth 100000 in
set_option maxHeartbeats 4000000 in
theorem mf_X11_isNumber {K : GK} : ∀ (a0 : Nat) (a1 : Int32) (a2 : Int32) (hp : PH) (r : (Int32 × PH)), f_X11_isNumber a0 a1 a2 hp = some r → PM K (2) M_X11_isNumber [.ref (ga K a0), .int a1, .int a2] hp (some (.int r.1)) r.2 := by
  intro a0 a1 a2 hp r h
  unfold f_X11_isNumber at h
  refine PM.enter (l0 := [(0, .ref (ga K a0)), (1, .int a1), (2, .int a2)]) (by decide +kernel) rfl (Nat.le_of_ble_eq_true rfl) rfl ?_
  refine PW.aload_n 0 dX11_isNumber_0 rfl rfl ?_
  obtain ⟨q1, hq1, h⟩ := bind_some h
  obtain ⟨hkq1, hcq1, hq1⟩ := vC_spec hq1
  refine PW.callVv (As := []) (rest := []) (k := a0) cal_X11_nextToken dX11_isNumber_1 wd_1103 rfl rfl (rmLe (by omega)) (Nat.le_of_ble_eq_true rfl) rm_0 hkq1 hcq1 (mf_X11_nextToken a0 hp _ hq1) ?_
  refine PW.aload_n 0 dX11_isNumber_4 rfl rfl ?_
  obtain ⟨x2, hx2, h⟩ := bind_some h
  refine PW.getI cls_X11 (j := 16) (by decide) dX11_isNumber_5 wd_911 hx2 ?_
  refine PW.iconst (x := 2) dX11_isNumber_8 (by decide) ?_
  refine PW.icmp_ne (tgt := 30) dX11_isNumber_9 (by decide) (fun c9 => ?_) (fun c9 => ?_)
  · rw [if_neg c9] at h
    refine PW.iconst (x := 0) dX11_isNumber_30 (by decide) ?_
    have h := Option.some.inj h; subst h
    exact PW.ret dX11_isNumber_31 (z_nar (Or.inl rfl)).1 rfl
  · rw [if_pos c9] at h
    refine PW.aload_n 0 dX11_isNumber_12 rfl rfl ?_
    obtain ⟨x3, hx3, h⟩ := bind_some h
    refine PW.getJ cls_X11 (j := 17) (by decide) dX11_isNumber_13 wd_912 hx3 ?_
    refine PW.iload_n 1 dX11_isNumber_16 rfl rfl ?_
    refine PW.i2l dX11_isNumber_17 ?_
    refine PW.iload_n 2 dX11_isNumber_18 rfl rfl ?_
    refine PW.i2l dX11_isNumber_19 ?_
    refine PW.callSi (As := [.long x3, .long (Int32.toInt64 a1), .long (Int32.toInt64 a2)]) (rest := []) cal_X11_in dX11_isNumber_20 wd_986 rfl rfl (rmLe (by omega)) (Nat.le_of_ble_eq_true rfl) rm_0 (mf_X11_in x3 (Int32.toInt64 a1) (Int32.toInt64 a2) _ rfl) ?_
    refine PW.if_eq (tgt := 30) dX11_isNumber_23 (by decide) (fun c23 => ?_) (fun c23 => ?_)
    · rw [if_pos c23] at h
      refine PW.iconst (x := 0) dX11_isNumber_30 (by decide) ?_
      have h := Option.some.inj h; subst h
      exact PW.ret dX11_isNumber_31 (z_nar (Or.inl rfl)).1 rfl
    · rw [if_neg c23] at h
      refine PW.iconst (x := 1) dX11_isNumber_26 (by decide) ?_
      refine PW.goto (tgt := 31) dX11_isNumber_27 (by decide) ?_
      have h := Option.some.inj h; subst h
      exact PW.ret dX11_isNumber_31 (z_nar (Or.inr rfl)).1 rfl
-- X11_readPerson
def f_X11_readPerson (a0 : Nat) (hp : PH) : Option (Int32 × PH) := (gR hp a0 10 18).bind fun x1 => (aI hp x1 0 0).bind fun x2 => (if x2 = 8 then (some (0, hp)) else (vC hp a0 10 (f_X11_isNumber a0 1800 2199 hp)).bind fun q3 => (if q3.1 = 0 then (some (0, q3.2)) else (gJ q3.2 a0 10 17).bind fun x4 => (vC q3.2 a0 10 (f_X11_isNumber a0 1 12 q3.2)).bind fun q5 => (if q5.1 = 0 then (some (0, q5.2)) else (gJ q5.2 a0 10 17).bind fun x6 => (vC q5.2 a0 10 (f_X11_isNumber a0 1 (f_X11_monthLong (Int64.toInt32 x4) (Int64.toInt32 x6)) q5.2)).bind fun q8 => (if q8.1 = 0 then (some (0, q8.2)) else (gR q8.2 a0 10 18).bind fun x9 => (gR q8.2 a0 10 18).bind fun x10 => (aI q8.2 x10 0 0).bind fun x11 => (gJ q8.2 a0 10 17).bind fun x12 => (f_X11_numberOf (Int64.toInt32 x4) (Int64.toInt32 x6) (Int64.toInt32 x12)).bind fun q13 => (uI q8.2 x9 (5 + x11) q13).bind fun hp14 => (gR hp14 a0 10 18).bind fun x15 => (gR hp14 a0 10 18).bind fun x16 => (aI hp14 x16 0 0).bind fun x17 => (uI hp14 x15 (13 + x17) 0).bind fun hp18 => (gR hp18 a0 10 18).bind fun x19 => (gR hp18 a0 10 18).bind fun x20 => (aI hp18 x20 0 0).bind fun x21 => (uI hp18 x19 (21 + x21) 0).bind fun hp22 => (gR hp22 a0 10 18).bind fun x23 => (aI hp22 x23 0 0).bind fun x24 => (uI hp22 x23 0 (x24 + 1)).bind fun hp25 => (some (1, hp25))))))
set_option maxRecDepth 100000 in
set_option maxHeartbeats 4000000 in
theorem mf_X11_readPerson {K : GK} : ∀ (a0 : Nat) (hp : PH) (r : (Int32 × PH)), f_X11_readPerson a0 hp = some r → PM K (3) M_X11_readPerson [.ref (ga K a0)] hp (some (.int r.1)) r.2 := by
  intro a0 hp r h
  unfold f_X11_readPerson at h
  refine PM.enter (l0 := [(0, .ref (ga K a0))]) (by decide +kernel) rfl (Nat.le_of_ble_eq_true rfl) rfl ?_
  refine PW.aload_n 0 dX11_readPerson_0 rfl rfl ?_
  obtain ⟨x1, hx1, h⟩ := bind_some h
  refine PW.getR cls_X11 (j := 18) (by decide) dX11_readPerson_1 wd_913 hx1 ?_
  refine PW.iconst (x := 0) dX11_readPerson_4 (by decide) ?_
  obtain ⟨x2, hx2, h⟩ := bind_some h
  refine PW.iald dX11_readPerson_5 hx2 ?_
  refine PW.bipush (x := 8) dX11_readPerson_6 (by decide) ?_
  refine PW.icmp_eq (tgt := 24) dX11_readPerson_8 (by decide) (fun c8 => ?_) (fun c8 => ?_)
  · rw [if_pos c8] at h
    refine PW.iconst (x := 0) dX11_readPerson_24 (by decide) ?_
    have h := Option.some.inj h; subst h
    exact PW.ret dX11_readPerson_25 (z_nar (Or.inl rfl)).1 rfl
  · rw [if_neg c8] at h
    refine PW.aload_n 0 dX11_readPerson_11 rfl rfl ?_
    refine PW.sipush (x := 1800) dX11_readPerson_12 (by decide) ?_
    refine PW.sipush (x := 2199) dX11_readPerson_15 (by decide) ?_
    obtain ⟨q3, hq3, h⟩ := bind_some h
    obtain ⟨hkq3, hcq3, hq3⟩ := vC_spec hq3
    refine PW.callVi (As := [.int 1800, .int 2199]) (rest := []) (k := a0) cal_X11_isNumber dX11_readPerson_18 wd_1128 rfl rfl (rmLe (by omega)) (Nat.le_of_ble_eq_true rfl) rm_0 hkq3 hcq3 (mf_X11_isNumber a0 1800 2199 hp _ hq3) ?_
    refine PW.if_ne (tgt := 26) dX11_readPerson_21 (by decide) (fun c21 => ?_) (fun c21 => ?_)
    · rw [if_neg c21] at h
      refine PW.aload_n 0 dX11_readPerson_26 rfl rfl ?_
      obtain ⟨x4, hx4, h⟩ := bind_some h
      refine PW.getJ cls_X11 (j := 17) (by decide) dX11_readPerson_27 wd_912 hx4 ?_
      refine PW.l2i dX11_readPerson_30 ?_
      refine PW.istore_n (l' := [(1, .int (Int64.toInt32 x4)), (0, .ref (ga K a0))]) dX11_readPerson_31 rfl (by decide) rfl ?_
      refine PW.aload_n 1 dX11_readPerson_32 rfl rfl ?_
      refine PW.iconst (x := 1) dX11_readPerson_33 (by decide) ?_
      refine PW.bipush (x := 12) dX11_readPerson_34 (by decide) ?_
      obtain ⟨q5, hq5, h⟩ := bind_some h
      obtain ⟨hkq5, hcq5, hq5⟩ := vC_spec hq5
      refine PW.callVi (As := [.int 1, .int 12]) (rest := []) (k := a0) cal_X11_isNumber dX11_readPerson_36 wd_1128 rfl rfl (rmLe (by omega)) (Nat.le_of_ble_eq_true rfl) rm_0 hkq5 hcq5 (mf_X11_isNumber a0 1 12 q3.2 _ hq5) ?_
      refine PW.if_ne (tgt := 44) dX11_readPerson_39 (by decide) (fun c39 => ?_) (fun c39 => ?_)
      · rw [if_neg c39] at h
        refine PW.aload_n 1 dX11_readPerson_44 rfl rfl ?_
        obtain ⟨x6, hx6, h⟩ := bind_some h
        refine PW.getJ cls_X11 (j := 17) (by decide) dX11_readPerson_45 wd_912 hx6 ?_
        refine PW.l2i dX11_readPerson_48 ?_
        refine PW.istore_n (l' := [(2, .int (Int64.toInt32 x6)), (1, .int (Int64.toInt32 x4)), (0, .ref (ga K a0))]) dX11_readPerson_49 rfl (by decide) rfl ?_
        refine PW.aload_n 2 dX11_readPerson_50 rfl rfl ?_
        refine PW.iconst (x := 1) dX11_readPerson_51 (by decide) ?_
        refine PW.iload_n 1 dX11_readPerson_52 rfl rfl ?_
        refine PW.iload_n 0 dX11_readPerson_53 rfl rfl ?_
        refine PW.callSi (As := [.int (Int64.toInt32 x4), .int (Int64.toInt32 x6)]) (rest := [.int 1, .ref (ga K a0)]) cal_X11_monthLong dX11_readPerson_54 wd_990 rfl rfl (rmLe (by omega)) (Nat.le_of_ble_eq_true rfl) rm_0 (mf_X11_monthLong (Int64.toInt32 x4) (Int64.toInt32 x6) _ rfl) ?_
        obtain ⟨q8, hq8, h⟩ := bind_some h
        obtain ⟨hkq8, hcq8, hq8⟩ := vC_spec hq8
        refine PW.callVi (As := [.int 1, .int (f_X11_monthLong (Int64.toInt32 x4) (Int64.toInt32 x6))]) (rest := []) (k := a0) cal_X11_isNumber dX11_readPerson_57 wd_1128 rfl rfl (rmLe (by omega)) (Nat.le_of_ble_eq_true rfl) rm_0 hkq8 hcq8 (mf_X11_isNumber a0 1 (f_X11_monthLong (Int64.toInt32 x4) (Int64.toInt32 x6)) q5.2 _ hq8) ?_
        refine PW.if_ne (tgt := 65) dX11_readPerson_60 (by decide) (fun c60 => ?_) (fun c60 => ?_)
        · rw [if_neg c60] at h
          refine PW.aload_n 2 dX11_readPerson_65 rfl rfl ?_
          obtain ⟨x9, hx9, h⟩ := bind_some h
          refine PW.getR cls_X11 (j := 18) (by decide) dX11_readPerson_66 wd_913 hx9 ?_
          refine PW.iconst (x := 5) dX11_readPerson_69 (by decide) ?_
          refine PW.aload_n 2 dX11_readPerson_70 rfl rfl ?_
          obtain ⟨x10, hx10, h⟩ := bind_some h
          refine PW.getR cls_X11 (j := 18) (by decide) dX11_readPerson_71 wd_913 hx10 ?_
          refine PW.iconst (x := 0) dX11_readPerson_74 (by decide) ?_
          obtain ⟨x11, hx11, h⟩ := bind_some h
          refine PW.iald dX11_readPerson_75 hx11 ?_
          refine PW.iadd dX11_readPerson_76 ?_
          refine PW.iload_n 1 dX11_readPerson_77 rfl rfl ?_
          refine PW.iload_n 0 dX11_readPerson_78 rfl rfl ?_
          refine PW.aload_n 2 dX11_readPerson_79 rfl rfl ?_
          obtain ⟨x12, hx12, h⟩ := bind_some h
          refine PW.getJ cls_X11 (j := 17) (by decide) dX11_readPerson_80 wd_912 hx12 ?_
          refine PW.l2i dX11_readPerson_83 ?_
          obtain ⟨q13, hq13, h⟩ := bind_some h
          refine PW.callSi (As := [.int (Int64.toInt32 x4), .int (Int64.toInt32 x6), .int (Int64.toInt32 x12)]) (rest := [.int (5 + x11), .ref (ga K x9)]) cal_X11_numberOf dX11_readPerson_84 wd_996 rfl rfl (rmLe (by omega)) (Nat.le_of_ble_eq_true rfl) rm_0 (mf_X11_numberOf (Int64.toInt32 x4) (Int64.toInt32 x6) (Int64.toInt32 x12) _ hq13) ?_
          obtain ⟨hp14, hhp14, h⟩ := bind_some h
          refine PW.iast dX11_readPerson_87 hhp14 ?_
          refine PW.aload_n 2 dX11_readPerson_88 rfl rfl ?_
          obtain ⟨x15, hx15, h⟩ := bind_some h
          refine PW.getR cls_X11 (j := 18) (by decide) dX11_readPerson_89 wd_913 hx15 ?_
          refine PW.bipush (x := 13) dX11_readPerson_92 (by decide) ?_
          refine PW.aload_n 2 dX11_readPerson_94 rfl rfl ?_
          obtain ⟨x16, hx16, h⟩ := bind_some h
          refine PW.getR cls_X11 (j := 18) (by decide) dX11_readPerson_95 wd_913 hx16 ?_
          refine PW.iconst (x := 0) dX11_readPerson_98 (by decide) ?_
          obtain ⟨x17, hx17, h⟩ := bind_some h
          refine PW.iald dX11_readPerson_99 hx17 ?_
          refine PW.iadd dX11_readPerson_100 ?_
          refine PW.iconst (x := 0) dX11_readPerson_101 (by decide) ?_
          obtain ⟨hp18, hhp18, h⟩ := bind_some h
          refine PW.iast dX11_readPerson_102 hhp18 ?_
          refine PW.aload_n 2 dX11_readPerson_103 rfl rfl ?_
          obtain ⟨x19, hx19, h⟩ := bind_some h
          refine PW.getR cls_X11 (j := 18) (by decide) dX11_readPerson_104 wd_913 hx19 ?_
          refine PW.bipush (x := 21) dX11_readPerson_107 (by decide) ?_
          refine PW.aload_n 2 dX11_readPerson_109 rfl rfl ?_
          obtain ⟨x20, hx20, h⟩ := bind_some h
          refine PW.getR cls_X11 (j := 18) (by decide) dX11_readPerson_110 wd_913 hx20 ?_
          refine PW.iconst (x := 0) dX11_readPerson_113 (by decide) ?_
          obtain ⟨x21, hx21, h⟩ := bind_some h
          refine PW.iald dX11_readPerson_114 hx21 ?_
          refine PW.iadd dX11_readPerson_115 ?_
          refine PW.iconst (x := 0) dX11_readPerson_116 (by decide) ?_
          obtain ⟨hp22, hhp22, h⟩ := bind_some h
          refine PW.iast dX11_readPerson_117 hhp22 ?_
          refine PW.aload_n 2 dX11_readPerson_118 rfl rfl ?_
          obtain ⟨x23, hx23, h⟩ := bind_some h
          refine PW.getR cls_X11 (j := 18) (by decide) dX11_readPerson_119 wd_913 hx23 ?_
          refine PW.iconst (x := 0) dX11_readPerson_122 (by decide) ?_
          refine PW.dup2 dX11_readPerson_123 rfl rfl ?_
          obtain ⟨x24, hx24, h⟩ := bind_some h
          refine PW.iald dX11_readPerson_124 hx24 ?_
          refine PW.iconst (x := 1) dX11_readPerson_125 (by decide) ?_
          refine PW.iadd dX11_readPerson_126 ?_
          obtain ⟨hp25, hhp25, h⟩ := bind_some h
          refine PW.iast dX11_readPerson_127 hhp25 ?_
          refine PW.iconst (x := 1) dX11_readPerson_128 (by decide) ?_
          have h := Option.some.inj h; subst h
          exact PW.ret dX11_readPerson_129 (z_nar (Or.inr rfl)).1 rfl
        · rw [if_pos c60] at h
          refine PW.iconst (x := 0) dX11_readPerson_63 (by decide) ?_
          have h := Option.some.inj h; subst h
          exact PW.ret dX11_readPerson_64 (z_nar (Or.inl rfl)).1 rfl
      · rw [if_pos c39] at h
        refine PW.iconst (x := 0) dX11_readPerson_42 (by decide) ?_
        have h := Option.some.inj h; subst h
        exact PW.ret dX11_readPerson_43 (z_nar (Or.inl rfl)).1 rfl
    · rw [if_pos c21] at h
      refine PW.iconst (x := 0) dX11_readPerson_24 (by decide) ?_
      have h := Option.some.inj h; subst h
      exact PW.ret dX11_readPerson_25 (z_nar (Or.inl rfl)).1 rfl
-- X11_readGate
def f_X11_readGate (a0 : Nat) (hp : PH) : Option (Int32 × PH) := (gR hp a0 10 18).bind fun x1 => (aI hp x1 0 1).bind fun x2 => (if x2 = 4 then (some (0, hp)) else (vC hp a0 10 (f_X11_isNumber a0 0 4 hp)).bind fun q3 => (if q3.1 = 0 then (some (0, q3.2)) else (gR q3.2 a0 10 18).bind fun x4 => (gR q3.2 a0 10 18).bind fun x5 => (aI q3.2 x5 0 1).bind fun x6 => (gJ q3.2 a0 10 17).bind fun x7 => (uI q3.2 x4 (29 + x6) (Int64.toInt32 x7)).bind fun hp8 => (vC hp8 a0 10 (f_X11_isNumber a0 1 8 hp8)).bind fun q9 => (if q9.1 = 0 then (some (0, q9.2)) else (gR q9.2 a0 10 18).bind fun x10 => (gR q9.2 a0 10 18).bind fun x11 => (aI q9.2 x11 0 1).bind fun x12 => (gJ q9.2 a0 10 17).bind fun x13 => (uI q9.2 x10 (33 + x12) (Int64.toInt32 x13)).bind fun hp14 => (gR hp14 a0 10 18).bind fun x15 => (aI hp14 x15 0 1).bind fun x16 => (uI hp14 x15 1 (x16 + 1)).bind fun hp17 => (some (1, hp17)))))
set_option maxRecDepth 100000 in
set_option maxHeartbeats 4000000 in
theorem mf_X11_readGate {K : GK} : ∀ (a0 : Nat) (hp : PH) (r : (Int32 × PH)), f_X11_readGate a0 hp = some r → PM K (3) M_X11_readGate [.ref (ga K a0)] hp (some (.int r.1)) r.2 := by
  intro a0 hp r h
  unfold f_X11_readGate at h
  refine PM.enter (l0 := [(0, .ref (ga K a0))]) (by decide +kernel) rfl (Nat.le_of_ble_eq_true rfl) rfl ?_
  refine PW.aload_n 0 dX11_readGate_0 rfl rfl ?_
  obtain ⟨x1, hx1, h⟩ := bind_some h
  refine PW.getR cls_X11 (j := 18) (by decide) dX11_readGate_1 wd_913 hx1 ?_
  refine PW.iconst (x := 1) dX11_readGate_4 (by decide) ?_
  obtain ⟨x2, hx2, h⟩ := bind_some h
  refine PW.iald dX11_readGate_5 hx2 ?_
  refine PW.iconst (x := 4) dX11_readGate_6 (by decide) ?_
  refine PW.icmp_eq (tgt := 19) dX11_readGate_7 (by decide) (fun c7 => ?_) (fun c7 => ?_)
  · rw [if_pos c7] at h
    refine PW.iconst (x := 0) dX11_readGate_19 (by decide) ?_
    have h := Option.some.inj h; subst h
    exact PW.ret dX11_readGate_20 (z_nar (Or.inl rfl)).1 rfl
  · rw [if_neg c7] at h
    refine PW.aload_n 0 dX11_readGate_10 rfl rfl ?_
    refine PW.iconst (x := 0) dX11_readGate_11 (by decide) ?_
    refine PW.iconst (x := 4) dX11_readGate_12 (by decide) ?_
    obtain ⟨q3, hq3, h⟩ := bind_some h
    obtain ⟨hkq3, hcq3, hq3⟩ := vC_spec hq3
    refine PW.callVi (As := [.int 0, .int 4]) (rest := []) (k := a0) cal_X11_isNumber dX11_readGate_13 wd_1128 rfl rfl (rmLe (by omega)) (Nat.le_of_ble_eq_true rfl) rm_0 hkq3 hcq3 (mf_X11_isNumber a0 0 4 hp _ hq3) ?_
    refine PW.if_ne (tgt := 21) dX11_readGate_16 (by decide) (fun c16 => ?_) (fun c16 => ?_)
    · rw [if_neg c16] at h
      refine PW.aload_n 0 dX11_readGate_21 rfl rfl ?_
      obtain ⟨x4, hx4, h⟩ := bind_some h
      refine PW.getR cls_X11 (j := 18) (by decide) dX11_readGate_22 wd_913 hx4 ?_
      refine PW.bipush (x := 29) dX11_readGate_25 (by decide) ?_
      refine PW.aload_n 0 dX11_readGate_27 rfl rfl ?_
      obtain ⟨x5, hx5, h⟩ := bind_some h
      refine PW.getR cls_X11 (j := 18) (by decide) dX11_readGate_28 wd_913 hx5 ?_
      refine PW.iconst (x := 1) dX11_readGate_31 (by decide) ?_
      obtain ⟨x6, hx6, h⟩ := bind_some h
      refine PW.iald dX11_readGate_32 hx6 ?_
      refine PW.iadd dX11_readGate_33 ?_
      refine PW.aload_n 0 dX11_readGate_34 rfl rfl ?_
      obtain ⟨x7, hx7, h⟩ := bind_some h
      refine PW.getJ cls_X11 (j := 17) (by decide) dX11_readGate_35 wd_912 hx7 ?_
      refine PW.l2i dX11_readGate_38 ?_
      obtain ⟨hp8, hhp8, h⟩ := bind_some h
      refine PW.iast dX11_readGate_39 hhp8 ?_
      refine PW.aload_n 0 dX11_readGate_40 rfl rfl ?_
      refine PW.iconst (x := 1) dX11_readGate_41 (by decide) ?_
      refine PW.bipush (x := 8) dX11_readGate_42 (by decide) ?_
      obtain ⟨q9, hq9, h⟩ := bind_some h
      obtain ⟨hkq9, hcq9, hq9⟩ := vC_spec hq9
      refine PW.callVi (As := [.int 1, .int 8]) (rest := []) (k := a0) cal_X11_isNumber dX11_readGate_44 wd_1128 rfl rfl (rmLe (by omega)) (Nat.le_of_ble_eq_true rfl) rm_0 hkq9 hcq9 (mf_X11_isNumber a0 1 8 hp8 _ hq9) ?_
      refine PW.if_ne (tgt := 52) dX11_readGate_47 (by decide) (fun c47 => ?_) (fun c47 => ?_)
      · rw [if_neg c47] at h
        refine PW.aload_n 0 dX11_readGate_52 rfl rfl ?_
        obtain ⟨x10, hx10, h⟩ := bind_some h
        refine PW.getR cls_X11 (j := 18) (by decide) dX11_readGate_53 wd_913 hx10 ?_
        refine PW.bipush (x := 33) dX11_readGate_56 (by decide) ?_
        refine PW.aload_n 0 dX11_readGate_58 rfl rfl ?_
        obtain ⟨x11, hx11, h⟩ := bind_some h
        refine PW.getR cls_X11 (j := 18) (by decide) dX11_readGate_59 wd_913 hx11 ?_
        refine PW.iconst (x := 1) dX11_readGate_62 (by decide) ?_
        obtain ⟨x12, hx12, h⟩ := bind_some h
        refine PW.iald dX11_readGate_63 hx12 ?_
        refine PW.iadd dX11_readGate_64 ?_
        refine PW.aload_n 0 dX11_readGate_65 rfl rfl ?_
        obtain ⟨x13, hx13, h⟩ := bind_some h
        refine PW.getJ cls_X11 (j := 17) (by decide) dX11_readGate_66 wd_912 hx13 ?_
        refine PW.l2i dX11_readGate_69 ?_
        obtain ⟨hp14, hhp14, h⟩ := bind_some h
        refine PW.iast dX11_readGate_70 hhp14 ?_
        refine PW.aload_n 0 dX11_readGate_71 rfl rfl ?_
        obtain ⟨x15, hx15, h⟩ := bind_some h
        refine PW.getR cls_X11 (j := 18) (by decide) dX11_readGate_72 wd_913 hx15 ?_
        refine PW.iconst (x := 1) dX11_readGate_75 (by decide) ?_
        refine PW.dup2 dX11_readGate_76 rfl rfl ?_
        obtain ⟨x16, hx16, h⟩ := bind_some h
        refine PW.iald dX11_readGate_77 hx16 ?_
        refine PW.iconst (x := 1) dX11_readGate_78 (by decide) ?_
        refine PW.iadd dX11_readGate_79 ?_
        obtain ⟨hp17, hhp17, h⟩ := bind_some h
        refine PW.iast dX11_readGate_80 hhp17 ?_
        refine PW.iconst (x := 1) dX11_readGate_81 (by decide) ?_
        have h := Option.some.inj h; subst h
        exact PW.ret dX11_readGate_82 (z_nar (Or.inr rfl)).1 rfl
      · rw [if_pos c47] at h
        refine PW.iconst (x := 0) dX11_readGate_50 (by decide) ?_
        have h := Option.some.inj h; subst h
        exact PW.ret dX11_readGate_51 (z_nar (Or.inl rfl)).1 rfl
    · rw [if_pos c16] at h
      refine PW.iconst (x := 0) dX11_readGate_19 (by decide) ?_
      have h := Option.some.inj h; subst h
      exact PW.ret dX11_readGate_20 (z_nar (Or.inl rfl)).1 rfl
-- X11_readPair
def f_X11_readPair (a0 : Nat) (a1 : Int32) (hp : PH) : Option (Int32 × PH) := (gR hp a0 10 18).bind fun x1 => (aI hp x1 0 0).bind fun x2 => (vC hp a0 10 (f_X11_isNumber a0 0 (x2 - 1) hp)).bind fun q3 => (if q3.1 = 0 then (some (0, q3.2)) else (gJ q3.2 a0 10 17).bind fun x4 => (gR q3.2 a0 10 18).bind fun x5 => (aI q3.2 x5 0 0).bind fun x6 => (vC q3.2 a0 10 (f_X11_isNumber a0 0 (x6 - 1) q3.2)).bind fun q7 => (if q7.1 = 0 then (some (0, q7.2)) else (gJ q7.2 a0 10 17).bind fun x8 => (if (lg_cmp x8 (Int32.toInt64 (Int64.toInt32 x4))) = 0 then (some (0, q7.2)) else (gR q7.2 a0 10 18).bind fun x9 => (aI q7.2 x9 0 (a1 + (Int64.toInt32 x4))).bind fun x10 => (gJ q7.2 a0 10 17).bind fun x11 => (uI q7.2 x9 (a1 + (Int64.toInt32 x4)) (x10 ||| (iL 1 (Int64.toInt32 x11)))).bind fun hp12 => (gR hp12 a0 10 18).bind fun x13 => (gJ hp12 a0 10 17).bind fun x14 => (aI hp12 x13 0 (a1 + (Int64.toInt32 x14))).bind fun x15 => (uI hp12 x13 (a1 + (Int64.toInt32 x14)) (x15 ||| (iL 1 (Int64.toInt32 x4)))).bind fun hp16 => (some (1, hp16)))))
set_option maxRecDepth 100000 in
set_option maxHeartbeats 4000000 in
theorem mf_X11_readPair {K : GK} : ∀ (a0 : Nat) (a1 : Int32) (hp : PH) (r : (Int32 × PH)), f_X11_readPair a0 a1 hp = some r → PM K (3) M_X11_readPair [.ref (ga K a0), .int a1] hp (some (.int r.1)) r.2 := by
  intro a0 a1 hp r h
  unfold f_X11_readPair at h
  refine PM.enter (l0 := [(0, .ref (ga K a0)), (1, .int a1)]) (by decide +kernel) rfl (Nat.le_of_ble_eq_true rfl) rfl ?_
  refine PW.aload_n 0 dX11_readPair_0 rfl rfl ?_
  refine PW.iconst (x := 0) dX11_readPair_1 (by decide) ?_
  refine PW.aload_n 0 dX11_readPair_2 rfl rfl ?_
  obtain ⟨x1, hx1, h⟩ := bind_some h
  refine PW.getR cls_X11 (j := 18) (by decide) dX11_readPair_3 wd_913 hx1 ?_
  refine PW.iconst (x := 0) dX11_readPair_6 (by decide) ?_
  obtain ⟨x2, hx2, h⟩ := bind_some h
  refine PW.iald dX11_readPair_7 hx2 ?_
  refine PW.iconst (x := 1) dX11_readPair_8 (by decide) ?_
  refine PW.isub dX11_readPair_9 ?_
  obtain ⟨q3, hq3, h⟩ := bind_some h
  obtain ⟨hkq3, hcq3, hq3⟩ := vC_spec hq3
  refine PW.callVi (As := [.int 0, .int (x2 - 1)]) (rest := []) (k := a0) cal_X11_isNumber dX11_readPair_10 wd_1128 rfl rfl (rmLe (by omega)) (Nat.le_of_ble_eq_true rfl) rm_0 hkq3 hcq3 (mf_X11_isNumber a0 0 (x2 - 1) hp _ hq3) ?_
  refine PW.if_ne (tgt := 18) dX11_readPair_13 (by decide) (fun c13 => ?_) (fun c13 => ?_)
  · rw [if_neg c13] at h
    refine PW.aload_n 0 dX11_readPair_18 rfl rfl ?_
    obtain ⟨x4, hx4, h⟩ := bind_some h
    refine PW.getJ cls_X11 (j := 17) (by decide) dX11_readPair_19 wd_912 hx4 ?_
    refine PW.l2i dX11_readPair_22 ?_
    refine PW.istore_n (l' := [(2, .int (Int64.toInt32 x4)), (0, .ref (ga K a0)), (1, .int a1)]) dX11_readPair_23 rfl (by decide) rfl ?_
    refine PW.aload_n 1 dX11_readPair_24 rfl rfl ?_
    refine PW.iconst (x := 0) dX11_readPair_25 (by decide) ?_
    refine PW.aload_n 1 dX11_readPair_26 rfl rfl ?_
    obtain ⟨x5, hx5, h⟩ := bind_some h
    refine PW.getR cls_X11 (j := 18) (by decide) dX11_readPair_27 wd_913 hx5 ?_
    refine PW.iconst (x := 0) dX11_readPair_30 (by decide) ?_
    obtain ⟨x6, hx6, h⟩ := bind_some h
    refine PW.iald dX11_readPair_31 hx6 ?_
    refine PW.iconst (x := 1) dX11_readPair_32 (by decide) ?_
    refine PW.isub dX11_readPair_33 ?_
    obtain ⟨q7, hq7, h⟩ := bind_some h
    obtain ⟨hkq7, hcq7, hq7⟩ := vC_spec hq7
    refine PW.callVi (As := [.int 0, .int (x6 - 1)]) (rest := []) (k := a0) cal_X11_isNumber dX11_readPair_34 wd_1128 rfl rfl (rmLe (by omega)) (Nat.le_of_ble_eq_true rfl) rm_0 hkq7 hcq7 (mf_X11_isNumber a0 0 (x6 - 1) q3.2 _ hq7) ?_
    refine PW.if_eq (tgt := 50) dX11_readPair_37 (by decide) (fun c37 => ?_) (fun c37 => ?_)
    · rw [if_pos c37] at h
      refine PW.iconst (x := 0) dX11_readPair_50 (by decide) ?_
      have h := Option.some.inj h; subst h
      exact PW.ret dX11_readPair_51 (z_nar (Or.inl rfl)).1 rfl
    · rw [if_neg c37] at h
      refine PW.aload_n 1 dX11_readPair_40 rfl rfl ?_
      obtain ⟨x8, hx8, h⟩ := bind_some h
      refine PW.getJ cls_X11 (j := 17) (by decide) dX11_readPair_41 wd_912 hx8 ?_
      refine PW.iload_n 0 dX11_readPair_44 rfl rfl ?_
      refine PW.i2l dX11_readPair_45 ?_
      refine PW.lcmp dX11_readPair_46 ?_
      refine PW.if_ne (tgt := 52) dX11_readPair_47 (by decide) (fun c47 => ?_) (fun c47 => ?_)
      · rw [if_neg c47] at h
        refine PW.aload_n 1 dX11_readPair_52 rfl rfl ?_
        obtain ⟨x9, hx9, h⟩ := bind_some h
        refine PW.getR cls_X11 (j := 18) (by decide) dX11_readPair_53 wd_913 hx9 ?_
        refine PW.iload_n 2 dX11_readPair_56 rfl rfl ?_
        refine PW.iload_n 0 dX11_readPair_57 rfl rfl ?_
        refine PW.iadd dX11_readPair_58 ?_
        refine PW.dup2 dX11_readPair_59 rfl rfl ?_
        obtain ⟨x10, hx10, h⟩ := bind_some h
        refine PW.iald dX11_readPair_60 hx10 ?_
        refine PW.iconst (x := 1) dX11_readPair_61 (by decide) ?_
        refine PW.aload_n 1 dX11_readPair_62 rfl rfl ?_
        obtain ⟨x11, hx11, h⟩ := bind_some h
        refine PW.getJ cls_X11 (j := 17) (by decide) dX11_readPair_63 wd_912 hx11 ?_
        refine PW.l2i dX11_readPair_66 ?_
        refine PW.ishl dX11_readPair_67 ?_
        refine PW.ior dX11_readPair_68 ?_
        obtain ⟨hp12, hhp12, h⟩ := bind_some h
        refine PW.iast dX11_readPair_69 hhp12 ?_
        refine PW.aload_n 1 dX11_readPair_70 rfl rfl ?_
        obtain ⟨x13, hx13, h⟩ := bind_some h
        refine PW.getR cls_X11 (j := 18) (by decide) dX11_readPair_71 wd_913 hx13 ?_
        refine PW.iload_n 2 dX11_readPair_74 rfl rfl ?_
        refine PW.aload_n 1 dX11_readPair_75 rfl rfl ?_
        obtain ⟨x14, hx14, h⟩ := bind_some h
        refine PW.getJ cls_X11 (j := 17) (by decide) dX11_readPair_76 wd_912 hx14 ?_
        refine PW.l2i dX11_readPair_79 ?_
        refine PW.iadd dX11_readPair_80 ?_
        refine PW.dup2 dX11_readPair_81 rfl rfl ?_
        obtain ⟨x15, hx15, h⟩ := bind_some h
        refine PW.iald dX11_readPair_82 hx15 ?_
        refine PW.iconst (x := 1) dX11_readPair_83 (by decide) ?_
        refine PW.iload_n 0 dX11_readPair_84 rfl rfl ?_
        refine PW.ishl dX11_readPair_85 ?_
        refine PW.ior dX11_readPair_86 ?_
        obtain ⟨hp16, hhp16, h⟩ := bind_some h
        refine PW.iast dX11_readPair_87 hhp16 ?_
        refine PW.iconst (x := 1) dX11_readPair_88 (by decide) ?_
        have h := Option.some.inj h; subst h
        exact PW.ret dX11_readPair_89 (z_nar (Or.inr rfl)).1 rfl
      · rw [if_pos c47] at h
        refine PW.iconst (x := 0) dX11_readPair_50 (by decide) ?_
        have h := Option.some.inj h; subst h
        exact PW.ret dX11_readPair_51 (z_nar (Or.inl rfl)).1 rfl
  · rw [if_pos c13] at h
    refine PW.iconst (x := 0) dX11_readPair_16 (by decide) ?_
    have h := Option.some.inj h; subst h
    exact PW.ret dX11_readPair_17 (z_nar (Or.inl rfl)).1 rfl
-- X11_readItem
def f_X11_readItem_J90 (a0 : Nat) (a1 : Int32) (hp : PH) : Option (Int32 × PH) := (if a1 = 0 then (some (0, hp)) else (gI hp a0 10 16).bind fun x5 => (if x5 = 3 then (some (1, hp)) else (some (0, hp))))
def f_X11_readItem (a0 : Nat) (hp : PH) : Option (Int32 × PH) := (gJ hp a0 10 17).bind fun x1 => (if (lg_cmp x1 232608281) = 0 then (vC hp a0 10 (f_X11_readPerson a0 hp)).bind fun q12 => (if q12.1 = 0 then (f_X11_readItem_J90 a0 q12.1 q12.2) else (vC q12.2 a0 10 (f_X11_nextToken a0 q12.2)).bind fun q13 => (f_X11_readItem_J90 a0 q12.1 q13)) else (gJ hp a0 10 17).bind fun x2 => (if (lg_cmp x2 139055) = 0 then (vC hp a0 10 (f_X11_readGate a0 hp)).bind fun q10 => (if q10.1 = 0 then (f_X11_readItem_J90 a0 q10.1 q10.2) else (vC q10.2 a0 10 (f_X11_nextToken a0 q10.2)).bind fun q11 => (f_X11_readItem_J90 a0 q10.1 q11)) else (gJ hp a0 10 17).bind fun x3 => (if (lg_cmp x3 459818) = 0 then (vC hp a0 10 (f_X11_readPair a0 13 hp)).bind fun q8 => (if q8.1 = 0 then (f_X11_readItem_J90 a0 q8.1 q8.2) else (vC q8.2 a0 10 (f_X11_nextToken a0 q8.2)).bind fun q9 => (f_X11_readItem_J90 a0 q8.1 q9)) else (gJ hp a0 10 17).bind fun x4 => (if (lg_cmp x4 847604) = 0 then (vC hp a0 10 (f_X11_readPair a0 21 hp)).bind fun q6 => (if q6.1 = 0 then (f_X11_readItem_J90 a0 0 q6.2) else (vC q6.2 a0 10 (f_X11_nextToken a0 q6.2)).bind fun q7 => (f_X11_readItem_J90 a0 1 q7)) else (f_X11_readItem_J90 a0 0 hp)))))
set_option maxRecDepth 100000 in
set_option maxHeartbeats 4000000 in
theorem mf_X11_readItem_J90 {K : GK} : ∀ (a0 : Nat) (a1 : Int32) (hp : PH) (r : (Int32 × PH)), f_X11_readItem_J90 a0 a1 hp = some r → PW K (rmD (4)) 0 0 M_X11_readItem 90 [(0, .ref (ga K a0)), (1, .int a1)] [] hp (some (.int r.1)) r.2 := by
  intro a0 a1 hp r h
  unfold f_X11_readItem_J90 at h
  refine PW.iload_n 1 dX11_readItem_90 rfl rfl ?_
  refine PW.if_eq (tgt := 106) dX11_readItem_91 (by decide) (fun c91 => ?_) (fun c91 => ?_)
  · rw [if_pos c91] at h
    refine PW.iconst (x := 0) dX11_readItem_106 (by decide) ?_
    have h := Option.some.inj h; subst h
    exact PW.ret dX11_readItem_107 (z_nar (Or.inl rfl)).1 rfl
  · rw [if_neg c91] at h
    refine PW.aload_n 0 dX11_readItem_94 rfl rfl ?_
    obtain ⟨x5, hx5, h⟩ := bind_some h
    refine PW.getI cls_X11 (j := 16) (by decide) dX11_readItem_95 wd_911 hx5 ?_
    refine PW.iconst (x := 3) dX11_readItem_98 (by decide) ?_
    refine PW.icmp_ne (tgt := 106) dX11_readItem_99 (by decide) (fun c99 => ?_) (fun c99 => ?_)
    · rw [if_neg c99] at h
      refine PW.iconst (x := 0) dX11_readItem_106 (by decide) ?_
      have h := Option.some.inj h; subst h
      exact PW.ret dX11_readItem_107 (z_nar (Or.inl rfl)).1 rfl
    · rw [if_pos c99] at h
      refine PW.iconst (x := 1) dX11_readItem_102 (by decide) ?_
      refine PW.goto (tgt := 107) dX11_readItem_103 (by decide) ?_
      have h := Option.some.inj h; subst h
      exact PW.ret dX11_readItem_107 (z_nar (Or.inr rfl)).1 rfl
set_option maxRecDepth 100000 in
set_option maxHeartbeats 4000000 in
theorem mf_X11_readItem {K : GK} : ∀ (a0 : Nat) (hp : PH) (r : (Int32 × PH)), f_X11_readItem a0 hp = some r → PM K (4) M_X11_readItem [.ref (ga K a0)] hp (some (.int r.1)) r.2 := by
  intro a0 hp r h
  unfold f_X11_readItem at h
  refine PM.enter (l0 := [(0, .ref (ga K a0))]) (by decide +kernel) rfl (Nat.le_of_ble_eq_true rfl) rfl ?_
  refine PW.aload_n 0 dX11_readItem_0 rfl rfl ?_
  obtain ⟨x1, hx1, h⟩ := bind_some h
  refine PW.getJ cls_X11 (j := 17) (by decide) dX11_readItem_1 wd_912 hx1 ?_
  refine PW.ldc2 (x := 232608281) dX11_readItem_4 wd_1123 ?_
  refine PW.lcmp dX11_readItem_7 ?_
  refine PW.if_ne (tgt := 18) dX11_readItem_8 (by decide) (fun c8 => ?_) (fun c8 => ?_)
  · rw [if_neg c8] at h
    refine PW.aload_n 0 dX11_readItem_18 rfl rfl ?_
    obtain ⟨x2, hx2, h⟩ := bind_some h
    refine PW.getJ cls_X11 (j := 17) (by decide) dX11_readItem_19 wd_912 hx2 ?_
    refine PW.ldc2 (x := 139055) dX11_readItem_22 wd_1132 ?_
    refine PW.lcmp dX11_readItem_25 ?_
    refine PW.if_ne (tgt := 36) dX11_readItem_26 (by decide) (fun c26 => ?_) (fun c26 => ?_)
    · rw [if_neg c26] at h
      refine PW.aload_n 0 dX11_readItem_36 rfl rfl ?_
      obtain ⟨x3, hx3, h⟩ := bind_some h
      refine PW.getJ cls_X11 (j := 17) (by decide) dX11_readItem_37 wd_912 hx3 ?_
      refine PW.ldc2 (x := 459818) dX11_readItem_40 wd_1137 ?_
      refine PW.lcmp dX11_readItem_43 ?_
      refine PW.if_ne (tgt := 56) dX11_readItem_44 (by decide) (fun c44 => ?_) (fun c44 => ?_)
      · rw [if_neg c44] at h
        refine PW.aload_n 0 dX11_readItem_56 rfl rfl ?_
        obtain ⟨x4, hx4, h⟩ := bind_some h
        refine PW.getJ cls_X11 (j := 17) (by decide) dX11_readItem_57 wd_912 hx4 ?_
        refine PW.ldc2 (x := 847604) dX11_readItem_60 wd_1142 ?_
        refine PW.lcmp dX11_readItem_63 ?_
        refine PW.if_ne (tgt := 80) dX11_readItem_64 (by decide) (fun c64 => ?_) (fun c64 => ?_)
        · rw [if_neg c64] at h
          refine PW.iconst (x := 0) dX11_readItem_80 (by decide) ?_
          refine PW.istore_n (l' := [(1, .int 0), (0, .ref (ga K a0))]) dX11_readItem_81 rfl (by decide) rfl ?_
          refine PW.iload_n 0 dX11_readItem_82 rfl rfl ?_
          refine PW.if_eq (tgt := 90) dX11_readItem_83 (by decide) (fun c83 => ?_) (fun c83 => absurd c83 (by decide))
          exact PW.sub (l' := [(0, .ref (ga K a0)), (1, .int 0)]) [1, 0] rfl (mf_X11_readItem_J90 a0 0 hp _ h)
        · rw [if_pos c64] at h
          refine PW.aload_n 0 dX11_readItem_67 rfl rfl ?_
          refine PW.bipush (x := 21) dX11_readItem_68 (by decide) ?_
          obtain ⟨q6, hq6, h⟩ := bind_some h
          obtain ⟨hkq6, hcq6, hq6⟩ := vC_spec hq6
          refine PW.callVi (As := [.int 21]) (rest := []) (k := a0) cal_X11_readPair dX11_readItem_70 wd_1138 rfl rfl (rmLe (by omega)) (Nat.le_of_ble_eq_true rfl) rm_0 hkq6 hcq6 (mf_X11_readPair a0 21 hp _ hq6) ?_
          refine PW.if_eq (tgt := 80) dX11_readItem_73 (by decide) (fun c73 => ?_) (fun c73 => ?_)
          · rw [if_pos c73] at h
            refine PW.iconst (x := 0) dX11_readItem_80 (by decide) ?_
            refine PW.istore_n (l' := [(1, .int 0), (0, .ref (ga K a0))]) dX11_readItem_81 rfl (by decide) rfl ?_
            refine PW.iload_n 0 dX11_readItem_82 rfl rfl ?_
            refine PW.if_eq (tgt := 90) dX11_readItem_83 (by decide) (fun c83 => ?_) (fun c83 => absurd c83 (by decide))
            exact PW.sub (l' := [(0, .ref (ga K a0)), (1, .int 0)]) [1, 0] rfl (mf_X11_readItem_J90 a0 0 q6.2 _ h)
          · rw [if_neg c73] at h
            refine PW.iconst (x := 1) dX11_readItem_76 (by decide) ?_
            refine PW.goto (tgt := 81) dX11_readItem_77 (by decide) ?_
            refine PW.istore_n (l' := [(1, .int 1), (0, .ref (ga K a0))]) dX11_readItem_81 rfl (by decide) rfl ?_
            refine PW.iload_n 0 dX11_readItem_82 rfl rfl ?_
            refine PW.if_eq (tgt := 90) dX11_readItem_83 (by decide) (fun c83 => absurd c83 (by decide)) (fun c83 => ?_)
            refine PW.aload_n 1 dX11_readItem_86 rfl rfl ?_
            obtain ⟨q7, hq7, h⟩ := bind_some h
            obtain ⟨hkq7, hcq7, hq7⟩ := vC_spec hq7
            refine PW.callVv (As := []) (rest := []) (k := a0) cal_X11_nextToken dX11_readItem_87 wd_1103 rfl rfl (rmLe (by omega)) (Nat.le_of_ble_eq_true rfl) rm_0 hkq7 hcq7 (mf_X11_nextToken a0 q6.2 _ hq7) ?_
            exact PW.sub (l' := [(0, .ref (ga K a0)), (1, .int 1)]) [1, 0] rfl (mf_X11_readItem_J90 a0 1 q7 _ h)
      · rw [if_pos c44] at h
        refine PW.aload_n 0 dX11_readItem_47 rfl rfl ?_
        refine PW.bipush (x := 13) dX11_readItem_48 (by decide) ?_
        obtain ⟨q8, hq8, h⟩ := bind_some h
        obtain ⟨hkq8, hcq8, hq8⟩ := vC_spec hq8
        refine PW.callVi (As := [.int 13]) (rest := []) (k := a0) cal_X11_readPair dX11_readItem_50 wd_1138 rfl rfl (rmLe (by omega)) (Nat.le_of_ble_eq_true rfl) rm_0 hkq8 hcq8 (mf_X11_readPair a0 13 hp _ hq8) ?_
        refine PW.goto (tgt := 81) dX11_readItem_53 (by decide) ?_
        refine PW.istore_n (l' := [(1, .int q8.1), (0, .ref (ga K a0))]) dX11_readItem_81 rfl (by decide) rfl ?_
        refine PW.iload_n 0 dX11_readItem_82 rfl rfl ?_
        refine PW.if_eq (tgt := 90) dX11_readItem_83 (by decide) (fun c83 => ?_) (fun c83 => ?_)
        · rw [if_pos c83] at h
          exact PW.sub (l' := [(0, .ref (ga K a0)), (1, .int q8.1)]) [1, 0] rfl (mf_X11_readItem_J90 a0 q8.1 q8.2 _ h)
        · rw [if_neg c83] at h
          refine PW.aload_n 1 dX11_readItem_86 rfl rfl ?_
          obtain ⟨q9, hq9, h⟩ := bind_some h
          obtain ⟨hkq9, hcq9, hq9⟩ := vC_spec hq9
          refine PW.callVv (As := []) (rest := []) (k := a0) cal_X11_nextToken dX11_readItem_87 wd_1103 rfl rfl (rmLe (by omega)) (Nat.le_of_ble_eq_true rfl) rm_0 hkq9 hcq9 (mf_X11_nextToken a0 q8.2 _ hq9) ?_
          exact PW.sub (l' := [(0, .ref (ga K a0)), (1, .int q8.1)]) [1, 0] rfl (mf_X11_readItem_J90 a0 q8.1 q9 _ h)
    · rw [if_pos c26] at h
      refine PW.aload_n 0 dX11_readItem_29 rfl rfl ?_
      obtain ⟨q10, hq10, h⟩ := bind_some h
      obtain ⟨hkq10, hcq10, hq10⟩ := vC_spec hq10
      refine PW.callVi (As := []) (rest := []) (k := a0) cal_X11_readGate dX11_readItem_30 wd_1133 rfl rfl (rmLe (by omega)) (Nat.le_of_ble_eq_true rfl) rm_0 hkq10 hcq10 (mf_X11_readGate a0 hp _ hq10) ?_
      refine PW.goto (tgt := 81) dX11_readItem_33 (by decide) ?_
      refine PW.istore_n (l' := [(1, .int q10.1), (0, .ref (ga K a0))]) dX11_readItem_81 rfl (by decide) rfl ?_
      refine PW.iload_n 0 dX11_readItem_82 rfl rfl ?_
      refine PW.if_eq (tgt := 90) dX11_readItem_83 (by decide) (fun c83 => ?_) (fun c83 => ?_)
      · rw [if_pos c83] at h
        exact PW.sub (l' := [(0, .ref (ga K a0)), (1, .int q10.1)]) [1, 0] rfl (mf_X11_readItem_J90 a0 q10.1 q10.2 _ h)
      · rw [if_neg c83] at h
        refine PW.aload_n 1 dX11_readItem_86 rfl rfl ?_
        obtain ⟨q11, hq11, h⟩ := bind_some h
        obtain ⟨hkq11, hcq11, hq11⟩ := vC_spec hq11
        refine PW.callVv (As := []) (rest := []) (k := a0) cal_X11_nextToken dX11_readItem_87 wd_1103 rfl rfl (rmLe (by omega)) (Nat.le_of_ble_eq_true rfl) rm_0 hkq11 hcq11 (mf_X11_nextToken a0 q10.2 _ hq11) ?_
        exact PW.sub (l' := [(0, .ref (ga K a0)), (1, .int q10.1)]) [1, 0] rfl (mf_X11_readItem_J90 a0 q10.1 q11 _ h)
  · rw [if_pos c8] at h
    refine PW.aload_n 0 dX11_readItem_11 rfl rfl ?_
    obtain ⟨q12, hq12, h⟩ := bind_some h
    obtain ⟨hkq12, hcq12, hq12⟩ := vC_spec hq12
    refine PW.callVi (As := []) (rest := []) (k := a0) cal_X11_readPerson dX11_readItem_12 wd_1124 rfl rfl (rmLe (by omega)) (Nat.le_of_ble_eq_true rfl) rm_0 hkq12 hcq12 (mf_X11_readPerson a0 hp _ hq12) ?_
    refine PW.goto (tgt := 81) dX11_readItem_15 (by decide) ?_
    refine PW.istore_n (l' := [(1, .int q12.1), (0, .ref (ga K a0))]) dX11_readItem_81 rfl (by decide) rfl ?_
    refine PW.iload_n 0 dX11_readItem_82 rfl rfl ?_
    refine PW.if_eq (tgt := 90) dX11_readItem_83 (by decide) (fun c83 => ?_) (fun c83 => ?_)
    · rw [if_pos c83] at h
      exact PW.sub (l' := [(0, .ref (ga K a0)), (1, .int q12.1)]) [1, 0] rfl (mf_X11_readItem_J90 a0 q12.1 q12.2 _ h)
    · rw [if_neg c83] at h
      refine PW.aload_n 1 dX11_readItem_86 rfl rfl ?_
      obtain ⟨q13, hq13, h⟩ := bind_some h
      obtain ⟨hkq13, hcq13, hq13⟩ := vC_spec hq13
      refine PW.callVv (As := []) (rest := []) (k := a0) cal_X11_nextToken dX11_readItem_87 wd_1103 rfl rfl (rmLe (by omega)) (Nat.le_of_ble_eq_true rfl) rm_0 hkq13 hcq13 (mf_X11_nextToken a0 q12.2 _ hq13) ?_
      exact PW.sub (l' := [(0, .ref (ga K a0)), (1, .int q12.1)]) [1, 0] rfl (mf_X11_readItem_J90 a0 q12.1 q13 _ h)
-- X11_read
def f_X11_read_L98 : Nat → Nat → Int32 → Int32 → PH → Option (Int32 × PH)
  | 0, _, _, _, _ => none
  | n + 1, a0, a1, a2, hp => (if 37 ≤ a2 then (some (a1, hp)) else (gR hp a0 10 0).bind fun x12 => (gR hp a0 10 18).bind fun x13 => (aI hp x13 0 a2).bind fun x14 => (uI hp x12 a2 x14).bind fun hp15 => ((f_X11_read_L98 n) a0 a1 (a2 + 1) hp15))
def f_X11_read_L32 : Nat → Nat → Int32 → PH → Option (Int32 × PH)
  | 0, _, _, _ => none
  | n + 1, a0, a1, hp => (gI hp a0 10 16).bind fun x3 => (if x3 = 0 then (gR hp a0 10 0).bind fun x4 => (gR hp a0 10 18).bind fun x5 => (aI hp x5 0 0).bind fun x6 => (uI hp x4 0 x6).bind fun hp7 => (gR hp7 a0 10 0).bind fun x8 => (gR hp7 a0 10 18).bind fun x9 => (aI hp7 x9 0 1).bind fun x10 => (uI hp7 x8 1 x10).bind fun hp11 => (f_X11_read_L98 NN a0 a1 5 hp11) else (gI hp a0 10 16).bind fun x16 => (if x16 = 1 then (vC hp a0 10 (f_X11_readItem a0 hp)).bind fun q18 => (if q18.1 = 0 then (gI q18.2 a0 10 14).bind fun x20 => (some (((-10) - x20), q18.2)) else (vC q18.2 a0 10 (f_X11_nextToken a0 q18.2)).bind fun q19 => ((f_X11_read_L32 n) a0 (a1 + 1) q19)) else (gI hp a0 10 14).bind fun x17 => (some (((-10) - x17), hp))))
def f_X11_read_L2 : Nat → Nat → Int32 → PH → Option (Int32 × PH)
  | 0, _, _, _ => none
  | n + 1, a0, a1, hp => (if 37 ≤ a1 then (pI hp a0 10 15 0).bind fun hp1 => (vC hp1 a0 10 (f_X11_nextToken a0 hp1)).bind fun q2 => (f_X11_read_L32 NN a0 0 q2) else (gR hp a0 10 18).bind fun x21 => (uI hp x21 a1 0).bind fun hp22 => ((f_X11_read_L2 n) a0 (a1 + 1) hp22))
def f_X11_read (a0 : Nat) (hp : PH) : Option (Int32 × PH) := (f_X11_read_L2 NN a0 0 hp)
set_option maxRecDepth 100000 in
set_option maxHeartbeats 4000000 in
theorem mf_X11_read_L98 {K : GK} : ∀ (n : Nat) (a0 : Nat) (a1 : Int32) (a2 : Int32) (hp : PH) (r : (Int32 × PH)), f_X11_read_L98 n a0 a1 a2 hp = some r → PW K (rmD (5)) 0 0 M_X11_read 98 [(0, .ref (ga K a0)), (1, .int a1), (2, .int a2)] [] hp (some (.int r.1)) r.2 := by
  intro n
  induction n with
  | zero =>
    intro a0 a1 a2 hp r h
    rw [f_X11_read_L98] at h
    cases h
  | succ n ih =>
    intro a0 a1 a2 hp r h
    rw [f_X11_read_L98] at h
    refine PW.iload_n 2 dX11_read_98 rfl rfl ?_
    refine PW.bipush (x := 37) dX11_read_99 (by decide) ?_
    refine PW.icmp_ge (tgt := 122) dX11_read_101 (by decide) (fun c101 => ?_) (fun c101 => ?_)
    · rw [if_pos c101] at h
      refine PW.iload_n 1 dX11_read_122 rfl rfl ?_
      have h := Option.some.inj h; subst h
      exact PW.ret dX11_read_123 trivial rfl
    · rw [if_neg c101] at h
      refine PW.aload_n 0 dX11_read_104 rfl rfl ?_
      obtain ⟨x12, hx12, h⟩ := bind_some h
      refine PW.getR cls_X11 (j := 0) (by decide) dX11_read_105 wd_895 hx12 ?_
      refine PW.iload_n 2 dX11_read_108 rfl rfl ?_
      refine PW.aload_n 0 dX11_read_109 rfl rfl ?_
      obtain ⟨x13, hx13, h⟩ := bind_some h
      refine PW.getR cls_X11 (j := 18) (by decide) dX11_read_110 wd_913 hx13 ?_
      refine PW.iload_n 2 dX11_read_113 rfl rfl ?_
      obtain ⟨x14, hx14, h⟩ := bind_some h
      refine PW.iald dX11_read_114 hx14 ?_
      obtain ⟨hp15, hhp15, h⟩ := bind_some h
      refine PW.iast dX11_read_115 hhp15 ?_
      refine PW.iinc 2 (l' := [(2, .int (a2 + 1)), (0, .ref (ga K a0)), (1, .int a1)]) dX11_read_116 rfl (x := a2) (y := (a2 + 1)) rfl (by decide) rfl ?_
      refine PW.goto (tgt := 98) dX11_read_119 (by decide) ?_
      exact PW.sub (l' := [(0, .ref (ga K a0)), (1, .int a1), (2, .int (a2 + 1))]) [1, 2, 0] rfl (ih a0 a1 (a2 + 1) hp15 _ h)
set_option maxRecDepth 100000 in
set_option maxHeartbeats 4000000 in
theorem mf_X11_read_L32 {K : GK} : ∀ (n : Nat) (a0 : Nat) (a1 : Int32) (hp : PH) (r : (Int32 × PH)), f_X11_read_L32 n a0 a1 hp = some r → PW K (rmD (5)) 0 0 M_X11_read 32 [(0, .ref (ga K a0)), (1, .int a1)] [] hp (some (.int r.1)) r.2 := by
  intro n
  induction n with
  | zero =>
    intro a0 a1 hp r h
    rw [f_X11_read_L32] at h
    cases h
  | succ n ih =>
    intro a0 a1 hp r h
    rw [f_X11_read_L32] at h
    refine PW.aload_n 0 dX11_read_32 rfl rfl ?_
    obtain ⟨x3, hx3, h⟩ := bind_some h
    refine PW.getI cls_X11 (j := 16) (by decide) dX11_read_33 wd_911 hx3 ?_
    refine PW.if_eq (tgt := 72) dX11_read_36 (by decide) (fun c36 => ?_) (fun c36 => ?_)
    · rw [if_pos c36] at h
      refine PW.aload_n 0 dX11_read_72 rfl rfl ?_
      obtain ⟨x4, hx4, h⟩ := bind_some h
      refine PW.getR cls_X11 (j := 0) (by decide) dX11_read_73 wd_895 hx4 ?_
      refine PW.iconst (x := 0) dX11_read_76 (by decide) ?_
      refine PW.aload_n 0 dX11_read_77 rfl rfl ?_
      obtain ⟨x5, hx5, h⟩ := bind_some h
      refine PW.getR cls_X11 (j := 18) (by decide) dX11_read_78 wd_913 hx5 ?_
      refine PW.iconst (x := 0) dX11_read_81 (by decide) ?_
      obtain ⟨x6, hx6, h⟩ := bind_some h
      refine PW.iald dX11_read_82 hx6 ?_
      obtain ⟨hp7, hhp7, h⟩ := bind_some h
      refine PW.iast dX11_read_83 hhp7 ?_
      refine PW.aload_n 0 dX11_read_84 rfl rfl ?_
      obtain ⟨x8, hx8, h⟩ := bind_some h
      refine PW.getR cls_X11 (j := 0) (by decide) dX11_read_85 wd_895 hx8 ?_
      refine PW.iconst (x := 1) dX11_read_88 (by decide) ?_
      refine PW.aload_n 0 dX11_read_89 rfl rfl ?_
      obtain ⟨x9, hx9, h⟩ := bind_some h
      refine PW.getR cls_X11 (j := 18) (by decide) dX11_read_90 wd_913 hx9 ?_
      refine PW.iconst (x := 1) dX11_read_93 (by decide) ?_
      obtain ⟨x10, hx10, h⟩ := bind_some h
      refine PW.iald dX11_read_94 hx10 ?_
      obtain ⟨hp11, hhp11, h⟩ := bind_some h
      refine PW.iast dX11_read_95 hhp11 ?_
      refine PW.iconst (x := 5) dX11_read_96 (by decide) ?_
      refine PW.istore_n (l' := [(2, .int 5), (0, .ref (ga K a0)), (1, .int a1)]) dX11_read_97 rfl (by decide) rfl ?_
      exact PW.sub (l' := [(0, .ref (ga K a0)), (1, .int a1), (2, .int 5)]) [1, 2, 0] rfl (mf_X11_read_L98 NN a0 a1 5 hp11 _ h)
    · rw [if_neg c36] at h
      refine PW.aload_n 0 dX11_read_39 rfl rfl ?_
      obtain ⟨x16, hx16, h⟩ := bind_some h
      refine PW.getI cls_X11 (j := 16) (by decide) dX11_read_40 wd_911 hx16 ?_
      refine PW.iconst (x := 1) dX11_read_43 (by decide) ?_
      refine PW.icmp_ne (tgt := 54) dX11_read_44 (by decide) (fun c44 => ?_) (fun c44 => ?_)
      · rw [if_neg c44] at h
        refine PW.bipush (x := (-10)) dX11_read_54 (by decide) ?_
        refine PW.aload_n 0 dX11_read_56 rfl rfl ?_
        obtain ⟨x17, hx17, h⟩ := bind_some h
        refine PW.getI cls_X11 (j := 14) (by decide) dX11_read_57 wd_909 hx17 ?_
        refine PW.isub dX11_read_60 ?_
        have h := Option.some.inj h; subst h
        exact PW.ret dX11_read_61 trivial rfl
      · rw [if_pos c44] at h
        refine PW.aload_n 0 dX11_read_47 rfl rfl ?_
        obtain ⟨q18, hq18, h⟩ := bind_some h
        obtain ⟨hkq18, hcq18, hq18⟩ := vC_spec hq18
        refine PW.callVi (As := []) (rest := []) (k := a0) cal_X11_readItem dX11_read_48 wd_1119 rfl rfl (rmLe (by omega)) (Nat.le_of_ble_eq_true rfl) rm_0 hkq18 hcq18 (mf_X11_readItem a0 hp _ hq18) ?_
        refine PW.if_ne (tgt := 62) dX11_read_51 (by decide) (fun c51 => ?_) (fun c51 => ?_)
        · rw [if_neg c51] at h
          refine PW.iinc 1 (l' := [(1, .int (a1 + 1)), (0, .ref (ga K a0))]) dX11_read_62 rfl (x := a1) (y := (a1 + 1)) rfl (by decide) rfl ?_
          refine PW.aload_n 1 dX11_read_65 rfl rfl ?_
          obtain ⟨q19, hq19, h⟩ := bind_some h
          obtain ⟨hkq19, hcq19, hq19⟩ := vC_spec hq19
          refine PW.callVv (As := []) (rest := []) (k := a0) cal_X11_nextToken dX11_read_66 wd_1103 rfl rfl (rmLe (by omega)) (Nat.le_of_ble_eq_true rfl) rm_0 hkq19 hcq19 (mf_X11_nextToken a0 q18.2 _ hq19) ?_
          refine PW.goto (tgt := 32) dX11_read_69 (by decide) ?_
          exact PW.sub (l' := [(0, .ref (ga K a0)), (1, .int (a1 + 1))]) [1, 0] rfl (ih a0 (a1 + 1) q19 _ h)
        · rw [if_pos c51] at h
          refine PW.bipush (x := (-10)) dX11_read_54 (by decide) ?_
          refine PW.aload_n 0 dX11_read_56 rfl rfl ?_
          obtain ⟨x20, hx20, h⟩ := bind_some h
          refine PW.getI cls_X11 (j := 14) (by decide) dX11_read_57 wd_909 hx20 ?_
          refine PW.isub dX11_read_60 ?_
          have h := Option.some.inj h; subst h
          exact PW.ret dX11_read_61 trivial rfl
set_option maxRecDepth 100000 in
set_option maxHeartbeats 4000000 in
theorem mf_X11_read_L2 {K : GK} : ∀ (n : Nat) (a0 : Nat) (a1 : Int32) (hp : PH) (r : (Int32 × PH)), f_X11_read_L2 n a0 a1 hp = some r → PW K (rmD (5)) 0 0 M_X11_read 2 [(0, .ref (ga K a0)), (1, .int a1)] [] hp (some (.int r.1)) r.2 := by
  intro n
  induction n with
  | zero =>
    intro a0 a1 hp r h
    rw [f_X11_read_L2] at h
    cases h
  | succ n ih =>
    intro a0 a1 hp r h
    rw [f_X11_read_L2] at h
    refine PW.iload_n 1 dX11_read_2 rfl rfl ?_
    refine PW.bipush (x := 37) dX11_read_3 (by decide) ?_
    refine PW.icmp_ge (tgt := 21) dX11_read_5 (by decide) (fun c5 => ?_) (fun c5 => ?_)
    · rw [if_pos c5] at h
      refine PW.aload_n 0 dX11_read_21 rfl rfl ?_
      refine PW.iconst (x := 0) dX11_read_22 (by decide) ?_
      obtain ⟨hp1, hhp1, h⟩ := bind_some h
      refine PW.putI cls_X11 clw_X11 (j := 15) (by decide) dX11_read_23 wd_910 rfl rfl hhp1 ?_
      refine PW.iconst (x := 0) dX11_read_26 (by decide) ?_
      refine PW.istore_n (l' := [(1, .int 0), (0, .ref (ga K a0))]) dX11_read_27 rfl (by decide) rfl ?_
      refine PW.aload_n 1 dX11_read_28 rfl rfl ?_
      obtain ⟨q2, hq2, h⟩ := bind_some h
      obtain ⟨hkq2, hcq2, hq2⟩ := vC_spec hq2
      refine PW.callVv (As := []) (rest := []) (k := a0) cal_X11_nextToken dX11_read_29 wd_1103 rfl rfl (rmLe (by omega)) (Nat.le_of_ble_eq_true rfl) rm_0 hkq2 hcq2 (mf_X11_nextToken a0 hp1 _ hq2) ?_
      exact PW.sub (l' := [(0, .ref (ga K a0)), (1, .int 0)]) [1, 0] rfl (mf_X11_read_L32 NN a0 0 q2 _ h)
    · rw [if_neg c5] at h
      refine PW.aload_n 0 dX11_read_8 rfl rfl ?_
      obtain ⟨x21, hx21, h⟩ := bind_some h
      refine PW.getR cls_X11 (j := 18) (by decide) dX11_read_9 wd_913 hx21 ?_
      refine PW.iload_n 1 dX11_read_12 rfl rfl ?_
      refine PW.iconst (x := 0) dX11_read_13 (by decide) ?_
      obtain ⟨hp22, hhp22, h⟩ := bind_some h
      refine PW.iast dX11_read_14 hhp22 ?_
      refine PW.iinc 1 (l' := [(1, .int (a1 + 1)), (0, .ref (ga K a0))]) dX11_read_15 rfl (x := a1) (y := (a1 + 1)) rfl (by decide) rfl ?_
      refine PW.goto (tgt := 2) dX11_read_18 (by decide) ?_
      exact PW.sub (l' := [(0, .ref (ga K a0)), (1, .int (a1 + 1))]) [1, 0] rfl (ih a0 (a1 + 1) hp22 _ h)
set_option maxRecDepth 100000 in
set_option maxHeartbeats 4000000 in
theorem mf_X11_read {K : GK} : ∀ (a0 : Nat) (hp : PH) (r : (Int32 × PH)), f_X11_read a0 hp = some r → PM K (5) M_X11_read [.ref (ga K a0)] hp (some (.int r.1)) r.2 := by
  intro a0 hp r h
  unfold f_X11_read at h
  refine PM.enter (l0 := [(0, .ref (ga K a0))]) (by decide +kernel) rfl (Nat.le_of_ble_eq_true rfl) rfl ?_
  refine PW.iconst (x := 0) dX11_read_0 (by decide) ?_
  refine PW.istore_n (l' := [(1, .int 0), (0, .ref (ga K a0))]) dX11_read_1 rfl (by decide) rfl ?_
  exact PW.sub (l' := [(0, .ref (ga K a0)), (1, .int 0)]) [1, 0] rfl (mf_X11_read_L2 NN a0 0 hp _ h)
-- X11_can
def f_X11_can_J77 (k51 : Nat → Int32 → Int32 → Int32 → Int32 → Int32 → PH → Option (Int32 × PH)) (a0 : Nat) (a1 : Int32) (a3 : Int32) (a4 : Int32) (a5 : Int32) (a6 : Int32) (hp : PH) : Option (Int32 × PH) := (vC hp a0 10 (f_X11_whyNot a0 a6 a1 hp)).bind fun q10 => (if q10 = 0 then (if a5 = a4 then (some (a6, hp)) else (k51 a0 a1 a3 a4 (a5 + 1) (a6 + 1) hp)) else (k51 a0 a1 a3 a4 a5 (a6 + 1) hp))
def f_X11_can_L51 : Nat → Nat → Int32 → Int32 → Int32 → Int32 → Int32 → PH → Option (Int32 × PH)
  | 0, _, _, _, _, _, _, _ => none
  | n + 1, a0, a1, a3, a4, a5, a6, hp => (gR hp a0 10 0).bind fun x8 => (aI hp x8 0 0).bind fun x9 => (if (iL 1 x9) ≤ a6 then (if a4 = (-1) then (some (a5, hp)) else (some ((-5), hp))) else (if a3 = 0 then (f_X11_can_J77 (f_X11_can_L51 n) a0 a1 a3 a4 a5 a6 hp) else (f_X11_bits a6).bind fun q11 => (if q11 = a3 then (f_X11_can_J77 (f_X11_can_L51 n) a0 a1 a3 a4 a5 a6 hp) else ((f_X11_can_L51 n) a0 a1 a3 a4 a5 (a6 + 1) hp))))
def f_X11_can (a0 : Nat) (a1 : Int32) (a2 : Int32) (a3 : Int32) (a4 : Int32) (hp : PH) : Option (Int32 × PH) := (vC hp a0 10 (f_X11_isGate a0 a1 hp)).bind fun q1 => (if q1 = 0 then (vC hp a0 10 (f_X11_bad a0 (-10) hp)).bind fun q2 => (some (q2.1, q2.2)) else (f_X11_isDay a2).bind fun q3 => (if q3 = 0 then (vC hp a0 10 (f_X11_bad a0 (-10) hp)).bind fun q4 => (some (q4.1, q4.2)) else (if (f_X11_in (Int32.toInt64 a3) 0 8) = 0 then (vC hp a0 10 (f_X11_bad a0 (-10) hp)).bind fun q6 => (some (q6.1, q6.2)) else (if (-1) ≤ a4 then (vC hp a0 10 (f_X11_look a0 a2 hp)).bind fun q7 => (f_X11_can_L51 NN a0 a1 a3 a4 0 1 q7) else (vC hp a0 10 (f_X11_bad a0 (-10) hp)).bind fun q12 => (some (q12.1, q12.2))))))
set_option maxRecDepth 100000 in
set_option maxHeartbeats 4000000 in
theorem mf_X11_can_J77 {K : GK} {k51 : Nat → Int32 → Int32 → Int32 → Int32 → Int32 → PH → Option (Int32 × PH)} (hk51 : ∀ (a0 : Nat) (a1 : Int32) (a3 : Int32) (a4 : Int32) (a5 : Int32) (a6 : Int32) (hp : PH) (r : (Int32 × PH)), k51 a0 a1 a3 a4 a5 a6 hp = some r → PW K (rmD (5)) 0 0 M_X11_can 51 [(0, .ref (ga K a0)), (1, .int a1), (3, .int a3), (4, .int a4), (5, .int a5), (6, .int a6)] [] hp (some (.int r.1)) r.2) : ∀ (a0 : Nat) (a1 : Int32) (a3 : Int32) (a4 : Int32) (a5 : Int32) (a6 : Int32) (hp : PH) (r : (Int32 × PH)), f_X11_can_J77 k51 a0 a1 a3 a4 a5 a6 hp = some r → PW K (rmD (5)) 0 0 M_X11_can 77 [(0, .ref (ga K a0)), (1, .int a1), (3, .int a3), (4, .int a4), (5, .int a5), (6, .int a6)] [] hp (some (.int r.1)) r.2 := by
  intro a0 a1 a3 a4 a5 a6 hp r h
  unfold f_X11_can_J77 at h
  refine PW.aload_n 0 dX11_can_77 rfl rfl ?_
  refine PW.iload 5 dX11_can_78 rfl ?_
  refine PW.iload_n 1 dX11_can_80 rfl rfl ?_
  obtain ⟨q10, hq10, h⟩ := bind_some h
  obtain ⟨hkq10, hcq10, hq10⟩ := vC_spec hq10
  refine PW.callVi (As := [.int a6, .int a1]) (rest := []) (k := a0) cal_X11_whyNot dX11_can_81 wd_1079 rfl rfl (rmLe (by omega)) (Nat.le_of_ble_eq_true rfl) rm_0 hkq10 hcq10 (mf_X11_whyNot a0 a6 a1 hp _ hq10) ?_
  refine PW.if_ne (tgt := 100) dX11_can_84 (by decide) (fun c84 => ?_) (fun c84 => ?_)
  · rw [if_neg c84] at h
    refine PW.iinc 5 (l' := [(6, .int (a6 + 1)), (0, .ref (ga K a0)), (1, .int a1), (3, .int a3), (4, .int a4), (5, .int a5)]) dX11_can_100 rfl (x := a6) (y := (a6 + 1)) rfl (by decide) rfl ?_
    refine PW.goto (tgt := 51) dX11_can_103 (by decide) ?_
    exact PW.sub (l' := [(0, .ref (ga K a0)), (1, .int a1), (3, .int a3), (4, .int a4), (5, .int a5), (6, .int (a6 + 1))]) [1, 2, 3, 4, 5, 0] rfl (hk51 a0 a1 a3 a4 a5 (a6 + 1) hp _ h)
  · rw [if_pos c84] at h
    refine PW.iload 4 dX11_can_87 rfl ?_
    refine PW.iload 3 dX11_can_89 rfl ?_
    refine PW.icmp_ne (tgt := 97) dX11_can_91 (by decide) (fun c91 => ?_) (fun c91 => ?_)
    · rw [if_neg c91] at h
      refine PW.iinc 4 (l' := [(5, .int (a5 + 1)), (0, .ref (ga K a0)), (1, .int a1), (3, .int a3), (4, .int a4), (6, .int a6)]) dX11_can_97 rfl (x := a5) (y := (a5 + 1)) rfl (by decide) rfl ?_
      refine PW.iinc 5 (l' := [(6, .int (a6 + 1)), (5, .int (a5 + 1)), (0, .ref (ga K a0)), (1, .int a1), (3, .int a3), (4, .int a4)]) dX11_can_100 rfl (x := a6) (y := (a6 + 1)) rfl (by decide) rfl ?_
      refine PW.goto (tgt := 51) dX11_can_103 (by decide) ?_
      exact PW.sub (l' := [(0, .ref (ga K a0)), (1, .int a1), (3, .int a3), (4, .int a4), (5, .int (a5 + 1)), (6, .int (a6 + 1))]) [2, 3, 4, 5, 1, 0] rfl (hk51 a0 a1 a3 a4 (a5 + 1) (a6 + 1) hp _ h)
    · rw [if_pos c91] at h
      refine PW.iload 5 dX11_can_94 rfl ?_
      have h := Option.some.inj h; subst h
      exact PW.ret dX11_can_96 trivial rfl
set_option maxRecDepth 100000 in
set_option maxHeartbeats 4000000 in
theorem mf_X11_can_L51 {K : GK} : ∀ (n : Nat) (a0 : Nat) (a1 : Int32) (a3 : Int32) (a4 : Int32) (a5 : Int32) (a6 : Int32) (hp : PH) (r : (Int32 × PH)), f_X11_can_L51 n a0 a1 a3 a4 a5 a6 hp = some r → PW K (rmD (5)) 0 0 M_X11_can 51 [(0, .ref (ga K a0)), (1, .int a1), (3, .int a3), (4, .int a4), (5, .int a5), (6, .int a6)] [] hp (some (.int r.1)) r.2 := by
  intro n
  induction n with
  | zero =>
    intro a0 a1 a3 a4 a5 a6 hp r h
    rw [f_X11_can_L51] at h
    cases h
  | succ n ih =>
    intro a0 a1 a3 a4 a5 a6 hp r h
    rw [f_X11_can_L51] at h
    refine PW.iload 5 dX11_can_51 rfl ?_
    refine PW.iconst (x := 1) dX11_can_53 (by decide) ?_
    refine PW.aload_n 0 dX11_can_54 rfl rfl ?_
    obtain ⟨x8, hx8, h⟩ := bind_some h
    refine PW.getR cls_X11 (j := 0) (by decide) dX11_can_55 wd_895 hx8 ?_
    refine PW.iconst (x := 0) dX11_can_58 (by decide) ?_
    obtain ⟨x9, hx9, h⟩ := bind_some h
    refine PW.iald dX11_can_59 hx9 ?_
    refine PW.ishl dX11_can_60 ?_
    refine PW.icmp_ge (tgt := 106) dX11_can_61 (by decide) (fun c61 => ?_) (fun c61 => ?_)
    · rw [if_pos c61] at h
      refine PW.iload 3 dX11_can_106 rfl ?_
      refine PW.iconst (x := (-1)) dX11_can_108 (by decide) ?_
      refine PW.icmp_ne (tgt := 117) dX11_can_109 (by decide) (fun c109 => ?_) (fun c109 => ?_)
      · rw [if_neg c109] at h
        refine PW.bipush (x := (-5)) dX11_can_117 (by decide) ?_
        have h := Option.some.inj h; subst h
        exact PW.ret dX11_can_119 trivial rfl
      · rw [if_pos c109] at h
        refine PW.iload 4 dX11_can_112 rfl ?_
        refine PW.goto (tgt := 119) dX11_can_114 (by decide) ?_
        have h := Option.some.inj h; subst h
        exact PW.ret dX11_can_119 trivial rfl
    · rw [if_neg c61] at h
      refine PW.iload_n 2 dX11_can_64 rfl rfl ?_
      refine PW.if_eq (tgt := 77) dX11_can_65 (by decide) (fun c65 => ?_) (fun c65 => ?_)
      · rw [if_pos c65] at h
        exact PW.sub (l' := [(0, .ref (ga K a0)), (1, .int a1), (3, .int a3), (4, .int a4), (5, .int a5), (6, .int a6)]) [0, 1, 2, 3, 4, 5] rfl (mf_X11_can_J77 ih a0 a1 a3 a4 a5 a6 hp _ h)
      · rw [if_neg c65] at h
        refine PW.iload 5 dX11_can_68 rfl ?_
        obtain ⟨q11, hq11, h⟩ := bind_some h
        refine PW.callSi (As := [.int a6]) (rest := []) cal_X11_bits dX11_can_70 wd_1083 rfl rfl (rmLe (by omega)) (Nat.le_of_ble_eq_true rfl) rm_0 (mf_X11_bits a6 _ hq11) ?_
        refine PW.iload_n 2 dX11_can_73 rfl rfl ?_
        refine PW.icmp_ne (tgt := 100) dX11_can_74 (by decide) (fun c74 => ?_) (fun c74 => ?_)
        · rw [if_neg c74] at h
          refine PW.iinc 5 (l' := [(6, .int (a6 + 1)), (0, .ref (ga K a0)), (1, .int a1), (3, .int a3), (4, .int a4), (5, .int a5)]) dX11_can_100 rfl (x := a6) (y := (a6 + 1)) rfl (by decide) rfl ?_
          refine PW.goto (tgt := 51) dX11_can_103 (by decide) ?_
          exact PW.sub (l' := [(0, .ref (ga K a0)), (1, .int a1), (3, .int a3), (4, .int a4), (5, .int a5), (6, .int (a6 + 1))]) [1, 2, 3, 4, 5, 0] rfl (ih a0 a1 a3 a4 a5 (a6 + 1) hp _ h)
        · rw [if_pos c74] at h
          exact PW.sub (l' := [(0, .ref (ga K a0)), (1, .int a1), (3, .int a3), (4, .int a4), (5, .int a5), (6, .int a6)]) [0, 1, 2, 3, 4, 5] rfl (mf_X11_can_J77 ih a0 a1 a3 a4 a5 a6 hp _ h)
set_option maxRecDepth 100000 in
set_option maxHeartbeats 4000000 in
theorem mf_X11_can {K : GK} : ∀ (a0 : Nat) (a1 : Int32) (a2 : Int32) (a3 : Int32) (a4 : Int32) (hp : PH) (r : (Int32 × PH)), f_X11_can a0 a1 a2 a3 a4 hp = some r → PM K (5) M_X11_can [.ref (ga K a0), .int a1, .int a2, .int a3, .int a4] hp (some (.int r.1)) r.2 := by
  intro a0 a1 a2 a3 a4 hp r h
  unfold f_X11_can at h
  refine PM.enter (l0 := [(0, .ref (ga K a0)), (1, .int a1), (2, .int a2), (3, .int a3), (4, .int a4)]) (by decide +kernel) rfl (Nat.le_of_ble_eq_true rfl) rfl ?_
  refine PW.aload_n 0 dX11_can_0 rfl rfl ?_
  refine PW.iload_n 1 dX11_can_1 rfl rfl ?_
  obtain ⟨q1, hq1, h⟩ := bind_some h
  obtain ⟨hkq1, hcq1, hq1⟩ := vC_spec hq1
  refine PW.callVi (As := [.int a1]) (rest := []) (k := a0) cal_X11_isGate dX11_can_2 wd_1075 rfl rfl (rmLe (by omega)) (Nat.le_of_ble_eq_true rfl) rm_0 hkq1 hcq1 (mf_X11_isGate a0 a1 hp _ hq1) ?_
  refine PW.if_eq (tgt := 33) dX11_can_5 (by decide) (fun c5 => ?_) (fun c5 => ?_)
  · rw [if_pos c5] at h
    refine PW.aload_n 0 dX11_can_33 rfl rfl ?_
    refine PW.bipush (x := (-10)) dX11_can_34 (by decide) ?_
    obtain ⟨q2, hq2, h⟩ := bind_some h
    obtain ⟨hkq2, hcq2, hq2⟩ := vC_spec hq2
    refine PW.callVi (As := [.int (-10)]) (rest := []) (k := a0) cal_X11_bad dX11_can_36 wd_1002 rfl rfl (rmLe (by omega)) (Nat.le_of_ble_eq_true rfl) rm_0 hkq2 hcq2 (mf_X11_bad a0 (-10) hp _ hq2) ?_
    have h := Option.some.inj h; subst h
    exact PW.ret dX11_can_39 trivial rfl
  · rw [if_neg c5] at h
    refine PW.iload_n 2 dX11_can_8 rfl rfl ?_
    obtain ⟨q3, hq3, h⟩ := bind_some h
    refine PW.callSi (As := [.int a2]) (rest := []) cal_X11_isDay dX11_can_9 wd_1010 rfl rfl (rmLe (by omega)) (Nat.le_of_ble_eq_true rfl) rm_0 (mf_X11_isDay a2 _ hq3) ?_
    refine PW.if_eq (tgt := 33) dX11_can_12 (by decide) (fun c12 => ?_) (fun c12 => ?_)
    · rw [if_pos c12] at h
      refine PW.aload_n 0 dX11_can_33 rfl rfl ?_
      refine PW.bipush (x := (-10)) dX11_can_34 (by decide) ?_
      obtain ⟨q4, hq4, h⟩ := bind_some h
      obtain ⟨hkq4, hcq4, hq4⟩ := vC_spec hq4
      refine PW.callVi (As := [.int (-10)]) (rest := []) (k := a0) cal_X11_bad dX11_can_36 wd_1002 rfl rfl (rmLe (by omega)) (Nat.le_of_ble_eq_true rfl) rm_0 hkq4 hcq4 (mf_X11_bad a0 (-10) hp _ hq4) ?_
      have h := Option.some.inj h; subst h
      exact PW.ret dX11_can_39 trivial rfl
    · rw [if_neg c12] at h
      refine PW.iload_n 3 dX11_can_15 rfl rfl ?_
      refine PW.i2l dX11_can_16 ?_
      refine PW.lconst (x := 0) dX11_can_17 (by decide) ?_
      refine PW.ldc2 (x := 8) dX11_can_18 wd_1035 ?_
      refine PW.callSi (As := [.long (Int32.toInt64 a3), .long 0, .long 8]) (rest := []) cal_X11_in dX11_can_21 wd_986 rfl rfl (rmLe (by omega)) (Nat.le_of_ble_eq_true rfl) rm_0 (mf_X11_in (Int32.toInt64 a3) 0 8 _ rfl) ?_
      refine PW.if_eq (tgt := 33) dX11_can_24 (by decide) (fun c24 => ?_) (fun c24 => ?_)
      · rw [if_pos c24] at h
        refine PW.aload_n 0 dX11_can_33 rfl rfl ?_
        refine PW.bipush (x := (-10)) dX11_can_34 (by decide) ?_
        obtain ⟨q6, hq6, h⟩ := bind_some h
        obtain ⟨hkq6, hcq6, hq6⟩ := vC_spec hq6
        refine PW.callVi (As := [.int (-10)]) (rest := []) (k := a0) cal_X11_bad dX11_can_36 wd_1002 rfl rfl (rmLe (by omega)) (Nat.le_of_ble_eq_true rfl) rm_0 hkq6 hcq6 (mf_X11_bad a0 (-10) hp _ hq6) ?_
        have h := Option.some.inj h; subst h
        exact PW.ret dX11_can_39 trivial rfl
      · rw [if_neg c24] at h
        refine PW.iload 4 dX11_can_27 rfl ?_
        refine PW.iconst (x := (-1)) dX11_can_29 (by decide) ?_
        refine PW.icmp_ge (tgt := 40) dX11_can_30 (by decide) (fun c30 => ?_) (fun c30 => ?_)
        · rw [if_pos c30] at h
          refine PW.aload_n 0 dX11_can_40 rfl rfl ?_
          refine PW.iload_n 2 dX11_can_41 rfl rfl ?_
          obtain ⟨q7, hq7, h⟩ := bind_some h
          obtain ⟨hkq7, hcq7, hq7⟩ := vC_spec hq7
          refine PW.callVv (As := [.int a2]) (rest := []) (k := a0) cal_X11_look dX11_can_42 wd_1055 rfl rfl (rmLe (by omega)) (Nat.le_of_ble_eq_true rfl) rm_0 hkq7 hcq7 (mf_X11_look a0 a2 hp _ hq7) ?_
          refine PW.iconst (x := 0) dX11_can_45 (by decide) ?_
          refine PW.istore (l' := [(5, .int 0), (0, .ref (ga K a0)), (1, .int a1), (2, .int a2), (3, .int a3), (4, .int a4)]) dX11_can_46 (by decide) rfl ?_
          refine PW.iconst (x := 1) dX11_can_48 (by decide) ?_
          refine PW.istore (l' := [(6, .int 1), (5, .int 0), (0, .ref (ga K a0)), (1, .int a1), (2, .int a2), (3, .int a3), (4, .int a4)]) dX11_can_49 (by decide) rfl ?_
          exact PW.sub (l' := [(0, .ref (ga K a0)), (1, .int a1), (3, .int a3), (4, .int a4), (5, .int 0), (6, .int 1)]) [2, 3, 5, 6, 1, 0] rfl (mf_X11_can_L51 NN a0 a1 a3 a4 0 1 q7 _ h)
        · rw [if_neg c30] at h
          refine PW.aload_n 0 dX11_can_33 rfl rfl ?_
          refine PW.bipush (x := (-10)) dX11_can_34 (by decide) ?_
          obtain ⟨q12, hq12, h⟩ := bind_some h
          obtain ⟨hkq12, hcq12, hq12⟩ := vC_spec hq12
          refine PW.callVi (As := [.int (-10)]) (rest := []) (k := a0) cal_X11_bad dX11_can_36 wd_1002 rfl rfl (rmLe (by omega)) (Nat.le_of_ble_eq_true rfl) rm_0 hkq12 hcq12 (mf_X11_bad a0 (-10) hp _ hq12) ?_
          have h := Option.some.inj h; subst h
          exact PW.ret dX11_can_39 trivial rfl
