-- X11_isGate
def f_X11_isGate (a0 : Nat) (a1 : Int32) (hp : PH) : Option Int32 := (gR hp a0 10 0).bind fun x1 => (aI hp x1 0 1).bind fun x2 => (zR (f_X11_in (Int32.toInt64 a1) 0 (Int32.toInt64 (x2 - 1))))
set_option maxRecDepth 100000 in
set_option maxHeartbeats 4000000 in
theorem mf_X11_isGate {K : GK} : ∀ (a0 : Nat) (a1 : Int32) (hp : PH) (r : Int32), f_X11_isGate a0 a1 hp = some r → PM K (1) M_X11_isGate [.ref (ga K a0), .int a1] hp (some (.int r)) hp := by
  intro a0 a1 hp r h
  unfold f_X11_isGate at h
  refine PM.enter (l0 := [(0, .ref (ga K a0)), (1, .int a1)]) (by decide +kernel) rfl (Nat.le_of_ble_eq_true rfl) rfl ?_
  refine PW.iload_n 1 dX11_isGate_0 rfl rfl ?_
  refine PW.i2l dX11_isGate_1 ?_
  refine PW.lconst (x := 0) dX11_isGate_2 (by decide) ?_
  refine PW.aload_n 0 dX11_isGate_3 rfl rfl ?_
  obtain ⟨x1, hx1, h⟩ := bind_some h
  refine PW.getR cls_X11 (j := 0) (by decide) dX11_isGate_4 wd_895 hx1 ?_
  refine PW.iconst (x := 1) dX11_isGate_7 (by decide) ?_
  obtain ⟨x2, hx2, h⟩ := bind_some h
  refine PW.iald dX11_isGate_8 hx2 ?_
  refine PW.iconst (x := 1) dX11_isGate_9 (by decide) ?_
  refine PW.isub dX11_isGate_10 ?_
  refine PW.i2l dX11_isGate_11 ?_
  refine PW.callSi (As := [.long (Int32.toInt64 a1), .long 0, .long (Int32.toInt64 (x2 - 1))]) (rest := []) cal_X11_in dX11_isGate_12 wd_986 rfl rfl (rmLe (by omega)) (Nat.le_of_ble_eq_true rfl) rm_0 (mf_X11_in (Int32.toInt64 a1) 0 (Int32.toInt64 (x2 - 1)) _ rfl) ?_
  obtain ⟨hz, h⟩ := zR_spec h
  subst h
  exact PW.ret dX11_isGate_15 (z_nar hz).1 rfl
-- X11_person
def f_X11_person (a0 : Nat) (a1 : Int32) (hp : PH) : Option (Int32 × PH) := (f_X11_isDay a1).bind fun q1 => (if q1 = 0 then (vC hp a0 10 (f_X11_bad a0 (-2) hp)).bind fun q22 => (some (q22.1, q22.2)) else (gR hp a0 10 0).bind fun x2 => (aI hp x2 0 0).bind fun x3 => (if x3 = 8 then (vC hp a0 10 (f_X11_full a0 hp)).bind fun q21 => (some (q21.1, q21.2)) else (gR hp a0 10 0).bind fun x4 => (gR hp a0 10 0).bind fun x5 => (aI hp x5 0 0).bind fun x6 => (uI hp x4 (5 + x6) a1).bind fun hp7 => (gR hp7 a0 10 0).bind fun x8 => (gR hp7 a0 10 0).bind fun x9 => (aI hp7 x9 0 0).bind fun x10 => (uI hp7 x8 (13 + x10) 0).bind fun hp11 => (gR hp11 a0 10 0).bind fun x12 => (gR hp11 a0 10 0).bind fun x13 => (aI hp11 x13 0 0).bind fun x14 => (uI hp11 x12 (21 + x14) 0).bind fun hp15 => (gR hp15 a0 10 0).bind fun x16 => (aI hp15 x16 0 0).bind fun x17 => (uI hp15 x16 0 (x17 + 1)).bind fun hp18 => (gR hp18 a0 10 0).bind fun x19 => (aI hp18 x19 0 0).bind fun x20 => (some ((x20 - 1), hp18))))
set_option maxRecDepth 100000 in
set_option maxHeartbeats 4000000 in
theorem mf_X11_person {K : GK} : ∀ (a0 : Nat) (a1 : Int32) (hp : PH) (r : (Int32 × PH)), f_X11_person a0 a1 hp = some r → PM K (2) M_X11_person [.ref (ga K a0), .int a1] hp (some (.int r.1)) r.2 := by
  intro a0 a1 hp r h
  unfold f_X11_person at h
  refine PM.enter (l0 := [(0, .ref (ga K a0)), (1, .int a1)]) (by decide +kernel) rfl (Nat.le_of_ble_eq_true rfl) rfl ?_
  refine PW.iload_n 1 dX11_person_0 rfl rfl ?_
  obtain ⟨q1, hq1, h⟩ := bind_some h
  refine PW.callSi (As := [.int a1]) (rest := []) cal_X11_isDay dX11_person_1 wd_1010 rfl rfl (rmLe (by omega)) (Nat.le_of_ble_eq_true rfl) rm_0 (mf_X11_isDay a1 _ hq1) ?_
  refine PW.if_ne (tgt := 14) dX11_person_4 (by decide) (fun c4 => ?_) (fun c4 => ?_)
  · rw [if_neg c4] at h
    refine PW.aload_n 0 dX11_person_14 rfl rfl ?_
    obtain ⟨x2, hx2, h⟩ := bind_some h
    refine PW.getR cls_X11 (j := 0) (by decide) dX11_person_15 wd_895 hx2 ?_
    refine PW.iconst (x := 0) dX11_person_18 (by decide) ?_
    obtain ⟨x3, hx3, h⟩ := bind_some h
    refine PW.iald dX11_person_19 hx3 ?_
    refine PW.bipush (x := 8) dX11_person_20 (by decide) ?_
    refine PW.icmp_ne (tgt := 30) dX11_person_22 (by decide) (fun c22 => ?_) (fun c22 => ?_)
    · rw [if_neg c22] at h
      refine PW.aload_n 0 dX11_person_30 rfl rfl ?_
      obtain ⟨x4, hx4, h⟩ := bind_some h
      refine PW.getR cls_X11 (j := 0) (by decide) dX11_person_31 wd_895 hx4 ?_
      refine PW.iconst (x := 5) dX11_person_34 (by decide) ?_
      refine PW.aload_n 0 dX11_person_35 rfl rfl ?_
      obtain ⟨x5, hx5, h⟩ := bind_some h
      refine PW.getR cls_X11 (j := 0) (by decide) dX11_person_36 wd_895 hx5 ?_
      refine PW.iconst (x := 0) dX11_person_39 (by decide) ?_
      obtain ⟨x6, hx6, h⟩ := bind_some h
      refine PW.iald dX11_person_40 hx6 ?_
      refine PW.iadd dX11_person_41 ?_
      refine PW.iload_n 1 dX11_person_42 rfl rfl ?_
      obtain ⟨hp7, hhp7, h⟩ := bind_some h
      refine PW.iast dX11_person_43 hhp7 ?_
      refine PW.aload_n 0 dX11_person_44 rfl rfl ?_
      obtain ⟨x8, hx8, h⟩ := bind_some h
      refine PW.getR cls_X11 (j := 0) (by decide) dX11_person_45 wd_895 hx8 ?_
      refine PW.bipush (x := 13) dX11_person_48 (by decide) ?_
      refine PW.aload_n 0 dX11_person_50 rfl rfl ?_
      obtain ⟨x9, hx9, h⟩ := bind_some h
      refine PW.getR cls_X11 (j := 0) (by decide) dX11_person_51 wd_895 hx9 ?_
      refine PW.iconst (x := 0) dX11_person_54 (by decide) ?_
      obtain ⟨x10, hx10, h⟩ := bind_some h
      refine PW.iald dX11_person_55 hx10 ?_
      refine PW.iadd dX11_person_56 ?_
      refine PW.iconst (x := 0) dX11_person_57 (by decide) ?_
      obtain ⟨hp11, hhp11, h⟩ := bind_some h
      refine PW.iast dX11_person_58 hhp11 ?_
      refine PW.aload_n 0 dX11_person_59 rfl rfl ?_
      obtain ⟨x12, hx12, h⟩ := bind_some h
      refine PW.getR cls_X11 (j := 0) (by decide) dX11_person_60 wd_895 hx12 ?_
      refine PW.bipush (x := 21) dX11_person_63 (by decide) ?_
      refine PW.aload_n 0 dX11_person_65 rfl rfl ?_
      obtain ⟨x13, hx13, h⟩ := bind_some h
      refine PW.getR cls_X11 (j := 0) (by decide) dX11_person_66 wd_895 hx13 ?_
      refine PW.iconst (x := 0) dX11_person_69 (by decide) ?_
      obtain ⟨x14, hx14, h⟩ := bind_some h
      refine PW.iald dX11_person_70 hx14 ?_
      refine PW.iadd dX11_person_71 ?_
      refine PW.iconst (x := 0) dX11_person_72 (by decide) ?_
      obtain ⟨hp15, hhp15, h⟩ := bind_some h
      refine PW.iast dX11_person_73 hhp15 ?_
      refine PW.aload_n 0 dX11_person_74 rfl rfl ?_
      obtain ⟨x16, hx16, h⟩ := bind_some h
      refine PW.getR cls_X11 (j := 0) (by decide) dX11_person_75 wd_895 hx16 ?_
      refine PW.iconst (x := 0) dX11_person_78 (by decide) ?_
      refine PW.dup2 dX11_person_79 rfl rfl ?_
      obtain ⟨x17, hx17, h⟩ := bind_some h
      refine PW.iald dX11_person_80 hx17 ?_
      refine PW.iconst (x := 1) dX11_person_81 (by decide) ?_
      refine PW.iadd dX11_person_82 ?_
      obtain ⟨hp18, hhp18, h⟩ := bind_some h
      refine PW.iast dX11_person_83 hhp18 ?_
      refine PW.aload_n 0 dX11_person_84 rfl rfl ?_
      obtain ⟨x19, hx19, h⟩ := bind_some h
      refine PW.getR cls_X11 (j := 0) (by decide) dX11_person_85 wd_895 hx19 ?_
      refine PW.iconst (x := 0) dX11_person_88 (by decide) ?_
      obtain ⟨x20, hx20, h⟩ := bind_some h
      refine PW.iald dX11_person_89 hx20 ?_
      refine PW.iconst (x := 1) dX11_person_90 (by decide) ?_
      refine PW.isub dX11_person_91 ?_
      have h := Option.some.inj h; subst h
      exact PW.ret dX11_person_92 trivial rfl
    · rw [if_pos c22] at h
      refine PW.aload_n 0 dX11_person_25 rfl rfl ?_
      obtain ⟨q21, hq21, h⟩ := bind_some h
      obtain ⟨hkq21, hcq21, hq21⟩ := vC_spec hq21
      refine PW.callVi (As := []) (rest := []) (k := a0) cal_X11_full dX11_person_26 wd_1026 rfl rfl (rmLe (by omega)) (Nat.le_of_ble_eq_true rfl) rm_0 hkq21 hcq21 (mf_X11_full a0 hp _ hq21) ?_
      have h := Option.some.inj h; subst h
      exact PW.ret dX11_person_29 trivial rfl
  · rw [if_pos c4] at h
    refine PW.aload_n 0 dX11_person_7 rfl rfl ?_
    refine PW.bipush (x := (-2)) dX11_person_8 (by decide) ?_
    obtain ⟨q22, hq22, h⟩ := bind_some h
    obtain ⟨hkq22, hcq22, hq22⟩ := vC_spec hq22
    refine PW.callVi (As := [.int (-2)]) (rest := []) (k := a0) cal_X11_bad dX11_person_10 wd_1002 rfl rfl (rmLe (by omega)) (Nat.le_of_ble_eq_true rfl) rm_0 hkq22 hcq22 (mf_X11_bad a0 (-2) hp _ hq22) ?_
    have h := Option.some.inj h; subst h
    exact PW.ret dX11_person_13 trivial rfl
-- X11_gate
def f_X11_gate (a0 : Nat) (a1 : Int32) (a2 : Int32) (hp : PH) : Option (Int32 × PH) := (if (f_X11_in (Int32.toInt64 a1) 0 4) = 0 then (vC hp a0 10 (f_X11_bad a0 (-2) hp)).bind fun q2 => (some (q2.1, q2.2)) else (if (f_X11_in (Int32.toInt64 a2) 1 8) = 0 then (vC hp a0 10 (f_X11_bad a0 (-2) hp)).bind fun q20 => (some (q20.1, q20.2)) else (gR hp a0 10 0).bind fun x4 => (aI hp x4 0 1).bind fun x5 => (if x5 = 4 then (vC hp a0 10 (f_X11_full a0 hp)).bind fun q19 => (some (q19.1, q19.2)) else (gR hp a0 10 0).bind fun x6 => (gR hp a0 10 0).bind fun x7 => (aI hp x7 0 1).bind fun x8 => (uI hp x6 (29 + x8) a1).bind fun hp9 => (gR hp9 a0 10 0).bind fun x10 => (gR hp9 a0 10 0).bind fun x11 => (aI hp9 x11 0 1).bind fun x12 => (uI hp9 x10 (33 + x12) a2).bind fun hp13 => (gR hp13 a0 10 0).bind fun x14 => (aI hp13 x14 0 1).bind fun x15 => (uI hp13 x14 1 (x15 + 1)).bind fun hp16 => (gR hp16 a0 10 0).bind fun x17 => (aI hp16 x17 0 1).bind fun x18 => (some ((x18 - 1), hp16)))))
set_option maxRecDepth 100000 in
set_option maxHeartbeats 4000000 in
theorem mf_X11_gate {K : GK} : ∀ (a0 : Nat) (a1 : Int32) (a2 : Int32) (hp : PH) (r : (Int32 × PH)), f_X11_gate a0 a1 a2 hp = some r → PM K (1) M_X11_gate [.ref (ga K a0), .int a1, .int a2] hp (some (.int r.1)) r.2 := by
  intro a0 a1 a2 hp r h
  unfold f_X11_gate at h
  refine PM.enter (l0 := [(0, .ref (ga K a0)), (1, .int a1), (2, .int a2)]) (by decide +kernel) rfl (Nat.le_of_ble_eq_true rfl) rfl ?_
  refine PW.iload_n 1 dX11_gate_0 rfl rfl ?_
  refine PW.i2l dX11_gate_1 ?_
  refine PW.lconst (x := 0) dX11_gate_2 (by decide) ?_
  refine PW.ldc2 (x := 4) dX11_gate_3 wd_1034 ?_
  refine PW.callSi (As := [.long (Int32.toInt64 a1), .long 0, .long 4]) (rest := []) cal_X11_in dX11_gate_6 wd_986 rfl rfl (rmLe (by omega)) (Nat.le_of_ble_eq_true rfl) rm_0 (mf_X11_in (Int32.toInt64 a1) 0 4 _ rfl) ?_
  refine PW.if_eq (tgt := 24) dX11_gate_9 (by decide) (fun c9 => ?_) (fun c9 => ?_)
  · rw [if_pos c9] at h
    refine PW.aload_n 0 dX11_gate_24 rfl rfl ?_
    refine PW.bipush (x := (-2)) dX11_gate_25 (by decide) ?_
    obtain ⟨q2, hq2, h⟩ := bind_some h
    obtain ⟨hkq2, hcq2, hq2⟩ := vC_spec hq2
    refine PW.callVi (As := [.int (-2)]) (rest := []) (k := a0) cal_X11_bad dX11_gate_27 wd_1002 rfl rfl (rmLe (by omega)) (Nat.le_of_ble_eq_true rfl) rm_0 hkq2 hcq2 (mf_X11_bad a0 (-2) hp _ hq2) ?_
    have h := Option.some.inj h; subst h
    exact PW.ret dX11_gate_30 trivial rfl
  · rw [if_neg c9] at h
    refine PW.iload_n 2 dX11_gate_12 rfl rfl ?_
    refine PW.i2l dX11_gate_13 ?_
    refine PW.lconst (x := 1) dX11_gate_14 (by decide) ?_
    refine PW.ldc2 (x := 8) dX11_gate_15 wd_1035 ?_
    refine PW.callSi (As := [.long (Int32.toInt64 a2), .long 1, .long 8]) (rest := []) cal_X11_in dX11_gate_18 wd_986 rfl rfl (rmLe (by omega)) (Nat.le_of_ble_eq_true rfl) rm_0 (mf_X11_in (Int32.toInt64 a2) 1 8 _ rfl) ?_
    refine PW.if_ne (tgt := 31) dX11_gate_21 (by decide) (fun c21 => ?_) (fun c21 => ?_)
    · rw [if_neg c21] at h
      refine PW.aload_n 0 dX11_gate_31 rfl rfl ?_
      obtain ⟨x4, hx4, h⟩ := bind_some h
      refine PW.getR cls_X11 (j := 0) (by decide) dX11_gate_32 wd_895 hx4 ?_
      refine PW.iconst (x := 1) dX11_gate_35 (by decide) ?_
      obtain ⟨x5, hx5, h⟩ := bind_some h
      refine PW.iald dX11_gate_36 hx5 ?_
      refine PW.iconst (x := 4) dX11_gate_37 (by decide) ?_
      refine PW.icmp_ne (tgt := 46) dX11_gate_38 (by decide) (fun c38 => ?_) (fun c38 => ?_)
      · rw [if_neg c38] at h
        refine PW.aload_n 0 dX11_gate_46 rfl rfl ?_
        obtain ⟨x6, hx6, h⟩ := bind_some h
        refine PW.getR cls_X11 (j := 0) (by decide) dX11_gate_47 wd_895 hx6 ?_
        refine PW.bipush (x := 29) dX11_gate_50 (by decide) ?_
        refine PW.aload_n 0 dX11_gate_52 rfl rfl ?_
        obtain ⟨x7, hx7, h⟩ := bind_some h
        refine PW.getR cls_X11 (j := 0) (by decide) dX11_gate_53 wd_895 hx7 ?_
        refine PW.iconst (x := 1) dX11_gate_56 (by decide) ?_
        obtain ⟨x8, hx8, h⟩ := bind_some h
        refine PW.iald dX11_gate_57 hx8 ?_
        refine PW.iadd dX11_gate_58 ?_
        refine PW.iload_n 1 dX11_gate_59 rfl rfl ?_
        obtain ⟨hp9, hhp9, h⟩ := bind_some h
        refine PW.iast dX11_gate_60 hhp9 ?_
        refine PW.aload_n 0 dX11_gate_61 rfl rfl ?_
        obtain ⟨x10, hx10, h⟩ := bind_some h
        refine PW.getR cls_X11 (j := 0) (by decide) dX11_gate_62 wd_895 hx10 ?_
        refine PW.bipush (x := 33) dX11_gate_65 (by decide) ?_
        refine PW.aload_n 0 dX11_gate_67 rfl rfl ?_
        obtain ⟨x11, hx11, h⟩ := bind_some h
        refine PW.getR cls_X11 (j := 0) (by decide) dX11_gate_68 wd_895 hx11 ?_
        refine PW.iconst (x := 1) dX11_gate_71 (by decide) ?_
        obtain ⟨x12, hx12, h⟩ := bind_some h
        refine PW.iald dX11_gate_72 hx12 ?_
        refine PW.iadd dX11_gate_73 ?_
        refine PW.iload_n 2 dX11_gate_74 rfl rfl ?_
        obtain ⟨hp13, hhp13, h⟩ := bind_some h
        refine PW.iast dX11_gate_75 hhp13 ?_
        refine PW.aload_n 0 dX11_gate_76 rfl rfl ?_
        obtain ⟨x14, hx14, h⟩ := bind_some h
        refine PW.getR cls_X11 (j := 0) (by decide) dX11_gate_77 wd_895 hx14 ?_
        refine PW.iconst (x := 1) dX11_gate_80 (by decide) ?_
        refine PW.dup2 dX11_gate_81 rfl rfl ?_
        obtain ⟨x15, hx15, h⟩ := bind_some h
        refine PW.iald dX11_gate_82 hx15 ?_
        refine PW.iconst (x := 1) dX11_gate_83 (by decide) ?_
        refine PW.iadd dX11_gate_84 ?_
        obtain ⟨hp16, hhp16, h⟩ := bind_some h
        refine PW.iast dX11_gate_85 hhp16 ?_
        refine PW.aload_n 0 dX11_gate_86 rfl rfl ?_
        obtain ⟨x17, hx17, h⟩ := bind_some h
        refine PW.getR cls_X11 (j := 0) (by decide) dX11_gate_87 wd_895 hx17 ?_
        refine PW.iconst (x := 1) dX11_gate_90 (by decide) ?_
        obtain ⟨x18, hx18, h⟩ := bind_some h
        refine PW.iald dX11_gate_91 hx18 ?_
        refine PW.iconst (x := 1) dX11_gate_92 (by decide) ?_
        refine PW.isub dX11_gate_93 ?_
        have h := Option.some.inj h; subst h
        exact PW.ret dX11_gate_94 trivial rfl
      · rw [if_pos c38] at h
        refine PW.aload_n 0 dX11_gate_41 rfl rfl ?_
        obtain ⟨q19, hq19, h⟩ := bind_some h
        obtain ⟨hkq19, hcq19, hq19⟩ := vC_spec hq19
        refine PW.callVi (As := []) (rest := []) (k := a0) cal_X11_full dX11_gate_42 wd_1026 rfl rfl (rmLe (by omega)) (Nat.le_of_ble_eq_true rfl) rm_0 hkq19 hcq19 (mf_X11_full a0 hp _ hq19) ?_
        have h := Option.some.inj h; subst h
        exact PW.ret dX11_gate_45 trivial rfl
    · rw [if_pos c21] at h
      refine PW.aload_n 0 dX11_gate_24 rfl rfl ?_
      refine PW.bipush (x := (-2)) dX11_gate_25 (by decide) ?_
      obtain ⟨q20, hq20, h⟩ := bind_some h
      obtain ⟨hkq20, hcq20, hq20⟩ := vC_spec hq20
      refine PW.callVi (As := [.int (-2)]) (rest := []) (k := a0) cal_X11_bad dX11_gate_27 wd_1002 rfl rfl (rmLe (by omega)) (Nat.le_of_ble_eq_true rfl) rm_0 hkq20 hcq20 (mf_X11_bad a0 (-2) hp _ hq20) ?_
      have h := Option.some.inj h; subst h
      exact PW.ret dX11_gate_30 trivial rfl
-- X11_pair
def f_X11_pair (a0 : Nat) (a1 : Int32) (a2 : Int32) (a3 : Int32) (hp : PH) : Option (Int32 × PH) := (vC hp a0 10 (f_X11_isPerson a0 a1 hp)).bind fun q1 => (if q1 = 0 then (vC hp a0 10 (f_X11_bad a0 (-2) hp)).bind fun q2 => (some (q2.1, q2.2)) else (vC hp a0 10 (f_X11_isPerson a0 a2 hp)).bind fun q3 => (if q3 = 0 then (vC hp a0 10 (f_X11_bad a0 (-2) hp)).bind fun q4 => (some (q4.1, q4.2)) else (if a1 = a2 then (vC hp a0 10 (f_X11_bad a0 (-2) hp)).bind fun q5 => (some (q5.1, q5.2)) else (if (f_X11_in (Int32.toInt64 a3) 0 1) = 0 then (vC hp a0 10 (f_X11_bad a0 (-2) hp)).bind fun q17 => (some (q17.1, q17.2)) else (gR hp a0 10 0).bind fun x7 => (aI hp x7 0 ((13 + (8 * a3)) + a1)).bind fun x8 => (if (f_X11_has x8 a2) = 0 then (gR hp a0 10 0).bind fun x10 => (aI hp x10 0 ((13 + (8 * a3)) + a1)).bind fun x11 => (uI hp x10 ((13 + (8 * a3)) + a1) (x11 ||| (iL 1 a2))).bind fun hp12 => (gR hp12 a0 10 0).bind fun x13 => (aI hp12 x13 0 ((13 + (8 * a3)) + a2)).bind fun x14 => (uI hp12 x13 ((13 + (8 * a3)) + a2) (x14 ||| (iL 1 a1))).bind fun hp15 => (some (1, hp15)) else (vC hp a0 10 (f_X11_no a0 hp)).bind fun q16 => (some (q16.1, q16.2)))))))
set_option maxRecDepth 100000 in
set_option maxHeartbeats 4000000 in
theorem mf_X11_pair {K : GK} : ∀ (a0 : Nat) (a1 : Int32) (a2 : Int32) (a3 : Int32) (hp : PH) (r : (Int32 × PH)), f_X11_pair a0 a1 a2 a3 hp = some r → PM K (2) M_X11_pair [.ref (ga K a0), .int a1, .int a2, .int a3] hp (some (.int r.1)) r.2 := by
  intro a0 a1 a2 a3 hp r h
  unfold f_X11_pair at h
  refine PM.enter (l0 := [(0, .ref (ga K a0)), (1, .int a1), (2, .int a2), (3, .int a3)]) (by decide +kernel) rfl (Nat.le_of_ble_eq_true rfl) rfl ?_
  refine PW.aload_n 0 dX11_pair_0 rfl rfl ?_
  refine PW.iload_n 1 dX11_pair_1 rfl rfl ?_
  obtain ⟨q1, hq1, h⟩ := bind_some h
  obtain ⟨hkq1, hcq1, hq1⟩ := vC_spec hq1
  refine PW.callVi (As := [.int a1]) (rest := []) (k := a0) cal_X11_isPerson dX11_pair_2 wd_1040 rfl rfl (rmLe (by omega)) (Nat.le_of_ble_eq_true rfl) rm_0 hkq1 hcq1 (mf_X11_isPerson a0 a1 hp _ hq1) ?_
  refine PW.if_eq (tgt := 31) dX11_pair_5 (by decide) (fun c5 => ?_) (fun c5 => ?_)
  · rw [if_pos c5] at h
    refine PW.aload_n 0 dX11_pair_31 rfl rfl ?_
    refine PW.bipush (x := (-2)) dX11_pair_32 (by decide) ?_
    obtain ⟨q2, hq2, h⟩ := bind_some h
    obtain ⟨hkq2, hcq2, hq2⟩ := vC_spec hq2
    refine PW.callVi (As := [.int (-2)]) (rest := []) (k := a0) cal_X11_bad dX11_pair_34 wd_1002 rfl rfl (rmLe (by omega)) (Nat.le_of_ble_eq_true rfl) rm_0 hkq2 hcq2 (mf_X11_bad a0 (-2) hp _ hq2) ?_
    have h := Option.some.inj h; subst h
    exact PW.ret dX11_pair_37 trivial rfl
  · rw [if_neg c5] at h
    refine PW.aload_n 0 dX11_pair_8 rfl rfl ?_
    refine PW.iload_n 2 dX11_pair_9 rfl rfl ?_
    obtain ⟨q3, hq3, h⟩ := bind_some h
    obtain ⟨hkq3, hcq3, hq3⟩ := vC_spec hq3
    refine PW.callVi (As := [.int a2]) (rest := []) (k := a0) cal_X11_isPerson dX11_pair_10 wd_1040 rfl rfl (rmLe (by omega)) (Nat.le_of_ble_eq_true rfl) rm_0 hkq3 hcq3 (mf_X11_isPerson a0 a2 hp _ hq3) ?_
    refine PW.if_eq (tgt := 31) dX11_pair_13 (by decide) (fun c13 => ?_) (fun c13 => ?_)
    · rw [if_pos c13] at h
      refine PW.aload_n 0 dX11_pair_31 rfl rfl ?_
      refine PW.bipush (x := (-2)) dX11_pair_32 (by decide) ?_
      obtain ⟨q4, hq4, h⟩ := bind_some h
      obtain ⟨hkq4, hcq4, hq4⟩ := vC_spec hq4
      refine PW.callVi (As := [.int (-2)]) (rest := []) (k := a0) cal_X11_bad dX11_pair_34 wd_1002 rfl rfl (rmLe (by omega)) (Nat.le_of_ble_eq_true rfl) rm_0 hkq4 hcq4 (mf_X11_bad a0 (-2) hp _ hq4) ?_
      have h := Option.some.inj h; subst h
      exact PW.ret dX11_pair_37 trivial rfl
    · rw [if_neg c13] at h
      refine PW.iload_n 1 dX11_pair_16 rfl rfl ?_
      refine PW.iload_n 2 dX11_pair_17 rfl rfl ?_
      refine PW.icmp_eq (tgt := 31) dX11_pair_18 (by decide) (fun c18 => ?_) (fun c18 => ?_)
      · rw [if_pos c18] at h
        refine PW.aload_n 0 dX11_pair_31 rfl rfl ?_
        refine PW.bipush (x := (-2)) dX11_pair_32 (by decide) ?_
        obtain ⟨q5, hq5, h⟩ := bind_some h
        obtain ⟨hkq5, hcq5, hq5⟩ := vC_spec hq5
        refine PW.callVi (As := [.int (-2)]) (rest := []) (k := a0) cal_X11_bad dX11_pair_34 wd_1002 rfl rfl (rmLe (by omega)) (Nat.le_of_ble_eq_true rfl) rm_0 hkq5 hcq5 (mf_X11_bad a0 (-2) hp _ hq5) ?_
        have h := Option.some.inj h; subst h
        exact PW.ret dX11_pair_37 trivial rfl
      · rw [if_neg c18] at h
        refine PW.iload_n 3 dX11_pair_21 rfl rfl ?_
        refine PW.i2l dX11_pair_22 ?_
        refine PW.lconst (x := 0) dX11_pair_23 (by decide) ?_
        refine PW.lconst (x := 1) dX11_pair_24 (by decide) ?_
        refine PW.callSi (As := [.long (Int32.toInt64 a3), .long 0, .long 1]) (rest := []) cal_X11_in dX11_pair_25 wd_986 rfl rfl (rmLe (by omega)) (Nat.le_of_ble_eq_true rfl) rm_0 (mf_X11_in (Int32.toInt64 a3) 0 1 _ rfl) ?_
        refine PW.if_ne (tgt := 38) dX11_pair_28 (by decide) (fun c28 => ?_) (fun c28 => ?_)
        · rw [if_neg c28] at h
          refine PW.bipush (x := 13) dX11_pair_38 (by decide) ?_
          refine PW.bipush (x := 8) dX11_pair_40 (by decide) ?_
          refine PW.iload_n 3 dX11_pair_42 rfl rfl ?_
          refine PW.imul dX11_pair_43 ?_
          refine PW.iadd dX11_pair_44 ?_
          refine PW.istore (l' := [(4, .int (13 + (8 * a3))), (0, .ref (ga K a0)), (1, .int a1), (2, .int a2), (3, .int a3)]) dX11_pair_45 (by decide) rfl ?_
          refine PW.aload_n 1 dX11_pair_47 rfl rfl ?_
          obtain ⟨x7, hx7, h⟩ := bind_some h
          refine PW.getR cls_X11 (j := 0) (by decide) dX11_pair_48 wd_895 hx7 ?_
          refine PW.iload 0 dX11_pair_51 rfl ?_
          refine PW.iload_n 2 dX11_pair_53 rfl rfl ?_
          refine PW.iadd dX11_pair_54 ?_
          obtain ⟨x8, hx8, h⟩ := bind_some h
          refine PW.iald dX11_pair_55 hx8 ?_
          refine PW.iload_n 3 dX11_pair_56 rfl rfl ?_
          refine PW.callSi (As := [.int x8, .int a2]) (rest := []) cal_X11_has dX11_pair_57 wd_1044 rfl rfl (rmLe (by omega)) (Nat.le_of_ble_eq_true rfl) rm_0 (mf_X11_has x8 a2 _ rfl) ?_
          refine PW.if_eq (tgt := 68) dX11_pair_60 (by decide) (fun c60 => ?_) (fun c60 => ?_)
          · rw [if_pos c60] at h
            refine PW.aload_n 1 dX11_pair_68 rfl rfl ?_
            obtain ⟨x10, hx10, h⟩ := bind_some h
            refine PW.getR cls_X11 (j := 0) (by decide) dX11_pair_69 wd_895 hx10 ?_
            refine PW.iload 0 dX11_pair_72 rfl ?_
            refine PW.iload_n 2 dX11_pair_74 rfl rfl ?_
            refine PW.iadd dX11_pair_75 ?_
            refine PW.dup2 dX11_pair_76 rfl rfl ?_
            obtain ⟨x11, hx11, h⟩ := bind_some h
            refine PW.iald dX11_pair_77 hx11 ?_
            refine PW.iconst (x := 1) dX11_pair_78 (by decide) ?_
            refine PW.iload_n 3 dX11_pair_79 rfl rfl ?_
            refine PW.ishl dX11_pair_80 ?_
            refine PW.ior dX11_pair_81 ?_
            obtain ⟨hp12, hhp12, h⟩ := bind_some h
            refine PW.iast dX11_pair_82 hhp12 ?_
            refine PW.aload_n 1 dX11_pair_83 rfl rfl ?_
            obtain ⟨x13, hx13, h⟩ := bind_some h
            refine PW.getR cls_X11 (j := 0) (by decide) dX11_pair_84 wd_895 hx13 ?_
            refine PW.iload 0 dX11_pair_87 rfl ?_
            refine PW.iload_n 3 dX11_pair_89 rfl rfl ?_
            refine PW.iadd dX11_pair_90 ?_
            refine PW.dup2 dX11_pair_91 rfl rfl ?_
            obtain ⟨x14, hx14, h⟩ := bind_some h
            refine PW.iald dX11_pair_92 hx14 ?_
            refine PW.iconst (x := 1) dX11_pair_93 (by decide) ?_
            refine PW.iload_n 2 dX11_pair_94 rfl rfl ?_
            refine PW.ishl dX11_pair_95 ?_
            refine PW.ior dX11_pair_96 ?_
            obtain ⟨hp15, hhp15, h⟩ := bind_some h
            refine PW.iast dX11_pair_97 hhp15 ?_
            refine PW.iconst (x := 1) dX11_pair_98 (by decide) ?_
            have h := Option.some.inj h; subst h
            exact PW.ret dX11_pair_99 trivial rfl
          · rw [if_neg c60] at h
            refine PW.aload_n 1 dX11_pair_63 rfl rfl ?_
            obtain ⟨q16, hq16, h⟩ := bind_some h
            obtain ⟨hkq16, hcq16, hq16⟩ := vC_spec hq16
            refine PW.callVi (As := []) (rest := []) (k := a0) cal_X11_no dX11_pair_64 wd_1047 rfl rfl (rmLe (by omega)) (Nat.le_of_ble_eq_true rfl) rm_0 hkq16 hcq16 (mf_X11_no a0 hp _ hq16) ?_
            have h := Option.some.inj h; subst h
            exact PW.ret dX11_pair_67 trivial rfl
        · rw [if_pos c28] at h
          refine PW.aload_n 0 dX11_pair_31 rfl rfl ?_
          refine PW.bipush (x := (-2)) dX11_pair_32 (by decide) ?_
          obtain ⟨q17, hq17, h⟩ := bind_some h
          obtain ⟨hkq17, hcq17, hq17⟩ := vC_spec hq17
          refine PW.callVi (As := [.int (-2)]) (rest := []) (k := a0) cal_X11_bad dX11_pair_34 wd_1002 rfl rfl (rmLe (by omega)) (Nat.le_of_ble_eq_true rfl) rm_0 hkq17 hcq17 (mf_X11_bad a0 (-2) hp _ hq17) ?_
          have h := Option.some.inj h; subst h
          exact PW.ret dX11_pair_37 trivial rfl
-- X11_layBirths
def f_X11_layBirths_L2 : Nat → Nat → Int32 → PH → Option PH
  | 0, _, _, _ => none
  | n + 1, a0, a1, hp => (gR hp a0 10 0).bind fun x1 => (aI hp x1 0 0).bind fun x2 => (if x2 ≤ a1 then some hp else (gR hp a0 10 0).bind fun x3 => (aI hp x3 0 (5 + a1)).bind fun x4 => (vC hp a0 10 (f_X11_takeApart a0 x4 hp)).bind fun q5 => (gR q5 a0 10 11).bind fun x6 => (gI q5 a0 10 8).bind fun x7 => (uI q5 x6 a1 x7).bind fun hp8 => (gR hp8 a0 10 12).bind fun x9 => (gI hp8 a0 10 9).bind fun x10 => (gI hp8 a0 10 10).bind fun x11 => (uI hp8 x9 a1 ((32 * x10) + x11)).bind fun hp12 => ((f_X11_layBirths_L2 n) a0 (a1 + 1) hp12))
def f_X11_layBirths (a0 : Nat) (hp : PH) : Option PH := (f_X11_layBirths_L2 NN a0 0 hp)
set_option maxRecDepth 100000 in
set_option maxHeartbeats 4000000 in
theorem mf_X11_layBirths_L2 {K : GK} : ∀ (n : Nat) (a0 : Nat) (a1 : Int32) (hp : PH) (r : PH), f_X11_layBirths_L2 n a0 a1 hp = some r → PW K (rmD (3)) 0 0 M_X11_layBirths 2 [(0, .ref (ga K a0)), (1, .int a1)] [] hp none r := by
  intro n
  induction n with
  | zero =>
    intro a0 a1 hp r h
    rw [f_X11_layBirths_L2] at h
    cases h
  | succ n ih =>
    intro a0 a1 hp r h
    rw [f_X11_layBirths_L2] at h
    refine PW.iload_n 1 dX11_layBirths_2 rfl rfl ?_
    refine PW.aload_n 0 dX11_layBirths_3 rfl rfl ?_
    obtain ⟨x1, hx1, h⟩ := bind_some h
    refine PW.getR cls_X11 (j := 0) (by decide) dX11_layBirths_4 wd_895 hx1 ?_
    refine PW.iconst (x := 0) dX11_layBirths_7 (by decide) ?_
    obtain ⟨x2, hx2, h⟩ := bind_some h
    refine PW.iald dX11_layBirths_8 hx2 ?_
    refine PW.icmp_ge (tgt := 58) dX11_layBirths_9 (by decide) (fun c9 => ?_) (fun c9 => ?_)
    · rw [if_pos c9] at h
      have h := Option.some.inj h
      subst h
      exact PW.ret dX11_layBirths_58 trivial rfl
    · rw [if_neg c9] at h
      refine PW.aload_n 0 dX11_layBirths_12 rfl rfl ?_
      refine PW.aload_n 0 dX11_layBirths_13 rfl rfl ?_
      obtain ⟨x3, hx3, h⟩ := bind_some h
      refine PW.getR cls_X11 (j := 0) (by decide) dX11_layBirths_14 wd_895 hx3 ?_
      refine PW.iconst (x := 5) dX11_layBirths_17 (by decide) ?_
      refine PW.iload_n 1 dX11_layBirths_18 rfl rfl ?_
      refine PW.iadd dX11_layBirths_19 ?_
      obtain ⟨x4, hx4, h⟩ := bind_some h
      refine PW.iald dX11_layBirths_20 hx4 ?_
      obtain ⟨q5, hq5, h⟩ := bind_some h
      obtain ⟨hkq5, hcq5, hq5⟩ := vC_spec hq5
      refine PW.callVv (As := [.int x4]) (rest := []) (k := a0) cal_X11_takeApart dX11_layBirths_21 wd_1015 rfl rfl (rmLe (by omega)) (Nat.le_of_ble_eq_true rfl) rm_0 hkq5 hcq5 (mf_X11_takeApart a0 x4 hp _ hq5) ?_
      refine PW.aload_n 0 dX11_layBirths_24 rfl rfl ?_
      obtain ⟨x6, hx6, h⟩ := bind_some h
      refine PW.getR cls_X11 (j := 11) (by decide) dX11_layBirths_25 wd_906 hx6 ?_
      refine PW.iload_n 1 dX11_layBirths_28 rfl rfl ?_
      refine PW.aload_n 0 dX11_layBirths_29 rfl rfl ?_
      obtain ⟨x7, hx7, h⟩ := bind_some h
      refine PW.getI cls_X11 (j := 8) (by decide) dX11_layBirths_30 wd_903 hx7 ?_
      obtain ⟨hp8, hhp8, h⟩ := bind_some h
      refine PW.iast dX11_layBirths_33 hhp8 ?_
      refine PW.aload_n 0 dX11_layBirths_34 rfl rfl ?_
      obtain ⟨x9, hx9, h⟩ := bind_some h
      refine PW.getR cls_X11 (j := 12) (by decide) dX11_layBirths_35 wd_907 hx9 ?_
      refine PW.iload_n 1 dX11_layBirths_38 rfl rfl ?_
      refine PW.bipush (x := 32) dX11_layBirths_39 (by decide) ?_
      refine PW.aload_n 0 dX11_layBirths_41 rfl rfl ?_
      obtain ⟨x10, hx10, h⟩ := bind_some h
      refine PW.getI cls_X11 (j := 9) (by decide) dX11_layBirths_42 wd_904 hx10 ?_
      refine PW.imul dX11_layBirths_45 ?_
      refine PW.aload_n 0 dX11_layBirths_46 rfl rfl ?_
      obtain ⟨x11, hx11, h⟩ := bind_some h
      refine PW.getI cls_X11 (j := 10) (by decide) dX11_layBirths_47 wd_905 hx11 ?_
      refine PW.iadd dX11_layBirths_50 ?_
      obtain ⟨hp12, hhp12, h⟩ := bind_some h
      refine PW.iast dX11_layBirths_51 hhp12 ?_
      refine PW.iinc 1 (l' := [(1, .int (a1 + 1)), (0, .ref (ga K a0))]) dX11_layBirths_52 rfl (x := a1) (y := (a1 + 1)) rfl (by decide) rfl ?_
      refine PW.goto (tgt := 2) dX11_layBirths_55 (by decide) ?_
      exact PW.sub (l' := [(0, .ref (ga K a0)), (1, .int (a1 + 1))]) [1, 0] rfl (ih a0 (a1 + 1) hp12 _ h)
set_option maxRecDepth 100000 in
set_option maxHeartbeats 4000000 in
theorem mf_X11_layBirths {K : GK} : ∀ (a0 : Nat) (hp : PH) (r : PH), f_X11_layBirths a0 hp = some r → PM K (3) M_X11_layBirths [.ref (ga K a0)] hp none r := by
  intro a0 hp r h
  unfold f_X11_layBirths at h
  refine PM.enter (l0 := [(0, .ref (ga K a0))]) (by decide +kernel) rfl (Nat.le_of_ble_eq_true rfl) rfl ?_
  refine PW.iconst (x := 0) dX11_layBirths_0 (by decide) ?_
  refine PW.istore_n (l' := [(1, .int 0), (0, .ref (ga K a0))]) dX11_layBirths_1 rfl (by decide) rfl ?_
  exact PW.sub (l' := [(0, .ref (ga K a0)), (1, .int 0)]) [1, 0] rfl (mf_X11_layBirths_L2 NN a0 0 hp _ h)
-- X11_layAges
def f_X11_layAges_L20 : Nat → Nat → Int32 → Int32 → Int32 → PH → Option PH
  | 0, _, _, _, _, _ => none
  | n + 1, a0, a1, a2, a3, hp => (gR hp a0 10 0).bind fun x4 => (aI hp x4 0 0).bind fun x5 => (if x5 ≤ a3 then some hp else (gR hp a0 10 13).bind fun x6 => (gR hp a0 10 0).bind fun x7 => (aI hp x7 0 (5 + a3)).bind fun x8 => (if x8 ≤ a1 then (gI hp a0 10 8).bind fun x9 => (gR hp a0 10 11).bind fun x10 => (aI hp x10 0 a3).bind fun x11 => (gR hp a0 10 12).bind fun x12 => (aI hp x12 0 a3).bind fun x13 => (if x13 ≤ a2 then (uI hp x6 a3 ((x9 - x11) - 0)).bind fun hp14 => ((f_X11_layAges_L20 n) a0 a1 a2 (a3 + 1) hp14) else (uI hp x6 a3 ((x9 - x11) - 1)).bind fun hp15 => ((f_X11_layAges_L20 n) a0 a1 a2 (a3 + 1) hp15)) else (uI hp x6 a3 (-1)).bind fun hp16 => ((f_X11_layAges_L20 n) a0 a1 a2 (a3 + 1) hp16)))
def f_X11_layAges (a0 : Nat) (a1 : Int32) (hp : PH) : Option PH := (vC hp a0 10 (f_X11_takeApart a0 a1 hp)).bind fun q1 => (gI q1 a0 10 9).bind fun x2 => (gI q1 a0 10 10).bind fun x3 => (f_X11_layAges_L20 NN a0 a1 ((32 * x2) + x3) 0 q1)
set_option maxRecDepth 100000 in
set_option maxHeartbeats 4000000 in
theorem mf_X11_layAges_L20 {K : GK} : ∀ (n : Nat) (a0 : Nat) (a1 : Int32) (a2 : Int32) (a3 : Int32) (hp : PH) (r : PH), f_X11_layAges_L20 n a0 a1 a2 a3 hp = some r → PW K (rmD (3)) 0 0 M_X11_layAges 20 [(0, .ref (ga K a0)), (1, .int a1), (2, .int a2), (3, .int a3)] [] hp none r := by
  intro n
  induction n with
  | zero =>
    intro a0 a1 a2 a3 hp r h
    rw [f_X11_layAges_L20] at h
    cases h
  | succ n ih =>
    intro a0 a1 a2 a3 hp r h
    rw [f_X11_layAges_L20] at h
    refine PW.iload_n 3 dX11_layAges_20 rfl rfl ?_
    refine PW.aload_n 0 dX11_layAges_21 rfl rfl ?_
    obtain ⟨x4, hx4, h⟩ := bind_some h
    refine PW.getR cls_X11 (j := 0) (by decide) dX11_layAges_22 wd_895 hx4 ?_
    refine PW.iconst (x := 0) dX11_layAges_25 (by decide) ?_
    obtain ⟨x5, hx5, h⟩ := bind_some h
    refine PW.iald dX11_layAges_26 hx5 ?_
    refine PW.icmp_ge (tgt := 85) dX11_layAges_27 (by decide) (fun c27 => ?_) (fun c27 => ?_)
    · rw [if_pos c27] at h
      have h := Option.some.inj h
      subst h
      exact PW.ret dX11_layAges_85 trivial rfl
    · rw [if_neg c27] at h
      refine PW.aload_n 0 dX11_layAges_30 rfl rfl ?_
      obtain ⟨x6, hx6, h⟩ := bind_some h
      refine PW.getR cls_X11 (j := 13) (by decide) dX11_layAges_31 wd_908 hx6 ?_
      refine PW.iload_n 3 dX11_layAges_34 rfl rfl ?_
      refine PW.iload_n 1 dX11_layAges_35 rfl rfl ?_
      refine PW.aload_n 0 dX11_layAges_36 rfl rfl ?_
      obtain ⟨x7, hx7, h⟩ := bind_some h
      refine PW.getR cls_X11 (j := 0) (by decide) dX11_layAges_37 wd_895 hx7 ?_
      refine PW.iconst (x := 5) dX11_layAges_40 (by decide) ?_
      refine PW.iload_n 3 dX11_layAges_41 rfl rfl ?_
      refine PW.iadd dX11_layAges_42 ?_
      obtain ⟨x8, hx8, h⟩ := bind_some h
      refine PW.iald dX11_layAges_43 hx8 ?_
      refine PW.icmp_ge (tgt := 51) dX11_layAges_44 (by decide) (fun c44 => ?_) (fun c44 => ?_)
      · rw [if_pos c44] at h
        refine PW.aload_n 0 dX11_layAges_51 rfl rfl ?_
        obtain ⟨x9, hx9, h⟩ := bind_some h
        refine PW.getI cls_X11 (j := 8) (by decide) dX11_layAges_52 wd_903 hx9 ?_
        refine PW.aload_n 0 dX11_layAges_55 rfl rfl ?_
        obtain ⟨x10, hx10, h⟩ := bind_some h
        refine PW.getR cls_X11 (j := 11) (by decide) dX11_layAges_56 wd_906 hx10 ?_
        refine PW.iload_n 3 dX11_layAges_59 rfl rfl ?_
        obtain ⟨x11, hx11, h⟩ := bind_some h
        refine PW.iald dX11_layAges_60 hx11 ?_
        refine PW.isub dX11_layAges_61 ?_
        refine PW.iload_n 2 dX11_layAges_62 rfl rfl ?_
        refine PW.aload_n 0 dX11_layAges_63 rfl rfl ?_
        obtain ⟨x12, hx12, h⟩ := bind_some h
        refine PW.getR cls_X11 (j := 12) (by decide) dX11_layAges_64 wd_907 hx12 ?_
        refine PW.iload_n 3 dX11_layAges_67 rfl rfl ?_
        obtain ⟨x13, hx13, h⟩ := bind_some h
        refine PW.iald dX11_layAges_68 hx13 ?_
        refine PW.icmp_ge (tgt := 76) dX11_layAges_69 (by decide) (fun c69 => ?_) (fun c69 => ?_)
        · rw [if_pos c69] at h
          refine PW.iconst (x := 0) dX11_layAges_76 (by decide) ?_
          refine PW.isub dX11_layAges_77 ?_
          obtain ⟨hp14, hhp14, h⟩ := bind_some h
          refine PW.iast dX11_layAges_78 hhp14 ?_
          refine PW.iinc 3 (l' := [(3, .int (a3 + 1)), (0, .ref (ga K a0)), (1, .int a1), (2, .int a2)]) dX11_layAges_79 rfl (x := a3) (y := (a3 + 1)) rfl (by decide) rfl ?_
          refine PW.goto (tgt := 20) dX11_layAges_82 (by decide) ?_
          exact PW.sub (l' := [(0, .ref (ga K a0)), (1, .int a1), (2, .int a2), (3, .int (a3 + 1))]) [1, 2, 3, 0] rfl (ih a0 a1 a2 (a3 + 1) hp14 _ h)
        · rw [if_neg c69] at h
          refine PW.iconst (x := 1) dX11_layAges_72 (by decide) ?_
          refine PW.goto (tgt := 77) dX11_layAges_73 (by decide) ?_
          refine PW.isub dX11_layAges_77 ?_
          obtain ⟨hp15, hhp15, h⟩ := bind_some h
          refine PW.iast dX11_layAges_78 hhp15 ?_
          refine PW.iinc 3 (l' := [(3, .int (a3 + 1)), (0, .ref (ga K a0)), (1, .int a1), (2, .int a2)]) dX11_layAges_79 rfl (x := a3) (y := (a3 + 1)) rfl (by decide) rfl ?_
          refine PW.goto (tgt := 20) dX11_layAges_82 (by decide) ?_
          exact PW.sub (l' := [(0, .ref (ga K a0)), (1, .int a1), (2, .int a2), (3, .int (a3 + 1))]) [1, 2, 3, 0] rfl (ih a0 a1 a2 (a3 + 1) hp15 _ h)
      · rw [if_neg c44] at h
        refine PW.iconst (x := (-1)) dX11_layAges_47 (by decide) ?_
        refine PW.goto (tgt := 78) dX11_layAges_48 (by decide) ?_
        obtain ⟨hp16, hhp16, h⟩ := bind_some h
        refine PW.iast dX11_layAges_78 hhp16 ?_
        refine PW.iinc 3 (l' := [(3, .int (a3 + 1)), (0, .ref (ga K a0)), (1, .int a1), (2, .int a2)]) dX11_layAges_79 rfl (x := a3) (y := (a3 + 1)) rfl (by decide) rfl ?_
        refine PW.goto (tgt := 20) dX11_layAges_82 (by decide) ?_
        exact PW.sub (l' := [(0, .ref (ga K a0)), (1, .int a1), (2, .int a2), (3, .int (a3 + 1))]) [1, 2, 3, 0] rfl (ih a0 a1 a2 (a3 + 1) hp16 _ h)
set_option maxRecDepth 100000 in
set_option maxHeartbeats 4000000 in
theorem mf_X11_layAges {K : GK} : ∀ (a0 : Nat) (a1 : Int32) (hp : PH) (r : PH), f_X11_layAges a0 a1 hp = some r → PM K (3) M_X11_layAges [.ref (ga K a0), .int a1] hp none r := by
  intro a0 a1 hp r h
  unfold f_X11_layAges at h
  refine PM.enter (l0 := [(0, .ref (ga K a0)), (1, .int a1)]) (by decide +kernel) rfl (Nat.le_of_ble_eq_true rfl) rfl ?_
  refine PW.aload_n 0 dX11_layAges_0 rfl rfl ?_
  refine PW.iload_n 1 dX11_layAges_1 rfl rfl ?_
  obtain ⟨q1, hq1, h⟩ := bind_some h
  obtain ⟨hkq1, hcq1, hq1⟩ := vC_spec hq1
  refine PW.callVv (As := [.int a1]) (rest := []) (k := a0) cal_X11_takeApart dX11_layAges_2 wd_1015 rfl rfl (rmLe (by omega)) (Nat.le_of_ble_eq_true rfl) rm_0 hkq1 hcq1 (mf_X11_takeApart a0 a1 hp _ hq1) ?_
  refine PW.bipush (x := 32) dX11_layAges_5 (by decide) ?_
  refine PW.aload_n 0 dX11_layAges_7 rfl rfl ?_
  obtain ⟨x2, hx2, h⟩ := bind_some h
  refine PW.getI cls_X11 (j := 9) (by decide) dX11_layAges_8 wd_904 hx2 ?_
  refine PW.imul dX11_layAges_11 ?_
  refine PW.aload_n 0 dX11_layAges_12 rfl rfl ?_
  obtain ⟨x3, hx3, h⟩ := bind_some h
  refine PW.getI cls_X11 (j := 10) (by decide) dX11_layAges_13 wd_905 hx3 ?_
  refine PW.iadd dX11_layAges_16 ?_
  refine PW.istore_n (l' := [(2, .int ((32 * x2) + x3)), (0, .ref (ga K a0)), (1, .int a1)]) dX11_layAges_17 rfl (by decide) rfl ?_
  refine PW.iconst (x := 0) dX11_layAges_18 (by decide) ?_
  refine PW.istore_n (l' := [(3, .int 0), (2, .int ((32 * x2) + x3)), (0, .ref (ga K a0)), (1, .int a1)]) dX11_layAges_19 rfl (by decide) rfl ?_
  exact PW.sub (l' := [(0, .ref (ga K a0)), (1, .int a1), (2, .int ((32 * x2) + x3)), (3, .int 0)]) [2, 3, 1, 0] rfl (mf_X11_layAges_L20 NN a0 a1 ((32 * x2) + x3) 0 q1 _ h)
-- X11_look
def f_X11_look (a0 : Nat) (a1 : Int32) (hp : PH) : Option PH := (vC hp a0 10 (f_X11_layBirths a0 hp)).bind fun q1 => (vC q1 a0 10 (f_X11_layAges a0 a1 q1)).bind fun q2 => some q2
set_option maxRecDepth 100000 in
set_option maxHeartbeats 4000000 in
theorem mf_X11_look {K : GK} : ∀ (a0 : Nat) (a1 : Int32) (hp : PH) (r : PH), f_X11_look a0 a1 hp = some r → PM K (4) M_X11_look [.ref (ga K a0), .int a1] hp none r := by
  intro a0 a1 hp r h
  unfold f_X11_look at h
  refine PM.enter (l0 := [(0, .ref (ga K a0)), (1, .int a1)]) (by decide +kernel) rfl (Nat.le_of_ble_eq_true rfl) rfl ?_
  refine PW.aload_n 0 dX11_look_0 rfl rfl ?_
  obtain ⟨q1, hq1, h⟩ := bind_some h
  obtain ⟨hkq1, hcq1, hq1⟩ := vC_spec hq1
  refine PW.callVv (As := []) (rest := []) (k := a0) cal_X11_layBirths dX11_look_1 wd_1059 rfl rfl (rmLe (by omega)) (Nat.le_of_ble_eq_true rfl) rm_0 hkq1 hcq1 (mf_X11_layBirths a0 hp _ hq1) ?_
  refine PW.aload_n 0 dX11_look_4 rfl rfl ?_
  refine PW.iload_n 1 dX11_look_5 rfl rfl ?_
  obtain ⟨q2, hq2, h⟩ := bind_some h
  obtain ⟨hkq2, hcq2, hq2⟩ := vC_spec hq2
  refine PW.callVv (As := [.int a1]) (rest := []) (k := a0) cal_X11_layAges dX11_look_6 wd_1063 rfl rfl (rmLe (by omega)) (Nat.le_of_ble_eq_true rfl) rm_0 hkq2 hcq2 (mf_X11_layAges a0 a1 q1 _ hq2) ?_
  have h := Option.some.inj h
  subst h
  exact PW.ret dX11_look_9 trivial rfl
-- X11_age
def f_X11_age (a0 : Nat) (a1 : Int32) (a2 : Int32) (hp : PH) : Option (Int32 × PH) := (vC hp a0 10 (f_X11_isPerson a0 a1 hp)).bind fun q1 => (if q1 = 0 then (vC hp a0 10 (f_X11_bad a0 (-2) hp)).bind fun q2 => (some (q2.1, q2.2)) else (f_X11_isDay a2).bind fun q3 => (if q3 = 0 then (vC hp a0 10 (f_X11_bad a0 (-2) hp)).bind fun q7 => (some (q7.1, q7.2)) else (vC hp a0 10 (f_X11_look a0 a2 hp)).bind fun q4 => (gR q4 a0 10 13).bind fun x5 => (aI q4 x5 0 a1).bind fun x6 => (some (x6, q4))))
set_option maxRecDepth 100000 in
set_option maxHeartbeats 4000000 in
theorem mf_X11_age {K : GK} : ∀ (a0 : Nat) (a1 : Int32) (a2 : Int32) (hp : PH) (r : (Int32 × PH)), f_X11_age a0 a1 a2 hp = some r → PM K (5) M_X11_age [.ref (ga K a0), .int a1, .int a2] hp (some (.int r.1)) r.2 := by
  intro a0 a1 a2 hp r h
  unfold f_X11_age at h
  refine PM.enter (l0 := [(0, .ref (ga K a0)), (1, .int a1), (2, .int a2)]) (by decide +kernel) rfl (Nat.le_of_ble_eq_true rfl) rfl ?_
  refine PW.aload_n 0 dX11_age_0 rfl rfl ?_
  refine PW.iload_n 1 dX11_age_1 rfl rfl ?_
  obtain ⟨q1, hq1, h⟩ := bind_some h
  obtain ⟨hkq1, hcq1, hq1⟩ := vC_spec hq1
  refine PW.callVi (As := [.int a1]) (rest := []) (k := a0) cal_X11_isPerson dX11_age_2 wd_1040 rfl rfl (rmLe (by omega)) (Nat.le_of_ble_eq_true rfl) rm_0 hkq1 hcq1 (mf_X11_isPerson a0 a1 hp _ hq1) ?_
  refine PW.if_eq (tgt := 15) dX11_age_5 (by decide) (fun c5 => ?_) (fun c5 => ?_)
  · rw [if_pos c5] at h
    refine PW.aload_n 0 dX11_age_15 rfl rfl ?_
    refine PW.bipush (x := (-2)) dX11_age_16 (by decide) ?_
    obtain ⟨q2, hq2, h⟩ := bind_some h
    obtain ⟨hkq2, hcq2, hq2⟩ := vC_spec hq2
    refine PW.callVi (As := [.int (-2)]) (rest := []) (k := a0) cal_X11_bad dX11_age_18 wd_1002 rfl rfl (rmLe (by omega)) (Nat.le_of_ble_eq_true rfl) rm_0 hkq2 hcq2 (mf_X11_bad a0 (-2) hp _ hq2) ?_
    have h := Option.some.inj h; subst h
    exact PW.ret dX11_age_21 trivial rfl
  · rw [if_neg c5] at h
    refine PW.iload_n 2 dX11_age_8 rfl rfl ?_
    obtain ⟨q3, hq3, h⟩ := bind_some h
    refine PW.callSi (As := [.int a2]) (rest := []) cal_X11_isDay dX11_age_9 wd_1010 rfl rfl (rmLe (by omega)) (Nat.le_of_ble_eq_true rfl) rm_0 (mf_X11_isDay a2 _ hq3) ?_
    refine PW.if_ne (tgt := 22) dX11_age_12 (by decide) (fun c12 => ?_) (fun c12 => ?_)
    · rw [if_neg c12] at h
      refine PW.aload_n 0 dX11_age_22 rfl rfl ?_
      refine PW.iload_n 2 dX11_age_23 rfl rfl ?_
      obtain ⟨q4, hq4, h⟩ := bind_some h
      obtain ⟨hkq4, hcq4, hq4⟩ := vC_spec hq4
      refine PW.callVv (As := [.int a2]) (rest := []) (k := a0) cal_X11_look dX11_age_24 wd_1055 rfl rfl (rmLe (by omega)) (Nat.le_of_ble_eq_true rfl) rm_0 hkq4 hcq4 (mf_X11_look a0 a2 hp _ hq4) ?_
      refine PW.aload_n 0 dX11_age_27 rfl rfl ?_
      obtain ⟨x5, hx5, h⟩ := bind_some h
      refine PW.getR cls_X11 (j := 13) (by decide) dX11_age_28 wd_908 hx5 ?_
      refine PW.iload_n 1 dX11_age_31 rfl rfl ?_
      obtain ⟨x6, hx6, h⟩ := bind_some h
      refine PW.iald dX11_age_32 hx6 ?_
      have h := Option.some.inj h; subst h
      exact PW.ret dX11_age_33 trivial rfl
    · rw [if_pos c12] at h
      refine PW.aload_n 0 dX11_age_15 rfl rfl ?_
      refine PW.bipush (x := (-2)) dX11_age_16 (by decide) ?_
      obtain ⟨q7, hq7, h⟩ := bind_some h
      obtain ⟨hkq7, hcq7, hq7⟩ := vC_spec hq7
      refine PW.callVi (As := [.int (-2)]) (rest := []) (k := a0) cal_X11_bad dX11_age_18 wd_1002 rfl rfl (rmLe (by omega)) (Nat.le_of_ble_eq_true rfl) rm_0 hkq7 hcq7 (mf_X11_bad a0 (-2) hp _ hq7) ?_
      have h := Option.some.inj h; subst h
      exact PW.ret dX11_age_21 trivial rfl
-- X11_bits
def f_X11_bits_L4 : Nat → Int32 → Int32 → Option Int32
  | 0, _, _ => none
  | n + 1, a1, a2 => (if a2 = 0 then (some a1) else ((f_X11_bits_L4 n) (a1 + 1) (a2 &&& (a2 - 1))))
def f_X11_bits (a0 : Int32) : Option Int32 := (f_X11_bits_L4 NN 0 a0)
set_option maxRecDepth 100000 in
set_option maxHeartbeats 4000000 in
theorem mf_X11_bits_L4 {K : GK} {hp : PH} : ∀ (n : Nat) (a1 : Int32) (a2 : Int32) (r : Int32), f_X11_bits_L4 n a1 a2 = some r → PW K (rmD (0)) 0 0 M_X11_bits 4 [(1, .int a1), (2, .int a2)] [] hp (some (.int r)) hp := by
  intro n
  induction n with
  | zero =>
    intro a1 a2 r h
    rw [f_X11_bits_L4] at h
    cases h
  | succ n ih =>
    intro a1 a2 r h
    rw [f_X11_bits_L4] at h
    refine PW.iload_n 1 dX11_bits_4 rfl rfl ?_
    refine PW.if_eq (tgt := 20) dX11_bits_5 (by decide) (fun c5 => ?_) (fun c5 => ?_)
    · rw [if_pos c5] at h
      refine PW.iload_n 0 dX11_bits_20 rfl rfl ?_
      have h := Option.some.inj h; subst h
      exact PW.ret dX11_bits_21 trivial rfl
    · rw [if_neg c5] at h
      refine PW.iinc 0 (l' := [(1, .int (a1 + 1)), (2, .int a2)]) dX11_bits_8 rfl (x := a1) (y := (a1 + 1)) rfl (by decide) rfl ?_
      refine PW.iload_n 1 dX11_bits_11 rfl rfl ?_
      refine PW.iload_n 1 dX11_bits_12 rfl rfl ?_
      refine PW.iconst (x := 1) dX11_bits_13 (by decide) ?_
      refine PW.isub dX11_bits_14 ?_
      refine PW.iand dX11_bits_15 ?_
      refine PW.istore_n (l' := [(2, .int (a2 &&& (a2 - 1))), (1, .int (a1 + 1))]) dX11_bits_16 rfl (by decide) rfl ?_
      refine PW.goto (tgt := 4) dX11_bits_17 (by decide) ?_
      exact PW.sub (l' := [(1, .int (a1 + 1)), (2, .int (a2 &&& (a2 - 1)))]) [1, 0] rfl (ih (a1 + 1) (a2 &&& (a2 - 1)) _ h)
set_option maxRecDepth 100000 in
set_option maxHeartbeats 4000000 in
theorem mf_X11_bits {K : GK} {hp : PH} : ∀ (a0 : Int32) (r : Int32), f_X11_bits a0 = some r → PM K (0) M_X11_bits [.int a0] hp (some (.int r)) hp := by
  intro a0 r h
  unfold f_X11_bits at h
  refine PM.enter (l0 := [(0, .int a0)]) (by decide +kernel) rfl (Nat.le_of_ble_eq_true rfl) rfl ?_
  refine PW.iconst (x := 0) dX11_bits_0 (by decide) ?_
  refine PW.istore_n (l' := [(1, .int 0), (0, .int a0)]) dX11_bits_1 rfl (by decide) rfl ?_
  refine PW.iload_n 1 dX11_bits_2 rfl rfl ?_
  refine PW.istore_n (l' := [(2, .int a0), (1, .int 0), (0, .int a0)]) dX11_bits_3 rfl (by decide) rfl ?_
  exact PW.sub (l' := [(1, .int 0), (2, .int a0)]) [1, 0] rfl (mf_X11_bits_L4 NN 0 a0 _ h)
-- X11_isByLaw
def f_X11_isByLaw_L157 : Nat → Int32 → Int32 → PH → Option Int32
  | 0, _, _, _ => none
  | n + 1, a3, a5, hp => (if a3 ≤ (a5 * a5) then (if (a5 * a5) = a3 then (some 1) else (some 0)) else ((f_X11_isByLaw_L157 n) a3 (a5 + 1) hp))
def f_X11_isByLaw_L41 (k8 : Nat → Int32 → Int32 → Int32 → Int32 → Int32 → PH → Option Int32) : Nat → Nat → Int32 → Int32 → Int32 → Int32 → Int32 → Int32 → PH → Option Int32
  | 0, _, _, _, _, _, _, _, _ => none
  | n + 1, a0, a1, a2, a3, a4, a5, a6, hp => (if a5 ≤ a6 then (k8 a0 a1 a2 a3 a4 (a5 + 1) hp) else (if a4 = 0 then ((f_X11_isByLaw_L41 k8 n) a0 a1 a2 a3 0 a5 (a6 + 1) hp) else (if (f_X11_has a1 a6) = 0 then ((f_X11_isByLaw_L41 k8 n) a0 a1 a2 a3 1 a5 (a6 + 1) hp) else (gR hp a0 10 13).bind fun x7 => (aI hp x7 0 a6).bind fun x8 => (gR hp a0 10 13).bind fun x9 => (aI hp x9 0 a5).bind fun x10 => (if x8 = x10 then ((f_X11_isByLaw_L41 k8 n) a0 a1 a2 a3 0 a5 (a6 + 1) hp) else ((f_X11_isByLaw_L41 k8 n) a0 a1 a2 a3 1 a5 (a6 + 1) hp)))))
def f_X11_isByLaw_L8 : Nat → Nat → Int32 → Int32 → Int32 → Int32 → Int32 → PH → Option Int32
  | 0, _, _, _, _, _, _, _ => none
  | n + 1, a0, a1, a2, a3, a4, a5, hp => (gR hp a0 10 0).bind fun x1 => (aI hp x1 0 0).bind fun x2 => (if x2 ≤ a5 then (if a2 = 0 then (if (iR a3 10) = 0 then (some 1) else (some 0)) else if a2 = 1 then (if (iR a3 7) = 0 then (some 1) else (some 0)) else if a2 = 2 then (f_X11_isByLaw_L157 NN a3 0 hp) else if a2 = 3 then (zR a4) else (if a4 = 0 then (some 0) else (if (iR a3 10) = 0 then (some 1) else (some 0)))) else (if (f_X11_has a1 a5) = 0 then ((f_X11_isByLaw_L8 n) a0 a1 a2 a3 a4 (a5 + 1) hp) else (gR hp a0 10 13).bind fun x4 => (aI hp x4 0 a5).bind fun x5 => (f_X11_isByLaw_L41 (f_X11_isByLaw_L8 n) NN a0 a1 a2 (a3 + x5) a4 a5 0 hp)))
def f_X11_isByLaw (a0 : Nat) (a1 : Int32) (a2 : Int32) (hp : PH) : Option Int32 := (f_X11_isByLaw_L8 NN a0 a1 a2 0 1 0 hp)
set_option maxRecDepth 100000 in
set_option maxHeartbeats 4000000 in
theorem mf_X11_isByLaw_L157 {K : GK} : ∀ (n : Nat) (a3 : Int32) (a5 : Int32) (hp : PH) (r : Int32), f_X11_isByLaw_L157 n a3 a5 hp = some r → PW K (rmD (1)) 0 0 M_X11_isByLaw 157 [(3, .int a3), (5, .int a5)] [] hp (some (.int r)) hp := by
  intro n
  induction n with
  | zero =>
    intro a3 a5 hp r h
    rw [f_X11_isByLaw_L157] at h
    cases h
  | succ n ih =>
    intro a3 a5 hp r h
    rw [f_X11_isByLaw_L157] at h
    refine PW.iload 1 dX11_isByLaw_157 rfl ?_
    refine PW.iload 1 dX11_isByLaw_159 rfl ?_
    refine PW.imul dX11_isByLaw_161 ?_
    refine PW.iload_n 0 dX11_isByLaw_162 rfl rfl ?_
    refine PW.icmp_ge (tgt := 172) dX11_isByLaw_163 (by decide) (fun c163 => ?_) (fun c163 => ?_)
    · rw [if_pos c163] at h
      refine PW.iload 1 dX11_isByLaw_172 rfl ?_
      refine PW.iload 1 dX11_isByLaw_174 rfl ?_
      refine PW.imul dX11_isByLaw_176 ?_
      refine PW.iload_n 0 dX11_isByLaw_177 rfl rfl ?_
      refine PW.icmp_ne (tgt := 185) dX11_isByLaw_178 (by decide) (fun c178 => ?_) (fun c178 => ?_)
      · rw [if_neg c178] at h
        refine PW.iconst (x := 0) dX11_isByLaw_185 (by decide) ?_
        have h := Option.some.inj h; subst h
        exact PW.ret dX11_isByLaw_186 (z_nar (Or.inl rfl)).1 rfl
      · rw [if_pos c178] at h
        refine PW.iconst (x := 1) dX11_isByLaw_181 (by decide) ?_
        refine PW.goto (tgt := 186) dX11_isByLaw_182 (by decide) ?_
        have h := Option.some.inj h; subst h
        exact PW.ret dX11_isByLaw_186 (z_nar (Or.inr rfl)).1 rfl
    · rw [if_neg c163] at h
      refine PW.iinc 1 (l' := [(5, .int (a5 + 1)), (3, .int a3)]) dX11_isByLaw_166 rfl (x := a5) (y := (a5 + 1)) rfl (by decide) rfl ?_
      refine PW.goto (tgt := 157) dX11_isByLaw_169 (by decide) ?_
      exact PW.sub (l' := [(3, .int a3), (5, .int (a5 + 1))]) [1, 0] rfl (ih a3 (a5 + 1) hp _ h)
set_option maxRecDepth 100000 in
set_option maxHeartbeats 4000000 in
theorem mf_X11_isByLaw_L41 {K : GK} {k8 : Nat → Int32 → Int32 → Int32 → Int32 → Int32 → PH → Option Int32} (hk8 : ∀ (a0 : Nat) (a1 : Int32) (a2 : Int32) (a3 : Int32) (a4 : Int32) (a5 : Int32) (hp : PH) (r : Int32), k8 a0 a1 a2 a3 a4 a5 hp = some r → PW K (rmD (1)) 0 0 M_X11_isByLaw 8 [(0, .ref (ga K a0)), (1, .int a1), (2, .int a2), (3, .int a3), (4, .int a4), (5, .int a5)] [] hp (some (.int r)) hp) : ∀ (n : Nat) (a0 : Nat) (a1 : Int32) (a2 : Int32) (a3 : Int32) (a4 : Int32) (a5 : Int32) (a6 : Int32) (hp : PH) (r : Int32), f_X11_isByLaw_L41 k8 n a0 a1 a2 a3 a4 a5 a6 hp = some r → PW K (rmD (1)) 0 0 M_X11_isByLaw 41 [(0, .ref (ga K a0)), (1, .int a1), (2, .int a2), (3, .int a3), (4, .int a4), (5, .int a5), (6, .int a6)] [] hp (some (.int r)) hp := by
  intro n
  induction n with
  | zero =>
    intro a0 a1 a2 a3 a4 a5 a6 hp r h
    rw [f_X11_isByLaw_L41] at h
    cases h
  | succ n ih =>
    intro a0 a1 a2 a3 a4 a5 a6 hp r h
    rw [f_X11_isByLaw_L41] at h
    refine PW.iload 6 dX11_isByLaw_41 rfl ?_
    refine PW.iload 5 dX11_isByLaw_43 rfl ?_
    refine PW.icmp_ge (tgt := 92) dX11_isByLaw_45 (by decide) (fun c45 => ?_) (fun c45 => ?_)
    · rw [if_pos c45] at h
      refine PW.iinc 5 (l' := [(5, .int (a5 + 1)), (0, .ref (ga K a0)), (1, .int a1), (2, .int a2), (3, .int a3), (4, .int a4), (6, .int a6)]) dX11_isByLaw_92 rfl (x := a5) (y := (a5 + 1)) rfl (by decide) rfl ?_
      refine PW.goto (tgt := 8) dX11_isByLaw_95 (by decide) ?_
      exact PW.sub (l' := [(0, .ref (ga K a0)), (1, .int a1), (2, .int a2), (3, .int a3), (4, .int a4), (5, .int (a5 + 1))]) [1, 2, 3, 4, 5, 0] rfl (hk8 a0 a1 a2 a3 a4 (a5 + 1) hp _ h)
    · rw [if_neg c45] at h
      refine PW.iload 4 dX11_isByLaw_48 rfl ?_
      refine PW.if_eq (tgt := 83) dX11_isByLaw_50 (by decide) (fun c50 => ?_) (fun c50 => ?_)
      · rw [if_pos c50] at h
        refine PW.iconst (x := 0) dX11_isByLaw_83 (by decide) ?_
        refine PW.istore (l' := [(4, .int 0), (0, .ref (ga K a0)), (1, .int a1), (2, .int a2), (3, .int a3), (5, .int a5), (6, .int a6)]) dX11_isByLaw_84 (by decide) rfl ?_
        refine PW.iinc 6 (l' := [(6, .int (a6 + 1)), (4, .int 0), (0, .ref (ga K a0)), (1, .int a1), (2, .int a2), (3, .int a3), (5, .int a5)]) dX11_isByLaw_86 rfl (x := a6) (y := (a6 + 1)) rfl (by decide) rfl ?_
        refine PW.goto (tgt := 41) dX11_isByLaw_89 (by decide) ?_
        exact PW.sub (l' := [(0, .ref (ga K a0)), (1, .int a1), (2, .int a2), (3, .int a3), (4, .int 0), (5, .int a5), (6, .int (a6 + 1))]) [2, 3, 4, 5, 1, 6, 0] rfl (ih a0 a1 a2 a3 0 a5 (a6 + 1) hp _ h)
      · rw [if_neg c50] at h
        refine PW.iload_n 1 dX11_isByLaw_53 rfl rfl ?_
        refine PW.iload 6 dX11_isByLaw_54 rfl ?_
        refine PW.callSi (As := [.int a1, .int a6]) (rest := []) cal_X11_has dX11_isByLaw_56 wd_1044 rfl rfl (rmLe (by omega)) (Nat.le_of_ble_eq_true rfl) rm_0 (mf_X11_has a1 a6 _ rfl) ?_
        refine PW.if_eq (tgt := 79) dX11_isByLaw_59 (by decide) (fun c59 => ?_) (fun c59 => ?_)
        · rw [if_pos c59] at h
          refine PW.iconst (x := 1) dX11_isByLaw_79 (by decide) ?_
          refine PW.goto (tgt := 84) dX11_isByLaw_80 (by decide) ?_
          refine PW.istore (l' := [(4, .int 1), (0, .ref (ga K a0)), (1, .int a1), (2, .int a2), (3, .int a3), (5, .int a5), (6, .int a6)]) dX11_isByLaw_84 (by decide) rfl ?_
          refine PW.iinc 6 (l' := [(6, .int (a6 + 1)), (4, .int 1), (0, .ref (ga K a0)), (1, .int a1), (2, .int a2), (3, .int a3), (5, .int a5)]) dX11_isByLaw_86 rfl (x := a6) (y := (a6 + 1)) rfl (by decide) rfl ?_
          refine PW.goto (tgt := 41) dX11_isByLaw_89 (by decide) ?_
          exact PW.sub (l' := [(0, .ref (ga K a0)), (1, .int a1), (2, .int a2), (3, .int a3), (4, .int 1), (5, .int a5), (6, .int (a6 + 1))]) [2, 3, 4, 5, 1, 6, 0] rfl (ih a0 a1 a2 a3 1 a5 (a6 + 1) hp _ h)
        · rw [if_neg c59] at h
          refine PW.aload_n 0 dX11_isByLaw_62 rfl rfl ?_
          obtain ⟨x7, hx7, h⟩ := bind_some h
          refine PW.getR cls_X11 (j := 13) (by decide) dX11_isByLaw_63 wd_908 hx7 ?_
          refine PW.iload 6 dX11_isByLaw_66 rfl ?_
          obtain ⟨x8, hx8, h⟩ := bind_some h
          refine PW.iald dX11_isByLaw_68 hx8 ?_
          refine PW.aload_n 0 dX11_isByLaw_69 rfl rfl ?_
          obtain ⟨x9, hx9, h⟩ := bind_some h
          refine PW.getR cls_X11 (j := 13) (by decide) dX11_isByLaw_70 wd_908 hx9 ?_
          refine PW.iload 5 dX11_isByLaw_73 rfl ?_
          obtain ⟨x10, hx10, h⟩ := bind_some h
          refine PW.iald dX11_isByLaw_75 hx10 ?_
          refine PW.icmp_eq (tgt := 83) dX11_isByLaw_76 (by decide) (fun c76 => ?_) (fun c76 => ?_)
          · rw [if_pos c76] at h
            refine PW.iconst (x := 0) dX11_isByLaw_83 (by decide) ?_
            refine PW.istore (l' := [(4, .int 0), (0, .ref (ga K a0)), (1, .int a1), (2, .int a2), (3, .int a3), (5, .int a5), (6, .int a6)]) dX11_isByLaw_84 (by decide) rfl ?_
            refine PW.iinc 6 (l' := [(6, .int (a6 + 1)), (4, .int 0), (0, .ref (ga K a0)), (1, .int a1), (2, .int a2), (3, .int a3), (5, .int a5)]) dX11_isByLaw_86 rfl (x := a6) (y := (a6 + 1)) rfl (by decide) rfl ?_
            refine PW.goto (tgt := 41) dX11_isByLaw_89 (by decide) ?_
            exact PW.sub (l' := [(0, .ref (ga K a0)), (1, .int a1), (2, .int a2), (3, .int a3), (4, .int 0), (5, .int a5), (6, .int (a6 + 1))]) [2, 3, 4, 5, 1, 6, 0] rfl (ih a0 a1 a2 a3 0 a5 (a6 + 1) hp _ h)
          · rw [if_neg c76] at h
            refine PW.iconst (x := 1) dX11_isByLaw_79 (by decide) ?_
            refine PW.goto (tgt := 84) dX11_isByLaw_80 (by decide) ?_
            refine PW.istore (l' := [(4, .int 1), (0, .ref (ga K a0)), (1, .int a1), (2, .int a2), (3, .int a3), (5, .int a5), (6, .int a6)]) dX11_isByLaw_84 (by decide) rfl ?_
            refine PW.iinc 6 (l' := [(6, .int (a6 + 1)), (4, .int 1), (0, .ref (ga K a0)), (1, .int a1), (2, .int a2), (3, .int a3), (5, .int a5)]) dX11_isByLaw_86 rfl (x := a6) (y := (a6 + 1)) rfl (by decide) rfl ?_
            refine PW.goto (tgt := 41) dX11_isByLaw_89 (by decide) ?_
            exact PW.sub (l' := [(0, .ref (ga K a0)), (1, .int a1), (2, .int a2), (3, .int a3), (4, .int 1), (5, .int a5), (6, .int (a6 + 1))]) [2, 3, 4, 5, 1, 6, 0] rfl (ih a0 a1 a2 a3 1 a5 (a6 + 1) hp _ h)
set_option maxRecDepth 100000 in
set_option maxHeartbeats 4000000 in
theorem mf_X11_isByLaw_L8 {K : GK} : ∀ (n : Nat) (a0 : Nat) (a1 : Int32) (a2 : Int32) (a3 : Int32) (a4 : Int32) (a5 : Int32) (hp : PH) (r : Int32), f_X11_isByLaw_L8 n a0 a1 a2 a3 a4 a5 hp = some r → PW K (rmD (1)) 0 0 M_X11_isByLaw 8 [(0, .ref (ga K a0)), (1, .int a1), (2, .int a2), (3, .int a3), (4, .int a4), (5, .int a5)] [] hp (some (.int r)) hp := by
  intro n
  induction n with
  | zero =>
    intro a0 a1 a2 a3 a4 a5 hp r h
    rw [f_X11_isByLaw_L8] at h
    cases h
  | succ n ih =>
    intro a0 a1 a2 a3 a4 a5 hp r h
    rw [f_X11_isByLaw_L8] at h
    refine PW.iload 5 dX11_isByLaw_8 rfl ?_
    refine PW.aload_n 0 dX11_isByLaw_10 rfl rfl ?_
    obtain ⟨x1, hx1, h⟩ := bind_some h
    refine PW.getR cls_X11 (j := 0) (by decide) dX11_isByLaw_11 wd_895 hx1 ?_
    refine PW.iconst (x := 0) dX11_isByLaw_14 (by decide) ?_
    obtain ⟨x2, hx2, h⟩ := bind_some h
    refine PW.iald dX11_isByLaw_15 hx2 ?_
    refine PW.icmp_ge (tgt := 98) dX11_isByLaw_16 (by decide) (fun c16 => ?_) (fun c16 => ?_)
    · rw [if_pos c16] at h
      refine PW.iload_n 2 dX11_isByLaw_98 rfl rfl ?_
      by_cases c99 : a2 = 0
      · rw [if_pos c99] at h
        refine PW.tabE c99 (tgt := 128) (off := 29) dX11_isByLaw_99 (by decide) (by decide) (by decide) (by decide) ?_
        refine PW.iload_n 3 dX11_isByLaw_128 rfl rfl ?_
        refine PW.bipush (x := 10) dX11_isByLaw_129 (by decide) ?_
        refine PW.irem dX11_isByLaw_131 (by decide) ?_
        refine PW.if_ne (tgt := 139) dX11_isByLaw_132 (by decide) (fun c132 => ?_) (fun c132 => ?_)
        · rw [if_neg c132] at h
          refine PW.iconst (x := 0) dX11_isByLaw_139 (by decide) ?_
          have h := Option.some.inj h; subst h
          exact PW.ret dX11_isByLaw_140 (z_nar (Or.inl rfl)).1 rfl
        · rw [if_pos c132] at h
          refine PW.iconst (x := 1) dX11_isByLaw_135 (by decide) ?_
          refine PW.goto (tgt := 140) dX11_isByLaw_136 (by decide) ?_
          have h := Option.some.inj h; subst h
          exact PW.ret dX11_isByLaw_140 (z_nar (Or.inr rfl)).1 rfl
      · rw [if_neg c99] at h
        have c99_0 := sw_ne c99
        by_cases c99 : a2 = 1
        · rw [if_pos c99] at h
          refine PW.tabE c99 (tgt := 141) (off := 42) dX11_isByLaw_99 (by decide) (by decide) (by decide) (by decide) ?_
          refine PW.iload_n 3 dX11_isByLaw_141 rfl rfl ?_
          refine PW.bipush (x := 7) dX11_isByLaw_142 (by decide) ?_
          refine PW.irem dX11_isByLaw_144 (by decide) ?_
          refine PW.if_ne (tgt := 152) dX11_isByLaw_145 (by decide) (fun c145 => ?_) (fun c145 => ?_)
          · rw [if_neg c145] at h
            refine PW.iconst (x := 0) dX11_isByLaw_152 (by decide) ?_
            have h := Option.some.inj h; subst h
            exact PW.ret dX11_isByLaw_153 (z_nar (Or.inl rfl)).1 rfl
          · rw [if_pos c145] at h
            refine PW.iconst (x := 1) dX11_isByLaw_148 (by decide) ?_
            refine PW.goto (tgt := 153) dX11_isByLaw_149 (by decide) ?_
            have h := Option.some.inj h; subst h
            exact PW.ret dX11_isByLaw_153 (z_nar (Or.inr rfl)).1 rfl
        · rw [if_neg c99] at h
          have c99_1 := sw_ne c99
          by_cases c99 : a2 = 2
          · rw [if_pos c99] at h
            refine PW.tabE c99 (tgt := 154) (off := 55) dX11_isByLaw_99 (by decide) (by decide) (by decide) (by decide) ?_
            refine PW.iconst (x := 0) dX11_isByLaw_154 (by decide) ?_
            refine PW.istore (l' := [(5, .int 0), (0, .ref (ga K a0)), (1, .int a1), (2, .int a2), (3, .int a3), (4, .int a4)]) dX11_isByLaw_155 (by decide) rfl ?_
            exact PW.sub (l' := [(3, .int a3), (5, .int 0)]) [4, 0] rfl (mf_X11_isByLaw_L157 NN a3 0 hp _ h)
          · rw [if_neg c99] at h
            have c99_2 := sw_ne c99
            by_cases c99 : a2 = 3
            · rw [if_pos c99] at h
              refine PW.tabE c99 (tgt := 187) (off := 88) dX11_isByLaw_99 (by decide) (by decide) (by decide) (by decide) ?_
              refine PW.iload 4 dX11_isByLaw_187 rfl ?_
              obtain ⟨hz, h⟩ := zR_spec h
              subst h
              exact PW.ret dX11_isByLaw_189 (z_nar hz).1 rfl
            · rw [if_neg c99] at h
              have c99_3 := sw_ne c99
              refine PW.tabOut (tgt := 190) dX11_isByLaw_99 (sw_out4 c99_0 c99_1 c99_2 c99_3) (by decide) ?_
              refine PW.iload 4 dX11_isByLaw_190 rfl ?_
              refine PW.if_eq (tgt := 206) dX11_isByLaw_192 (by decide) (fun c192 => ?_) (fun c192 => ?_)
              · rw [if_pos c192] at h
                refine PW.iconst (x := 0) dX11_isByLaw_206 (by decide) ?_
                have h := Option.some.inj h; subst h
                exact PW.ret dX11_isByLaw_207 (z_nar (Or.inl rfl)).1 rfl
              · rw [if_neg c192] at h
                refine PW.iload_n 3 dX11_isByLaw_195 rfl rfl ?_
                refine PW.bipush (x := 10) dX11_isByLaw_196 (by decide) ?_
                refine PW.irem dX11_isByLaw_198 (by decide) ?_
                refine PW.if_ne (tgt := 206) dX11_isByLaw_199 (by decide) (fun c199 => ?_) (fun c199 => ?_)
                · rw [if_neg c199] at h
                  refine PW.iconst (x := 0) dX11_isByLaw_206 (by decide) ?_
                  have h := Option.some.inj h; subst h
                  exact PW.ret dX11_isByLaw_207 (z_nar (Or.inl rfl)).1 rfl
                · rw [if_pos c199] at h
                  refine PW.iconst (x := 1) dX11_isByLaw_202 (by decide) ?_
                  refine PW.goto (tgt := 207) dX11_isByLaw_203 (by decide) ?_
                  have h := Option.some.inj h; subst h
                  exact PW.ret dX11_isByLaw_207 (z_nar (Or.inr rfl)).1 rfl
    · rw [if_neg c16] at h
      refine PW.iload_n 1 dX11_isByLaw_19 rfl rfl ?_
      refine PW.iload 5 dX11_isByLaw_20 rfl ?_
      refine PW.callSi (As := [.int a1, .int a5]) (rest := []) cal_X11_has dX11_isByLaw_22 wd_1044 rfl rfl (rmLe (by omega)) (Nat.le_of_ble_eq_true rfl) rm_0 (mf_X11_has a1 a5 _ rfl) ?_
      refine PW.if_eq (tgt := 92) dX11_isByLaw_25 (by decide) (fun c25 => ?_) (fun c25 => ?_)
      · rw [if_pos c25] at h
        refine PW.iinc 5 (l' := [(5, .int (a5 + 1)), (0, .ref (ga K a0)), (1, .int a1), (2, .int a2), (3, .int a3), (4, .int a4)]) dX11_isByLaw_92 rfl (x := a5) (y := (a5 + 1)) rfl (by decide) rfl ?_
        refine PW.goto (tgt := 8) dX11_isByLaw_95 (by decide) ?_
        exact PW.sub (l' := [(0, .ref (ga K a0)), (1, .int a1), (2, .int a2), (3, .int a3), (4, .int a4), (5, .int (a5 + 1))]) [1, 2, 3, 4, 5, 0] rfl (ih a0 a1 a2 a3 a4 (a5 + 1) hp _ h)
      · rw [if_neg c25] at h
        refine PW.iload_n 3 dX11_isByLaw_28 rfl rfl ?_
        refine PW.aload_n 0 dX11_isByLaw_29 rfl rfl ?_
        obtain ⟨x4, hx4, h⟩ := bind_some h
        refine PW.getR cls_X11 (j := 13) (by decide) dX11_isByLaw_30 wd_908 hx4 ?_
        refine PW.iload 5 dX11_isByLaw_33 rfl ?_
        obtain ⟨x5, hx5, h⟩ := bind_some h
        refine PW.iald dX11_isByLaw_35 hx5 ?_
        refine PW.iadd dX11_isByLaw_36 ?_
        refine PW.istore_n (l' := [(3, .int (a3 + x5)), (0, .ref (ga K a0)), (1, .int a1), (2, .int a2), (4, .int a4), (5, .int a5)]) dX11_isByLaw_37 rfl (by decide) rfl ?_
        refine PW.iconst (x := 0) dX11_isByLaw_38 (by decide) ?_
        refine PW.istore (l' := [(6, .int 0), (3, .int (a3 + x5)), (0, .ref (ga K a0)), (1, .int a1), (2, .int a2), (4, .int a4), (5, .int a5)]) dX11_isByLaw_39 (by decide) rfl ?_
        exact PW.sub (l' := [(0, .ref (ga K a0)), (1, .int a1), (2, .int a2), (3, .int (a3 + x5)), (4, .int a4), (5, .int a5), (6, .int 0)]) [2, 3, 4, 1, 5, 6, 0] rfl (mf_X11_isByLaw_L41 ih NN a0 a1 a2 (a3 + x5) a4 a5 0 hp _ h)
set_option maxRecDepth 100000 in
set_option maxHeartbeats 4000000 in
theorem mf_X11_isByLaw {K : GK} : ∀ (a0 : Nat) (a1 : Int32) (a2 : Int32) (hp : PH) (r : Int32), f_X11_isByLaw a0 a1 a2 hp = some r → PM K (1) M_X11_isByLaw [.ref (ga K a0), .int a1, .int a2] hp (some (.int r)) hp := by
  intro a0 a1 a2 hp r h
  unfold f_X11_isByLaw at h
  refine PM.enter (l0 := [(0, .ref (ga K a0)), (1, .int a1), (2, .int a2)]) (by decide +kernel) rfl (Nat.le_of_ble_eq_true rfl) rfl ?_
  refine PW.iconst (x := 0) dX11_isByLaw_0 (by decide) ?_
  refine PW.istore_n (l' := [(3, .int 0), (0, .ref (ga K a0)), (1, .int a1), (2, .int a2)]) dX11_isByLaw_1 rfl (by decide) rfl ?_
  refine PW.iconst (x := 1) dX11_isByLaw_2 (by decide) ?_
  refine PW.istore (l' := [(4, .int 1), (3, .int 0), (0, .ref (ga K a0)), (1, .int a1), (2, .int a2)]) dX11_isByLaw_3 (by decide) rfl ?_
  refine PW.iconst (x := 0) dX11_isByLaw_5 (by decide) ?_
  refine PW.istore (l' := [(5, .int 0), (4, .int 1), (3, .int 0), (0, .ref (ga K a0)), (1, .int a1), (2, .int a2)]) dX11_isByLaw_6 (by decide) rfl ?_
  exact PW.sub (l' := [(0, .ref (ga K a0)), (1, .int a1), (2, .int a2), (3, .int 0), (4, .int 1), (5, .int 0)]) [3, 4, 5, 2, 1, 0] rfl (mf_X11_isByLaw_L8 NN a0 a1 a2 0 1 0 hp _ h)
