-- X3_isUnlike
def f_X3_isUnlike_L15 (k2 : Nat → Int32 → Int32 → PH → Option Int32) : Nat → Nat → Int32 → Int32 → Int32 → PH → Option Int32
  | 0, _, _, _, _, _ => none
  | n + 1, a0, a1, a2, a3, hp => (if a2 ≤ a3 then (k2 a0 a1 (a2 + 1) hp) else (if (((iS a1 a2) &&& (iS a1 a3)) &&& 1) = 0 then ((f_X3_isUnlike_L15 k2 n) a0 a1 a2 (a3 + 1) hp) else (gR hp a0 2 1).bind fun x3 => (aI hp x3 0 a2).bind fun x4 => (gR hp a0 2 1).bind fun x5 => (aI hp x5 0 a3).bind fun x6 => (if x4 = x6 then (some 0) else ((f_X3_isUnlike_L15 k2 n) a0 a1 a2 (a3 + 1) hp))))
def f_X3_isUnlike_L2 : Nat → Nat → Int32 → Int32 → PH → Option Int32
  | 0, _, _, _, _ => none
  | n + 1, a0, a1, a2, hp => (gR hp a0 2 0).bind fun x1 => (gI hp x1 6 0).bind fun x2 => (if x2 ≤ a2 then (some 1) else (f_X3_isUnlike_L15 (f_X3_isUnlike_L2 n) NN a0 a1 a2 0 hp))
def f_X3_isUnlike (a0 : Nat) (a1 : Int32) (hp : PH) : Option Int32 := (f_X3_isUnlike_L2 NN a0 a1 1 hp)
set_option maxRecDepth 100000 in
set_option maxHeartbeats 4000000 in
theorem mf_X3_isUnlike_L15 {K : GK} {k2 : Nat → Int32 → Int32 → PH → Option Int32} (hk2 : ∀ (a0 : Nat) (a1 : Int32) (a2 : Int32) (hp : PH) (r : Int32), k2 a0 a1 a2 hp = some r → PW K (rmD (0)) 0 0 M_X3_isUnlike 2 [(0, .ref (ga K a0)), (1, .int a1), (2, .int a2)] [] hp (some (.int r)) hp) : ∀ (n : Nat) (a0 : Nat) (a1 : Int32) (a2 : Int32) (a3 : Int32) (hp : PH) (r : Int32), f_X3_isUnlike_L15 k2 n a0 a1 a2 a3 hp = some r → PW K (rmD (0)) 0 0 M_X3_isUnlike 15 [(0, .ref (ga K a0)), (1, .int a1), (2, .int a2), (3, .int a3)] [] hp (some (.int r)) hp := by
  intro n
  induction n with
  | zero =>
    intro a0 a1 a2 a3 hp r h
    rw [f_X3_isUnlike_L15] at h
    cases h
  | succ n ih =>
    intro a0 a1 a2 a3 hp r h
    rw [f_X3_isUnlike_L15] at h
    refine PW.iload_n 3 dX3_isUnlike_15 rfl rfl ?_
    refine PW.iload_n 2 dX3_isUnlike_16 rfl rfl ?_
    refine PW.icmp_ge (tgt := 55) dX3_isUnlike_17 (by decide) (fun c17 => ?_) (fun c17 => ?_)
    · rw [if_pos c17] at h
      refine PW.iinc 2 (l' := [(2, .int (a2 + 1)), (0, .ref (ga K a0)), (1, .int a1), (3, .int a3)]) dX3_isUnlike_55 rfl (x := a2) (y := (a2 + 1)) rfl (by decide) rfl ?_
      refine PW.goto (tgt := 2) dX3_isUnlike_58 (by decide) ?_
      exact PW.sub (l' := [(0, .ref (ga K a0)), (1, .int a1), (2, .int (a2 + 1))]) [1, 2, 0] rfl (hk2 a0 a1 (a2 + 1) hp _ h)
    · rw [if_neg c17] at h
      refine PW.iload_n 1 dX3_isUnlike_20 rfl rfl ?_
      refine PW.iload_n 2 dX3_isUnlike_21 rfl rfl ?_
      refine PW.ishr dX3_isUnlike_22 ?_
      refine PW.iload_n 1 dX3_isUnlike_23 rfl rfl ?_
      refine PW.iload_n 3 dX3_isUnlike_24 rfl rfl ?_
      refine PW.ishr dX3_isUnlike_25 ?_
      refine PW.iand dX3_isUnlike_26 ?_
      refine PW.iconst (x := 1) dX3_isUnlike_27 (by decide) ?_
      refine PW.iand dX3_isUnlike_28 ?_
      refine PW.if_eq (tgt := 49) dX3_isUnlike_29 (by decide) (fun c29 => ?_) (fun c29 => ?_)
      · rw [if_pos c29] at h
        refine PW.iinc 3 (l' := [(3, .int (a3 + 1)), (0, .ref (ga K a0)), (1, .int a1), (2, .int a2)]) dX3_isUnlike_49 rfl (x := a3) (y := (a3 + 1)) rfl (by decide) rfl ?_
        refine PW.goto (tgt := 15) dX3_isUnlike_52 (by decide) ?_
        exact PW.sub (l' := [(0, .ref (ga K a0)), (1, .int a1), (2, .int a2), (3, .int (a3 + 1))]) [1, 2, 3, 0] rfl (ih a0 a1 a2 (a3 + 1) hp _ h)
      · rw [if_neg c29] at h
        refine PW.aload_n 0 dX3_isUnlike_32 rfl rfl ?_
        obtain ⟨x3, hx3, h⟩ := bind_some h
        refine PW.getR cls_X3 (j := 1) (by decide) dX3_isUnlike_33 wd_249 hx3 ?_
        refine PW.iload_n 2 dX3_isUnlike_36 rfl rfl ?_
        obtain ⟨x4, hx4, h⟩ := bind_some h
        refine PW.iald dX3_isUnlike_37 hx4 ?_
        refine PW.aload_n 0 dX3_isUnlike_38 rfl rfl ?_
        obtain ⟨x5, hx5, h⟩ := bind_some h
        refine PW.getR cls_X3 (j := 1) (by decide) dX3_isUnlike_39 wd_249 hx5 ?_
        refine PW.iload_n 3 dX3_isUnlike_42 rfl rfl ?_
        obtain ⟨x6, hx6, h⟩ := bind_some h
        refine PW.iald dX3_isUnlike_43 hx6 ?_
        refine PW.icmp_ne (tgt := 49) dX3_isUnlike_44 (by decide) (fun c44 => ?_) (fun c44 => ?_)
        · rw [if_neg c44] at h
          refine PW.iinc 3 (l' := [(3, .int (a3 + 1)), (0, .ref (ga K a0)), (1, .int a1), (2, .int a2)]) dX3_isUnlike_49 rfl (x := a3) (y := (a3 + 1)) rfl (by decide) rfl ?_
          refine PW.goto (tgt := 15) dX3_isUnlike_52 (by decide) ?_
          exact PW.sub (l' := [(0, .ref (ga K a0)), (1, .int a1), (2, .int a2), (3, .int (a3 + 1))]) [1, 2, 3, 0] rfl (ih a0 a1 a2 (a3 + 1) hp _ h)
        · rw [if_pos c44] at h
          refine PW.iconst (x := 0) dX3_isUnlike_47 (by decide) ?_
          have h := Option.some.inj h; subst h
          exact PW.ret dX3_isUnlike_48 (z_nar (Or.inl rfl)).1 rfl
set_option maxRecDepth 100000 in
set_option maxHeartbeats 4000000 in
theorem mf_X3_isUnlike_L2 {K : GK} : ∀ (n : Nat) (a0 : Nat) (a1 : Int32) (a2 : Int32) (hp : PH) (r : Int32), f_X3_isUnlike_L2 n a0 a1 a2 hp = some r → PW K (rmD (0)) 0 0 M_X3_isUnlike 2 [(0, .ref (ga K a0)), (1, .int a1), (2, .int a2)] [] hp (some (.int r)) hp := by
  intro n
  induction n with
  | zero =>
    intro a0 a1 a2 hp r h
    rw [f_X3_isUnlike_L2] at h
    cases h
  | succ n ih =>
    intro a0 a1 a2 hp r h
    rw [f_X3_isUnlike_L2] at h
    refine PW.iload_n 2 dX3_isUnlike_2 rfl rfl ?_
    refine PW.aload_n 0 dX3_isUnlike_3 rfl rfl ?_
    obtain ⟨x1, hx1, h⟩ := bind_some h
    refine PW.getR cls_X3 (j := 0) (by decide) dX3_isUnlike_4 wd_248 hx1 ?_
    obtain ⟨x2, hx2, h⟩ := bind_some h
    refine PW.getI cls_X7 (j := 0) (by decide) dX3_isUnlike_7 wd_94 hx2 ?_
    refine PW.icmp_ge (tgt := 61) dX3_isUnlike_10 (by decide) (fun c10 => ?_) (fun c10 => ?_)
    · rw [if_pos c10] at h
      refine PW.iconst (x := 1) dX3_isUnlike_61 (by decide) ?_
      have h := Option.some.inj h; subst h
      exact PW.ret dX3_isUnlike_62 (z_nar (Or.inr rfl)).1 rfl
    · rw [if_neg c10] at h
      refine PW.iconst (x := 0) dX3_isUnlike_13 (by decide) ?_
      refine PW.istore_n (l' := [(3, .int 0), (0, .ref (ga K a0)), (1, .int a1), (2, .int a2)]) dX3_isUnlike_14 rfl (by decide) rfl ?_
      exact PW.sub (l' := [(0, .ref (ga K a0)), (1, .int a1), (2, .int a2), (3, .int 0)]) [1, 2, 3, 0] rfl (mf_X3_isUnlike_L15 ih NN a0 a1 a2 0 hp _ h)
set_option maxRecDepth 100000 in
set_option maxHeartbeats 4000000 in
theorem mf_X3_isUnlike {K : GK} : ∀ (a0 : Nat) (a1 : Int32) (hp : PH) (r : Int32), f_X3_isUnlike a0 a1 hp = some r → PM K (0) M_X3_isUnlike [.ref (ga K a0), .int a1] hp (some (.int r)) hp := by
  intro a0 a1 hp r h
  unfold f_X3_isUnlike at h
  refine PM.enter (l0 := [(0, .ref (ga K a0)), (1, .int a1)]) (by decide +kernel) rfl (Nat.le_of_ble_eq_true rfl) rfl ?_
  refine PW.iconst (x := 1) dX3_isUnlike_0 (by decide) ?_
  refine PW.istore_n (l' := [(2, .int 1), (0, .ref (ga K a0)), (1, .int a1)]) dX3_isUnlike_1 rfl (by decide) rfl ?_
  exact PW.sub (l' := [(0, .ref (ga K a0)), (1, .int a1), (2, .int 1)]) [1, 2, 0] rfl (mf_X3_isUnlike_L2 NN a0 a1 1 hp _ h)
-- X3_isLawful
def f_X3_isLawful (a0 : Nat) (a1 : Int32) (a2 : Int32) (hp : PH) : Option Int32 := (if a2 = 0 then (vC hp a0 2 (f_X3_yearsTogether a0 a1 hp)).bind fun q1 => (if (iR q1 10) = 0 then (some 1) else (some 0)) else if a2 = 1 then (vC hp a0 2 (f_X3_yearsTogether a0 a1 hp)).bind fun q2 => (if (iR q2 7) = 0 then (some 1) else (some 0)) else if a2 = 2 then (vC hp a0 2 (f_X3_yearsTogether a0 a1 hp)).bind fun q3 => (f_X3_isSquare q3).bind fun q4 => (zR q4) else if a2 = 3 then (vC hp a0 2 (f_X3_isUnlike a0 a1 hp)).bind fun q5 => (zR q5) else (vC hp a0 2 (f_X3_yearsTogether a0 a1 hp)).bind fun q6 => (if (iR q6 10) = 0 then (vC hp a0 2 (f_X3_isUnlike a0 a1 hp)).bind fun q7 => (if q7 = 0 then (some 0) else (some 1)) else (some 0)))
set_option maxRecDepth 100000 in
set_option maxHeartbeats 4000000 in
theorem mf_X3_isLawful {K : GK} : ∀ (a0 : Nat) (a1 : Int32) (a2 : Int32) (hp : PH) (r : Int32), f_X3_isLawful a0 a1 a2 hp = some r → PM K (1) M_X3_isLawful [.ref (ga K a0), .int a1, .int a2] hp (some (.int r)) hp := by
  intro a0 a1 a2 hp r h
  unfold f_X3_isLawful at h
  refine PM.enter (l0 := [(0, .ref (ga K a0)), (1, .int a1), (2, .int a2)]) (by decide +kernel) rfl (Nat.le_of_ble_eq_true rfl) rfl ?_
  refine PW.iload_n 2 dX3_isLawful_0 rfl rfl ?_
  by_cases c1 : a2 = 0
  · rw [if_pos c1] at h
    refine PW.tabE c1 (tgt := 32) (off := 31) dX3_isLawful_1 (by decide) (by decide) (by decide) (by decide) ?_
    refine PW.aload_n 0 dX3_isLawful_32 rfl rfl ?_
    refine PW.iload_n 1 dX3_isLawful_33 rfl rfl ?_
    obtain ⟨q1, hq1, h⟩ := bind_some h
    obtain ⟨hkq1, hcq1, hq1⟩ := vC_spec hq1
    refine PW.callVi (As := [.int a1]) (rest := []) (k := a0) cal_X3_yearsTogether dX3_isLawful_34 wd_516 rfl rfl (rmLe (by omega)) (Nat.le_of_ble_eq_true rfl) rm_0 hkq1 hcq1 (mf_X3_yearsTogether a0 a1 hp _ hq1) ?_
    refine PW.bipush (x := 10) dX3_isLawful_37 (by decide) ?_
    refine PW.irem dX3_isLawful_39 (by decide) ?_
    refine PW.if_ne (tgt := 47) dX3_isLawful_40 (by decide) (fun c40 => ?_) (fun c40 => ?_)
    · rw [if_neg c40] at h
      refine PW.iconst (x := 0) dX3_isLawful_47 (by decide) ?_
      have h := Option.some.inj h; subst h
      exact PW.ret dX3_isLawful_48 (z_nar (Or.inl rfl)).1 rfl
    · rw [if_pos c40] at h
      refine PW.iconst (x := 1) dX3_isLawful_43 (by decide) ?_
      refine PW.goto (tgt := 48) dX3_isLawful_44 (by decide) ?_
      have h := Option.some.inj h; subst h
      exact PW.ret dX3_isLawful_48 (z_nar (Or.inr rfl)).1 rfl
  · rw [if_neg c1] at h
    have c1_0 := sw_ne c1
    by_cases c1 : a2 = 1
    · rw [if_pos c1] at h
      refine PW.tabE c1 (tgt := 49) (off := 48) dX3_isLawful_1 (by decide) (by decide) (by decide) (by decide) ?_
      refine PW.aload_n 0 dX3_isLawful_49 rfl rfl ?_
      refine PW.iload_n 1 dX3_isLawful_50 rfl rfl ?_
      obtain ⟨q2, hq2, h⟩ := bind_some h
      obtain ⟨hkq2, hcq2, hq2⟩ := vC_spec hq2
      refine PW.callVi (As := [.int a1]) (rest := []) (k := a0) cal_X3_yearsTogether dX3_isLawful_51 wd_516 rfl rfl (rmLe (by omega)) (Nat.le_of_ble_eq_true rfl) rm_0 hkq2 hcq2 (mf_X3_yearsTogether a0 a1 hp _ hq2) ?_
      refine PW.bipush (x := 7) dX3_isLawful_54 (by decide) ?_
      refine PW.irem dX3_isLawful_56 (by decide) ?_
      refine PW.if_ne (tgt := 64) dX3_isLawful_57 (by decide) (fun c57 => ?_) (fun c57 => ?_)
      · rw [if_neg c57] at h
        refine PW.iconst (x := 0) dX3_isLawful_64 (by decide) ?_
        have h := Option.some.inj h; subst h
        exact PW.ret dX3_isLawful_65 (z_nar (Or.inl rfl)).1 rfl
      · rw [if_pos c57] at h
        refine PW.iconst (x := 1) dX3_isLawful_60 (by decide) ?_
        refine PW.goto (tgt := 65) dX3_isLawful_61 (by decide) ?_
        have h := Option.some.inj h; subst h
        exact PW.ret dX3_isLawful_65 (z_nar (Or.inr rfl)).1 rfl
    · rw [if_neg c1] at h
      have c1_1 := sw_ne c1
      by_cases c1 : a2 = 2
      · rw [if_pos c1] at h
        refine PW.tabE c1 (tgt := 66) (off := 65) dX3_isLawful_1 (by decide) (by decide) (by decide) (by decide) ?_
        refine PW.aload_n 0 dX3_isLawful_66 rfl rfl ?_
        refine PW.iload_n 1 dX3_isLawful_67 rfl rfl ?_
        obtain ⟨q3, hq3, h⟩ := bind_some h
        obtain ⟨hkq3, hcq3, hq3⟩ := vC_spec hq3
        refine PW.callVi (As := [.int a1]) (rest := []) (k := a0) cal_X3_yearsTogether dX3_isLawful_68 wd_516 rfl rfl (rmLe (by omega)) (Nat.le_of_ble_eq_true rfl) rm_0 hkq3 hcq3 (mf_X3_yearsTogether a0 a1 hp _ hq3) ?_
        obtain ⟨q4, hq4, h⟩ := bind_some h
        refine PW.callSi (As := [.int q3]) (rest := []) cal_X3_isSquare dX3_isLawful_71 wd_520 rfl rfl (rmLe (by omega)) (Nat.le_of_ble_eq_true rfl) rm_0 (mf_X3_isSquare q3 _ hq4) ?_
        obtain ⟨hz, h⟩ := zR_spec h
        subst h
        exact PW.ret dX3_isLawful_74 (z_nar hz).1 rfl
      · rw [if_neg c1] at h
        have c1_2 := sw_ne c1
        by_cases c1 : a2 = 3
        · rw [if_pos c1] at h
          refine PW.tabE c1 (tgt := 75) (off := 74) dX3_isLawful_1 (by decide) (by decide) (by decide) (by decide) ?_
          refine PW.aload_n 0 dX3_isLawful_75 rfl rfl ?_
          refine PW.iload_n 1 dX3_isLawful_76 rfl rfl ?_
          obtain ⟨q5, hq5, h⟩ := bind_some h
          obtain ⟨hkq5, hcq5, hq5⟩ := vC_spec hq5
          refine PW.callVi (As := [.int a1]) (rest := []) (k := a0) cal_X3_isUnlike dX3_isLawful_77 wd_523 rfl rfl (rmLe (by omega)) (Nat.le_of_ble_eq_true rfl) rm_0 hkq5 hcq5 (mf_X3_isUnlike a0 a1 hp _ hq5) ?_
          obtain ⟨hz, h⟩ := zR_spec h
          subst h
          exact PW.ret dX3_isLawful_80 (z_nar hz).1 rfl
        · rw [if_neg c1] at h
          have c1_3 := sw_ne c1
          refine PW.tabOut (tgt := 81) dX3_isLawful_1 (sw_out4 c1_0 c1_1 c1_2 c1_3) (by decide) ?_
          refine PW.aload_n 0 dX3_isLawful_81 rfl rfl ?_
          refine PW.iload_n 1 dX3_isLawful_82 rfl rfl ?_
          obtain ⟨q6, hq6, h⟩ := bind_some h
          obtain ⟨hkq6, hcq6, hq6⟩ := vC_spec hq6
          refine PW.callVi (As := [.int a1]) (rest := []) (k := a0) cal_X3_yearsTogether dX3_isLawful_83 wd_516 rfl rfl (rmLe (by omega)) (Nat.le_of_ble_eq_true rfl) rm_0 hkq6 hcq6 (mf_X3_yearsTogether a0 a1 hp _ hq6) ?_
          refine PW.bipush (x := 10) dX3_isLawful_86 (by decide) ?_
          refine PW.irem dX3_isLawful_88 (by decide) ?_
          refine PW.if_ne (tgt := 104) dX3_isLawful_89 (by decide) (fun c89 => ?_) (fun c89 => ?_)
          · rw [if_neg c89] at h
            refine PW.iconst (x := 0) dX3_isLawful_104 (by decide) ?_
            have h := Option.some.inj h; subst h
            exact PW.ret dX3_isLawful_105 (z_nar (Or.inl rfl)).1 rfl
          · rw [if_pos c89] at h
            refine PW.aload_n 0 dX3_isLawful_92 rfl rfl ?_
            refine PW.iload_n 1 dX3_isLawful_93 rfl rfl ?_
            obtain ⟨q7, hq7, h⟩ := bind_some h
            obtain ⟨hkq7, hcq7, hq7⟩ := vC_spec hq7
            refine PW.callVi (As := [.int a1]) (rest := []) (k := a0) cal_X3_isUnlike dX3_isLawful_94 wd_523 rfl rfl (rmLe (by omega)) (Nat.le_of_ble_eq_true rfl) rm_0 hkq7 hcq7 (mf_X3_isUnlike a0 a1 hp _ hq7) ?_
            refine PW.if_eq (tgt := 104) dX3_isLawful_97 (by decide) (fun c97 => ?_) (fun c97 => ?_)
            · rw [if_pos c97] at h
              refine PW.iconst (x := 0) dX3_isLawful_104 (by decide) ?_
              have h := Option.some.inj h; subst h
              exact PW.ret dX3_isLawful_105 (z_nar (Or.inl rfl)).1 rfl
            · rw [if_neg c97] at h
              refine PW.iconst (x := 1) dX3_isLawful_100 (by decide) ?_
              refine PW.goto (tgt := 105) dX3_isLawful_101 (by decide) ?_
              have h := Option.some.inj h; subst h
              exact PW.ret dX3_isLawful_105 (z_nar (Or.inr rfl)).1 rfl
-- X3_reason
def f_X3_reason (a0 : Nat) (a1 : Int32) (a2 : Int32) (hp : PH) : Option Int32 := (gI hp a0 2 2).bind fun x1 => (if (a1 &&& x1) = 0 then (vC hp a0 2 (f_X3_lastingReason a0 a1 a2 hp)).bind fun q2 => (if q2 = 0 then (gR hp a0 2 0).bind fun x3 => (gR hp x3 6 7).bind fun x4 => (aI hp x4 0 a2).bind fun x5 => (vC hp a0 2 (f_X3_isLawful a0 a1 x5 hp)).bind fun q6 => (if q6 = 0 then (some 5) else (some 0)) else (some q2)) else (some 1))
set_option maxRecDepth 100000 in
set_option maxHeartbeats 4000000 in
theorem mf_X3_reason {K : GK} : ∀ (a0 : Nat) (a1 : Int32) (a2 : Int32) (hp : PH) (r : Int32), f_X3_reason a0 a1 a2 hp = some r → PM K (2) M_X3_reason [.ref (ga K a0), .int a1, .int a2] hp (some (.int r)) hp := by
  intro a0 a1 a2 hp r h
  unfold f_X3_reason at h
  refine PM.enter (l0 := [(0, .ref (ga K a0)), (1, .int a1), (2, .int a2)]) (by decide +kernel) rfl (Nat.le_of_ble_eq_true rfl) rfl ?_
  refine PW.iload_n 1 dX3_reason_0 rfl rfl ?_
  refine PW.aload_n 0 dX3_reason_1 rfl rfl ?_
  obtain ⟨x1, hx1, h⟩ := bind_some h
  refine PW.getI cls_X3 (j := 2) (by decide) dX3_reason_2 wd_250 hx1 ?_
  refine PW.iand dX3_reason_5 ?_
  refine PW.if_eq (tgt := 11) dX3_reason_6 (by decide) (fun c6 => ?_) (fun c6 => ?_)
  · rw [if_pos c6] at h
    refine PW.aload_n 0 dX3_reason_11 rfl rfl ?_
    refine PW.iload_n 1 dX3_reason_12 rfl rfl ?_
    refine PW.iload_n 2 dX3_reason_13 rfl rfl ?_
    obtain ⟨q2, hq2, h⟩ := bind_some h
    obtain ⟨hkq2, hcq2, hq2⟩ := vC_spec hq2
    refine PW.callVi (As := [.int a1, .int a2]) (rest := []) (k := a0) cal_X3_lastingReason dX3_reason_14 wd_502 rfl rfl (rmLe (by omega)) (Nat.le_of_ble_eq_true rfl) rm_0 hkq2 hcq2 (mf_X3_lastingReason a0 a1 a2 hp _ hq2) ?_
    refine PW.istore_n (l' := [(3, .int q2), (0, .ref (ga K a0)), (1, .int a1), (2, .int a2)]) dX3_reason_17 rfl (by decide) rfl ?_
    refine PW.iload_n 0 dX3_reason_18 rfl rfl ?_
    refine PW.if_eq (tgt := 24) dX3_reason_19 (by decide) (fun c19 => ?_) (fun c19 => ?_)
    · rw [if_pos c19] at h
      refine PW.aload_n 1 dX3_reason_24 rfl rfl ?_
      refine PW.iload_n 2 dX3_reason_25 rfl rfl ?_
      refine PW.aload_n 1 dX3_reason_26 rfl rfl ?_
      obtain ⟨x3, hx3, h⟩ := bind_some h
      refine PW.getR cls_X3 (j := 0) (by decide) dX3_reason_27 wd_248 hx3 ?_
      obtain ⟨x4, hx4, h⟩ := bind_some h
      refine PW.getR cls_X7 (j := 7) (by decide) dX3_reason_30 wd_118 hx4 ?_
      refine PW.iload_n 3 dX3_reason_33 rfl rfl ?_
      obtain ⟨x5, hx5, h⟩ := bind_some h
      refine PW.iald dX3_reason_34 hx5 ?_
      obtain ⟨q6, hq6, h⟩ := bind_some h
      obtain ⟨hkq6, hcq6, hq6⟩ := vC_spec hq6
      refine PW.callVi (As := [.int a1, .int x5]) (rest := []) (k := a0) cal_X3_isLawful dX3_reason_35 wd_512 rfl rfl (rmLe (by omega)) (Nat.le_of_ble_eq_true rfl) rm_0 hkq6 hcq6 (mf_X3_isLawful a0 a1 x5 hp _ hq6) ?_
      refine PW.if_eq (tgt := 45) dX3_reason_38 (by decide) (fun c38 => ?_) (fun c38 => ?_)
      · rw [if_pos c38] at h
        refine PW.iconst (x := 5) dX3_reason_45 (by decide) ?_
        have h := Option.some.inj h; subst h
        exact PW.ret dX3_reason_46 trivial rfl
      · rw [if_neg c38] at h
        refine PW.iconst (x := 0) dX3_reason_41 (by decide) ?_
        refine PW.goto (tgt := 46) dX3_reason_42 (by decide) ?_
        have h := Option.some.inj h; subst h
        exact PW.ret dX3_reason_46 trivial rfl
    · rw [if_neg c19] at h
      refine PW.iload_n 0 dX3_reason_22 rfl rfl ?_
      have h := Option.some.inj h; subst h
      exact PW.ret dX3_reason_23 trivial rfl
  · rw [if_neg c6] at h
    refine PW.iconst (x := 1) dX3_reason_9 (by decide) ?_
    have h := Option.some.inj h; subst h
    exact PW.ret dX3_reason_10 trivial rfl
-- X7_birthdayBehind
def f_X7_birthdayBehind (a0 : Nat) (a1 : Int32) (a2 : Int32) (a3 : Int32) (hp : PH) : Option Int32 := (gR hp a0 6 2).bind fun x1 => (aI hp x1 0 a1).bind fun x2 => (if x2 ≤ a2 then (gR hp a0 6 4).bind fun x3 => (aI hp x3 0 a1).bind fun x4 => (if (f_X1_dayInYear a3 x4) ≤ a2 then (gR hp a0 6 4).bind fun x6 => (aI hp x6 0 a1).bind fun x7 => (some (f_X1_dayInYear (a3 + 1) x7)) else (some (f_X1_dayInYear a3 x4))) else (gR hp a0 6 2).bind fun x9 => (aI hp x9 0 a1).bind fun x10 => (some x10))
set_option maxRecDepth 100000 in
set_option maxHeartbeats 4000000 in
theorem mf_X7_birthdayBehind {K : GK} : ∀ (a0 : Nat) (a1 : Int32) (a2 : Int32) (a3 : Int32) (hp : PH) (r : Int32), f_X7_birthdayBehind a0 a1 a2 a3 hp = some r → PM K (2) M_X7_birthdayBehind [.ref (ga K a0), .int a1, .int a2, .int a3] hp (some (.int r)) hp := by
  intro a0 a1 a2 a3 hp r h
  unfold f_X7_birthdayBehind at h
  refine PM.enter (l0 := [(0, .ref (ga K a0)), (1, .int a1), (2, .int a2), (3, .int a3)]) (by decide +kernel) rfl (Nat.le_of_ble_eq_true rfl) rfl ?_
  refine PW.iload_n 2 dX7_birthdayBehind_0 rfl rfl ?_
  refine PW.aload_n 0 dX7_birthdayBehind_1 rfl rfl ?_
  obtain ⟨x1, hx1, h⟩ := bind_some h
  refine PW.getR cls_X7 (j := 2) (by decide) dX7_birthdayBehind_2 wd_103 hx1 ?_
  refine PW.iload_n 1 dX7_birthdayBehind_5 rfl rfl ?_
  obtain ⟨x2, hx2, h⟩ := bind_some h
  refine PW.iald dX7_birthdayBehind_6 hx2 ?_
  refine PW.icmp_ge (tgt := 17) dX7_birthdayBehind_7 (by decide) (fun c7 => ?_) (fun c7 => ?_)
  · rw [if_pos c7] at h
    refine PW.iload_n 3 dX7_birthdayBehind_17 rfl rfl ?_
    refine PW.aload_n 0 dX7_birthdayBehind_18 rfl rfl ?_
    obtain ⟨x3, hx3, h⟩ := bind_some h
    refine PW.getR cls_X7 (j := 4) (by decide) dX7_birthdayBehind_19 wd_106 hx3 ?_
    refine PW.iload_n 1 dX7_birthdayBehind_22 rfl rfl ?_
    obtain ⟨x4, hx4, h⟩ := bind_some h
    refine PW.iald dX7_birthdayBehind_23 hx4 ?_
    refine PW.callSi (As := [.int a3, .int x4]) (rest := []) cal_X1_dayInYear dX7_birthdayBehind_24 wd_467 rfl rfl (rmLe (by omega)) (Nat.le_of_ble_eq_true rfl) rm_0 (mf_X1_dayInYear a3 x4 _ rfl) ?_
    refine PW.istore (l' := [(4, .int (f_X1_dayInYear a3 x4)), (0, .ref (ga K a0)), (1, .int a1), (2, .int a2), (3, .int a3)]) dX7_birthdayBehind_27 (by decide) rfl ?_
    refine PW.iload 0 dX7_birthdayBehind_29 rfl ?_
    refine PW.iload_n 3 dX7_birthdayBehind_31 rfl rfl ?_
    refine PW.icmp_le (tgt := 40) dX7_birthdayBehind_32 (by decide) (fun c32 => ?_) (fun c32 => ?_)
    · rw [if_pos c32] at h
      refine PW.iload_n 4 dX7_birthdayBehind_40 rfl rfl ?_
      refine PW.iconst (x := 1) dX7_birthdayBehind_41 (by decide) ?_
      refine PW.iadd dX7_birthdayBehind_42 ?_
      refine PW.aload_n 1 dX7_birthdayBehind_43 rfl rfl ?_
      obtain ⟨x6, hx6, h⟩ := bind_some h
      refine PW.getR cls_X7 (j := 4) (by decide) dX7_birthdayBehind_44 wd_106 hx6 ?_
      refine PW.iload_n 2 dX7_birthdayBehind_47 rfl rfl ?_
      obtain ⟨x7, hx7, h⟩ := bind_some h
      refine PW.iald dX7_birthdayBehind_48 hx7 ?_
      refine PW.callSi (As := [.int (a3 + 1), .int x7]) (rest := []) cal_X1_dayInYear dX7_birthdayBehind_49 wd_467 rfl rfl (rmLe (by omega)) (Nat.le_of_ble_eq_true rfl) rm_0 (mf_X1_dayInYear (a3 + 1) x7 _ rfl) ?_
      have h := Option.some.inj h; subst h
      exact PW.ret dX7_birthdayBehind_52 trivial rfl
    · rw [if_neg c32] at h
      refine PW.iload 0 dX7_birthdayBehind_35 rfl ?_
      refine PW.goto (tgt := 52) dX7_birthdayBehind_37 (by decide) ?_
      have h := Option.some.inj h; subst h
      exact PW.ret dX7_birthdayBehind_52 trivial rfl
  · rw [if_neg c7] at h
    refine PW.aload_n 0 dX7_birthdayBehind_10 rfl rfl ?_
    obtain ⟨x9, hx9, h⟩ := bind_some h
    refine PW.getR cls_X7 (j := 2) (by decide) dX7_birthdayBehind_11 wd_103 hx9 ?_
    refine PW.iload_n 1 dX7_birthdayBehind_14 rfl rfl ?_
    obtain ⟨x10, hx10, h⟩ := bind_some h
    refine PW.iald dX7_birthdayBehind_15 hx10 ?_
    have h := Option.some.inj h; subst h
    exact PW.ret dX7_birthdayBehind_16 trivial rfl
-- X3_changeBehind
def f_X3_changeBehind_L12 : Nat → Nat → Int32 → Int32 → Int32 → Int32 → Int32 → PH → Option Int32
  | 0, _, _, _, _, _, _, _ => none
  | n + 1, a0, a1, a2, a3, a4, a5, hp => (gR hp a0 2 0).bind fun x2 => (gI hp x2 6 0).bind fun x3 => (if x3 ≤ a5 then (some a4) else (if ((iS a1 a5) &&& 1) = 0 then ((f_X3_changeBehind_L12 n) a0 a1 a2 a3 a4 (a5 + 1) hp) else (gR hp a0 2 0).bind fun x4 => (vC hp x4 6 (f_X7_birthdayBehind x4 a5 a2 a3 hp)).bind fun q5 => ((f_X3_changeBehind_L12 n) a0 a1 a2 a3 (mnI a4 q5) (a5 + 1) hp)))
def f_X3_changeBehind (a0 : Nat) (a1 : Int32) (a2 : Int32) (hp : PH) : Option Int32 := (f_X1_yearOf a2).bind fun q1 => (f_X3_changeBehind_L12 NN a0 a1 a2 q1 146097 0 hp)
set_option maxRecDepth 100000 in
set_option maxHeartbeats 4000000 in
theorem mf_X3_changeBehind_L12 {K : GK} : ∀ (n : Nat) (a0 : Nat) (a1 : Int32) (a2 : Int32) (a3 : Int32) (a4 : Int32) (a5 : Int32) (hp : PH) (r : Int32), f_X3_changeBehind_L12 n a0 a1 a2 a3 a4 a5 hp = some r → PW K (rmD (6)) 0 0 M_X3_changeBehind 12 [(0, .ref (ga K a0)), (1, .int a1), (2, .int a2), (3, .int a3), (4, .int a4), (5, .int a5)] [] hp (some (.int r)) hp := by
  intro n
  induction n with
  | zero =>
    intro a0 a1 a2 a3 a4 a5 hp r h
    rw [f_X3_changeBehind_L12] at h
    cases h
  | succ n ih =>
    intro a0 a1 a2 a3 a4 a5 hp r h
    rw [f_X3_changeBehind_L12] at h
    refine PW.iload 5 dX3_changeBehind_12 rfl ?_
    refine PW.aload_n 0 dX3_changeBehind_14 rfl rfl ?_
    obtain ⟨x2, hx2, h⟩ := bind_some h
    refine PW.getR cls_X3 (j := 0) (by decide) dX3_changeBehind_15 wd_248 hx2 ?_
    obtain ⟨x3, hx3, h⟩ := bind_some h
    refine PW.getI cls_X7 (j := 0) (by decide) dX3_changeBehind_18 wd_94 hx3 ?_
    refine PW.icmp_ge (tgt := 57) dX3_changeBehind_21 (by decide) (fun c21 => ?_) (fun c21 => ?_)
    · rw [if_pos c21] at h
      refine PW.iload 4 dX3_changeBehind_57 rfl ?_
      have h := Option.some.inj h; subst h
      exact PW.ret dX3_changeBehind_59 trivial rfl
    · rw [if_neg c21] at h
      refine PW.iload_n 1 dX3_changeBehind_24 rfl rfl ?_
      refine PW.iload 5 dX3_changeBehind_25 rfl ?_
      refine PW.ishr dX3_changeBehind_27 ?_
      refine PW.iconst (x := 1) dX3_changeBehind_28 (by decide) ?_
      refine PW.iand dX3_changeBehind_29 ?_
      refine PW.if_eq (tgt := 51) dX3_changeBehind_30 (by decide) (fun c30 => ?_) (fun c30 => ?_)
      · rw [if_pos c30] at h
        refine PW.iinc 5 (l' := [(5, .int (a5 + 1)), (0, .ref (ga K a0)), (1, .int a1), (2, .int a2), (3, .int a3), (4, .int a4)]) dX3_changeBehind_51 rfl (x := a5) (y := (a5 + 1)) rfl (by decide) rfl ?_
        refine PW.goto (tgt := 12) dX3_changeBehind_54 (by decide) ?_
        exact PW.sub (l' := [(0, .ref (ga K a0)), (1, .int a1), (2, .int a2), (3, .int a3), (4, .int a4), (5, .int (a5 + 1))]) [1, 2, 3, 4, 5, 0] rfl (ih a0 a1 a2 a3 a4 (a5 + 1) hp _ h)
      · rw [if_neg c30] at h
        refine PW.iload 4 dX3_changeBehind_33 rfl ?_
        refine PW.aload_n 0 dX3_changeBehind_35 rfl rfl ?_
        obtain ⟨x4, hx4, h⟩ := bind_some h
        refine PW.getR cls_X3 (j := 0) (by decide) dX3_changeBehind_36 wd_248 hx4 ?_
        refine PW.iload 5 dX3_changeBehind_39 rfl ?_
        refine PW.iload_n 2 dX3_changeBehind_41 rfl rfl ?_
        refine PW.iload_n 3 dX3_changeBehind_42 rfl rfl ?_
        obtain ⟨q5, hq5, h⟩ := bind_some h
        obtain ⟨hkq5, hcq5, hq5⟩ := vC_spec hq5
        refine PW.callVi (As := [.int a5, .int a2, .int a3]) (rest := [.int a4]) (k := x4) cal_X7_birthdayBehind dX3_changeBehind_43 wd_714 rfl rfl (rmLe (by omega)) (Nat.le_of_ble_eq_true rfl) rm_0 hkq5 hcq5 (mf_X7_birthdayBehind x4 a5 a2 a3 hp _ hq5) ?_
        refine PW.mmin dX3_changeBehind_46 wd_718 wd_681 wd_73 wd_682 rm_fr (rm_lo1 (Nat.le_of_ble_eq_true rfl)) rm_0 ?_
        refine PW.istore (l' := [(4, .int (mnI a4 q5)), (0, .ref (ga K a0)), (1, .int a1), (2, .int a2), (3, .int a3), (5, .int a5)]) dX3_changeBehind_49 (by decide) rfl ?_
        refine PW.iinc 5 (l' := [(5, .int (a5 + 1)), (4, .int (mnI a4 q5)), (0, .ref (ga K a0)), (1, .int a1), (2, .int a2), (3, .int a3)]) dX3_changeBehind_51 rfl (x := a5) (y := (a5 + 1)) rfl (by decide) rfl ?_
        refine PW.goto (tgt := 12) dX3_changeBehind_54 (by decide) ?_
        exact PW.sub (l' := [(0, .ref (ga K a0)), (1, .int a1), (2, .int a2), (3, .int a3), (4, .int (mnI a4 q5)), (5, .int (a5 + 1))]) [2, 3, 4, 5, 1, 0] rfl (ih a0 a1 a2 a3 (mnI a4 q5) (a5 + 1) hp _ h)
set_option maxRecDepth 100000 in
set_option maxHeartbeats 4000000 in
theorem mf_X3_changeBehind {K : GK} : ∀ (a0 : Nat) (a1 : Int32) (a2 : Int32) (hp : PH) (r : Int32), f_X3_changeBehind a0 a1 a2 hp = some r → PM K (6) M_X3_changeBehind [.ref (ga K a0), .int a1, .int a2] hp (some (.int r)) hp := by
  intro a0 a1 a2 hp r h
  unfold f_X3_changeBehind at h
  refine PM.enter (l0 := [(0, .ref (ga K a0)), (1, .int a1), (2, .int a2)]) (by decide +kernel) rfl (Nat.le_of_ble_eq_true rfl) rfl ?_
  refine PW.iload_n 2 dX3_changeBehind_0 rfl rfl ?_
  obtain ⟨q1, hq1, h⟩ := bind_some h
  refine PW.callSi (As := [.int a2]) (rest := []) cal_X1_yearOf dX3_changeBehind_1 wd_496 rfl rfl (rmLe (by omega)) (Nat.le_of_ble_eq_true rfl) rm_0 (mf_X1_yearOf a2 _ hq1) ?_
  refine PW.istore_n (l' := [(3, .int q1), (0, .ref (ga K a0)), (1, .int a1), (2, .int a2)]) dX3_changeBehind_4 rfl (by decide) rfl ?_
  refine PW.ldc (x := 146097) dX3_changeBehind_5 wd_713 ?_
  refine PW.istore (l' := [(4, .int 146097), (3, .int q1), (0, .ref (ga K a0)), (1, .int a1), (2, .int a2)]) dX3_changeBehind_7 (by decide) rfl ?_
  refine PW.iconst (x := 0) dX3_changeBehind_9 (by decide) ?_
  refine PW.istore (l' := [(5, .int 0), (4, .int 146097), (3, .int q1), (0, .ref (ga K a0)), (1, .int a1), (2, .int a2)]) dX3_changeBehind_10 (by decide) rfl ?_
  exact PW.sub (l' := [(0, .ref (ga K a0)), (1, .int a1), (2, .int a2), (3, .int q1), (4, .int 146097), (5, .int 0)]) [3, 4, 5, 2, 1, 0] rfl (mf_X3_changeBehind_L12 NN a0 a1 a2 q1 146097 0 hp _ h)
-- X3_firstDay
def f_X3_firstDay_L17 : Nat → Nat → Int32 → Int32 → Int32 → Int32 → PH → Option (Int32 × PH)
  | 0, _, _, _, _, _, _ => none
  | n + 1, a0, a1, a2, a4, a5, hp => (if 146096 < a5 then (some ((-1), hp)) else (if 146096 < a4 then (some ((-1), hp)) else (vC hp a0 2 (f_X3_standOn a0 a4 hp)).bind fun q2 => (vC q2 a0 2 (f_X3_reason a0 a1 a2 q2)).bind fun q3 => (if q3 = 0 then (some (a4, q2)) else (vC q2 a0 2 (f_X3_changeBehind a0 a1 a4 q2)).bind fun q4 => ((f_X3_firstDay_L17 n) a0 a1 a2 q4 (a5 + 1) q2))))
def f_X3_firstDay (a0 : Nat) (a1 : Int32) (a2 : Int32) (a3 : Int32) (hp : PH) : Option (Int32 × PH) := (vC hp a0 2 (f_X3_lastingReason a0 a1 a2 hp)).bind fun q1 => (if q1 = 0 then (f_X3_firstDay_L17 NN a0 a1 a2 a3 0 hp) else (some ((-1), hp)))
set_option maxRecDepth 100000 in
set_option maxHeartbeats 4000000 in
theorem mf_X3_firstDay_L17 {K : GK} : ∀ (n : Nat) (a0 : Nat) (a1 : Int32) (a2 : Int32) (a4 : Int32) (a5 : Int32) (hp : PH) (r : (Int32 × PH)), f_X3_firstDay_L17 n a0 a1 a2 a4 a5 hp = some r → PW K (rmD (7)) 0 0 M_X3_firstDay 17 [(0, .ref (ga K a0)), (1, .int a1), (2, .int a2), (4, .int a4), (5, .int a5)] [] hp (some (.int r.1)) r.2 := by
  intro n
  induction n with
  | zero =>
    intro a0 a1 a2 a4 a5 hp r h
    rw [f_X3_firstDay_L17] at h
    cases h
  | succ n ih =>
    intro a0 a1 a2 a4 a5 hp r h
    rw [f_X3_firstDay_L17] at h
    refine PW.iload 4 dX3_firstDay_17 rfl ?_
    refine PW.ldc (x := 146096) dX3_firstDay_19 wd_729 ?_
    refine PW.icmp_gt (tgt := 64) dX3_firstDay_21 (by decide) (fun c21 => ?_) (fun c21 => ?_)
    · rw [if_pos c21] at h
      refine PW.iconst (x := (-1)) dX3_firstDay_64 (by decide) ?_
      have h := Option.some.inj h; subst h
      exact PW.ret dX3_firstDay_65 trivial rfl
    · rw [if_neg c21] at h
      refine PW.iload 3 dX3_firstDay_24 rfl ?_
      refine PW.ldc (x := 146096) dX3_firstDay_26 wd_729 ?_
      refine PW.icmp_gt (tgt := 64) dX3_firstDay_28 (by decide) (fun c28 => ?_) (fun c28 => ?_)
      · rw [if_pos c28] at h
        refine PW.iconst (x := (-1)) dX3_firstDay_64 (by decide) ?_
        have h := Option.some.inj h; subst h
        exact PW.ret dX3_firstDay_65 trivial rfl
      · rw [if_neg c28] at h
        refine PW.aload_n 0 dX3_firstDay_31 rfl rfl ?_
        refine PW.iload 3 dX3_firstDay_32 rfl ?_
        obtain ⟨q2, hq2, h⟩ := bind_some h
        obtain ⟨hkq2, hcq2, hq2⟩ := vC_spec hq2
        refine PW.callVv (As := [.int a4]) (rest := []) (k := a0) cal_X3_standOn dX3_firstDay_34 wd_719 rfl rfl (rmLe (by omega)) (Nat.le_of_ble_eq_true rfl) rm_0 hkq2 hcq2 (mf_X3_standOn a0 a4 hp _ hq2) ?_
        refine PW.aload_n 0 dX3_firstDay_37 rfl rfl ?_
        refine PW.iload_n 1 dX3_firstDay_38 rfl rfl ?_
        refine PW.iload_n 2 dX3_firstDay_39 rfl rfl ?_
        obtain ⟨q3, hq3, h⟩ := bind_some h
        obtain ⟨hkq3, hcq3, hq3⟩ := vC_spec hq3
        refine PW.callVi (As := [.int a1, .int a2]) (rest := []) (k := a0) cal_X3_reason dX3_firstDay_40 wd_720 rfl rfl (rmLe (by omega)) (Nat.le_of_ble_eq_true rfl) rm_0 hkq3 hcq3 (mf_X3_reason a0 a1 a2 q2 _ hq3) ?_
        refine PW.if_ne (tgt := 49) dX3_firstDay_43 (by decide) (fun c43 => ?_) (fun c43 => ?_)
        · rw [if_neg c43] at h
          refine PW.aload_n 0 dX3_firstDay_49 rfl rfl ?_
          refine PW.iload_n 1 dX3_firstDay_50 rfl rfl ?_
          refine PW.iload 3 dX3_firstDay_51 rfl ?_
          obtain ⟨q4, hq4, h⟩ := bind_some h
          obtain ⟨hkq4, hcq4, hq4⟩ := vC_spec hq4
          refine PW.callVi (As := [.int a1, .int a4]) (rest := []) (k := a0) cal_X3_changeBehind dX3_firstDay_53 wd_709 rfl rfl (rmLe (by omega)) (Nat.le_of_ble_eq_true rfl) rm_0 hkq4 hcq4 (mf_X3_changeBehind a0 a1 a4 q2 _ hq4) ?_
          refine PW.istore (l' := [(4, .int q4), (0, .ref (ga K a0)), (1, .int a1), (2, .int a2), (5, .int a5)]) dX3_firstDay_56 (by decide) rfl ?_
          refine PW.iinc 4 (l' := [(5, .int (a5 + 1)), (4, .int q4), (0, .ref (ga K a0)), (1, .int a1), (2, .int a2)]) dX3_firstDay_58 rfl (x := a5) (y := (a5 + 1)) rfl (by decide) rfl ?_
          refine PW.goto (tgt := 17) dX3_firstDay_61 (by decide) ?_
          exact PW.sub (l' := [(0, .ref (ga K a0)), (1, .int a1), (2, .int a2), (4, .int q4), (5, .int (a5 + 1))]) [2, 3, 4, 1, 0] rfl (ih a0 a1 a2 q4 (a5 + 1) q2 _ h)
        · rw [if_pos c43] at h
          refine PW.iload 3 dX3_firstDay_46 rfl ?_
          have h := Option.some.inj h; subst h
          exact PW.ret dX3_firstDay_48 trivial rfl
set_option maxRecDepth 100000 in
set_option maxHeartbeats 4000000 in
theorem mf_X3_firstDay {K : GK} : ∀ (a0 : Nat) (a1 : Int32) (a2 : Int32) (a3 : Int32) (hp : PH) (r : (Int32 × PH)), f_X3_firstDay a0 a1 a2 a3 hp = some r → PM K (7) M_X3_firstDay [.ref (ga K a0), .int a1, .int a2, .int a3] hp (some (.int r.1)) r.2 := by
  intro a0 a1 a2 a3 hp r h
  unfold f_X3_firstDay at h
  refine PM.enter (l0 := [(0, .ref (ga K a0)), (1, .int a1), (2, .int a2), (3, .int a3)]) (by decide +kernel) rfl (Nat.le_of_ble_eq_true rfl) rfl ?_
  refine PW.aload_n 0 dX3_firstDay_0 rfl rfl ?_
  refine PW.iload_n 1 dX3_firstDay_1 rfl rfl ?_
  refine PW.iload_n 2 dX3_firstDay_2 rfl rfl ?_
  obtain ⟨q1, hq1, h⟩ := bind_some h
  obtain ⟨hkq1, hcq1, hq1⟩ := vC_spec hq1
  refine PW.callVi (As := [.int a1, .int a2]) (rest := []) (k := a0) cal_X3_lastingReason dX3_firstDay_3 wd_502 rfl rfl (rmLe (by omega)) (Nat.le_of_ble_eq_true rfl) rm_0 hkq1 hcq1 (mf_X3_lastingReason a0 a1 a2 hp _ hq1) ?_
  refine PW.if_eq (tgt := 11) dX3_firstDay_6 (by decide) (fun c6 => ?_) (fun c6 => ?_)
  · rw [if_pos c6] at h
    refine PW.iload_n 3 dX3_firstDay_11 rfl rfl ?_
    refine PW.istore (l' := [(4, .int a3), (0, .ref (ga K a0)), (1, .int a1), (2, .int a2), (3, .int a3)]) dX3_firstDay_12 (by decide) rfl ?_
    refine PW.iconst (x := 0) dX3_firstDay_14 (by decide) ?_
    refine PW.istore (l' := [(5, .int 0), (4, .int a3), (0, .ref (ga K a0)), (1, .int a1), (2, .int a2), (3, .int a3)]) dX3_firstDay_15 (by decide) rfl ?_
    exact PW.sub (l' := [(0, .ref (ga K a0)), (1, .int a1), (2, .int a2), (4, .int a3), (5, .int 0)]) [2, 3, 4, 1, 0] rfl (mf_X3_firstDay_L17 NN a0 a1 a2 a3 0 hp _ h)
  · rw [if_neg c6] at h
    refine PW.iconst (x := (-1)) dX3_firstDay_9 (by decide) ?_
    have h := Option.some.inj h; subst h
    exact PW.ret dX3_firstDay_10 trivial rfl
-- X3_daysOfYear
def f_X3_daysOfYear_L20 : Nat → Nat → Int32 → Int32 → Int32 → Int32 → Int32 → Int32 → PH → Option (Int32 × PH)
  | 0, _, _, _, _, _, _, _, _ => none
  | n + 1, a0, a1, a2, a4, a5, a6, a7, hp => (if 366 ≤ a7 then (some (a6, hp)) else (if a4 ≤ a5 then (some (a6, hp)) else (vC hp a0 2 (f_X3_changeBehind a0 a1 a5 hp)).bind fun q3 => (vC hp a0 2 (f_X3_standOn a0 a5 hp)).bind fun q4 => (vC q4 a0 2 (f_X3_reason a0 a1 a2 q4)).bind fun q5 => (if q5 = 0 then ((f_X3_daysOfYear_L20 n) a0 a1 a2 a4 (mnI q3 a4) (a6 + ((mnI q3 a4) - a5)) (a7 + 1) q4) else ((f_X3_daysOfYear_L20 n) a0 a1 a2 a4 (mnI q3 a4) a6 (a7 + 1) q4))))
def f_X3_daysOfYear (a0 : Nat) (a1 : Int32) (a2 : Int32) (a3 : Int32) (hp : PH) : Option (Int32 × PH) := (f_X3_daysOfYear_L20 NN a0 a1 a2 (f_X1_firstDayOf (a3 + 1)) (f_X1_firstDayOf a3) 0 0 hp)
set_option maxRecDepth 100000 in
set_option maxHeartbeats 4000000 in
theorem mf_X3_daysOfYear_L20 {K : GK} : ∀ (n : Nat) (a0 : Nat) (a1 : Int32) (a2 : Int32) (a4 : Int32) (a5 : Int32) (a6 : Int32) (a7 : Int32) (hp : PH) (r : (Int32 × PH)), f_X3_daysOfYear_L20 n a0 a1 a2 a4 a5 a6 a7 hp = some r → PW K (rmD (7)) 0 0 M_X3_daysOfYear 20 [(0, .ref (ga K a0)), (1, .int a1), (2, .int a2), (4, .int a4), (5, .int a5), (6, .int a6), (7, .int a7)] [] hp (some (.int r.1)) r.2 := by
  intro n
  induction n with
  | zero =>
    intro a0 a1 a2 a4 a5 a6 a7 hp r h
    rw [f_X3_daysOfYear_L20] at h
    cases h
  | succ n ih =>
    intro a0 a1 a2 a4 a5 a6 a7 hp r h
    rw [f_X3_daysOfYear_L20] at h
    refine PW.iload 6 dX3_daysOfYear_20 rfl ?_
    refine PW.sipush (x := 366) dX3_daysOfYear_22 (by decide) ?_
    refine PW.icmp_ge (tgt := 84) dX3_daysOfYear_25 (by decide) (fun c25 => ?_) (fun c25 => ?_)
    · rw [if_pos c25] at h
      refine PW.iload 5 dX3_daysOfYear_84 rfl ?_
      have h := Option.some.inj h; subst h
      exact PW.ret dX3_daysOfYear_86 trivial rfl
    · rw [if_neg c25] at h
      refine PW.iload 4 dX3_daysOfYear_28 rfl ?_
      refine PW.iload 3 dX3_daysOfYear_30 rfl ?_
      refine PW.icmp_ge (tgt := 84) dX3_daysOfYear_32 (by decide) (fun c32 => ?_) (fun c32 => ?_)
      · rw [if_pos c32] at h
        refine PW.iload 5 dX3_daysOfYear_84 rfl ?_
        have h := Option.some.inj h; subst h
        exact PW.ret dX3_daysOfYear_86 trivial rfl
      · rw [if_neg c32] at h
        refine PW.aload_n 0 dX3_daysOfYear_35 rfl rfl ?_
        refine PW.iload_n 1 dX3_daysOfYear_36 rfl rfl ?_
        refine PW.iload 4 dX3_daysOfYear_37 rfl ?_
        obtain ⟨q3, hq3, h⟩ := bind_some h
        obtain ⟨hkq3, hcq3, hq3⟩ := vC_spec hq3
        refine PW.callVi (As := [.int a1, .int a5]) (rest := []) (k := a0) cal_X3_changeBehind dX3_daysOfYear_39 wd_709 rfl rfl (rmLe (by omega)) (Nat.le_of_ble_eq_true rfl) rm_0 hkq3 hcq3 (mf_X3_changeBehind a0 a1 a5 hp _ hq3) ?_
        refine PW.iload 3 dX3_daysOfYear_42 rfl ?_
        refine PW.mmin dX3_daysOfYear_44 wd_718 wd_681 wd_73 wd_682 rm_fr (rm_lo1 (Nat.le_of_ble_eq_true rfl)) rm_0 ?_
        refine PW.istore (l' := [(8, .int (mnI q3 a4)), (0, .ref (ga K a0)), (1, .int a1), (2, .int a2), (4, .int a4), (5, .int a5), (6, .int a6), (7, .int a7)]) dX3_daysOfYear_47 (by decide) rfl ?_
        refine PW.aload_n 1 dX3_daysOfYear_49 rfl rfl ?_
        refine PW.iload 5 dX3_daysOfYear_50 rfl ?_
        obtain ⟨q4, hq4, h⟩ := bind_some h
        obtain ⟨hkq4, hcq4, hq4⟩ := vC_spec hq4
        refine PW.callVv (As := [.int a5]) (rest := []) (k := a0) cal_X3_standOn dX3_daysOfYear_52 wd_719 rfl rfl (rmLe (by omega)) (Nat.le_of_ble_eq_true rfl) rm_0 hkq4 hcq4 (mf_X3_standOn a0 a5 hp _ hq4) ?_
        refine PW.aload_n 1 dX3_daysOfYear_55 rfl rfl ?_
        refine PW.iload_n 2 dX3_daysOfYear_56 rfl rfl ?_
        refine PW.iload_n 3 dX3_daysOfYear_57 rfl rfl ?_
        obtain ⟨q5, hq5, h⟩ := bind_some h
        obtain ⟨hkq5, hcq5, hq5⟩ := vC_spec hq5
        refine PW.callVi (As := [.int a1, .int a2]) (rest := []) (k := a0) cal_X3_reason dX3_daysOfYear_58 wd_720 rfl rfl (rmLe (by omega)) (Nat.le_of_ble_eq_true rfl) rm_0 hkq5 hcq5 (mf_X3_reason a0 a1 a2 q4 _ hq5) ?_
        refine PW.if_ne (tgt := 74) dX3_daysOfYear_61 (by decide) (fun c61 => ?_) (fun c61 => ?_)
        · rw [if_neg c61] at h
          refine PW.iload 0 dX3_daysOfYear_74 rfl ?_
          refine PW.istore (l' := [(5, .int (mnI q3 a4)), (8, .int (mnI q3 a4)), (0, .ref (ga K a0)), (1, .int a1), (2, .int a2), (4, .int a4), (6, .int a6), (7, .int a7)]) dX3_daysOfYear_76 (by decide) rfl ?_
          refine PW.iinc 7 (l' := [(7, .int (a7 + 1)), (5, .int (mnI q3 a4)), (8, .int (mnI q3 a4)), (0, .ref (ga K a0)), (1, .int a1), (2, .int a2), (4, .int a4), (6, .int a6)]) dX3_daysOfYear_78 rfl (x := a7) (y := (a7 + 1)) rfl (by decide) rfl ?_
          refine PW.goto (tgt := 20) dX3_daysOfYear_81 (by decide) ?_
          exact PW.sub (l' := [(0, .ref (ga K a0)), (1, .int a1), (2, .int a2), (4, .int a4), (5, .int (mnI q3 a4)), (6, .int a6), (7, .int (a7 + 1))]) [3, 4, 5, 6, 1, 7, 0] rfl (ih a0 a1 a2 a4 (mnI q3 a4) a6 (a7 + 1) q4 _ h)
        · rw [if_pos c61] at h
          refine PW.iload 6 dX3_daysOfYear_64 rfl ?_
          refine PW.iload 0 dX3_daysOfYear_66 rfl ?_
          refine PW.iload 5 dX3_daysOfYear_68 rfl ?_
          refine PW.isub dX3_daysOfYear_70 ?_
          refine PW.iadd dX3_daysOfYear_71 ?_
          refine PW.istore (l' := [(6, .int (a6 + ((mnI q3 a4) - a5))), (8, .int (mnI q3 a4)), (0, .ref (ga K a0)), (1, .int a1), (2, .int a2), (4, .int a4), (5, .int a5), (7, .int a7)]) dX3_daysOfYear_72 (by decide) rfl ?_
          refine PW.iload 1 dX3_daysOfYear_74 rfl ?_
          refine PW.istore (l' := [(5, .int (mnI q3 a4)), (6, .int (a6 + ((mnI q3 a4) - a5))), (8, .int (mnI q3 a4)), (0, .ref (ga K a0)), (1, .int a1), (2, .int a2), (4, .int a4), (7, .int a7)]) dX3_daysOfYear_76 (by decide) rfl ?_
          refine PW.iinc 7 (l' := [(7, .int (a7 + 1)), (5, .int (mnI q3 a4)), (6, .int (a6 + ((mnI q3 a4) - a5))), (8, .int (mnI q3 a4)), (0, .ref (ga K a0)), (1, .int a1), (2, .int a2), (4, .int a4)]) dX3_daysOfYear_78 rfl (x := a7) (y := (a7 + 1)) rfl (by decide) rfl ?_
          refine PW.goto (tgt := 20) dX3_daysOfYear_81 (by decide) ?_
          exact PW.sub (l' := [(0, .ref (ga K a0)), (1, .int a1), (2, .int a2), (4, .int a4), (5, .int (mnI q3 a4)), (6, .int (a6 + ((mnI q3 a4) - a5))), (7, .int (a7 + 1))]) [4, 5, 6, 7, 1, 2, 0] rfl (ih a0 a1 a2 a4 (mnI q3 a4) (a6 + ((mnI q3 a4) - a5)) (a7 + 1) q4 _ h)
set_option maxRecDepth 100000 in
set_option maxHeartbeats 4000000 in
theorem mf_X3_daysOfYear {K : GK} : ∀ (a0 : Nat) (a1 : Int32) (a2 : Int32) (a3 : Int32) (hp : PH) (r : (Int32 × PH)), f_X3_daysOfYear a0 a1 a2 a3 hp = some r → PM K (7) M_X3_daysOfYear [.ref (ga K a0), .int a1, .int a2, .int a3] hp (some (.int r.1)) r.2 := by
  intro a0 a1 a2 a3 hp r h
  unfold f_X3_daysOfYear at h
  refine PM.enter (l0 := [(0, .ref (ga K a0)), (1, .int a1), (2, .int a2), (3, .int a3)]) (by decide +kernel) rfl (Nat.le_of_ble_eq_true rfl) rfl ?_
  refine PW.iload_n 3 dX3_daysOfYear_0 rfl rfl ?_
  refine PW.iconst (x := 1) dX3_daysOfYear_1 (by decide) ?_
  refine PW.iadd dX3_daysOfYear_2 ?_
  refine PW.callSi (As := [.int (a3 + 1)]) (rest := []) cal_X1_firstDayOf dX3_daysOfYear_3 wd_708 rfl rfl (rmLe (by omega)) (Nat.le_of_ble_eq_true rfl) rm_0 (mf_X1_firstDayOf (a3 + 1) _ rfl) ?_
  refine PW.istore (l' := [(4, .int (f_X1_firstDayOf (a3 + 1))), (0, .ref (ga K a0)), (1, .int a1), (2, .int a2), (3, .int a3)]) dX3_daysOfYear_6 (by decide) rfl ?_
  refine PW.iload_n 4 dX3_daysOfYear_8 rfl rfl ?_
  refine PW.callSi (As := [.int a3]) (rest := []) cal_X1_firstDayOf dX3_daysOfYear_9 wd_708 rfl rfl (rmLe (by omega)) (Nat.le_of_ble_eq_true rfl) rm_0 (mf_X1_firstDayOf a3 _ rfl) ?_
  refine PW.istore (l' := [(5, .int (f_X1_firstDayOf a3)), (4, .int (f_X1_firstDayOf (a3 + 1))), (0, .ref (ga K a0)), (1, .int a1), (2, .int a2), (3, .int a3)]) dX3_daysOfYear_12 (by decide) rfl ?_
  refine PW.iconst (x := 0) dX3_daysOfYear_14 (by decide) ?_
  refine PW.istore (l' := [(6, .int 0), (5, .int (f_X1_firstDayOf a3)), (4, .int (f_X1_firstDayOf (a3 + 1))), (0, .ref (ga K a0)), (1, .int a1), (2, .int a2), (3, .int a3)]) dX3_daysOfYear_15 (by decide) rfl ?_
  refine PW.iconst (x := 0) dX3_daysOfYear_17 (by decide) ?_
  refine PW.istore (l' := [(7, .int 0), (6, .int 0), (5, .int (f_X1_firstDayOf a3)), (4, .int (f_X1_firstDayOf (a3 + 1))), (0, .ref (ga K a0)), (1, .int a1), (2, .int a2), (3, .int a3)]) dX3_daysOfYear_18 (by decide) rfl ?_
  exact PW.sub (l' := [(0, .ref (ga K a0)), (1, .int a1), (2, .int a2), (4, .int (f_X1_firstDayOf (a3 + 1))), (5, .int (f_X1_firstDayOf a3)), (6, .int 0), (7, .int 0)]) [4, 5, 6, 3, 2, 1, 0] rfl (mf_X3_daysOfYear_L20 NN a0 a1 a2 (f_X1_firstDayOf (a3 + 1)) (f_X1_firstDayOf a3) 0 0 hp _ h)
-- X4_leastCost
def f_X4_leastCost_J64 (k26 : Nat → Int32 → Int32 → Int32 → Int32 → Int32 → PH → Option Int32) (a0 : Nat) (a2 : Int32) (a3 : Int32) (a4 : Int32) (a5 : Int32) (a6 : Int32) (hp : PH) : Option Int32 := (if a5 = a3 then (some a4) else (k26 a0 a2 a3 a4 ((a5 - a3) &&& a3) (a6 + 1) hp))
def f_X4_leastCost_L26 : Nat → Nat → Int32 → Int32 → Int32 → Int32 → Int32 → PH → Option Int32
  | 0, _, _, _, _, _, _, _ => none
  | n + 1, a0, a2, a3, a4, a5, a6, hp => (if 256 ≤ a6 then (some a4) else (gR hp a0 3 1).bind fun x3 => (aI hp x3 1 (a5 ||| a2)).bind fun x4 => (if x4 = 0 then (f_X4_leastCost_J64 (f_X4_leastCost_L26 n) a0 a2 a3 a4 a5 a6 hp) else (gR hp a0 3 2).bind fun x5 => (aI hp x5 0 (a3 ^^^ a5)).bind fun x6 => (f_X4_leastCost_J64 (f_X4_leastCost_L26 n) a0 a2 a3 (mnI a4 (1 + x6)) a5 a6 hp)))
def f_X4_leastCost (a0 : Nat) (a1 : Int32) (hp : PH) : Option Int32 := (gR hp a0 3 2).bind fun x1 => (aI hp x1 0 (a1 ^^^ (a1 &&& (0 - a1)))).bind fun x2 => (f_X4_leastCost_L26 NN a0 (a1 &&& (0 - a1)) (a1 ^^^ (a1 &&& (0 - a1))) (16 + x2) 0 0 hp)
set_option maxRecDepth 100000 in
set_option maxHeartbeats 4000000 in
theorem mf_X4_leastCost_J64 {K : GK} {k26 : Nat → Int32 → Int32 → Int32 → Int32 → Int32 → PH → Option Int32} (hk26 : ∀ (a0 : Nat) (a2 : Int32) (a3 : Int32) (a4 : Int32) (a5 : Int32) (a6 : Int32) (hp : PH) (r : Int32), k26 a0 a2 a3 a4 a5 a6 hp = some r → PW K (rmD (6)) 0 0 M_X4_leastCost 26 [(0, .ref (ga K a0)), (2, .int a2), (3, .int a3), (4, .int a4), (5, .int a5), (6, .int a6)] [] hp (some (.int r)) hp) : ∀ (a0 : Nat) (a2 : Int32) (a3 : Int32) (a4 : Int32) (a5 : Int32) (a6 : Int32) (hp : PH) (r : Int32), f_X4_leastCost_J64 k26 a0 a2 a3 a4 a5 a6 hp = some r → PW K (rmD (6)) 0 0 M_X4_leastCost 64 [(0, .ref (ga K a0)), (2, .int a2), (3, .int a3), (4, .int a4), (5, .int a5), (6, .int a6)] [] hp (some (.int r)) hp := by
  intro a0 a2 a3 a4 a5 a6 hp r h
  unfold f_X4_leastCost_J64 at h
  refine PW.iload 4 dX4_leastCost_64 rfl ?_
  refine PW.iload_n 2 dX4_leastCost_66 rfl rfl ?_
  refine PW.icmp_ne (tgt := 73) dX4_leastCost_67 (by decide) (fun c67 => ?_) (fun c67 => ?_)
  · rw [if_neg c67] at h
    refine PW.iload 4 dX4_leastCost_73 rfl ?_
    refine PW.iload_n 2 dX4_leastCost_75 rfl rfl ?_
    refine PW.isub dX4_leastCost_76 ?_
    refine PW.iload_n 2 dX4_leastCost_77 rfl rfl ?_
    refine PW.iand dX4_leastCost_78 ?_
    refine PW.istore (l' := [(5, .int ((a5 - a3) &&& a3)), (0, .ref (ga K a0)), (2, .int a2), (3, .int a3), (4, .int a4), (6, .int a6)]) dX4_leastCost_79 (by decide) rfl ?_
    refine PW.iinc 5 (l' := [(6, .int (a6 + 1)), (5, .int ((a5 - a3) &&& a3)), (0, .ref (ga K a0)), (2, .int a2), (3, .int a3), (4, .int a4)]) dX4_leastCost_81 rfl (x := a6) (y := (a6 + 1)) rfl (by decide) rfl ?_
    refine PW.goto (tgt := 26) dX4_leastCost_84 (by decide) ?_
    exact PW.sub (l' := [(0, .ref (ga K a0)), (2, .int a2), (3, .int a3), (4, .int a4), (5, .int ((a5 - a3) &&& a3)), (6, .int (a6 + 1))]) [2, 3, 4, 5, 1, 0] rfl (hk26 a0 a2 a3 a4 ((a5 - a3) &&& a3) (a6 + 1) hp _ h)
  · rw [if_pos c67] at h
    refine PW.goto (tgt := 87) dX4_leastCost_70 (by decide) ?_
    refine PW.iload 3 dX4_leastCost_87 rfl ?_
    have h := Option.some.inj h; subst h
    exact PW.ret dX4_leastCost_89 trivial rfl
set_option maxRecDepth 100000 in
set_option maxHeartbeats 4000000 in
theorem mf_X4_leastCost_L26 {K : GK} : ∀ (n : Nat) (a0 : Nat) (a2 : Int32) (a3 : Int32) (a4 : Int32) (a5 : Int32) (a6 : Int32) (hp : PH) (r : Int32), f_X4_leastCost_L26 n a0 a2 a3 a4 a5 a6 hp = some r → PW K (rmD (6)) 0 0 M_X4_leastCost 26 [(0, .ref (ga K a0)), (2, .int a2), (3, .int a3), (4, .int a4), (5, .int a5), (6, .int a6)] [] hp (some (.int r)) hp := by
  intro n
  induction n with
  | zero =>
    intro a0 a2 a3 a4 a5 a6 hp r h
    rw [f_X4_leastCost_L26] at h
    cases h
  | succ n ih =>
    intro a0 a2 a3 a4 a5 a6 hp r h
    rw [f_X4_leastCost_L26] at h
    refine PW.iload 5 dX4_leastCost_26 rfl ?_
    refine PW.sipush (x := 256) dX4_leastCost_28 (by decide) ?_
    refine PW.icmp_ge (tgt := 87) dX4_leastCost_31 (by decide) (fun c31 => ?_) (fun c31 => ?_)
    · rw [if_pos c31] at h
      refine PW.iload 3 dX4_leastCost_87 rfl ?_
      have h := Option.some.inj h; subst h
      exact PW.ret dX4_leastCost_89 trivial rfl
    · rw [if_neg c31] at h
      refine PW.aload_n 0 dX4_leastCost_34 rfl rfl ?_
      obtain ⟨x3, hx3, h⟩ := bind_some h
      refine PW.getR cls_X4 (j := 1) (by decide) dX4_leastCost_35 wd_265 hx3 ?_
      refine PW.iload 4 dX4_leastCost_38 rfl ?_
      refine PW.iload_n 1 dX4_leastCost_40 rfl rfl ?_
      refine PW.ior dX4_leastCost_41 ?_
      obtain ⟨x4, hx4, h⟩ := bind_some h
      refine PW.zald dX4_leastCost_42 hx4 ?_
      refine PW.if_eq (tgt := 64) dX4_leastCost_43 (by decide) (fun c43 => ?_) (fun c43 => ?_)
      · rw [if_pos c43] at h
        exact PW.sub (l' := [(0, .ref (ga K a0)), (2, .int a2), (3, .int a3), (4, .int a4), (5, .int a5), (6, .int a6)]) [0, 1, 2, 3, 4, 5] rfl (mf_X4_leastCost_J64 ih a0 a2 a3 a4 a5 a6 hp _ h)
      · rw [if_neg c43] at h
        refine PW.iload 3 dX4_leastCost_46 rfl ?_
        refine PW.iconst (x := 1) dX4_leastCost_48 (by decide) ?_
        refine PW.aload_n 0 dX4_leastCost_49 rfl rfl ?_
        obtain ⟨x5, hx5, h⟩ := bind_some h
        refine PW.getR cls_X4 (j := 2) (by decide) dX4_leastCost_50 wd_266 hx5 ?_
        refine PW.iload_n 2 dX4_leastCost_53 rfl rfl ?_
        refine PW.iload 4 dX4_leastCost_54 rfl ?_
        refine PW.ixor dX4_leastCost_56 ?_
        obtain ⟨x6, hx6, h⟩ := bind_some h
        refine PW.iald dX4_leastCost_57 hx6 ?_
        refine PW.iadd dX4_leastCost_58 ?_
        refine PW.mmin dX4_leastCost_59 wd_680 wd_681 wd_73 wd_682 rm_fr (rm_lo1 (Nat.le_of_ble_eq_true rfl)) rm_0 ?_
        refine PW.istore (l' := [(4, .int (mnI a4 (1 + x6))), (0, .ref (ga K a0)), (2, .int a2), (3, .int a3), (5, .int a5), (6, .int a6)]) dX4_leastCost_62 (by decide) rfl ?_
        exact PW.sub (l' := [(0, .ref (ga K a0)), (2, .int a2), (3, .int a3), (4, .int (mnI a4 (1 + x6))), (5, .int a5), (6, .int a6)]) [1, 2, 3, 0, 4, 5] rfl (mf_X4_leastCost_J64 ih a0 a2 a3 (mnI a4 (1 + x6)) a5 a6 hp _ h)
set_option maxRecDepth 100000 in
set_option maxHeartbeats 4000000 in
theorem mf_X4_leastCost {K : GK} : ∀ (a0 : Nat) (a1 : Int32) (hp : PH) (r : Int32), f_X4_leastCost a0 a1 hp = some r → PM K (6) M_X4_leastCost [.ref (ga K a0), .int a1] hp (some (.int r)) hp := by
  intro a0 a1 hp r h
  unfold f_X4_leastCost at h
  refine PM.enter (l0 := [(0, .ref (ga K a0)), (1, .int a1)]) (by decide +kernel) rfl (Nat.le_of_ble_eq_true rfl) rfl ?_
  refine PW.iload_n 1 dX4_leastCost_0 rfl rfl ?_
  refine PW.iload_n 1 dX4_leastCost_1 rfl rfl ?_
  refine PW.ineg dX4_leastCost_2 ?_
  refine PW.iand dX4_leastCost_3 ?_
  refine PW.istore_n (l' := [(2, .int (a1 &&& (0 - a1))), (0, .ref (ga K a0)), (1, .int a1)]) dX4_leastCost_4 rfl (by decide) rfl ?_
  refine PW.iload_n 2 dX4_leastCost_5 rfl rfl ?_
  refine PW.iload_n 0 dX4_leastCost_6 rfl rfl ?_
  refine PW.ixor dX4_leastCost_7 ?_
  refine PW.istore_n (l' := [(3, .int (a1 ^^^ (a1 &&& (0 - a1)))), (2, .int (a1 &&& (0 - a1))), (0, .ref (ga K a0)), (1, .int a1)]) dX4_leastCost_8 rfl (by decide) rfl ?_
  refine PW.bipush (x := 16) dX4_leastCost_9 (by decide) ?_
  refine PW.aload_n 2 dX4_leastCost_11 rfl rfl ?_
  obtain ⟨x1, hx1, h⟩ := bind_some h
  refine PW.getR cls_X4 (j := 2) (by decide) dX4_leastCost_12 wd_266 hx1 ?_
  refine PW.iload_n 0 dX4_leastCost_15 rfl rfl ?_
  obtain ⟨x2, hx2, h⟩ := bind_some h
  refine PW.iald dX4_leastCost_16 hx2 ?_
  refine PW.iadd dX4_leastCost_17 ?_
  refine PW.istore (l' := [(4, .int (16 + x2)), (3, .int (a1 ^^^ (a1 &&& (0 - a1)))), (2, .int (a1 &&& (0 - a1))), (0, .ref (ga K a0)), (1, .int a1)]) dX4_leastCost_18 (by decide) rfl ?_
  refine PW.iconst (x := 0) dX4_leastCost_20 (by decide) ?_
  refine PW.istore (l' := [(5, .int 0), (4, .int (16 + x2)), (3, .int (a1 ^^^ (a1 &&& (0 - a1)))), (2, .int (a1 &&& (0 - a1))), (0, .ref (ga K a0)), (1, .int a1)]) dX4_leastCost_21 (by decide) rfl ?_
  refine PW.iconst (x := 0) dX4_leastCost_23 (by decide) ?_
  refine PW.istore (l' := [(6, .int 0), (5, .int 0), (4, .int (16 + x2)), (3, .int (a1 ^^^ (a1 &&& (0 - a1)))), (2, .int (a1 &&& (0 - a1))), (0, .ref (ga K a0)), (1, .int a1)]) dX4_leastCost_24 (by decide) rfl ?_
  exact PW.sub (l' := [(0, .ref (ga K a0)), (2, .int (a1 &&& (0 - a1))), (3, .int (a1 ^^^ (a1 &&& (0 - a1)))), (4, .int (16 + x2)), (5, .int 0), (6, .int 0)]) [5, 4, 3, 2, 1, 0] rfl (mf_X4_leastCost_L26 NN a0 (a1 &&& (0 - a1)) (a1 ^^^ (a1 &&& (0 - a1))) (16 + x2) 0 0 hp _ h)
-- X4_weigh
def f_X4_weigh_J51 (k9 : Nat → Int32 → Int32 → Int32 → PH → Option PH) (a0 : Nat) (a1 : Int32) (a2 : Int32) (a3 : Int32) (s0 : Int32) (s1 : Int32) (s2 : Nat) (hp : PH) : Option PH := (uZ hp s2 s1 s0).bind fun hp6 => (gR hp6 a0 3 2).bind fun x7 => (vC hp6 a0 3 (f_X4_leastCost a0 a3 hp6)).bind fun q8 => (uI hp6 x7 a3 q8).bind fun hp9 => (k9 a0 a1 a2 (a3 + 1) hp9)
def f_X4_weigh_L9 : Nat → Nat → Int32 → Int32 → Int32 → PH → Option PH
  | 0, _, _, _, _, _ => none
  | n + 1, a0, a1, a2, a3, hp => (if a1 < a3 then some hp else (if 256 ≤ a3 then some hp else (if (a3 &&& (a1 ^^^ (-1))) = 0 then (gR hp a0 3 1).bind fun x3 => (gR hp a0 3 0).bind fun x4 => (vC hp x4 2 (f_X3_reason x4 a3 a2 hp)).bind fun q5 => (if q5 = 0 then (f_X4_weigh_J51 (f_X4_weigh_L9 n) a0 a1 a2 a3 1 a3 x3 hp) else (f_X4_weigh_J51 (f_X4_weigh_L9 n) a0 a1 a2 a3 0 a3 x3 hp)) else ((f_X4_weigh_L9 n) a0 a1 a2 (a3 + 1) hp))))
def f_X4_weigh (a0 : Nat) (a1 : Int32) (a2 : Int32) (hp : PH) : Option PH := (gR hp a0 3 2).bind fun x1 => (uI hp x1 0 0).bind fun hp2 => (f_X4_weigh_L9 NN a0 a1 a2 1 hp2)
set_option maxRecDepth 100000 in
set_option maxHeartbeats 4000000 in
theorem mf_X4_weigh_J51 {K : GK} {k9 : Nat → Int32 → Int32 → Int32 → PH → Option PH} (hk9 : ∀ (a0 : Nat) (a1 : Int32) (a2 : Int32) (a3 : Int32) (hp : PH) (r : PH), k9 a0 a1 a2 a3 hp = some r → PW K (rmD (7)) 0 0 M_X4_weigh 9 [(0, .ref (ga K a0)), (1, .int a1), (2, .int a2), (3, .int a3)] [] hp none r) : ∀ (a0 : Nat) (a1 : Int32) (a2 : Int32) (a3 : Int32) (s0 : Int32) (s1 : Int32) (s2 : Nat) (hp : PH) (r : PH), f_X4_weigh_J51 k9 a0 a1 a2 a3 s0 s1 s2 hp = some r → PW K (rmD (7)) 0 0 M_X4_weigh 51 [(0, .ref (ga K a0)), (1, .int a1), (2, .int a2), (3, .int a3)] [.int s0, .int s1, .ref (ga K s2)] hp none r := by
  intro a0 a1 a2 a3 s0 s1 s2 hp r h
  unfold f_X4_weigh_J51 at h
  obtain ⟨hp6, hhp6, h⟩ := bind_some h
  refine PW.zast dX4_weigh_51 hhp6 ?_
  refine PW.aload_n 0 dX4_weigh_52 rfl rfl ?_
  obtain ⟨x7, hx7, h⟩ := bind_some h
  refine PW.getR cls_X4 (j := 2) (by decide) dX4_weigh_53 wd_266 hx7 ?_
  refine PW.iload_n 3 dX4_weigh_56 rfl rfl ?_
  refine PW.aload_n 0 dX4_weigh_57 rfl rfl ?_
  refine PW.iload_n 3 dX4_weigh_58 rfl rfl ?_
  obtain ⟨q8, hq8, h⟩ := bind_some h
  obtain ⟨hkq8, hcq8, hq8⟩ := vC_spec hq8
  refine PW.callVi (As := [.int a3]) (rest := [.int a3, .ref (ga K x7)]) (k := a0) cal_X4_leastCost dX4_weigh_59 wd_676 rfl rfl (rmLe (by omega)) (Nat.le_of_ble_eq_true rfl) rm_0 hkq8 hcq8 (mf_X4_leastCost a0 a3 hp6 _ hq8) ?_
  obtain ⟨hp9, hhp9, h⟩ := bind_some h
  refine PW.iast dX4_weigh_62 hhp9 ?_
  refine PW.iinc 3 (l' := [(3, .int (a3 + 1)), (0, .ref (ga K a0)), (1, .int a1), (2, .int a2)]) dX4_weigh_63 rfl (x := a3) (y := (a3 + 1)) rfl (by decide) rfl ?_
  refine PW.goto (tgt := 9) dX4_weigh_66 (by decide) ?_
  exact PW.sub (l' := [(0, .ref (ga K a0)), (1, .int a1), (2, .int a2), (3, .int (a3 + 1))]) [1, 2, 3, 0] rfl (hk9 a0 a1 a2 (a3 + 1) hp9 _ h)
set_option maxRecDepth 100000 in
set_option maxHeartbeats 4000000 in
theorem mf_X4_weigh_L9 {K : GK} : ∀ (n : Nat) (a0 : Nat) (a1 : Int32) (a2 : Int32) (a3 : Int32) (hp : PH) (r : PH), f_X4_weigh_L9 n a0 a1 a2 a3 hp = some r → PW K (rmD (7)) 0 0 M_X4_weigh 9 [(0, .ref (ga K a0)), (1, .int a1), (2, .int a2), (3, .int a3)] [] hp none r := by
  intro n
  induction n with
  | zero =>
    intro a0 a1 a2 a3 hp r h
    rw [f_X4_weigh_L9] at h
    cases h
  | succ n ih =>
    intro a0 a1 a2 a3 hp r h
    rw [f_X4_weigh_L9] at h
    refine PW.iload_n 3 dX4_weigh_9 rfl rfl ?_
    refine PW.iload_n 1 dX4_weigh_10 rfl rfl ?_
    refine PW.icmp_gt (tgt := 69) dX4_weigh_11 (by decide) (fun c11 => ?_) (fun c11 => ?_)
    · rw [if_pos c11] at h
      have h := Option.some.inj h
      subst h
      exact PW.ret dX4_weigh_69 trivial rfl
    · rw [if_neg c11] at h
      refine PW.iload_n 3 dX4_weigh_14 rfl rfl ?_
      refine PW.sipush (x := 256) dX4_weigh_15 (by decide) ?_
      refine PW.icmp_ge (tgt := 69) dX4_weigh_18 (by decide) (fun c18 => ?_) (fun c18 => ?_)
      · rw [if_pos c18] at h
        have h := Option.some.inj h
        subst h
        exact PW.ret dX4_weigh_69 trivial rfl
      · rw [if_neg c18] at h
        refine PW.iload_n 3 dX4_weigh_21 rfl rfl ?_
        refine PW.iload_n 1 dX4_weigh_22 rfl rfl ?_
        refine PW.iconst (x := (-1)) dX4_weigh_23 (by decide) ?_
        refine PW.ixor dX4_weigh_24 ?_
        refine PW.iand dX4_weigh_25 ?_
        refine PW.if_ne (tgt := 63) dX4_weigh_26 (by decide) (fun c26 => ?_) (fun c26 => ?_)
        · rw [if_neg c26] at h
          refine PW.iinc 3 (l' := [(3, .int (a3 + 1)), (0, .ref (ga K a0)), (1, .int a1), (2, .int a2)]) dX4_weigh_63 rfl (x := a3) (y := (a3 + 1)) rfl (by decide) rfl ?_
          refine PW.goto (tgt := 9) dX4_weigh_66 (by decide) ?_
          exact PW.sub (l' := [(0, .ref (ga K a0)), (1, .int a1), (2, .int a2), (3, .int (a3 + 1))]) [1, 2, 3, 0] rfl (ih a0 a1 a2 (a3 + 1) hp _ h)
        · rw [if_pos c26] at h
          refine PW.aload_n 0 dX4_weigh_29 rfl rfl ?_
          obtain ⟨x3, hx3, h⟩ := bind_some h
          refine PW.getR cls_X4 (j := 1) (by decide) dX4_weigh_30 wd_265 hx3 ?_
          refine PW.iload_n 3 dX4_weigh_33 rfl rfl ?_
          refine PW.aload_n 0 dX4_weigh_34 rfl rfl ?_
          obtain ⟨x4, hx4, h⟩ := bind_some h
          refine PW.getR cls_X4 (j := 0) (by decide) dX4_weigh_35 wd_264 hx4 ?_
          refine PW.iload_n 3 dX4_weigh_38 rfl rfl ?_
          refine PW.iload_n 2 dX4_weigh_39 rfl rfl ?_
          obtain ⟨q5, hq5, h⟩ := bind_some h
          obtain ⟨hkq5, hcq5, hq5⟩ := vC_spec hq5
          refine PW.callVi (As := [.int a3, .int a2]) (rest := [.int a3, .ref (ga K x3)]) (k := x4) cal_X3_reason dX4_weigh_40 wd_675 rfl rfl (rmLe (by omega)) (Nat.le_of_ble_eq_true rfl) rm_0 hkq5 hcq5 (mf_X3_reason x4 a3 a2 hp _ hq5) ?_
          refine PW.if_ne (tgt := 50) dX4_weigh_43 (by decide) (fun c43 => ?_) (fun c43 => ?_)
          · rw [if_neg c43] at h
            refine PW.iconst (x := 0) dX4_weigh_50 (by decide) ?_
            exact PW.sub (l' := [(0, .ref (ga K a0)), (1, .int a1), (2, .int a2), (3, .int a3)]) [0, 1, 2, 3] rfl (mf_X4_weigh_J51 ih a0 a1 a2 a3 0 a3 x3 hp _ h)
          · rw [if_pos c43] at h
            refine PW.iconst (x := 1) dX4_weigh_46 (by decide) ?_
            refine PW.goto (tgt := 51) dX4_weigh_47 (by decide) ?_
            exact PW.sub (l' := [(0, .ref (ga K a0)), (1, .int a1), (2, .int a2), (3, .int a3)]) [0, 1, 2, 3] rfl (mf_X4_weigh_J51 ih a0 a1 a2 a3 1 a3 x3 hp _ h)
set_option maxRecDepth 100000 in
set_option maxHeartbeats 4000000 in
theorem mf_X4_weigh {K : GK} : ∀ (a0 : Nat) (a1 : Int32) (a2 : Int32) (hp : PH) (r : PH), f_X4_weigh a0 a1 a2 hp = some r → PM K (7) M_X4_weigh [.ref (ga K a0), .int a1, .int a2] hp none r := by
  intro a0 a1 a2 hp r h
  unfold f_X4_weigh at h
  refine PM.enter (l0 := [(0, .ref (ga K a0)), (1, .int a1), (2, .int a2)]) (by decide +kernel) rfl (Nat.le_of_ble_eq_true rfl) rfl ?_
  refine PW.aload_n 0 dX4_weigh_0 rfl rfl ?_
  obtain ⟨x1, hx1, h⟩ := bind_some h
  refine PW.getR cls_X4 (j := 2) (by decide) dX4_weigh_1 wd_266 hx1 ?_
  refine PW.iconst (x := 0) dX4_weigh_4 (by decide) ?_
  refine PW.iconst (x := 0) dX4_weigh_5 (by decide) ?_
  obtain ⟨hp2, hhp2, h⟩ := bind_some h
  refine PW.iast dX4_weigh_6 hhp2 ?_
  refine PW.iconst (x := 1) dX4_weigh_7 (by decide) ?_
  refine PW.istore_n (l' := [(3, .int 1), (0, .ref (ga K a0)), (1, .int a1), (2, .int a2)]) dX4_weigh_8 rfl (by decide) rfl ?_
  exact PW.sub (l' := [(0, .ref (ga K a0)), (1, .int a1), (2, .int a2), (3, .int 1)]) [1, 2, 3, 0] rfl (mf_X4_weigh_L9 NN a0 a1 a2 1 hp2 _ h)
-- X4_leastBestCompany
def f_X4_leastBestCompany_J38 (k7 : Nat → Int32 → Int32 → Int32 → PH → Option Int32) (a0 : Nat) (a1 : Int32) (a2 : Int32) (a3 : Int32) (s0 : Int32) (hp : PH) : Option Int32 := (if s0 = 0 then (k7 a0 a1 a2 (a3 + 1) hp) else (gR hp a0 3 1).bind fun x1 => (aI hp x1 1 a3).bind fun x2 => (if x2 = 0 then (k7 a0 a1 a2 (a3 + 1) hp) else (gR hp a0 3 2).bind fun x3 => (aI hp x3 0 (a1 ^^^ a3)).bind fun x4 => (gR hp a0 3 2).bind fun x5 => (aI hp x5 0 a1).bind fun x6 => (if (1 + x4) = x6 then (some a3) else (k7 a0 a1 a2 (a3 + 1) hp))))
def f_X4_leastBestCompany_L7 : Nat → Nat → Int32 → Int32 → Int32 → PH → Option Int32
  | 0, _, _, _, _, _ => none
  | n + 1, a0, a1, a2, a3, hp => (if a1 < a3 then (some 0) else (if 256 ≤ a3 then (some 0) else (if (a3 &&& (a1 ^^^ (-1))) = 0 then (if (a3 &&& a2) = 0 then (f_X4_leastBestCompany_J38 (f_X4_leastBestCompany_L7 n) a0 a1 a2 a3 0 hp) else (f_X4_leastBestCompany_J38 (f_X4_leastBestCompany_L7 n) a0 a1 a2 a3 1 hp)) else (f_X4_leastBestCompany_J38 (f_X4_leastBestCompany_L7 n) a0 a1 a2 a3 0 hp))))
def f_X4_leastBestCompany (a0 : Nat) (a1 : Int32) (hp : PH) : Option Int32 := (f_X4_leastBestCompany_L7 NN a0 a1 (a1 &&& (0 - a1)) (a1 &&& (0 - a1)) hp)
set_option maxRecDepth 100000 in
set_option maxHeartbeats 4000000 in
theorem mf_X4_leastBestCompany_J38 {K : GK} {k7 : Nat → Int32 → Int32 → Int32 → PH → Option Int32} (hk7 : ∀ (a0 : Nat) (a1 : Int32) (a2 : Int32) (a3 : Int32) (hp : PH) (r : Int32), k7 a0 a1 a2 a3 hp = some r → PW K (rmD (0)) 0 0 M_X4_leastBestCompany 7 [(0, .ref (ga K a0)), (1, .int a1), (2, .int a2), (3, .int a3)] [] hp (some (.int r)) hp) : ∀ (a0 : Nat) (a1 : Int32) (a2 : Int32) (a3 : Int32) (s0 : Int32) (hp : PH) (r : Int32), f_X4_leastBestCompany_J38 k7 a0 a1 a2 a3 s0 hp = some r → PW K (rmD (0)) 0 0 M_X4_leastBestCompany 38 [(0, .ref (ga K a0)), (1, .int a1), (2, .int a2), (3, .int a3)] [.int s0] hp (some (.int r)) hp := by
  intro a0 a1 a2 a3 s0 hp r h
  unfold f_X4_leastBestCompany_J38 at h
  refine PW.istore (l' := [(4, .int s0), (0, .ref (ga K a0)), (1, .int a1), (2, .int a2), (3, .int a3)]) dX4_leastBestCompany_38 (by decide) rfl ?_
  refine PW.iload 0 dX4_leastBestCompany_40 rfl ?_
  refine PW.if_eq (tgt := 75) dX4_leastBestCompany_42 (by decide) (fun c42 => ?_) (fun c42 => ?_)
  · rw [if_pos c42] at h
    refine PW.iinc 4 (l' := [(3, .int (a3 + 1)), (4, .int s0), (0, .ref (ga K a0)), (1, .int a1), (2, .int a2)]) dX4_leastBestCompany_75 rfl (x := a3) (y := (a3 + 1)) rfl (by decide) rfl ?_
    refine PW.goto (tgt := 7) dX4_leastBestCompany_78 (by decide) ?_
    exact PW.sub (l' := [(0, .ref (ga K a0)), (1, .int a1), (2, .int a2), (3, .int (a3 + 1))]) [2, 3, 4, 0] rfl (hk7 a0 a1 a2 (a3 + 1) hp _ h)
  · rw [if_neg c42] at h
    refine PW.aload_n 1 dX4_leastBestCompany_45 rfl rfl ?_
    obtain ⟨x1, hx1, h⟩ := bind_some h
    refine PW.getR cls_X4 (j := 1) (by decide) dX4_leastBestCompany_46 wd_265 hx1 ?_
    refine PW.iload_n 4 dX4_leastBestCompany_49 rfl rfl ?_
    obtain ⟨x2, hx2, h⟩ := bind_some h
    refine PW.zald dX4_leastBestCompany_50 hx2 ?_
    refine PW.if_eq (tgt := 75) dX4_leastBestCompany_51 (by decide) (fun c51 => ?_) (fun c51 => ?_)
    · rw [if_pos c51] at h
      refine PW.iinc 4 (l' := [(3, .int (a3 + 1)), (4, .int s0), (0, .ref (ga K a0)), (1, .int a1), (2, .int a2)]) dX4_leastBestCompany_75 rfl (x := a3) (y := (a3 + 1)) rfl (by decide) rfl ?_
      refine PW.goto (tgt := 7) dX4_leastBestCompany_78 (by decide) ?_
      exact PW.sub (l' := [(0, .ref (ga K a0)), (1, .int a1), (2, .int a2), (3, .int (a3 + 1))]) [2, 3, 4, 0] rfl (hk7 a0 a1 a2 (a3 + 1) hp _ h)
    · rw [if_neg c51] at h
      refine PW.iconst (x := 1) dX4_leastBestCompany_54 (by decide) ?_
      refine PW.aload_n 1 dX4_leastBestCompany_55 rfl rfl ?_
      obtain ⟨x3, hx3, h⟩ := bind_some h
      refine PW.getR cls_X4 (j := 2) (by decide) dX4_leastBestCompany_56 wd_266 hx3 ?_
      refine PW.iload_n 2 dX4_leastBestCompany_59 rfl rfl ?_
      refine PW.iload_n 4 dX4_leastBestCompany_60 rfl rfl ?_
      refine PW.ixor dX4_leastBestCompany_61 ?_
      obtain ⟨x4, hx4, h⟩ := bind_some h
      refine PW.iald dX4_leastBestCompany_62 hx4 ?_
      refine PW.iadd dX4_leastBestCompany_63 ?_
      refine PW.aload_n 1 dX4_leastBestCompany_64 rfl rfl ?_
      obtain ⟨x5, hx5, h⟩ := bind_some h
      refine PW.getR cls_X4 (j := 2) (by decide) dX4_leastBestCompany_65 wd_266 hx5 ?_
      refine PW.iload_n 2 dX4_leastBestCompany_68 rfl rfl ?_
      obtain ⟨x6, hx6, h⟩ := bind_some h
      refine PW.iald dX4_leastBestCompany_69 hx6 ?_
      refine PW.icmp_ne (tgt := 75) dX4_leastBestCompany_70 (by decide) (fun c70 => ?_) (fun c70 => ?_)
      · rw [if_neg c70] at h
        refine PW.iinc 4 (l' := [(3, .int (a3 + 1)), (4, .int s0), (0, .ref (ga K a0)), (1, .int a1), (2, .int a2)]) dX4_leastBestCompany_75 rfl (x := a3) (y := (a3 + 1)) rfl (by decide) rfl ?_
        refine PW.goto (tgt := 7) dX4_leastBestCompany_78 (by decide) ?_
        exact PW.sub (l' := [(0, .ref (ga K a0)), (1, .int a1), (2, .int a2), (3, .int (a3 + 1))]) [2, 3, 4, 0] rfl (hk7 a0 a1 a2 (a3 + 1) hp _ h)
      · rw [if_pos c70] at h
        refine PW.iload_n 4 dX4_leastBestCompany_73 rfl rfl ?_
        have h := Option.some.inj h; subst h
        exact PW.ret dX4_leastBestCompany_74 trivial rfl
set_option maxRecDepth 100000 in
set_option maxHeartbeats 4000000 in
theorem mf_X4_leastBestCompany_L7 {K : GK} : ∀ (n : Nat) (a0 : Nat) (a1 : Int32) (a2 : Int32) (a3 : Int32) (hp : PH) (r : Int32), f_X4_leastBestCompany_L7 n a0 a1 a2 a3 hp = some r → PW K (rmD (0)) 0 0 M_X4_leastBestCompany 7 [(0, .ref (ga K a0)), (1, .int a1), (2, .int a2), (3, .int a3)] [] hp (some (.int r)) hp := by
  intro n
  induction n with
  | zero =>
    intro a0 a1 a2 a3 hp r h
    rw [f_X4_leastBestCompany_L7] at h
    cases h
  | succ n ih =>
    intro a0 a1 a2 a3 hp r h
    rw [f_X4_leastBestCompany_L7] at h
    refine PW.iload_n 3 dX4_leastBestCompany_7 rfl rfl ?_
    refine PW.iload_n 1 dX4_leastBestCompany_8 rfl rfl ?_
    refine PW.icmp_gt (tgt := 81) dX4_leastBestCompany_9 (by decide) (fun c9 => ?_) (fun c9 => ?_)
    · rw [if_pos c9] at h
      refine PW.iconst (x := 0) dX4_leastBestCompany_81 (by decide) ?_
      have h := Option.some.inj h; subst h
      exact PW.ret dX4_leastBestCompany_82 trivial rfl
    · rw [if_neg c9] at h
      refine PW.iload_n 3 dX4_leastBestCompany_12 rfl rfl ?_
      refine PW.sipush (x := 256) dX4_leastBestCompany_13 (by decide) ?_
      refine PW.icmp_ge (tgt := 81) dX4_leastBestCompany_16 (by decide) (fun c16 => ?_) (fun c16 => ?_)
      · rw [if_pos c16] at h
        refine PW.iconst (x := 0) dX4_leastBestCompany_81 (by decide) ?_
        have h := Option.some.inj h; subst h
        exact PW.ret dX4_leastBestCompany_82 trivial rfl
      · rw [if_neg c16] at h
        refine PW.iload_n 3 dX4_leastBestCompany_19 rfl rfl ?_
        refine PW.iload_n 1 dX4_leastBestCompany_20 rfl rfl ?_
        refine PW.iconst (x := (-1)) dX4_leastBestCompany_21 (by decide) ?_
        refine PW.ixor dX4_leastBestCompany_22 ?_
        refine PW.iand dX4_leastBestCompany_23 ?_
        refine PW.if_ne (tgt := 37) dX4_leastBestCompany_24 (by decide) (fun c24 => ?_) (fun c24 => ?_)
        · rw [if_neg c24] at h
          refine PW.iconst (x := 0) dX4_leastBestCompany_37 (by decide) ?_
          exact PW.sub (l' := [(0, .ref (ga K a0)), (1, .int a1), (2, .int a2), (3, .int a3)]) [0, 1, 2, 3] rfl (mf_X4_leastBestCompany_J38 ih a0 a1 a2 a3 0 hp _ h)
        · rw [if_pos c24] at h
          refine PW.iload_n 3 dX4_leastBestCompany_27 rfl rfl ?_
          refine PW.iload_n 2 dX4_leastBestCompany_28 rfl rfl ?_
          refine PW.iand dX4_leastBestCompany_29 ?_
          refine PW.if_eq (tgt := 37) dX4_leastBestCompany_30 (by decide) (fun c30 => ?_) (fun c30 => ?_)
          · rw [if_pos c30] at h
            refine PW.iconst (x := 0) dX4_leastBestCompany_37 (by decide) ?_
            exact PW.sub (l' := [(0, .ref (ga K a0)), (1, .int a1), (2, .int a2), (3, .int a3)]) [0, 1, 2, 3] rfl (mf_X4_leastBestCompany_J38 ih a0 a1 a2 a3 0 hp _ h)
          · rw [if_neg c30] at h
            refine PW.iconst (x := 1) dX4_leastBestCompany_33 (by decide) ?_
            refine PW.goto (tgt := 38) dX4_leastBestCompany_34 (by decide) ?_
            exact PW.sub (l' := [(0, .ref (ga K a0)), (1, .int a1), (2, .int a2), (3, .int a3)]) [0, 1, 2, 3] rfl (mf_X4_leastBestCompany_J38 ih a0 a1 a2 a3 1 hp _ h)
set_option maxRecDepth 100000 in
set_option maxHeartbeats 4000000 in
theorem mf_X4_leastBestCompany {K : GK} : ∀ (a0 : Nat) (a1 : Int32) (hp : PH) (r : Int32), f_X4_leastBestCompany a0 a1 hp = some r → PM K (0) M_X4_leastBestCompany [.ref (ga K a0), .int a1] hp (some (.int r)) hp := by
  intro a0 a1 hp r h
  unfold f_X4_leastBestCompany at h
  refine PM.enter (l0 := [(0, .ref (ga K a0)), (1, .int a1)]) (by decide +kernel) rfl (Nat.le_of_ble_eq_true rfl) rfl ?_
  refine PW.iload_n 1 dX4_leastBestCompany_0 rfl rfl ?_
  refine PW.iload_n 1 dX4_leastBestCompany_1 rfl rfl ?_
  refine PW.ineg dX4_leastBestCompany_2 ?_
  refine PW.iand dX4_leastBestCompany_3 ?_
  refine PW.istore_n (l' := [(2, .int (a1 &&& (0 - a1))), (0, .ref (ga K a0)), (1, .int a1)]) dX4_leastBestCompany_4 rfl (by decide) rfl ?_
  refine PW.iload_n 0 dX4_leastBestCompany_5 rfl rfl ?_
  refine PW.istore_n (l' := [(3, .int (a1 &&& (0 - a1))), (2, .int (a1 &&& (0 - a1))), (0, .ref (ga K a0)), (1, .int a1)]) dX4_leastBestCompany_6 rfl (by decide) rfl ?_
  exact PW.sub (l' := [(0, .ref (ga K a0)), (1, .int a1), (2, .int (a1 &&& (0 - a1))), (3, .int (a1 &&& (0 - a1)))]) [2, 3, 1, 0] rfl (mf_X4_leastBestCompany_L7 NN a0 a1 (a1 &&& (0 - a1)) (a1 &&& (0 - a1)) hp _ h)
