-- X4_deal
def f_X4_deal_L21 : Nat → Nat → Int32 → Int32 → PH → Option PH
  | 0, _, _, _, _ => none
  | n + 1, a0, a3, a4, hp => (if 8 ≤ a4 then some hp else (if a3 = 0 then some hp else (vC hp a0 3 (f_X4_leastBestCompany a0 a3 hp)).bind fun q4 => (if q4 = 0 then (gI hp a0 3 5).bind fun x10 => (pI hp a0 3 5 (x10 ||| (a3 &&& (0 - a3)))).bind fun hp11 => ((f_X4_deal_L21 n) a0 (a3 &&& (a3 - 1)) (a4 + 1) hp11) else (gR hp a0 3 3).bind fun x5 => (gI hp a0 3 4).bind fun x6 => (uI hp x5 x6 q4).bind fun hp7 => (gI hp7 a0 3 4).bind fun x8 => (pI hp7 a0 3 4 (x8 + 1)).bind fun hp9 => ((f_X4_deal_L21 n) a0 (a3 ^^^ q4) (a4 + 1) hp9))))
def f_X4_deal (a0 : Nat) (a1 : Int32) (a2 : Int32) (hp : PH) : Option PH := (vC hp a0 3 (f_X4_weigh a0 a1 a2 hp)).bind fun q1 => (pI q1 a0 3 4 0).bind fun hp2 => (pI hp2 a0 3 5 0).bind fun hp3 => (f_X4_deal_L21 NN a0 a1 0 hp3)
set_option maxRecDepth 100000 in
set_option maxHeartbeats 4000000 in
theorem mf_X4_deal_L21 {K : GK} : ∀ (n : Nat) (a0 : Nat) (a3 : Int32) (a4 : Int32) (hp : PH) (r : PH), f_X4_deal_L21 n a0 a3 a4 hp = some r → PW K (rmD (8)) 0 0 M_X4_deal 21 [(0, .ref (ga K a0)), (3, .int a3), (4, .int a4)] [] hp none r := by
  intro n
  induction n with
  | zero =>
    intro a0 a3 a4 hp r h
    rw [f_X4_deal_L21] at h
    cases h
  | succ n ih =>
    intro a0 a3 a4 hp r h
    rw [f_X4_deal_L21] at h
    refine PW.iload 2 dX4_deal_21 rfl ?_
    refine PW.bipush (x := 8) dX4_deal_23 (by decide) ?_
    refine PW.icmp_ge (tgt := 98) dX4_deal_25 (by decide) (fun c25 => ?_) (fun c25 => ?_)
    · rw [if_pos c25] at h
      have h := Option.some.inj h
      subst h
      exact PW.ret dX4_deal_98 trivial rfl
    · rw [if_neg c25] at h
      refine PW.iload_n 1 dX4_deal_28 rfl rfl ?_
      refine PW.if_eq (tgt := 98) dX4_deal_29 (by decide) (fun c29 => ?_) (fun c29 => ?_)
      · rw [if_pos c29] at h
        have h := Option.some.inj h
        subst h
        exact PW.ret dX4_deal_98 trivial rfl
      · rw [if_neg c29] at h
        refine PW.aload_n 0 dX4_deal_32 rfl rfl ?_
        refine PW.iload_n 1 dX4_deal_33 rfl rfl ?_
        obtain ⟨q4, hq4, h⟩ := bind_some h
        obtain ⟨hkq4, hcq4, hq4⟩ := vC_spec hq4
        refine PW.callVi (As := [.int a3]) (rest := []) (k := a0) cal_X4_leastBestCompany dX4_deal_34 wd_683 rfl rfl (rmLe (by omega)) (Nat.le_of_ble_eq_true rfl) rm_0 hkq4 hcq4 (mf_X4_leastBestCompany a0 a3 hp _ hq4) ?_
        refine PW.istore (l' := [(5, .int q4), (0, .ref (ga K a0)), (3, .int a3), (4, .int a4)]) dX4_deal_37 (by decide) rfl ?_
        refine PW.iload 0 dX4_deal_39 rfl ?_
        refine PW.if_ne (tgt := 66) dX4_deal_41 (by decide) (fun c41 => ?_) (fun c41 => ?_)
        · rw [if_neg c41] at h
          refine PW.aload_n 1 dX4_deal_66 rfl rfl ?_
          obtain ⟨x5, hx5, h⟩ := bind_some h
          refine PW.getR cls_X4 (j := 3) (by decide) dX4_deal_67 wd_267 hx5 ?_
          refine PW.aload_n 1 dX4_deal_70 rfl rfl ?_
          obtain ⟨x6, hx6, h⟩ := bind_some h
          refine PW.getI cls_X4 (j := 4) (by decide) dX4_deal_71 wd_269 hx6 ?_
          refine PW.iload 0 dX4_deal_74 rfl ?_
          obtain ⟨hp7, hhp7, h⟩ := bind_some h
          refine PW.iast dX4_deal_76 hhp7 ?_
          refine PW.aload_n 1 dX4_deal_77 rfl rfl ?_
          refine PW.dup dX4_deal_78 rfl ?_
          obtain ⟨x8, hx8, h⟩ := bind_some h
          refine PW.getI cls_X4 (j := 4) (by decide) dX4_deal_79 wd_269 hx8 ?_
          refine PW.iconst (x := 1) dX4_deal_82 (by decide) ?_
          refine PW.iadd dX4_deal_83 ?_
          obtain ⟨hp9, hhp9, h⟩ := bind_some h
          refine PW.putI cls_X4 clw_X4 (j := 4) (by decide) dX4_deal_84 wd_269 rfl rfl hhp9 ?_
          refine PW.iload_n 2 dX4_deal_87 rfl rfl ?_
          refine PW.iload 0 dX4_deal_88 rfl ?_
          refine PW.ixor dX4_deal_90 ?_
          refine PW.istore_n (l' := [(3, .int (a3 ^^^ q4)), (5, .int q4), (0, .ref (ga K a0)), (4, .int a4)]) dX4_deal_91 rfl (by decide) rfl ?_
          refine PW.iinc 3 (l' := [(4, .int (a4 + 1)), (3, .int (a3 ^^^ q4)), (5, .int q4), (0, .ref (ga K a0))]) dX4_deal_92 rfl (x := a4) (y := (a4 + 1)) rfl (by decide) rfl ?_
          refine PW.goto (tgt := 21) dX4_deal_95 (by decide) ?_
          exact PW.sub (l' := [(0, .ref (ga K a0)), (3, .int (a3 ^^^ q4)), (4, .int (a4 + 1))]) [3, 1, 0] rfl (ih a0 (a3 ^^^ q4) (a4 + 1) hp9 _ h)
        · rw [if_pos c41] at h
          refine PW.aload_n 1 dX4_deal_44 rfl rfl ?_
          refine PW.dup dX4_deal_45 rfl ?_
          obtain ⟨x10, hx10, h⟩ := bind_some h
          refine PW.getI cls_X4 (j := 5) (by decide) dX4_deal_46 wd_271 hx10 ?_
          refine PW.iload_n 2 dX4_deal_49 rfl rfl ?_
          refine PW.iload_n 2 dX4_deal_50 rfl rfl ?_
          refine PW.ineg dX4_deal_51 ?_
          refine PW.iand dX4_deal_52 ?_
          refine PW.ior dX4_deal_53 ?_
          obtain ⟨hp11, hhp11, h⟩ := bind_some h
          refine PW.putI cls_X4 clw_X4 (j := 5) (by decide) dX4_deal_54 wd_271 rfl rfl hhp11 ?_
          refine PW.iload_n 2 dX4_deal_57 rfl rfl ?_
          refine PW.iload_n 2 dX4_deal_58 rfl rfl ?_
          refine PW.iconst (x := 1) dX4_deal_59 (by decide) ?_
          refine PW.isub dX4_deal_60 ?_
          refine PW.iand dX4_deal_61 ?_
          refine PW.istore_n (l' := [(3, .int (a3 &&& (a3 - 1))), (5, .int q4), (0, .ref (ga K a0)), (4, .int a4)]) dX4_deal_62 rfl (by decide) rfl ?_
          refine PW.goto (tgt := 92) dX4_deal_63 (by decide) ?_
          refine PW.iinc 3 (l' := [(4, .int (a4 + 1)), (3, .int (a3 &&& (a3 - 1))), (5, .int q4), (0, .ref (ga K a0))]) dX4_deal_92 rfl (x := a4) (y := (a4 + 1)) rfl (by decide) rfl ?_
          refine PW.goto (tgt := 21) dX4_deal_95 (by decide) ?_
          exact PW.sub (l' := [(0, .ref (ga K a0)), (3, .int (a3 &&& (a3 - 1))), (4, .int (a4 + 1))]) [3, 1, 0] rfl (ih a0 (a3 &&& (a3 - 1)) (a4 + 1) hp11 _ h)
set_option maxRecDepth 100000 in
set_option maxHeartbeats 4000000 in
theorem mf_X4_deal {K : GK} : ∀ (a0 : Nat) (a1 : Int32) (a2 : Int32) (hp : PH) (r : PH), f_X4_deal a0 a1 a2 hp = some r → PM K (8) M_X4_deal [.ref (ga K a0), .int a1, .int a2] hp none r := by
  intro a0 a1 a2 hp r h
  unfold f_X4_deal at h
  refine PM.enter (l0 := [(0, .ref (ga K a0)), (1, .int a1), (2, .int a2)]) (by decide +kernel) rfl (Nat.le_of_ble_eq_true rfl) rfl ?_
  refine PW.aload_n 0 dX4_deal_0 rfl rfl ?_
  refine PW.iload_n 1 dX4_deal_1 rfl rfl ?_
  refine PW.iload_n 2 dX4_deal_2 rfl rfl ?_
  obtain ⟨q1, hq1, h⟩ := bind_some h
  obtain ⟨hkq1, hcq1, hq1⟩ := vC_spec hq1
  refine PW.callVv (As := [.int a1, .int a2]) (rest := []) (k := a0) cal_X4_weigh dX4_deal_3 wd_671 rfl rfl (rmLe (by omega)) (Nat.le_of_ble_eq_true rfl) rm_0 hkq1 hcq1 (mf_X4_weigh a0 a1 a2 hp _ hq1) ?_
  refine PW.aload_n 0 dX4_deal_6 rfl rfl ?_
  refine PW.iconst (x := 0) dX4_deal_7 (by decide) ?_
  obtain ⟨hp2, hhp2, h⟩ := bind_some h
  refine PW.putI cls_X4 clw_X4 (j := 4) (by decide) dX4_deal_8 wd_269 rfl rfl hhp2 ?_
  refine PW.aload_n 0 dX4_deal_11 rfl rfl ?_
  refine PW.iconst (x := 0) dX4_deal_12 (by decide) ?_
  obtain ⟨hp3, hhp3, h⟩ := bind_some h
  refine PW.putI cls_X4 clw_X4 (j := 5) (by decide) dX4_deal_13 wd_271 rfl rfl hhp3 ?_
  refine PW.iload_n 1 dX4_deal_16 rfl rfl ?_
  refine PW.istore_n (l' := [(3, .int a1), (0, .ref (ga K a0)), (1, .int a1), (2, .int a2)]) dX4_deal_17 rfl (by decide) rfl ?_
  refine PW.iconst (x := 0) dX4_deal_18 (by decide) ?_
  refine PW.istore (l' := [(4, .int 0), (3, .int a1), (0, .ref (ga K a0)), (1, .int a1), (2, .int a2)]) dX4_deal_19 (by decide) rfl ?_
  exact PW.sub (l' := [(0, .ref (ga K a0)), (3, .int a1), (4, .int 0)]) [2, 1, 0] rfl (mf_X4_deal_L21 NN a0 a1 0 hp3 _ h)
-- X4_leavesNobody
def f_X4_leavesNobody (a0 : Nat) (a1 : Int32) (a2 : Int32) (hp : PH) : Option (Int32 × PH) := (vC hp a0 3 (f_X4_weigh a0 a1 a2 hp)).bind fun q1 => (gR q1 a0 3 2).bind fun x2 => (aI q1 x2 0 a1).bind fun x3 => (if 16 ≤ x3 then (some (0, q1)) else (some (1, q1)))
set_option maxRecDepth 100000 in
set_option maxHeartbeats 4000000 in
theorem mf_X4_leavesNobody {K : GK} : ∀ (a0 : Nat) (a1 : Int32) (a2 : Int32) (hp : PH) (r : (Int32 × PH)), f_X4_leavesNobody a0 a1 a2 hp = some r → PM K (8) M_X4_leavesNobody [.ref (ga K a0), .int a1, .int a2] hp (some (.int r.1)) r.2 := by
  intro a0 a1 a2 hp r h
  unfold f_X4_leavesNobody at h
  refine PM.enter (l0 := [(0, .ref (ga K a0)), (1, .int a1), (2, .int a2)]) (by decide +kernel) rfl (Nat.le_of_ble_eq_true rfl) rfl ?_
  refine PW.aload_n 0 dX4_leavesNobody_0 rfl rfl ?_
  refine PW.iload_n 1 dX4_leavesNobody_1 rfl rfl ?_
  refine PW.iload_n 2 dX4_leavesNobody_2 rfl rfl ?_
  obtain ⟨q1, hq1, h⟩ := bind_some h
  obtain ⟨hkq1, hcq1, hq1⟩ := vC_spec hq1
  refine PW.callVv (As := [.int a1, .int a2]) (rest := []) (k := a0) cal_X4_weigh dX4_leavesNobody_3 wd_671 rfl rfl (rmLe (by omega)) (Nat.le_of_ble_eq_true rfl) rm_0 hkq1 hcq1 (mf_X4_weigh a0 a1 a2 hp _ hq1) ?_
  refine PW.aload_n 0 dX4_leavesNobody_6 rfl rfl ?_
  obtain ⟨x2, hx2, h⟩ := bind_some h
  refine PW.getR cls_X4 (j := 2) (by decide) dX4_leavesNobody_7 wd_266 hx2 ?_
  refine PW.iload_n 1 dX4_leavesNobody_10 rfl rfl ?_
  obtain ⟨x3, hx3, h⟩ := bind_some h
  refine PW.iald dX4_leavesNobody_11 hx3 ?_
  refine PW.bipush (x := 16) dX4_leavesNobody_12 (by decide) ?_
  refine PW.icmp_ge (tgt := 21) dX4_leavesNobody_14 (by decide) (fun c14 => ?_) (fun c14 => ?_)
  · rw [if_pos c14] at h
    refine PW.iconst (x := 0) dX4_leavesNobody_21 (by decide) ?_
    have h := Option.some.inj h; subst h
    exact PW.ret dX4_leavesNobody_22 (z_nar (Or.inl rfl)).1 rfl
  · rw [if_neg c14] at h
    refine PW.iconst (x := 1) dX4_leavesNobody_17 (by decide) ?_
    refine PW.goto (tgt := 22) dX4_leavesNobody_18 (by decide) ?_
    have h := Option.some.inj h; subst h
    exact PW.ret dX4_leavesNobody_22 (z_nar (Or.inr rfl)).1 rfl
-- X4_firstDayForBoth
def f_X4_firstDayForBoth_J65 (k20 : Nat → Int32 → Int32 → Int32 → Int32 → Int32 → Int32 → PH → Option (Int32 × PH)) (a0 : Nat) (a1 : Int32) (a2 : Int32) (a3 : Int32) (a5 : Int32) (a6 : Int32) (a7 : Int32) (hp : PH) : Option (Int32 × PH) := (gR hp a0 3 0).bind fun x4 => (vC hp x4 2 (f_X3_changeBehind x4 (a1 ||| a2) a6 hp)).bind fun q5 => (k20 a0 a1 a2 a3 a5 q5 (a7 + 1) hp)
def f_X4_firstDayForBoth_L20 : Nat → Nat → Int32 → Int32 → Int32 → Int32 → Int32 → Int32 → PH → Option (Int32 × PH)
  | 0, _, _, _, _, _, _, _, _ => none
  | n + 1, a0, a1, a2, a3, a5, a6, a7, hp => (if 1500 < a7 then (some ((-1), hp)) else (if a5 < a6 then (some ((-1), hp)) else (gR hp a0 3 0).bind fun x1 => (vC hp x1 2 (f_X3_standOn x1 a6 hp)).bind fun q2 => (vC q2 a0 3 (f_X4_leavesNobody a0 a1 a3 q2)).bind fun q3 => (if q3.1 = 0 then (f_X4_firstDayForBoth_J65 (f_X4_firstDayForBoth_L20 n) a0 a1 a2 a3 a5 a6 a7 q3.2) else (vC q3.2 a0 3 (f_X4_leavesNobody a0 a2 a3 q3.2)).bind fun q6 => (if q6.1 = 0 then (f_X4_firstDayForBoth_J65 (f_X4_firstDayForBoth_L20 n) a0 a1 a2 a3 a5 a6 a7 q6.2) else (some (a6, q6.2))))))
def f_X4_firstDayForBoth (a0 : Nat) (a1 : Int32) (a2 : Int32) (a3 : Int32) (a4 : Int32) (hp : PH) : Option (Int32 × PH) := (f_X4_firstDayForBoth_L20 NN a0 a1 a2 a3 (mnI (a4 + 1500) 146096) a4 0 hp)
set_option maxRecDepth 100000 in
set_option maxHeartbeats 4000000 in
theorem mf_X4_firstDayForBoth_J65 {K : GK} {k20 : Nat → Int32 → Int32 → Int32 → Int32 → Int32 → Int32 → PH → Option (Int32 × PH)} (hk20 : ∀ (a0 : Nat) (a1 : Int32) (a2 : Int32) (a3 : Int32) (a5 : Int32) (a6 : Int32) (a7 : Int32) (hp : PH) (r : (Int32 × PH)), k20 a0 a1 a2 a3 a5 a6 a7 hp = some r → PW K (rmD (9)) 0 0 M_X4_firstDayForBoth 20 [(0, .ref (ga K a0)), (1, .int a1), (2, .int a2), (3, .int a3), (5, .int a5), (6, .int a6), (7, .int a7)] [] hp (some (.int r.1)) r.2) : ∀ (a0 : Nat) (a1 : Int32) (a2 : Int32) (a3 : Int32) (a5 : Int32) (a6 : Int32) (a7 : Int32) (hp : PH) (r : (Int32 × PH)), f_X4_firstDayForBoth_J65 k20 a0 a1 a2 a3 a5 a6 a7 hp = some r → PW K (rmD (9)) 0 0 M_X4_firstDayForBoth 65 [(0, .ref (ga K a0)), (1, .int a1), (2, .int a2), (3, .int a3), (5, .int a5), (6, .int a6), (7, .int a7)] [] hp (some (.int r.1)) r.2 := by
  intro a0 a1 a2 a3 a5 a6 a7 hp r h
  unfold f_X4_firstDayForBoth_J65 at h
  refine PW.aload_n 0 dX4_firstDayForBoth_65 rfl rfl ?_
  obtain ⟨x4, hx4, h⟩ := bind_some h
  refine PW.getR cls_X4 (j := 0) (by decide) dX4_firstDayForBoth_66 wd_264 hx4 ?_
  refine PW.iload_n 1 dX4_firstDayForBoth_69 rfl rfl ?_
  refine PW.iload_n 2 dX4_firstDayForBoth_70 rfl rfl ?_
  refine PW.ior dX4_firstDayForBoth_71 ?_
  refine PW.iload 5 dX4_firstDayForBoth_72 rfl ?_
  obtain ⟨q5, hq5, h⟩ := bind_some h
  obtain ⟨hkq5, hcq5, hq5⟩ := vC_spec hq5
  refine PW.callVi (As := [.int (a1 ||| a2), .int a6]) (rest := []) (k := x4) cal_X3_changeBehind dX4_firstDayForBoth_74 wd_744 rfl rfl (rmLe (by omega)) (Nat.le_of_ble_eq_true rfl) rm_0 hkq5 hcq5 (mf_X3_changeBehind x4 (a1 ||| a2) a6 hp _ hq5) ?_
  refine PW.istore (l' := [(6, .int q5), (0, .ref (ga K a0)), (1, .int a1), (2, .int a2), (3, .int a3), (5, .int a5), (7, .int a7)]) dX4_firstDayForBoth_77 (by decide) rfl ?_
  refine PW.iinc 6 (l' := [(7, .int (a7 + 1)), (6, .int q5), (0, .ref (ga K a0)), (1, .int a1), (2, .int a2), (3, .int a3), (5, .int a5)]) dX4_firstDayForBoth_79 rfl (x := a7) (y := (a7 + 1)) rfl (by decide) rfl ?_
  refine PW.goto (tgt := 20) dX4_firstDayForBoth_82 (by decide) ?_
  exact PW.sub (l' := [(0, .ref (ga K a0)), (1, .int a1), (2, .int a2), (3, .int a3), (5, .int a5), (6, .int q5), (7, .int (a7 + 1))]) [2, 3, 4, 5, 6, 1, 0] rfl (hk20 a0 a1 a2 a3 a5 q5 (a7 + 1) hp _ h)
set_option maxRecDepth 100000 in
set_option maxHeartbeats 4000000 in
theorem mf_X4_firstDayForBoth_L20 {K : GK} : ∀ (n : Nat) (a0 : Nat) (a1 : Int32) (a2 : Int32) (a3 : Int32) (a5 : Int32) (a6 : Int32) (a7 : Int32) (hp : PH) (r : (Int32 × PH)), f_X4_firstDayForBoth_L20 n a0 a1 a2 a3 a5 a6 a7 hp = some r → PW K (rmD (9)) 0 0 M_X4_firstDayForBoth 20 [(0, .ref (ga K a0)), (1, .int a1), (2, .int a2), (3, .int a3), (5, .int a5), (6, .int a6), (7, .int a7)] [] hp (some (.int r.1)) r.2 := by
  intro n
  induction n with
  | zero =>
    intro a0 a1 a2 a3 a5 a6 a7 hp r h
    rw [f_X4_firstDayForBoth_L20] at h
    cases h
  | succ n ih =>
    intro a0 a1 a2 a3 a5 a6 a7 hp r h
    rw [f_X4_firstDayForBoth_L20] at h
    refine PW.iload 6 dX4_firstDayForBoth_20 rfl ?_
    refine PW.sipush (x := 1500) dX4_firstDayForBoth_22 (by decide) ?_
    refine PW.icmp_gt (tgt := 85) dX4_firstDayForBoth_25 (by decide) (fun c25 => ?_) (fun c25 => ?_)
    · rw [if_pos c25] at h
      refine PW.iconst (x := (-1)) dX4_firstDayForBoth_85 (by decide) ?_
      have h := Option.some.inj h; subst h
      exact PW.ret dX4_firstDayForBoth_86 trivial rfl
    · rw [if_neg c25] at h
      refine PW.iload 5 dX4_firstDayForBoth_28 rfl ?_
      refine PW.iload 4 dX4_firstDayForBoth_30 rfl ?_
      refine PW.icmp_gt (tgt := 85) dX4_firstDayForBoth_32 (by decide) (fun c32 => ?_) (fun c32 => ?_)
      · rw [if_pos c32] at h
        refine PW.iconst (x := (-1)) dX4_firstDayForBoth_85 (by decide) ?_
        have h := Option.some.inj h; subst h
        exact PW.ret dX4_firstDayForBoth_86 trivial rfl
      · rw [if_neg c32] at h
        refine PW.aload_n 0 dX4_firstDayForBoth_35 rfl rfl ?_
        obtain ⟨x1, hx1, h⟩ := bind_some h
        refine PW.getR cls_X4 (j := 0) (by decide) dX4_firstDayForBoth_36 wd_264 hx1 ?_
        refine PW.iload 5 dX4_firstDayForBoth_39 rfl ?_
        obtain ⟨q2, hq2, h⟩ := bind_some h
        obtain ⟨hkq2, hcq2, hq2⟩ := vC_spec hq2
        refine PW.callVv (As := [.int a6]) (rest := []) (k := x1) cal_X3_standOn dX4_firstDayForBoth_41 wd_739 rfl rfl (rmLe (by omega)) (Nat.le_of_ble_eq_true rfl) rm_0 hkq2 hcq2 (mf_X3_standOn x1 a6 hp _ hq2) ?_
        refine PW.aload_n 0 dX4_firstDayForBoth_44 rfl rfl ?_
        refine PW.iload_n 1 dX4_firstDayForBoth_45 rfl rfl ?_
        refine PW.iload_n 3 dX4_firstDayForBoth_46 rfl rfl ?_
        obtain ⟨q3, hq3, h⟩ := bind_some h
        obtain ⟨hkq3, hcq3, hq3⟩ := vC_spec hq3
        refine PW.callVi (As := [.int a1, .int a3]) (rest := []) (k := a0) cal_X4_leavesNobody dX4_firstDayForBoth_47 wd_740 rfl rfl (rmLe (by omega)) (Nat.le_of_ble_eq_true rfl) rm_0 hkq3 hcq3 (mf_X4_leavesNobody a0 a1 a3 q2 _ hq3) ?_
        refine PW.if_eq (tgt := 65) dX4_firstDayForBoth_50 (by decide) (fun c50 => ?_) (fun c50 => ?_)
        · rw [if_pos c50] at h
          exact PW.sub (l' := [(0, .ref (ga K a0)), (1, .int a1), (2, .int a2), (3, .int a3), (5, .int a5), (6, .int a6), (7, .int a7)]) [0, 1, 2, 3, 4, 5, 6] rfl (mf_X4_firstDayForBoth_J65 ih a0 a1 a2 a3 a5 a6 a7 q3.2 _ h)
        · rw [if_neg c50] at h
          refine PW.aload_n 0 dX4_firstDayForBoth_53 rfl rfl ?_
          refine PW.iload_n 2 dX4_firstDayForBoth_54 rfl rfl ?_
          refine PW.iload_n 3 dX4_firstDayForBoth_55 rfl rfl ?_
          obtain ⟨q6, hq6, h⟩ := bind_some h
          obtain ⟨hkq6, hcq6, hq6⟩ := vC_spec hq6
          refine PW.callVi (As := [.int a2, .int a3]) (rest := []) (k := a0) cal_X4_leavesNobody dX4_firstDayForBoth_56 wd_740 rfl rfl (rmLe (by omega)) (Nat.le_of_ble_eq_true rfl) rm_0 hkq6 hcq6 (mf_X4_leavesNobody a0 a2 a3 q3.2 _ hq6) ?_
          refine PW.if_eq (tgt := 65) dX4_firstDayForBoth_59 (by decide) (fun c59 => ?_) (fun c59 => ?_)
          · rw [if_pos c59] at h
            exact PW.sub (l' := [(0, .ref (ga K a0)), (1, .int a1), (2, .int a2), (3, .int a3), (5, .int a5), (6, .int a6), (7, .int a7)]) [0, 1, 2, 3, 4, 5, 6] rfl (mf_X4_firstDayForBoth_J65 ih a0 a1 a2 a3 a5 a6 a7 q6.2 _ h)
          · rw [if_neg c59] at h
            refine PW.iload 5 dX4_firstDayForBoth_62 rfl ?_
            have h := Option.some.inj h; subst h
            exact PW.ret dX4_firstDayForBoth_64 trivial rfl
set_option maxRecDepth 100000 in
set_option maxHeartbeats 4000000 in
theorem mf_X4_firstDayForBoth {K : GK} : ∀ (a0 : Nat) (a1 : Int32) (a2 : Int32) (a3 : Int32) (a4 : Int32) (hp : PH) (r : (Int32 × PH)), f_X4_firstDayForBoth a0 a1 a2 a3 a4 hp = some r → PM K (9) M_X4_firstDayForBoth [.ref (ga K a0), .int a1, .int a2, .int a3, .int a4] hp (some (.int r.1)) r.2 := by
  intro a0 a1 a2 a3 a4 hp r h
  unfold f_X4_firstDayForBoth at h
  refine PM.enter (l0 := [(0, .ref (ga K a0)), (1, .int a1), (2, .int a2), (3, .int a3), (4, .int a4)]) (by decide +kernel) rfl (Nat.le_of_ble_eq_true rfl) rfl ?_
  refine PW.iload 4 dX4_firstDayForBoth_0 rfl ?_
  refine PW.sipush (x := 1500) dX4_firstDayForBoth_2 (by decide) ?_
  refine PW.iadd dX4_firstDayForBoth_5 ?_
  refine PW.ldc (x := 146096) dX4_firstDayForBoth_6 wd_738 ?_
  refine PW.mmin dX4_firstDayForBoth_8 wd_680 wd_681 wd_73 wd_682 rm_fr (rm_lo1 (Nat.le_of_ble_eq_true rfl)) rm_0 ?_
  refine PW.istore (l' := [(5, .int (mnI (a4 + 1500) 146096)), (0, .ref (ga K a0)), (1, .int a1), (2, .int a2), (3, .int a3), (4, .int a4)]) dX4_firstDayForBoth_11 (by decide) rfl ?_
  refine PW.iload 5 dX4_firstDayForBoth_13 rfl ?_
  refine PW.istore (l' := [(6, .int a4), (5, .int (mnI (a4 + 1500) 146096)), (0, .ref (ga K a0)), (1, .int a1), (2, .int a2), (3, .int a3), (4, .int a4)]) dX4_firstDayForBoth_15 (by decide) rfl ?_
  refine PW.iconst (x := 0) dX4_firstDayForBoth_17 (by decide) ?_
  refine PW.istore (l' := [(7, .int 0), (6, .int a4), (5, .int (mnI (a4 + 1500) 146096)), (0, .ref (ga K a0)), (1, .int a1), (2, .int a2), (3, .int a3), (4, .int a4)]) dX4_firstDayForBoth_18 (by decide) rfl ?_
  exact PW.sub (l' := [(0, .ref (ga K a0)), (1, .int a1), (2, .int a2), (3, .int a3), (5, .int (mnI (a4 + 1500) 146096)), (6, .int a4), (7, .int 0)]) [3, 4, 5, 6, 2, 1, 0] rfl (mf_X4_firstDayForBoth_L20 NN a0 a1 a2 a3 (mnI (a4 + 1500) 146096) a4 0 hp _ h)
-- X5_append
def f_X5_append (a0 : Nat) (a1 : Int32) (a2 : Int32) (a3 : Int32) (hp : PH) : Option (Int32 × PH) := (gI hp a0 4 0).bind fun x1 => (if x1 < 10 then (gR hp a0 4 3).bind fun x2 => (gI hp a0 4 0).bind fun x3 => (uI hp x2 x3 a1).bind fun hp4 => (gR hp4 a0 4 4).bind fun x5 => (gI hp4 a0 4 0).bind fun x6 => (uI hp4 x5 x6 a2).bind fun hp7 => (gR hp7 a0 4 5).bind fun x8 => (gI hp7 a0 4 0).bind fun x9 => (uZ hp7 x8 x9 a3).bind fun hp10 => (pI hp10 a0 4 2 (-1)).bind fun hp11 => (gI hp11 a0 4 0).bind fun x12 => (pI hp11 a0 4 0 (x12 + 1)).bind fun hp13 => (some (x12, hp13)) else (some ((-4), hp)))
set_option maxRecDepth 100000 in
set_option maxHeartbeats 4000000 in
theorem mf_X5_append {K : GK} : ∀ (a0 : Nat) (a1 : Int32) (a2 : Int32) (a3 : Int32) (hp : PH) (r : (Int32 × PH)), f_X5_append a0 a1 a2 a3 hp = some r → PM K (0) M_X5_append [.ref (ga K a0), .int a1, .int a2, .int a3] hp (some (.int r.1)) r.2 := by
  intro a0 a1 a2 a3 hp r h
  unfold f_X5_append at h
  refine PM.enter (l0 := [(0, .ref (ga K a0)), (1, .int a1), (2, .int a2), (3, .int a3)]) (by decide +kernel) rfl (Nat.le_of_ble_eq_true rfl) rfl ?_
  refine PW.aload_n 0 dX5_append_0 rfl rfl ?_
  obtain ⟨x1, hx1, h⟩ := bind_some h
  refine PW.getI cls_X5 (j := 0) (by decide) dX5_append_1 wd_165 hx1 ?_
  refine PW.bipush (x := 10) dX5_append_4 (by decide) ?_
  refine PW.icmp_lt (tgt := 12) dX5_append_6 (by decide) (fun c6 => ?_) (fun c6 => ?_)
  · rw [if_pos c6] at h
    refine PW.aload_n 0 dX5_append_12 rfl rfl ?_
    obtain ⟨x2, hx2, h⟩ := bind_some h
    refine PW.getR cls_X5 (j := 3) (by decide) dX5_append_13 wd_174 hx2 ?_
    refine PW.aload_n 0 dX5_append_16 rfl rfl ?_
    obtain ⟨x3, hx3, h⟩ := bind_some h
    refine PW.getI cls_X5 (j := 0) (by decide) dX5_append_17 wd_165 hx3 ?_
    refine PW.iload_n 1 dX5_append_20 rfl rfl ?_
    obtain ⟨hp4, hhp4, h⟩ := bind_some h
    refine PW.iast dX5_append_21 hhp4 ?_
    refine PW.aload_n 0 dX5_append_22 rfl rfl ?_
    obtain ⟨x5, hx5, h⟩ := bind_some h
    refine PW.getR cls_X5 (j := 4) (by decide) dX5_append_23 wd_177 hx5 ?_
    refine PW.aload_n 0 dX5_append_26 rfl rfl ?_
    obtain ⟨x6, hx6, h⟩ := bind_some h
    refine PW.getI cls_X5 (j := 0) (by decide) dX5_append_27 wd_165 hx6 ?_
    refine PW.iload_n 2 dX5_append_30 rfl rfl ?_
    obtain ⟨hp7, hhp7, h⟩ := bind_some h
    refine PW.iast dX5_append_31 hhp7 ?_
    refine PW.aload_n 0 dX5_append_32 rfl rfl ?_
    obtain ⟨x8, hx8, h⟩ := bind_some h
    refine PW.getR cls_X5 (j := 5) (by decide) dX5_append_33 wd_180 hx8 ?_
    refine PW.aload_n 0 dX5_append_36 rfl rfl ?_
    obtain ⟨x9, hx9, h⟩ := bind_some h
    refine PW.getI cls_X5 (j := 0) (by decide) dX5_append_37 wd_165 hx9 ?_
    refine PW.iload_n 3 dX5_append_40 rfl rfl ?_
    obtain ⟨hp10, hhp10, h⟩ := bind_some h
    refine PW.zast dX5_append_41 hhp10 ?_
    refine PW.aload_n 0 dX5_append_42 rfl rfl ?_
    refine PW.iconst (x := (-1)) dX5_append_43 (by decide) ?_
    obtain ⟨hp11, hhp11, h⟩ := bind_some h
    refine PW.putI cls_X5 clw_X5 (j := 2) (by decide) dX5_append_44 wd_172 rfl rfl hhp11 ?_
    refine PW.aload_n 0 dX5_append_47 rfl rfl ?_
    refine PW.dup dX5_append_48 rfl ?_
    obtain ⟨x12, hx12, h⟩ := bind_some h
    refine PW.getI cls_X5 (j := 0) (by decide) dX5_append_49 wd_165 hx12 ?_
    refine PW.dup_x1 dX5_append_52 rfl rfl ?_
    refine PW.iconst (x := 1) dX5_append_53 (by decide) ?_
    refine PW.iadd dX5_append_54 ?_
    obtain ⟨hp13, hhp13, h⟩ := bind_some h
    refine PW.putI cls_X5 clw_X5 (j := 0) (by decide) dX5_append_55 wd_165 rfl rfl hhp13 ?_
    have h := Option.some.inj h; subst h
    exact PW.ret dX5_append_58 trivial rfl
  · rw [if_neg c6] at h
    refine PW.bipush (x := (-4)) dX5_append_9 (by decide) ?_
    have h := Option.some.inj h; subst h
    exact PW.ret dX5_append_11 trivial rfl
-- X5_drop
def f_X5_drop (a0 : Nat) (hp : PH) : Option (Int32 × PH) := (gI hp a0 4 0).bind fun x1 => (pI hp a0 4 0 0).bind fun hp2 => (pI hp2 a0 4 2 (-1)).bind fun hp3 => (some (x1, hp3))
set_option maxRecDepth 100000 in
set_option maxHeartbeats 4000000 in
theorem mf_X5_drop {K : GK} : ∀ (a0 : Nat) (hp : PH) (r : (Int32 × PH)), f_X5_drop a0 hp = some r → PM K (0) M_X5_drop [.ref (ga K a0)] hp (some (.int r.1)) r.2 := by
  intro a0 hp r h
  unfold f_X5_drop at h
  refine PM.enter (l0 := [(0, .ref (ga K a0))]) (by decide +kernel) rfl (Nat.le_of_ble_eq_true rfl) rfl ?_
  refine PW.aload_n 0 dX5_drop_0 rfl rfl ?_
  obtain ⟨x1, hx1, h⟩ := bind_some h
  refine PW.getI cls_X5 (j := 0) (by decide) dX5_drop_1 wd_165 hx1 ?_
  refine PW.istore_n (l' := [(1, .int x1), (0, .ref (ga K a0))]) dX5_drop_4 rfl (by decide) rfl ?_
  refine PW.aload_n 1 dX5_drop_5 rfl rfl ?_
  refine PW.iconst (x := 0) dX5_drop_6 (by decide) ?_
  obtain ⟨hp2, hhp2, h⟩ := bind_some h
  refine PW.putI cls_X5 clw_X5 (j := 0) (by decide) dX5_drop_7 wd_165 rfl rfl hhp2 ?_
  refine PW.aload_n 1 dX5_drop_10 rfl rfl ?_
  refine PW.iconst (x := (-1)) dX5_drop_11 (by decide) ?_
  obtain ⟨hp3, hhp3, h⟩ := bind_some h
  refine PW.putI cls_X5 clw_X5 (j := 2) (by decide) dX5_drop_12 wd_172 rfl rfl hhp3 ?_
  refine PW.iload_n 0 dX5_drop_15 rfl rfl ?_
  have h := Option.some.inj h; subst h
  exact PW.ret dX5_drop_16 trivial rfl
-- X5_allow
def f_X5_allow (a0 : Nat) (a1 : Int32) (hp : PH) : Option (Int32 × PH) := (gI hp a0 4 1).bind fun x1 => (pI hp a0 4 1 a1).bind fun hp2 => (pI hp2 a0 4 2 (-1)).bind fun hp3 => (some (x1, hp3))
set_option maxRecDepth 100000 in
set_option maxHeartbeats 4000000 in
theorem mf_X5_allow {K : GK} : ∀ (a0 : Nat) (a1 : Int32) (hp : PH) (r : (Int32 × PH)), f_X5_allow a0 a1 hp = some r → PM K (0) M_X5_allow [.ref (ga K a0), .int a1] hp (some (.int r.1)) r.2 := by
  intro a0 a1 hp r h
  unfold f_X5_allow at h
  refine PM.enter (l0 := [(0, .ref (ga K a0)), (1, .int a1)]) (by decide +kernel) rfl (Nat.le_of_ble_eq_true rfl) rfl ?_
  refine PW.aload_n 0 dX5_allow_0 rfl rfl ?_
  obtain ⟨x1, hx1, h⟩ := bind_some h
  refine PW.getI cls_X5 (j := 1) (by decide) dX5_allow_1 wd_170 hx1 ?_
  refine PW.istore_n (l' := [(2, .int x1), (0, .ref (ga K a0)), (1, .int a1)]) dX5_allow_4 rfl (by decide) rfl ?_
  refine PW.aload_n 1 dX5_allow_5 rfl rfl ?_
  refine PW.iload_n 2 dX5_allow_6 rfl rfl ?_
  obtain ⟨hp2, hhp2, h⟩ := bind_some h
  refine PW.putI cls_X5 clw_X5 (j := 1) (by decide) dX5_allow_7 wd_170 rfl rfl hhp2 ?_
  refine PW.aload_n 1 dX5_allow_10 rfl rfl ?_
  refine PW.iconst (x := (-1)) dX5_allow_11 (by decide) ?_
  obtain ⟨hp3, hhp3, h⟩ := bind_some h
  refine PW.putI cls_X5 clw_X5 (j := 2) (by decide) dX5_allow_12 wd_172 rfl rfl hhp3 ?_
  refine PW.iload_n 0 dX5_allow_15 rfl rfl ?_
  have h := Option.some.inj h; subst h
  exact PW.ret dX5_allow_16 trivial rfl
-- X5_copyFrom
def f_X5_copyFrom (a0 : Nat) (a1 : Nat) (hp : PH) : Option PH := (gI hp a1 4 0).bind fun x1 => (pI hp a0 4 0 x1).bind fun hp2 => (gI hp2 a1 4 1).bind fun x3 => (pI hp2 a0 4 1 x3).bind fun hp4 => (gI hp4 a1 4 2).bind fun x5 => (pI hp4 a0 4 2 x5).bind fun hp6 => (gR hp6 a1 4 3).bind fun x7 => (gR hp6 a0 4 3).bind fun x8 => (cA hp6 x7 0 x8 0 10 0).bind fun hp9 => (gR hp9 a1 4 4).bind fun x10 => (gR hp9 a0 4 4).bind fun x11 => (cA hp9 x10 0 x11 0 10 0).bind fun hp12 => (gR hp12 a1 4 5).bind fun x13 => (gR hp12 a0 4 5).bind fun x14 => (cA hp12 x13 0 x14 0 10 1).bind fun hp15 => some hp15
set_option maxRecDepth 100000 in
set_option maxHeartbeats 4000000 in
theorem mf_X5_copyFrom {K : GK} : ∀ (a0 : Nat) (a1 : Nat) (hp : PH) (r : PH), f_X5_copyFrom a0 a1 hp = some r → PM K (1) M_X5_copyFrom [.ref (ga K a0), .ref (ga K a1)] hp none r := by
  intro a0 a1 hp r h
  unfold f_X5_copyFrom at h
  refine PM.enter (l0 := [(0, .ref (ga K a0)), (1, .ref (ga K a1))]) (by decide +kernel) rfl (Nat.le_of_ble_eq_true rfl) rfl ?_
  refine PW.aload_n 0 dX5_copyFrom_0 rfl rfl ?_
  refine PW.aload_n 1 dX5_copyFrom_1 rfl rfl ?_
  obtain ⟨x1, hx1, h⟩ := bind_some h
  refine PW.getI cls_X5 (j := 0) (by decide) dX5_copyFrom_2 wd_165 hx1 ?_
  obtain ⟨hp2, hhp2, h⟩ := bind_some h
  refine PW.putI cls_X5 clw_X5 (j := 0) (by decide) dX5_copyFrom_5 wd_165 rfl rfl hhp2 ?_
  refine PW.aload_n 0 dX5_copyFrom_8 rfl rfl ?_
  refine PW.aload_n 1 dX5_copyFrom_9 rfl rfl ?_
  obtain ⟨x3, hx3, h⟩ := bind_some h
  refine PW.getI cls_X5 (j := 1) (by decide) dX5_copyFrom_10 wd_170 hx3 ?_
  obtain ⟨hp4, hhp4, h⟩ := bind_some h
  refine PW.putI cls_X5 clw_X5 (j := 1) (by decide) dX5_copyFrom_13 wd_170 rfl rfl hhp4 ?_
  refine PW.aload_n 0 dX5_copyFrom_16 rfl rfl ?_
  refine PW.aload_n 1 dX5_copyFrom_17 rfl rfl ?_
  obtain ⟨x5, hx5, h⟩ := bind_some h
  refine PW.getI cls_X5 (j := 2) (by decide) dX5_copyFrom_18 wd_172 hx5 ?_
  obtain ⟨hp6, hhp6, h⟩ := bind_some h
  refine PW.putI cls_X5 clw_X5 (j := 2) (by decide) dX5_copyFrom_21 wd_172 rfl rfl hhp6 ?_
  refine PW.aload_n 1 dX5_copyFrom_24 rfl rfl ?_
  obtain ⟨x7, hx7, h⟩ := bind_some h
  refine PW.getR cls_X5 (j := 3) (by decide) dX5_copyFrom_25 wd_174 hx7 ?_
  refine PW.iconst (x := 0) dX5_copyFrom_28 (by decide) ?_
  refine PW.aload_n 0 dX5_copyFrom_29 rfl rfl ?_
  obtain ⟨x8, hx8, h⟩ := bind_some h
  refine PW.getR cls_X5 (j := 3) (by decide) dX5_copyFrom_30 wd_174 hx8 ?_
  refine PW.iconst (x := 0) dX5_copyFrom_33 (by decide) ?_
  refine PW.bipush (x := 10) dX5_copyFrom_34 (by decide) ?_
  obtain ⟨hp9, hhp9, h⟩ := bind_some h
  refine PW.copy dX5_copyFrom_36 wd_864 wd_654 wd_653 wd_72 rm_fr rm_lo hhp9 ?_
  refine PW.aload_n 1 dX5_copyFrom_39 rfl rfl ?_
  obtain ⟨x10, hx10, h⟩ := bind_some h
  refine PW.getR cls_X5 (j := 4) (by decide) dX5_copyFrom_40 wd_177 hx10 ?_
  refine PW.iconst (x := 0) dX5_copyFrom_43 (by decide) ?_
  refine PW.aload_n 0 dX5_copyFrom_44 rfl rfl ?_
  obtain ⟨x11, hx11, h⟩ := bind_some h
  refine PW.getR cls_X5 (j := 4) (by decide) dX5_copyFrom_45 wd_177 hx11 ?_
  refine PW.iconst (x := 0) dX5_copyFrom_48 (by decide) ?_
  refine PW.bipush (x := 10) dX5_copyFrom_49 (by decide) ?_
  obtain ⟨hp12, hhp12, h⟩ := bind_some h
  refine PW.copy dX5_copyFrom_51 wd_864 wd_654 wd_653 wd_72 rm_fr rm_lo hhp12 ?_
  refine PW.aload_n 1 dX5_copyFrom_54 rfl rfl ?_
  obtain ⟨x13, hx13, h⟩ := bind_some h
  refine PW.getR cls_X5 (j := 5) (by decide) dX5_copyFrom_55 wd_180 hx13 ?_
  refine PW.iconst (x := 0) dX5_copyFrom_58 (by decide) ?_
  refine PW.aload_n 0 dX5_copyFrom_59 rfl rfl ?_
  obtain ⟨x14, hx14, h⟩ := bind_some h
  refine PW.getR cls_X5 (j := 5) (by decide) dX5_copyFrom_60 wd_180 hx14 ?_
  refine PW.iconst (x := 0) dX5_copyFrom_63 (by decide) ?_
  refine PW.bipush (x := 10) dX5_copyFrom_64 (by decide) ?_
  obtain ⟨hp15, hhp15, h⟩ := bind_some h
  refine PW.copy dX5_copyFrom_66 wd_864 wd_654 wd_653 wd_72 rm_fr rm_lo hhp15 ?_
  have h := Option.some.inj h
  subst h
  exact PW.ret dX5_copyFrom_69 trivial rfl
-- X7_empty
def f_X7_empty (a0 : Nat) (hp : PH) : Option PH := (pI hp a0 6 0 0).bind fun hp1 => (pI hp1 a0 6 1 0).bind fun hp2 => some hp2
set_option maxRecDepth 100000 in
set_option maxHeartbeats 4000000 in
theorem mf_X7_empty {K : GK} : ∀ (a0 : Nat) (hp : PH) (r : PH), f_X7_empty a0 hp = some r → PM K (0) M_X7_empty [.ref (ga K a0)] hp none r := by
  intro a0 hp r h
  unfold f_X7_empty at h
  refine PM.enter (l0 := [(0, .ref (ga K a0))]) (by decide +kernel) rfl (Nat.le_of_ble_eq_true rfl) rfl ?_
  refine PW.aload_n 0 dX7_empty_0 rfl rfl ?_
  refine PW.iconst (x := 0) dX7_empty_1 (by decide) ?_
  obtain ⟨hp1, hhp1, h⟩ := bind_some h
  refine PW.putI cls_X7 clw_X7 (j := 0) (by decide) dX7_empty_2 wd_97 rfl rfl hhp1 ?_
  refine PW.aload_n 0 dX7_empty_5 rfl rfl ?_
  refine PW.iconst (x := 0) dX7_empty_6 (by decide) ?_
  obtain ⟨hp2, hhp2, h⟩ := bind_some h
  refine PW.putI cls_X7 clw_X7 (j := 1) (by decide) dX7_empty_7 wd_101 rfl rfl hhp2 ?_
  have h := Option.some.inj h
  subst h
  exact PW.ret dX7_empty_10 trivial rfl
-- X6_kindOf
def f_X6_kindOf (a0 : Int32) : Int32 := (if a0 = (-1) then (0) else (if a0 < 97 then (if a0 < 48 then (if a0 = 59 then (3) else (4)) else (if 57 < a0 then (if a0 = 59 then (3) else (4)) else (2))) else (if 122 < a0 then (if a0 < 48 then (if a0 = 59 then (3) else (4)) else (if 57 < a0 then (if a0 = 59 then (3) else (4)) else (2))) else (1))))
set_option maxRecDepth 100000 in
set_option maxHeartbeats 4000000 in
theorem mf_X6_kindOf {K : GK} {hp : PH} : ∀ (a0 : Int32) (r : Int32), f_X6_kindOf a0 = r → PM K (0) M_X6_kindOf [.int a0] hp (some (.int r)) hp := by
  intro a0 r h
  unfold f_X6_kindOf at h
  refine PM.enter (l0 := [(0, .int a0)]) (by decide +kernel) rfl (Nat.le_of_ble_eq_true rfl) rfl ?_
  refine PW.iload_n 0 dX6_kindOf_0 rfl rfl ?_
  refine PW.iconst (x := (-1)) dX6_kindOf_1 (by decide) ?_
  refine PW.icmp_ne (tgt := 7) dX6_kindOf_2 (by decide) (fun c2 => ?_) (fun c2 => ?_)
  · rw [if_neg c2] at h
    refine PW.iload_n 0 dX6_kindOf_7 rfl rfl ?_
    refine PW.bipush (x := 97) dX6_kindOf_8 (by decide) ?_
    refine PW.icmp_lt (tgt := 21) dX6_kindOf_10 (by decide) (fun c10 => ?_) (fun c10 => ?_)
    · rw [if_pos c10] at h
      refine PW.iload_n 0 dX6_kindOf_21 rfl rfl ?_
      refine PW.bipush (x := 48) dX6_kindOf_22 (by decide) ?_
      refine PW.icmp_lt (tgt := 35) dX6_kindOf_24 (by decide) (fun c24 => ?_) (fun c24 => ?_)
      · rw [if_pos c24] at h
        refine PW.iload_n 0 dX6_kindOf_35 rfl rfl ?_
        refine PW.bipush (x := 59) dX6_kindOf_36 (by decide) ?_
        refine PW.icmp_ne (tgt := 45) dX6_kindOf_38 (by decide) (fun c38 => ?_) (fun c38 => ?_)
        · rw [if_neg c38] at h
          refine PW.iconst (x := 4) dX6_kindOf_45 (by decide) ?_
          subst h
          exact PW.ret dX6_kindOf_46 trivial rfl
        · rw [if_pos c38] at h
          refine PW.iconst (x := 3) dX6_kindOf_41 (by decide) ?_
          refine PW.goto (tgt := 46) dX6_kindOf_42 (by decide) ?_
          subst h
          exact PW.ret dX6_kindOf_46 trivial rfl
      · rw [if_neg c24] at h
        refine PW.iload_n 0 dX6_kindOf_27 rfl rfl ?_
        refine PW.bipush (x := 57) dX6_kindOf_28 (by decide) ?_
        refine PW.icmp_gt (tgt := 35) dX6_kindOf_30 (by decide) (fun c30 => ?_) (fun c30 => ?_)
        · rw [if_pos c30] at h
          refine PW.iload_n 0 dX6_kindOf_35 rfl rfl ?_
          refine PW.bipush (x := 59) dX6_kindOf_36 (by decide) ?_
          refine PW.icmp_ne (tgt := 45) dX6_kindOf_38 (by decide) (fun c38 => ?_) (fun c38 => ?_)
          · rw [if_neg c38] at h
            refine PW.iconst (x := 4) dX6_kindOf_45 (by decide) ?_
            subst h
            exact PW.ret dX6_kindOf_46 trivial rfl
          · rw [if_pos c38] at h
            refine PW.iconst (x := 3) dX6_kindOf_41 (by decide) ?_
            refine PW.goto (tgt := 46) dX6_kindOf_42 (by decide) ?_
            subst h
            exact PW.ret dX6_kindOf_46 trivial rfl
        · rw [if_neg c30] at h
          refine PW.iconst (x := 2) dX6_kindOf_33 (by decide) ?_
          subst h
          exact PW.ret dX6_kindOf_34 trivial rfl
    · rw [if_neg c10] at h
      refine PW.iload_n 0 dX6_kindOf_13 rfl rfl ?_
      refine PW.bipush (x := 122) dX6_kindOf_14 (by decide) ?_
      refine PW.icmp_gt (tgt := 21) dX6_kindOf_16 (by decide) (fun c16 => ?_) (fun c16 => ?_)
      · rw [if_pos c16] at h
        refine PW.iload_n 0 dX6_kindOf_21 rfl rfl ?_
        refine PW.bipush (x := 48) dX6_kindOf_22 (by decide) ?_
        refine PW.icmp_lt (tgt := 35) dX6_kindOf_24 (by decide) (fun c24 => ?_) (fun c24 => ?_)
        · rw [if_pos c24] at h
          refine PW.iload_n 0 dX6_kindOf_35 rfl rfl ?_
          refine PW.bipush (x := 59) dX6_kindOf_36 (by decide) ?_
          refine PW.icmp_ne (tgt := 45) dX6_kindOf_38 (by decide) (fun c38 => ?_) (fun c38 => ?_)
          · rw [if_neg c38] at h
            refine PW.iconst (x := 4) dX6_kindOf_45 (by decide) ?_
            subst h
            exact PW.ret dX6_kindOf_46 trivial rfl
          · rw [if_pos c38] at h
            refine PW.iconst (x := 3) dX6_kindOf_41 (by decide) ?_
            refine PW.goto (tgt := 46) dX6_kindOf_42 (by decide) ?_
            subst h
            exact PW.ret dX6_kindOf_46 trivial rfl
        · rw [if_neg c24] at h
          refine PW.iload_n 0 dX6_kindOf_27 rfl rfl ?_
          refine PW.bipush (x := 57) dX6_kindOf_28 (by decide) ?_
          refine PW.icmp_gt (tgt := 35) dX6_kindOf_30 (by decide) (fun c30 => ?_) (fun c30 => ?_)
          · rw [if_pos c30] at h
            refine PW.iload_n 0 dX6_kindOf_35 rfl rfl ?_
            refine PW.bipush (x := 59) dX6_kindOf_36 (by decide) ?_
            refine PW.icmp_ne (tgt := 45) dX6_kindOf_38 (by decide) (fun c38 => ?_) (fun c38 => ?_)
            · rw [if_neg c38] at h
              refine PW.iconst (x := 4) dX6_kindOf_45 (by decide) ?_
              subst h
              exact PW.ret dX6_kindOf_46 trivial rfl
            · rw [if_pos c38] at h
              refine PW.iconst (x := 3) dX6_kindOf_41 (by decide) ?_
              refine PW.goto (tgt := 46) dX6_kindOf_42 (by decide) ?_
              subst h
              exact PW.ret dX6_kindOf_46 trivial rfl
          · rw [if_neg c30] at h
            refine PW.iconst (x := 2) dX6_kindOf_33 (by decide) ?_
            subst h
            exact PW.ret dX6_kindOf_34 trivial rfl
      · rw [if_neg c16] at h
        refine PW.iconst (x := 1) dX6_kindOf_19 (by decide) ?_
        subst h
        exact PW.ret dX6_kindOf_20 trivial rfl
  · rw [if_pos c2] at h
    refine PW.iconst (x := 0) dX6_kindOf_5 (by decide) ?_
    subst h
    exact PW.ret dX6_kindOf_6 trivial rfl
-- X6_takeToken
def f_X6_takeToken_L85 : Nat → Nat → PH → Option PH
  | 0, _, _ => none
  | n + 1, a0, hp => (gI hp a0 5 3).bind fun x12 => (gR hp a0 5 0).bind fun x13 => (gI hp x13 0 0).bind fun x14 => (if x14 ≤ x12 then some hp else (gR hp a0 5 0).bind fun x15 => (gI hp a0 5 3).bind fun x16 => (vC hp x15 0 (f_X0_at x15 x16 hp)).bind fun q17 => (gI hp a0 5 4).bind fun x19 => (if (f_X6_kindOf q17) = x19 then (gI hp a0 5 3).bind fun x20 => (pI hp a0 5 3 (x20 + 1)).bind fun hp21 => ((f_X6_takeToken_L85 n) a0 hp21) else some hp))
def f_X6_takeToken_J43 (a0 : Nat) (hp : PH) : Option PH := (gI hp a0 5 3).bind fun x4 => (pI hp a0 5 2 x4).bind fun hp5 => (gR hp5 a0 5 0).bind fun x6 => (gI hp5 a0 5 2).bind fun x7 => (vC hp5 x6 0 (f_X0_at x6 x7 hp5)).bind fun q8 => (pI hp5 a0 5 4 (f_X6_kindOf q8)).bind fun hp10 => (gI hp10 a0 5 4).bind fun x11 => (if x11 = 1 then (f_X6_takeToken_L85 NN a0 hp10) else (gI hp10 a0 5 4).bind fun x22 => (if x22 = 2 then (f_X6_takeToken_L85 NN a0 hp10) else (gI hp10 a0 5 4).bind fun x23 => (if x23 = 0 then some hp10 else (gI hp10 a0 5 3).bind fun x24 => (pI hp10 a0 5 3 (x24 + 1)).bind fun hp25 => some hp25)))
def f_X6_takeToken_L0 : Nat → Nat → PH → Option PH
  | 0, _, _ => none
  | n + 1, a0, hp => (gI hp a0 5 3).bind fun x1 => (gR hp a0 5 0).bind fun x2 => (gI hp x2 0 0).bind fun x3 => (if x3 ≤ x1 then (f_X6_takeToken_J43 a0 hp) else (gR hp a0 5 0).bind fun x26 => (gI hp a0 5 3).bind fun x27 => (vC hp x26 0 (f_X0_at x26 x27 hp)).bind fun q28 => (if q28 = 32 then (gI hp a0 5 3).bind fun x29 => (pI hp a0 5 3 (x29 + 1)).bind fun hp30 => ((f_X6_takeToken_L0 n) a0 hp30) else (f_X6_takeToken_J43 a0 hp)))
def f_X6_takeToken (a0 : Nat) (hp : PH) : Option PH := (f_X6_takeToken_L0 NN a0 hp)
set_option maxRecDepth 100000 in
set_option maxHeartbeats 4000000 in
theorem mf_X6_takeToken_L85 {K : GK} : ∀ (n : Nat) (a0 : Nat) (hp : PH) (r : PH), f_X6_takeToken_L85 n a0 hp = some r → PW K (rmD (1)) 0 0 M_X6_takeToken 85 [(0, .ref (ga K a0))] [] hp none r := by
  intro n
  induction n with
  | zero =>
    intro a0 hp r h
    rw [f_X6_takeToken_L85] at h
    cases h
  | succ n ih =>
    intro a0 hp r h
    rw [f_X6_takeToken_L85] at h
    refine PW.aload_n 0 dX6_takeToken_85 rfl rfl ?_
    obtain ⟨x12, hx12, h⟩ := bind_some h
    refine PW.getI cls_X6 (j := 3) (by decide) dX6_takeToken_86 wd_226 hx12 ?_
    refine PW.aload_n 0 dX6_takeToken_89 rfl rfl ?_
    obtain ⟨x13, hx13, h⟩ := bind_some h
    refine PW.getR cls_X6 (j := 0) (by decide) dX6_takeToken_90 wd_223 hx13 ?_
    obtain ⟨x14, hx14, h⟩ := bind_some h
    refine PW.getI cls_X0 (j := 0) (by decide) dX6_takeToken_93 wd_152 hx14 ?_
    refine PW.icmp_ge (tgt := 150) dX6_takeToken_96 (by decide) (fun c96 => ?_) (fun c96 => ?_)
    · rw [if_pos c96] at h
      have h := Option.some.inj h
      subst h
      exact PW.ret dX6_takeToken_150 trivial rfl
    · rw [if_neg c96] at h
      refine PW.aload_n 0 dX6_takeToken_99 rfl rfl ?_
      obtain ⟨x15, hx15, h⟩ := bind_some h
      refine PW.getR cls_X6 (j := 0) (by decide) dX6_takeToken_100 wd_223 hx15 ?_
      refine PW.aload_n 0 dX6_takeToken_103 rfl rfl ?_
      obtain ⟨x16, hx16, h⟩ := bind_some h
      refine PW.getI cls_X6 (j := 3) (by decide) dX6_takeToken_104 wd_226 hx16 ?_
      obtain ⟨q17, hq17, h⟩ := bind_some h
      obtain ⟨hkq17, hcq17, hq17⟩ := vC_spec hq17
      refine PW.callVi (As := [.int x16]) (rest := []) (k := x15) cal_X0_at dX6_takeToken_107 wd_556 rfl rfl (rmLe (by omega)) (Nat.le_of_ble_eq_true rfl) rm_0 hkq17 hcq17 (mf_X0_at x15 x16 hp _ hq17) ?_
      refine PW.callSi (As := [.int q17]) (rest := []) cal_X6_kindOf dX6_takeToken_110 wd_560 rfl rfl (rmLe (by omega)) (Nat.le_of_ble_eq_true rfl) rm_0 (mf_X6_kindOf q17 _ rfl) ?_
      refine PW.aload_n 0 dX6_takeToken_113 rfl rfl ?_
      obtain ⟨x19, hx19, h⟩ := bind_some h
      refine PW.getI cls_X6 (j := 4) (by decide) dX6_takeToken_114 wd_227 hx19 ?_
      refine PW.icmp_ne (tgt := 150) dX6_takeToken_117 (by decide) (fun c117 => ?_) (fun c117 => ?_)
      · rw [if_neg c117] at h
        have h := Option.some.inj h
        subst h
        exact PW.ret dX6_takeToken_150 trivial rfl
      · rw [if_pos c117] at h
        refine PW.aload_n 0 dX6_takeToken_120 rfl rfl ?_
        refine PW.dup dX6_takeToken_121 rfl ?_
        obtain ⟨x20, hx20, h⟩ := bind_some h
        refine PW.getI cls_X6 (j := 3) (by decide) dX6_takeToken_122 wd_226 hx20 ?_
        refine PW.iconst (x := 1) dX6_takeToken_125 (by decide) ?_
        refine PW.iadd dX6_takeToken_126 ?_
        obtain ⟨hp21, hhp21, h⟩ := bind_some h
        refine PW.putI cls_X6 clw_X6 (j := 3) (by decide) dX6_takeToken_127 wd_226 rfl rfl hhp21 ?_
        refine PW.goto (tgt := 85) dX6_takeToken_130 (by decide) ?_
        exact PW.sub (l' := [(0, .ref (ga K a0))]) [0] rfl (ih a0 hp21 _ h)
set_option maxRecDepth 100000 in
set_option maxHeartbeats 4000000 in
theorem mf_X6_takeToken_J43 {K : GK} : ∀ (a0 : Nat) (hp : PH) (r : PH), f_X6_takeToken_J43 a0 hp = some r → PW K (rmD (1)) 0 0 M_X6_takeToken 43 [(0, .ref (ga K a0))] [] hp none r := by
  intro a0 hp r h
  unfold f_X6_takeToken_J43 at h
  refine PW.aload_n 0 dX6_takeToken_43 rfl rfl ?_
  refine PW.aload_n 0 dX6_takeToken_44 rfl rfl ?_
  obtain ⟨x4, hx4, h⟩ := bind_some h
  refine PW.getI cls_X6 (j := 3) (by decide) dX6_takeToken_45 wd_226 hx4 ?_
  obtain ⟨hp5, hhp5, h⟩ := bind_some h
  refine PW.putI cls_X6 clw_X6 (j := 2) (by decide) dX6_takeToken_48 wd_225 rfl rfl hhp5 ?_
  refine PW.aload_n 0 dX6_takeToken_51 rfl rfl ?_
  refine PW.aload_n 0 dX6_takeToken_52 rfl rfl ?_
  obtain ⟨x6, hx6, h⟩ := bind_some h
  refine PW.getR cls_X6 (j := 0) (by decide) dX6_takeToken_53 wd_223 hx6 ?_
  refine PW.aload_n 0 dX6_takeToken_56 rfl rfl ?_
  obtain ⟨x7, hx7, h⟩ := bind_some h
  refine PW.getI cls_X6 (j := 2) (by decide) dX6_takeToken_57 wd_225 hx7 ?_
  obtain ⟨q8, hq8, h⟩ := bind_some h
  obtain ⟨hkq8, hcq8, hq8⟩ := vC_spec hq8
  refine PW.callVi (As := [.int x7]) (rest := [.ref (ga K a0)]) (k := x6) cal_X0_at dX6_takeToken_60 wd_556 rfl rfl (rmLe (by omega)) (Nat.le_of_ble_eq_true rfl) rm_0 hkq8 hcq8 (mf_X0_at x6 x7 hp5 _ hq8) ?_
  refine PW.callSi (As := [.int q8]) (rest := [.ref (ga K a0)]) cal_X6_kindOf dX6_takeToken_63 wd_560 rfl rfl (rmLe (by omega)) (Nat.le_of_ble_eq_true rfl) rm_0 (mf_X6_kindOf q8 _ rfl) ?_
  obtain ⟨hp10, hhp10, h⟩ := bind_some h
  refine PW.putI cls_X6 clw_X6 (j := 4) (by decide) dX6_takeToken_66 wd_227 rfl rfl hhp10 ?_
  refine PW.aload_n 0 dX6_takeToken_69 rfl rfl ?_
  obtain ⟨x11, hx11, h⟩ := bind_some h
  refine PW.getI cls_X6 (j := 4) (by decide) dX6_takeToken_70 wd_227 hx11 ?_
  refine PW.iconst (x := 1) dX6_takeToken_73 (by decide) ?_
  refine PW.icmp_eq (tgt := 85) dX6_takeToken_74 (by decide) (fun c74 => ?_) (fun c74 => ?_)
  · rw [if_pos c74] at h
    exact PW.sub (l' := [(0, .ref (ga K a0))]) [0] rfl (mf_X6_takeToken_L85 NN a0 hp10 _ h)
  · rw [if_neg c74] at h
    refine PW.aload_n 0 dX6_takeToken_77 rfl rfl ?_
    obtain ⟨x22, hx22, h⟩ := bind_some h
    refine PW.getI cls_X6 (j := 4) (by decide) dX6_takeToken_78 wd_227 hx22 ?_
    refine PW.iconst (x := 2) dX6_takeToken_81 (by decide) ?_
    refine PW.icmp_ne (tgt := 133) dX6_takeToken_82 (by decide) (fun c82 => ?_) (fun c82 => ?_)
    · rw [if_neg c82] at h
      refine PW.aload_n 0 dX6_takeToken_133 rfl rfl ?_
      obtain ⟨x23, hx23, h⟩ := bind_some h
      refine PW.getI cls_X6 (j := 4) (by decide) dX6_takeToken_134 wd_227 hx23 ?_
      refine PW.if_eq (tgt := 150) dX6_takeToken_137 (by decide) (fun c137 => ?_) (fun c137 => ?_)
      · rw [if_pos c137] at h
        have h := Option.some.inj h
        subst h
        exact PW.ret dX6_takeToken_150 trivial rfl
      · rw [if_neg c137] at h
        refine PW.aload_n 0 dX6_takeToken_140 rfl rfl ?_
        refine PW.dup dX6_takeToken_141 rfl ?_
        obtain ⟨x24, hx24, h⟩ := bind_some h
        refine PW.getI cls_X6 (j := 3) (by decide) dX6_takeToken_142 wd_226 hx24 ?_
        refine PW.iconst (x := 1) dX6_takeToken_145 (by decide) ?_
        refine PW.iadd dX6_takeToken_146 ?_
        obtain ⟨hp25, hhp25, h⟩ := bind_some h
        refine PW.putI cls_X6 clw_X6 (j := 3) (by decide) dX6_takeToken_147 wd_226 rfl rfl hhp25 ?_
        have h := Option.some.inj h
        subst h
        exact PW.ret dX6_takeToken_150 trivial rfl
    · rw [if_pos c82] at h
      exact PW.sub (l' := [(0, .ref (ga K a0))]) [0] rfl (mf_X6_takeToken_L85 NN a0 hp10 _ h)
set_option maxRecDepth 100000 in
set_option maxHeartbeats 4000000 in
theorem mf_X6_takeToken_L0 {K : GK} : ∀ (n : Nat) (a0 : Nat) (hp : PH) (r : PH), f_X6_takeToken_L0 n a0 hp = some r → PW K (rmD (1)) 0 0 M_X6_takeToken 0 [(0, .ref (ga K a0))] [] hp none r := by
  intro n
  induction n with
  | zero =>
    intro a0 hp r h
    rw [f_X6_takeToken_L0] at h
    cases h
  | succ n ih =>
    intro a0 hp r h
    rw [f_X6_takeToken_L0] at h
    refine PW.aload_n 0 dX6_takeToken_0 rfl rfl ?_
    obtain ⟨x1, hx1, h⟩ := bind_some h
    refine PW.getI cls_X6 (j := 3) (by decide) dX6_takeToken_1 wd_226 hx1 ?_
    refine PW.aload_n 0 dX6_takeToken_4 rfl rfl ?_
    obtain ⟨x2, hx2, h⟩ := bind_some h
    refine PW.getR cls_X6 (j := 0) (by decide) dX6_takeToken_5 wd_223 hx2 ?_
    obtain ⟨x3, hx3, h⟩ := bind_some h
    refine PW.getI cls_X0 (j := 0) (by decide) dX6_takeToken_8 wd_152 hx3 ?_
    refine PW.icmp_ge (tgt := 43) dX6_takeToken_11 (by decide) (fun c11 => ?_) (fun c11 => ?_)
    · rw [if_pos c11] at h
      exact PW.sub (l' := [(0, .ref (ga K a0))]) [0] rfl (mf_X6_takeToken_J43 a0 hp _ h)
    · rw [if_neg c11] at h
      refine PW.aload_n 0 dX6_takeToken_14 rfl rfl ?_
      obtain ⟨x26, hx26, h⟩ := bind_some h
      refine PW.getR cls_X6 (j := 0) (by decide) dX6_takeToken_15 wd_223 hx26 ?_
      refine PW.aload_n 0 dX6_takeToken_18 rfl rfl ?_
      obtain ⟨x27, hx27, h⟩ := bind_some h
      refine PW.getI cls_X6 (j := 3) (by decide) dX6_takeToken_19 wd_226 hx27 ?_
      obtain ⟨q28, hq28, h⟩ := bind_some h
      obtain ⟨hkq28, hcq28, hq28⟩ := vC_spec hq28
      refine PW.callVi (As := [.int x27]) (rest := []) (k := x26) cal_X0_at dX6_takeToken_22 wd_556 rfl rfl (rmLe (by omega)) (Nat.le_of_ble_eq_true rfl) rm_0 hkq28 hcq28 (mf_X0_at x26 x27 hp _ hq28) ?_
      refine PW.bipush (x := 32) dX6_takeToken_25 (by decide) ?_
      refine PW.icmp_ne (tgt := 43) dX6_takeToken_27 (by decide) (fun c27 => ?_) (fun c27 => ?_)
      · rw [if_neg c27] at h
        exact PW.sub (l' := [(0, .ref (ga K a0))]) [0] rfl (mf_X6_takeToken_J43 a0 hp _ h)
      · rw [if_pos c27] at h
        refine PW.aload_n 0 dX6_takeToken_30 rfl rfl ?_
        refine PW.dup dX6_takeToken_31 rfl ?_
        obtain ⟨x29, hx29, h⟩ := bind_some h
        refine PW.getI cls_X6 (j := 3) (by decide) dX6_takeToken_32 wd_226 hx29 ?_
        refine PW.iconst (x := 1) dX6_takeToken_35 (by decide) ?_
        refine PW.iadd dX6_takeToken_36 ?_
        obtain ⟨hp30, hhp30, h⟩ := bind_some h
        refine PW.putI cls_X6 clw_X6 (j := 3) (by decide) dX6_takeToken_37 wd_226 rfl rfl hhp30 ?_
        refine PW.goto (tgt := 0) dX6_takeToken_40 (by decide) ?_
        exact PW.sub (l' := [(0, .ref (ga K a0))]) [0] rfl (ih a0 hp30 _ h)
set_option maxRecDepth 100000 in
set_option maxHeartbeats 4000000 in
theorem mf_X6_takeToken {K : GK} : ∀ (a0 : Nat) (hp : PH) (r : PH), f_X6_takeToken a0 hp = some r → PM K (1) M_X6_takeToken [.ref (ga K a0)] hp none r := by
  intro a0 hp r h
  unfold f_X6_takeToken at h
  refine PM.enter (l0 := [(0, .ref (ga K a0))]) (by decide +kernel) rfl (Nat.le_of_ble_eq_true rfl) rfl ?_
  exact PW.sub (l' := [(0, .ref (ga K a0))]) [0] rfl (mf_X6_takeToken_L0 NN a0 hp _ h)
-- X6_isWord
def f_X6_isWord_L28 : Nat → Nat → Nat → Int32 → PH → Option Int32
  | 0, _, _, _, _ => none
  | n + 1, a0, a1, a2, hp => (sLn a1).bind fun x5 => (if x5 ≤ a2 then (some 1) else (gR hp a0 5 0).bind fun x6 => (gI hp a0 5 2).bind fun x7 => (vC hp x6 0 (f_X0_at x6 (x7 + a2) hp)).bind fun q8 => (sCh a1 a2).bind fun x9 => (if q8 = x9 then ((f_X6_isWord_L28 n) a0 a1 (a2 + 1) hp) else (some 0)))
def f_X6_isWord (a0 : Nat) (a1 : Nat) (hp : PH) : Option Int32 := (gI hp a0 5 4).bind fun x1 => (if x1 = 1 then (gI hp a0 5 3).bind fun x2 => (gI hp a0 5 2).bind fun x3 => (sLn a1).bind fun x4 => (if (x2 - x3) = x4 then (f_X6_isWord_L28 NN a0 a1 0 hp) else (some 0)) else (some 0))
set_option maxRecDepth 100000 in
set_option maxHeartbeats 4000000 in
theorem mf_X6_isWord_L28 {K : GK} : ∀ (n : Nat) (a0 : Nat) (a1 : Nat) (a2 : Int32) (hp : PH) (r : Int32), f_X6_isWord_L28 n a0 a1 a2 hp = some r → PW K (rmD (6)) 0 0 M_X6_isWord 28 [(0, .ref (ga K a0)), (1, .ref (gsK K a1)), (2, .int a2)] [] hp (some (.int r)) hp := by
  intro n
  induction n with
  | zero =>
    intro a0 a1 a2 hp r h
    rw [f_X6_isWord_L28] at h
    cases h
  | succ n ih =>
    intro a0 a1 a2 hp r h
    rw [f_X6_isWord_L28] at h
    refine PW.iload_n 2 dX6_isWord_28 rfl rfl ?_
    refine PW.aload_n 1 dX6_isWord_29 rfl rfl ?_
    obtain ⟨x5, hx5, h⟩ := bind_some h
    refine PW.sLen (rest := [.int a2]) dX6_isWord_30 wd_572 (rmLe (by omega)) (Nat.le_of_ble_eq_true rfl) rm_0 hx5 ?_
    refine PW.icmp_ge (tgt := 65) dX6_isWord_33 (by decide) (fun c33 => ?_) (fun c33 => ?_)
    · rw [if_pos c33] at h
      refine PW.iconst (x := 1) dX6_isWord_65 (by decide) ?_
      have h := Option.some.inj h; subst h
      exact PW.ret dX6_isWord_66 (z_nar (Or.inr rfl)).1 rfl
    · rw [if_neg c33] at h
      refine PW.aload_n 0 dX6_isWord_36 rfl rfl ?_
      obtain ⟨x6, hx6, h⟩ := bind_some h
      refine PW.getR cls_X6 (j := 0) (by decide) dX6_isWord_37 wd_223 hx6 ?_
      refine PW.aload_n 0 dX6_isWord_40 rfl rfl ?_
      obtain ⟨x7, hx7, h⟩ := bind_some h
      refine PW.getI cls_X6 (j := 2) (by decide) dX6_isWord_41 wd_225 hx7 ?_
      refine PW.iload_n 2 dX6_isWord_44 rfl rfl ?_
      refine PW.iadd dX6_isWord_45 ?_
      obtain ⟨q8, hq8, h⟩ := bind_some h
      obtain ⟨hkq8, hcq8, hq8⟩ := vC_spec hq8
      refine PW.callVi (As := [.int (x7 + a2)]) (rest := []) (k := x6) cal_X0_at dX6_isWord_46 wd_556 rfl rfl (rmLe (by omega)) (Nat.le_of_ble_eq_true rfl) rm_0 hkq8 hcq8 (mf_X0_at x6 (x7 + a2) hp _ hq8) ?_
      refine PW.aload_n 1 dX6_isWord_49 rfl rfl ?_
      refine PW.iload_n 2 dX6_isWord_50 rfl rfl ?_
      obtain ⟨x9, hx9, h⟩ := bind_some h
      refine PW.sChr (rest := [.int q8]) dX6_isWord_51 wd_582 (rmLe (by omega)) (Nat.le_of_ble_eq_true rfl) rm_0 hx9 ?_
      refine PW.icmp_eq (tgt := 59) dX6_isWord_54 (by decide) (fun c54 => ?_) (fun c54 => ?_)
      · rw [if_pos c54] at h
        refine PW.iinc 2 (l' := [(2, .int (a2 + 1)), (0, .ref (ga K a0)), (1, .ref (gsK K a1))]) dX6_isWord_59 rfl (x := a2) (y := (a2 + 1)) rfl (by decide) rfl ?_
        refine PW.goto (tgt := 28) dX6_isWord_62 (by decide) ?_
        exact PW.sub (l' := [(0, .ref (ga K a0)), (1, .ref (gsK K a1)), (2, .int (a2 + 1))]) [1, 2, 0] rfl (ih a0 a1 (a2 + 1) hp _ h)
      · rw [if_neg c54] at h
        refine PW.iconst (x := 0) dX6_isWord_57 (by decide) ?_
        have h := Option.some.inj h; subst h
        exact PW.ret dX6_isWord_58 (z_nar (Or.inl rfl)).1 rfl
set_option maxRecDepth 100000 in
set_option maxHeartbeats 4000000 in
theorem mf_X6_isWord {K : GK} : ∀ (a0 : Nat) (a1 : Nat) (hp : PH) (r : Int32), f_X6_isWord a0 a1 hp = some r → PM K (6) M_X6_isWord [.ref (ga K a0), .ref (gsK K a1)] hp (some (.int r)) hp := by
  intro a0 a1 hp r h
  unfold f_X6_isWord at h
  refine PM.enter (l0 := [(0, .ref (ga K a0)), (1, .ref (gsK K a1))]) (by decide +kernel) rfl (Nat.le_of_ble_eq_true rfl) rfl ?_
  refine PW.aload_n 0 dX6_isWord_0 rfl rfl ?_
  obtain ⟨x1, hx1, h⟩ := bind_some h
  refine PW.getI cls_X6 (j := 4) (by decide) dX6_isWord_1 wd_227 hx1 ?_
  refine PW.iconst (x := 1) dX6_isWord_4 (by decide) ?_
  refine PW.icmp_ne (tgt := 24) dX6_isWord_5 (by decide) (fun c5 => ?_) (fun c5 => ?_)
  · rw [if_neg c5] at h
    refine PW.iconst (x := 0) dX6_isWord_24 (by decide) ?_
    have h := Option.some.inj h; subst h
    exact PW.ret dX6_isWord_25 (z_nar (Or.inl rfl)).1 rfl
  · rw [if_pos c5] at h
    refine PW.aload_n 0 dX6_isWord_8 rfl rfl ?_
    obtain ⟨x2, hx2, h⟩ := bind_some h
    refine PW.getI cls_X6 (j := 3) (by decide) dX6_isWord_9 wd_226 hx2 ?_
    refine PW.aload_n 0 dX6_isWord_12 rfl rfl ?_
    obtain ⟨x3, hx3, h⟩ := bind_some h
    refine PW.getI cls_X6 (j := 2) (by decide) dX6_isWord_13 wd_225 hx3 ?_
    refine PW.isub dX6_isWord_16 ?_
    refine PW.aload_n 1 dX6_isWord_17 rfl rfl ?_
    obtain ⟨x4, hx4, h⟩ := bind_some h
    refine PW.sLen (rest := [.int (x2 - x3)]) dX6_isWord_18 wd_572 (rmLe (by omega)) (Nat.le_of_ble_eq_true rfl) rm_0 hx4 ?_
    refine PW.icmp_eq (tgt := 26) dX6_isWord_21 (by decide) (fun c21 => ?_) (fun c21 => ?_)
    · rw [if_pos c21] at h
      refine PW.iconst (x := 0) dX6_isWord_26 (by decide) ?_
      refine PW.istore_n (l' := [(2, .int 0), (0, .ref (ga K a0)), (1, .ref (gsK K a1))]) dX6_isWord_27 rfl (by decide) rfl ?_
      exact PW.sub (l' := [(0, .ref (ga K a0)), (1, .ref (gsK K a1)), (2, .int 0)]) [1, 2, 0] rfl (mf_X6_isWord_L28 NN a0 a1 0 hp _ h)
    · rw [if_neg c21] at h
      refine PW.iconst (x := 0) dX6_isWord_24 (by decide) ?_
      have h := Option.some.inj h; subst h
      exact PW.ret dX6_isWord_25 (z_nar (Or.inl rfl)).1 rfl
-- X6_takeNumber
def f_X6_takeNumber_L37 : Nat → Nat → Int32 → Int32 → Int32 → PH → Option (Int32 × PH)
  | 0, _, _, _, _, _ => none
  | n + 1, a0, a1, a2, a3, hp => (gI hp a0 5 3).bind fun x7 => (if x7 ≤ a3 then (gI hp a0 5 5).bind fun x8 => (if x8 < a1 then (some (0, hp)) else (gI hp a0 5 5).bind fun x9 => (if a2 < x9 then (some (0, hp)) else (some (1, hp)))) else (gI hp a0 5 5).bind fun x10 => (gR hp a0 5 0).bind fun x11 => (vC hp x11 0 (f_X0_at x11 a3 hp)).bind fun q12 => (pI hp a0 5 5 (((10 * x10) + q12) - 48)).bind fun hp13 => ((f_X6_takeNumber_L37 n) a0 a1 a2 (a3 + 1) hp13))
def f_X6_takeNumber (a0 : Nat) (a1 : Int32) (a2 : Int32) (hp : PH) : Option (Int32 × PH) := (vC hp a0 5 (f_X6_takeToken a0 hp)).bind fun q1 => (gI q1 a0 5 4).bind fun x2 => (if x2 = 2 then (gI q1 a0 5 3).bind fun x3 => (gI q1 a0 5 2).bind fun x4 => (if (x3 - x4) ≤ 4 then (pI q1 a0 5 5 0).bind fun hp5 => (gI hp5 a0 5 2).bind fun x6 => (f_X6_takeNumber_L37 NN a0 a1 a2 x6 hp5) else (some (0, q1))) else (some (0, q1)))
set_option maxRecDepth 100000 in
set_option maxHeartbeats 4000000 in
theorem mf_X6_takeNumber_L37 {K : GK} : ∀ (n : Nat) (a0 : Nat) (a1 : Int32) (a2 : Int32) (a3 : Int32) (hp : PH) (r : (Int32 × PH)), f_X6_takeNumber_L37 n a0 a1 a2 a3 hp = some r → PW K (rmD (2)) 0 0 M_X6_takeNumber 37 [(0, .ref (ga K a0)), (1, .int a1), (2, .int a2), (3, .int a3)] [] hp (some (.int r.1)) r.2 := by
  intro n
  induction n with
  | zero =>
    intro a0 a1 a2 a3 hp r h
    rw [f_X6_takeNumber_L37] at h
    cases h
  | succ n ih =>
    intro a0 a1 a2 a3 hp r h
    rw [f_X6_takeNumber_L37] at h
    refine PW.iload_n 3 dX6_takeNumber_37 rfl rfl ?_
    refine PW.aload_n 0 dX6_takeNumber_38 rfl rfl ?_
    obtain ⟨x7, hx7, h⟩ := bind_some h
    refine PW.getI cls_X6 (j := 3) (by decide) dX6_takeNumber_39 wd_226 hx7 ?_
    refine PW.icmp_ge (tgt := 74) dX6_takeNumber_42 (by decide) (fun c42 => ?_) (fun c42 => ?_)
    · rw [if_pos c42] at h
      refine PW.aload_n 0 dX6_takeNumber_74 rfl rfl ?_
      obtain ⟨x8, hx8, h⟩ := bind_some h
      refine PW.getI cls_X6 (j := 5) (by decide) dX6_takeNumber_75 wd_228 hx8 ?_
      refine PW.iload_n 1 dX6_takeNumber_78 rfl rfl ?_
      refine PW.icmp_lt (tgt := 94) dX6_takeNumber_79 (by decide) (fun c79 => ?_) (fun c79 => ?_)
      · rw [if_pos c79] at h
        refine PW.iconst (x := 0) dX6_takeNumber_94 (by decide) ?_
        have h := Option.some.inj h; subst h
        exact PW.ret dX6_takeNumber_95 (z_nar (Or.inl rfl)).1 rfl
      · rw [if_neg c79] at h
        refine PW.aload_n 0 dX6_takeNumber_82 rfl rfl ?_
        obtain ⟨x9, hx9, h⟩ := bind_some h
        refine PW.getI cls_X6 (j := 5) (by decide) dX6_takeNumber_83 wd_228 hx9 ?_
        refine PW.iload_n 2 dX6_takeNumber_86 rfl rfl ?_
        refine PW.icmp_gt (tgt := 94) dX6_takeNumber_87 (by decide) (fun c87 => ?_) (fun c87 => ?_)
        · rw [if_pos c87] at h
          refine PW.iconst (x := 0) dX6_takeNumber_94 (by decide) ?_
          have h := Option.some.inj h; subst h
          exact PW.ret dX6_takeNumber_95 (z_nar (Or.inl rfl)).1 rfl
        · rw [if_neg c87] at h
          refine PW.iconst (x := 1) dX6_takeNumber_90 (by decide) ?_
          refine PW.goto (tgt := 95) dX6_takeNumber_91 (by decide) ?_
          have h := Option.some.inj h; subst h
          exact PW.ret dX6_takeNumber_95 (z_nar (Or.inr rfl)).1 rfl
    · rw [if_neg c42] at h
      refine PW.aload_n 0 dX6_takeNumber_45 rfl rfl ?_
      refine PW.bipush (x := 10) dX6_takeNumber_46 (by decide) ?_
      refine PW.aload_n 0 dX6_takeNumber_48 rfl rfl ?_
      obtain ⟨x10, hx10, h⟩ := bind_some h
      refine PW.getI cls_X6 (j := 5) (by decide) dX6_takeNumber_49 wd_228 hx10 ?_
      refine PW.imul dX6_takeNumber_52 ?_
      refine PW.aload_n 0 dX6_takeNumber_53 rfl rfl ?_
      obtain ⟨x11, hx11, h⟩ := bind_some h
      refine PW.getR cls_X6 (j := 0) (by decide) dX6_takeNumber_54 wd_223 hx11 ?_
      refine PW.iload_n 3 dX6_takeNumber_57 rfl rfl ?_
      obtain ⟨q12, hq12, h⟩ := bind_some h
      obtain ⟨hkq12, hcq12, hq12⟩ := vC_spec hq12
      refine PW.callVi (As := [.int a3]) (rest := [.int (10 * x10), .ref (ga K a0)]) (k := x11) cal_X0_at dX6_takeNumber_58 wd_556 rfl rfl (rmLe (by omega)) (Nat.le_of_ble_eq_true rfl) rm_0 hkq12 hcq12 (mf_X0_at x11 a3 hp _ hq12) ?_
      refine PW.iadd dX6_takeNumber_61 ?_
      refine PW.bipush (x := 48) dX6_takeNumber_62 (by decide) ?_
      refine PW.isub dX6_takeNumber_64 ?_
      obtain ⟨hp13, hhp13, h⟩ := bind_some h
      refine PW.putI cls_X6 clw_X6 (j := 5) (by decide) dX6_takeNumber_65 wd_228 rfl rfl hhp13 ?_
      refine PW.iinc 3 (l' := [(3, .int (a3 + 1)), (0, .ref (ga K a0)), (1, .int a1), (2, .int a2)]) dX6_takeNumber_68 rfl (x := a3) (y := (a3 + 1)) rfl (by decide) rfl ?_
      refine PW.goto (tgt := 37) dX6_takeNumber_71 (by decide) ?_
      exact PW.sub (l' := [(0, .ref (ga K a0)), (1, .int a1), (2, .int a2), (3, .int (a3 + 1))]) [1, 2, 3, 0] rfl (ih a0 a1 a2 (a3 + 1) hp13 _ h)
set_option maxRecDepth 100000 in
set_option maxHeartbeats 4000000 in
theorem mf_X6_takeNumber {K : GK} : ∀ (a0 : Nat) (a1 : Int32) (a2 : Int32) (hp : PH) (r : (Int32 × PH)), f_X6_takeNumber a0 a1 a2 hp = some r → PM K (2) M_X6_takeNumber [.ref (ga K a0), .int a1, .int a2] hp (some (.int r.1)) r.2 := by
  intro a0 a1 a2 hp r h
  unfold f_X6_takeNumber at h
  refine PM.enter (l0 := [(0, .ref (ga K a0)), (1, .int a1), (2, .int a2)]) (by decide +kernel) rfl (Nat.le_of_ble_eq_true rfl) rfl ?_
  refine PW.aload_n 0 dX6_takeNumber_0 rfl rfl ?_
  obtain ⟨q1, hq1, h⟩ := bind_some h
  obtain ⟨hkq1, hcq1, hq1⟩ := vC_spec hq1
  refine PW.callVv (As := []) (rest := []) (k := a0) cal_X6_takeToken dX6_takeNumber_1 wd_552 rfl rfl (rmLe (by omega)) (Nat.le_of_ble_eq_true rfl) rm_0 hkq1 hcq1 (mf_X6_takeToken a0 hp _ hq1) ?_
  refine PW.aload_n 0 dX6_takeNumber_4 rfl rfl ?_
  obtain ⟨x2, hx2, h⟩ := bind_some h
  refine PW.getI cls_X6 (j := 4) (by decide) dX6_takeNumber_5 wd_227 hx2 ?_
  refine PW.iconst (x := 2) dX6_takeNumber_8 (by decide) ?_
  refine PW.icmp_ne (tgt := 25) dX6_takeNumber_9 (by decide) (fun c9 => ?_) (fun c9 => ?_)
  · rw [if_neg c9] at h
    refine PW.iconst (x := 0) dX6_takeNumber_25 (by decide) ?_
    have h := Option.some.inj h; subst h
    exact PW.ret dX6_takeNumber_26 (z_nar (Or.inl rfl)).1 rfl
  · rw [if_pos c9] at h
    refine PW.aload_n 0 dX6_takeNumber_12 rfl rfl ?_
    obtain ⟨x3, hx3, h⟩ := bind_some h
    refine PW.getI cls_X6 (j := 3) (by decide) dX6_takeNumber_13 wd_226 hx3 ?_
    refine PW.aload_n 0 dX6_takeNumber_16 rfl rfl ?_
    obtain ⟨x4, hx4, h⟩ := bind_some h
    refine PW.getI cls_X6 (j := 2) (by decide) dX6_takeNumber_17 wd_225 hx4 ?_
    refine PW.isub dX6_takeNumber_20 ?_
    refine PW.iconst (x := 4) dX6_takeNumber_21 (by decide) ?_
    refine PW.icmp_le (tgt := 27) dX6_takeNumber_22 (by decide) (fun c22 => ?_) (fun c22 => ?_)
    · rw [if_pos c22] at h
      refine PW.aload_n 0 dX6_takeNumber_27 rfl rfl ?_
      refine PW.iconst (x := 0) dX6_takeNumber_28 (by decide) ?_
      obtain ⟨hp5, hhp5, h⟩ := bind_some h
      refine PW.putI cls_X6 clw_X6 (j := 5) (by decide) dX6_takeNumber_29 wd_228 rfl rfl hhp5 ?_
      refine PW.aload_n 0 dX6_takeNumber_32 rfl rfl ?_
      obtain ⟨x6, hx6, h⟩ := bind_some h
      refine PW.getI cls_X6 (j := 2) (by decide) dX6_takeNumber_33 wd_225 hx6 ?_
      refine PW.istore_n (l' := [(3, .int x6), (0, .ref (ga K a0)), (1, .int a1), (2, .int a2)]) dX6_takeNumber_36 rfl (by decide) rfl ?_
      exact PW.sub (l' := [(0, .ref (ga K a0)), (1, .int a1), (2, .int a2), (3, .int x6)]) [1, 2, 3, 0] rfl (mf_X6_takeNumber_L37 NN a0 a1 a2 x6 hp5 _ h)
    · rw [if_neg c22] at h
      refine PW.iconst (x := 0) dX6_takeNumber_25 (by decide) ?_
      have h := Option.some.inj h; subst h
      exact PW.ret dX6_takeNumber_26 (z_nar (Or.inl rfl)).1 rfl
