-- X11_tens
def f_X11_tens (a0 : Nat) (a1 : Int32) (hp : PH) : Option (Int64 × PH) := (if (f_X11_in (Int32.toInt64 a1) 0 60) = 0 then (vC hp a0 10 (f_X11_bad a0 (-2) hp)).bind fun q5 => (some ((Int32.toInt64 q5.1), q5.2)) else (vC hp a0 10 (f_X11_layWays a0 hp)).bind fun q2 => (gR q2 a0 10 25).bind fun x3 => (aJ q2 x3 (10 * a1)).bind fun x4 => (some (x4, q2)))
set_option maxRecDepth 100000 in
set_option maxHeartbeats 4000000 in
theorem mf_X11_tens {K : GK} : ∀ (a0 : Nat) (a1 : Int32) (hp : PH) (r : (Int64 × PH)), f_X11_tens a0 a1 hp = some r → PM K (2) M_X11_tens [.ref (ga K a0), .int a1] hp (some (.long r.1)) r.2 := by
  intro a0 a1 hp r h
  unfold f_X11_tens at h
  refine PM.enter (l0 := [(0, .ref (ga K a0)), (1, .int a1)]) (by decide +kernel) rfl (Nat.le_of_ble_eq_true rfl) rfl ?_
  refine PW.iload_n 1 dX11_tens_0 rfl rfl ?_
  refine PW.i2l dX11_tens_1 ?_
  refine PW.lconst (x := 0) dX11_tens_2 (by decide) ?_
  refine PW.ldc2 (x := 60) dX11_tens_3 wd_1216 ?_
  refine PW.callSi (As := [.long (Int32.toInt64 a1), .long 0, .long 60]) (rest := []) cal_X11_in dX11_tens_6 wd_986 rfl rfl (rmLe (by omega)) (Nat.le_of_ble_eq_true rfl) rm_0 (mf_X11_in (Int32.toInt64 a1) 0 60 _ rfl) ?_
  refine PW.if_ne (tgt := 20) dX11_tens_9 (by decide) (fun c9 => ?_) (fun c9 => ?_)
  · rw [if_neg c9] at h
    refine PW.aload_n 0 dX11_tens_20 rfl rfl ?_
    obtain ⟨q2, hq2, h⟩ := bind_some h
    obtain ⟨hkq2, hcq2, hq2⟩ := vC_spec hq2
    refine PW.callVv (As := []) (rest := []) (k := a0) cal_X11_layWays dX11_tens_21 wd_1217 rfl rfl (rmLe (by omega)) (Nat.le_of_ble_eq_true rfl) rm_0 hkq2 hcq2 (mf_X11_layWays a0 hp _ hq2) ?_
    refine PW.aload_n 0 dX11_tens_24 rfl rfl ?_
    obtain ⟨x3, hx3, h⟩ := bind_some h
    refine PW.getR cls_X11 (j := 25) (by decide) dX11_tens_25 wd_920 hx3 ?_
    refine PW.bipush (x := 10) dX11_tens_28 (by decide) ?_
    refine PW.iload_n 1 dX11_tens_30 rfl rfl ?_
    refine PW.imul dX11_tens_31 ?_
    obtain ⟨x4, hx4, h⟩ := bind_some h
    refine PW.lald dX11_tens_32 hx4 ?_
    have h := Option.some.inj h; subst h
    exact PW.ret dX11_tens_33 trivial rfl
  · rw [if_pos c9] at h
    refine PW.aload_n 0 dX11_tens_12 rfl rfl ?_
    refine PW.bipush (x := (-2)) dX11_tens_13 (by decide) ?_
    obtain ⟨q5, hq5, h⟩ := bind_some h
    obtain ⟨hkq5, hcq5, hq5⟩ := vC_spec hq5
    refine PW.callVi (As := [.int (-2)]) (rest := []) (k := a0) cal_X11_bad dX11_tens_15 wd_1002 rfl rfl (rmLe (by omega)) (Nat.le_of_ble_eq_true rfl) rm_0 hkq5 hcq5 (mf_X11_bad a0 (-2) hp _ hq5) ?_
    refine PW.i2l dX11_tens_18 ?_
    have h := Option.some.inj h; subst h
    exact PW.ret dX11_tens_19 trivial rfl
-- X11_spare
def f_X11_spare_L34 : Nat → Nat → Int32 → Int32 → PH → Option (Int32 × PH)
  | 0, _, _, _, _ => none
  | n + 1, a0, a1, a2, hp => (if a2 ≤ 0 then (some ((a1 - a2), hp)) else (gR hp a0 10 25).bind fun x2 => (aJ hp x2 (10 * a2)).bind fun x3 => (if (lg_cmp x3 0) = 0 then ((f_X11_spare_L34 n) a0 a1 (a2 + (-1)) hp) else (some ((a1 - a2), hp))))
def f_X11_spare_L8 : Nat → Nat → Int32 → Int32 → PH → Option (Int32 × PH)
  | 0, _, _, _, _ => none
  | n + 1, a0, a1, a2, hp => (if 10 ≤ a2 then (f_X11_spare_L34 NN a0 a1 a1 hp) else (gR hp a0 10 0).bind fun x4 => (aI hp x4 0 (37 + a2)).bind fun x5 => ((f_X11_spare_L8 n) a0 (a1 + x5) (a2 + 1) hp))
def f_X11_spare (a0 : Nat) (hp : PH) : Option (Int32 × PH) := (vC hp a0 10 (f_X11_layWays a0 hp)).bind fun q1 => (f_X11_spare_L8 NN a0 0 0 q1)
set_option maxRecDepth 100000 in
set_option maxHeartbeats 4000000 in
theorem mf_X11_spare_L34 {K : GK} : ∀ (n : Nat) (a0 : Nat) (a1 : Int32) (a2 : Int32) (hp : PH) (r : (Int32 × PH)), f_X11_spare_L34 n a0 a1 a2 hp = some r → PW K (rmD (2)) 0 0 M_X11_spare 34 [(0, .ref (ga K a0)), (1, .int a1), (2, .int a2)] [] hp (some (.int r.1)) r.2 := by
  intro n
  induction n with
  | zero =>
    intro a0 a1 a2 hp r h
    rw [f_X11_spare_L34] at h
    cases h
  | succ n ih =>
    intro a0 a1 a2 hp r h
    rw [f_X11_spare_L34] at h
    refine PW.iload_n 2 dX11_spare_34 rfl rfl ?_
    refine PW.if_le (tgt := 58) dX11_spare_35 (by decide) (fun c35 => ?_) (fun c35 => ?_)
    · rw [if_pos c35] at h
      refine PW.iload_n 1 dX11_spare_58 rfl rfl ?_
      refine PW.iload_n 2 dX11_spare_59 rfl rfl ?_
      refine PW.isub dX11_spare_60 ?_
      have h := Option.some.inj h; subst h
      exact PW.ret dX11_spare_61 trivial rfl
    · rw [if_neg c35] at h
      refine PW.aload_n 0 dX11_spare_38 rfl rfl ?_
      obtain ⟨x2, hx2, h⟩ := bind_some h
      refine PW.getR cls_X11 (j := 25) (by decide) dX11_spare_39 wd_920 hx2 ?_
      refine PW.bipush (x := 10) dX11_spare_42 (by decide) ?_
      refine PW.iload_n 2 dX11_spare_44 rfl rfl ?_
      refine PW.imul dX11_spare_45 ?_
      obtain ⟨x3, hx3, h⟩ := bind_some h
      refine PW.lald dX11_spare_46 hx3 ?_
      refine PW.lconst (x := 0) dX11_spare_47 (by decide) ?_
      refine PW.lcmp dX11_spare_48 ?_
      refine PW.if_ne (tgt := 58) dX11_spare_49 (by decide) (fun c49 => ?_) (fun c49 => ?_)
      · rw [if_neg c49] at h
        refine PW.iload_n 1 dX11_spare_58 rfl rfl ?_
        refine PW.iload_n 2 dX11_spare_59 rfl rfl ?_
        refine PW.isub dX11_spare_60 ?_
        have h := Option.some.inj h; subst h
        exact PW.ret dX11_spare_61 trivial rfl
      · rw [if_pos c49] at h
        refine PW.iinc 2 (l' := [(2, .int (a2 + (-1))), (0, .ref (ga K a0)), (1, .int a1)]) dX11_spare_52 rfl (x := a2) (y := (a2 + (-1))) rfl (by decide) rfl ?_
        refine PW.goto (tgt := 34) dX11_spare_55 (by decide) ?_
        exact PW.sub (l' := [(0, .ref (ga K a0)), (1, .int a1), (2, .int (a2 + (-1)))]) [1, 2, 0] rfl (ih a0 a1 (a2 + (-1)) hp _ h)
set_option maxRecDepth 100000 in
set_option maxHeartbeats 4000000 in
theorem mf_X11_spare_L8 {K : GK} : ∀ (n : Nat) (a0 : Nat) (a1 : Int32) (a2 : Int32) (hp : PH) (r : (Int32 × PH)), f_X11_spare_L8 n a0 a1 a2 hp = some r → PW K (rmD (2)) 0 0 M_X11_spare 8 [(0, .ref (ga K a0)), (1, .int a1), (2, .int a2)] [] hp (some (.int r.1)) r.2 := by
  intro n
  induction n with
  | zero =>
    intro a0 a1 a2 hp r h
    rw [f_X11_spare_L8] at h
    cases h
  | succ n ih =>
    intro a0 a1 a2 hp r h
    rw [f_X11_spare_L8] at h
    refine PW.iload_n 2 dX11_spare_8 rfl rfl ?_
    refine PW.bipush (x := 10) dX11_spare_9 (by decide) ?_
    refine PW.icmp_ge (tgt := 32) dX11_spare_11 (by decide) (fun c11 => ?_) (fun c11 => ?_)
    · rw [if_pos c11] at h
      refine PW.iload_n 1 dX11_spare_32 rfl rfl ?_
      refine PW.istore_n (l' := [(2, .int a1), (0, .ref (ga K a0)), (1, .int a1)]) dX11_spare_33 rfl (by decide) rfl ?_
      exact PW.sub (l' := [(0, .ref (ga K a0)), (1, .int a1), (2, .int a1)]) [1, 2, 0] rfl (mf_X11_spare_L34 NN a0 a1 a1 hp _ h)
    · rw [if_neg c11] at h
      refine PW.iload_n 1 dX11_spare_14 rfl rfl ?_
      refine PW.aload_n 0 dX11_spare_15 rfl rfl ?_
      obtain ⟨x4, hx4, h⟩ := bind_some h
      refine PW.getR cls_X11 (j := 0) (by decide) dX11_spare_16 wd_895 hx4 ?_
      refine PW.bipush (x := 37) dX11_spare_19 (by decide) ?_
      refine PW.iload_n 2 dX11_spare_21 rfl rfl ?_
      refine PW.iadd dX11_spare_22 ?_
      obtain ⟨x5, hx5, h⟩ := bind_some h
      refine PW.iald dX11_spare_23 hx5 ?_
      refine PW.iadd dX11_spare_24 ?_
      refine PW.istore_n (l' := [(1, .int (a1 + x5)), (0, .ref (ga K a0)), (2, .int a2)]) dX11_spare_25 rfl (by decide) rfl ?_
      refine PW.iinc 2 (l' := [(2, .int (a2 + 1)), (1, .int (a1 + x5)), (0, .ref (ga K a0))]) dX11_spare_26 rfl (x := a2) (y := (a2 + 1)) rfl (by decide) rfl ?_
      refine PW.goto (tgt := 8) dX11_spare_29 (by decide) ?_
      exact PW.sub (l' := [(0, .ref (ga K a0)), (1, .int (a1 + x5)), (2, .int (a2 + 1))]) [2, 1, 0] rfl (ih a0 (a1 + x5) (a2 + 1) hp _ h)
set_option maxRecDepth 100000 in
set_option maxHeartbeats 4000000 in
theorem mf_X11_spare {K : GK} : ∀ (a0 : Nat) (hp : PH) (r : (Int32 × PH)), f_X11_spare a0 hp = some r → PM K (2) M_X11_spare [.ref (ga K a0)] hp (some (.int r.1)) r.2 := by
  intro a0 hp r h
  unfold f_X11_spare at h
  refine PM.enter (l0 := [(0, .ref (ga K a0))]) (by decide +kernel) rfl (Nat.le_of_ble_eq_true rfl) rfl ?_
  refine PW.aload_n 0 dX11_spare_0 rfl rfl ?_
  obtain ⟨q1, hq1, h⟩ := bind_some h
  obtain ⟨hkq1, hcq1, hq1⟩ := vC_spec hq1
  refine PW.callVv (As := []) (rest := []) (k := a0) cal_X11_layWays dX11_spare_1 wd_1217 rfl rfl (rmLe (by omega)) (Nat.le_of_ble_eq_true rfl) rm_0 hkq1 hcq1 (mf_X11_layWays a0 hp _ hq1) ?_
  refine PW.iconst (x := 0) dX11_spare_4 (by decide) ?_
  refine PW.istore_n (l' := [(1, .int 0), (0, .ref (ga K a0))]) dX11_spare_5 rfl (by decide) rfl ?_
  refine PW.iconst (x := 0) dX11_spare_6 (by decide) ?_
  refine PW.istore_n (l' := [(2, .int 0), (1, .int 0), (0, .ref (ga K a0))]) dX11_spare_7 rfl (by decide) rfl ?_
  exact PW.sub (l' := [(0, .ref (ga K a0)), (1, .int 0), (2, .int 0)]) [2, 1, 0] rfl (mf_X11_spare_L8 NN a0 0 0 q1 _ h)
-- X11_passing
def f_X11_passing_J97 (a0 : Nat) (a4 : Int32) (s0 : Int32) (s1 : Int32) (s2 : Nat) (hp : PH) : Option (Int32 × PH) := (uI hp s2 s1 s0).bind fun hp11 => (gR hp11 a0 10 0).bind fun x12 => (aI hp11 x12 0 3).bind fun x13 => (uI hp11 x12 3 (x13 + 1)).bind fun hp14 => (some (a4, hp14))
def f_X11_passing (a0 : Nat) (a1 : Int32) (a2 : Int32) (a3 : Int32) (hp : PH) : Option (Int32 × PH) := (if (f_X11_in (Int32.toInt64 a1) 1 31) = 0 then (vC hp a0 10 (f_X11_bad a0 (-2) hp)).bind fun q2 => (some (q2.1, q2.2)) else (if (f_X11_in (Int32.toInt64 a2) 0 99) = 0 then (vC hp a0 10 (f_X11_bad a0 (-2) hp)).bind fun q16 => (some (q16.1, q16.2)) else (gR hp a0 10 0).bind fun x4 => (aI hp x4 0 3).bind fun x5 => (if x5 = 10 then (vC hp a0 10 (f_X11_full a0 hp)).bind fun q15 => (some (q15.1, q15.2)) else (gR hp a0 10 0).bind fun x6 => (uI hp x6 (47 + (3 * x5)) a1).bind fun hp7 => (gR hp7 a0 10 0).bind fun x8 => (uI hp7 x8 (48 + (3 * x5)) a2).bind fun hp9 => (gR hp9 a0 10 0).bind fun x10 => (if a3 = 0 then (f_X11_passing_J97 a0 x5 0 (49 + (3 * x5)) x10 hp9) else (f_X11_passing_J97 a0 x5 1 (49 + (3 * x5)) x10 hp9)))))
set_option maxRecDepth 100000 in
set_option maxHeartbeats 4000000 in
theorem mf_X11_passing_J97 {K : GK} : ∀ (a0 : Nat) (a4 : Int32) (s0 : Int32) (s1 : Int32) (s2 : Nat) (hp : PH) (r : (Int32 × PH)), f_X11_passing_J97 a0 a4 s0 s1 s2 hp = some r → PW K (rmD (1)) 0 0 M_X11_passing 97 [(0, .ref (ga K a0)), (4, .int a4)] [.int s0, .int s1, .ref (ga K s2)] hp (some (.int r.1)) r.2 := by
  intro a0 a4 s0 s1 s2 hp r h
  unfold f_X11_passing_J97 at h
  obtain ⟨hp11, hhp11, h⟩ := bind_some h
  refine PW.iast dX11_passing_97 hhp11 ?_
  refine PW.aload_n 0 dX11_passing_98 rfl rfl ?_
  obtain ⟨x12, hx12, h⟩ := bind_some h
  refine PW.getR cls_X11 (j := 0) (by decide) dX11_passing_99 wd_895 hx12 ?_
  refine PW.iconst (x := 3) dX11_passing_102 (by decide) ?_
  refine PW.dup2 dX11_passing_103 rfl rfl ?_
  obtain ⟨x13, hx13, h⟩ := bind_some h
  refine PW.iald dX11_passing_104 hx13 ?_
  refine PW.iconst (x := 1) dX11_passing_105 (by decide) ?_
  refine PW.iadd dX11_passing_106 ?_
  obtain ⟨hp14, hhp14, h⟩ := bind_some h
  refine PW.iast dX11_passing_107 hhp14 ?_
  refine PW.iload 1 dX11_passing_108 rfl ?_
  have h := Option.some.inj h; subst h
  exact PW.ret dX11_passing_110 trivial rfl
set_option maxRecDepth 100000 in
set_option maxHeartbeats 4000000 in
theorem mf_X11_passing {K : GK} : ∀ (a0 : Nat) (a1 : Int32) (a2 : Int32) (a3 : Int32) (hp : PH) (r : (Int32 × PH)), f_X11_passing a0 a1 a2 a3 hp = some r → PM K (1) M_X11_passing [.ref (ga K a0), .int a1, .int a2, .int a3] hp (some (.int r.1)) r.2 := by
  intro a0 a1 a2 a3 hp r h
  unfold f_X11_passing at h
  refine PM.enter (l0 := [(0, .ref (ga K a0)), (1, .int a1), (2, .int a2), (3, .int a3)]) (by decide +kernel) rfl (Nat.le_of_ble_eq_true rfl) rfl ?_
  refine PW.iload_n 1 dX11_passing_0 rfl rfl ?_
  refine PW.i2l dX11_passing_1 ?_
  refine PW.lconst (x := 1) dX11_passing_2 (by decide) ?_
  refine PW.ldc2 (x := 31) dX11_passing_3 wd_1232 ?_
  refine PW.callSi (As := [.long (Int32.toInt64 a1), .long 1, .long 31]) (rest := []) cal_X11_in dX11_passing_6 wd_986 rfl rfl (rmLe (by omega)) (Nat.le_of_ble_eq_true rfl) rm_0 (mf_X11_in (Int32.toInt64 a1) 1 31 _ rfl) ?_
  refine PW.if_eq (tgt := 24) dX11_passing_9 (by decide) (fun c9 => ?_) (fun c9 => ?_)
  · rw [if_pos c9] at h
    refine PW.aload_n 0 dX11_passing_24 rfl rfl ?_
    refine PW.bipush (x := (-2)) dX11_passing_25 (by decide) ?_
    obtain ⟨q2, hq2, h⟩ := bind_some h
    obtain ⟨hkq2, hcq2, hq2⟩ := vC_spec hq2
    refine PW.callVi (As := [.int (-2)]) (rest := []) (k := a0) cal_X11_bad dX11_passing_27 wd_1002 rfl rfl (rmLe (by omega)) (Nat.le_of_ble_eq_true rfl) rm_0 hkq2 hcq2 (mf_X11_bad a0 (-2) hp _ hq2) ?_
    have h := Option.some.inj h; subst h
    exact PW.ret dX11_passing_30 trivial rfl
  · rw [if_neg c9] at h
    refine PW.iload_n 2 dX11_passing_12 rfl rfl ?_
    refine PW.i2l dX11_passing_13 ?_
    refine PW.lconst (x := 0) dX11_passing_14 (by decide) ?_
    refine PW.ldc2 (x := 99) dX11_passing_15 wd_1233 ?_
    refine PW.callSi (As := [.long (Int32.toInt64 a2), .long 0, .long 99]) (rest := []) cal_X11_in dX11_passing_18 wd_986 rfl rfl (rmLe (by omega)) (Nat.le_of_ble_eq_true rfl) rm_0 (mf_X11_in (Int32.toInt64 a2) 0 99 _ rfl) ?_
    refine PW.if_ne (tgt := 31) dX11_passing_21 (by decide) (fun c21 => ?_) (fun c21 => ?_)
    · rw [if_neg c21] at h
      refine PW.aload_n 0 dX11_passing_31 rfl rfl ?_
      obtain ⟨x4, hx4, h⟩ := bind_some h
      refine PW.getR cls_X11 (j := 0) (by decide) dX11_passing_32 wd_895 hx4 ?_
      refine PW.iconst (x := 3) dX11_passing_35 (by decide) ?_
      obtain ⟨x5, hx5, h⟩ := bind_some h
      refine PW.iald dX11_passing_36 hx5 ?_
      refine PW.istore (l' := [(4, .int x5), (0, .ref (ga K a0)), (1, .int a1), (2, .int a2), (3, .int a3)]) dX11_passing_37 (by decide) rfl ?_
      refine PW.iload 0 dX11_passing_39 rfl ?_
      refine PW.bipush (x := 10) dX11_passing_41 (by decide) ?_
      refine PW.icmp_ne (tgt := 51) dX11_passing_43 (by decide) (fun c43 => ?_) (fun c43 => ?_)
      · rw [if_neg c43] at h
        refine PW.aload_n 1 dX11_passing_51 rfl rfl ?_
        obtain ⟨x6, hx6, h⟩ := bind_some h
        refine PW.getR cls_X11 (j := 0) (by decide) dX11_passing_52 wd_895 hx6 ?_
        refine PW.bipush (x := 47) dX11_passing_55 (by decide) ?_
        refine PW.iconst (x := 3) dX11_passing_57 (by decide) ?_
        refine PW.iload 0 dX11_passing_58 rfl ?_
        refine PW.imul dX11_passing_60 ?_
        refine PW.iadd dX11_passing_61 ?_
        refine PW.iload_n 2 dX11_passing_62 rfl rfl ?_
        obtain ⟨hp7, hhp7, h⟩ := bind_some h
        refine PW.iast dX11_passing_63 hhp7 ?_
        refine PW.aload_n 1 dX11_passing_64 rfl rfl ?_
        obtain ⟨x8, hx8, h⟩ := bind_some h
        refine PW.getR cls_X11 (j := 0) (by decide) dX11_passing_65 wd_895 hx8 ?_
        refine PW.bipush (x := 48) dX11_passing_68 (by decide) ?_
        refine PW.iconst (x := 3) dX11_passing_70 (by decide) ?_
        refine PW.iload 0 dX11_passing_71 rfl ?_
        refine PW.imul dX11_passing_73 ?_
        refine PW.iadd dX11_passing_74 ?_
        refine PW.iload_n 3 dX11_passing_75 rfl rfl ?_
        obtain ⟨hp9, hhp9, h⟩ := bind_some h
        refine PW.iast dX11_passing_76 hhp9 ?_
        refine PW.aload_n 1 dX11_passing_77 rfl rfl ?_
        obtain ⟨x10, hx10, h⟩ := bind_some h
        refine PW.getR cls_X11 (j := 0) (by decide) dX11_passing_78 wd_895 hx10 ?_
        refine PW.bipush (x := 49) dX11_passing_81 (by decide) ?_
        refine PW.iconst (x := 3) dX11_passing_83 (by decide) ?_
        refine PW.iload 0 dX11_passing_84 rfl ?_
        refine PW.imul dX11_passing_86 ?_
        refine PW.iadd dX11_passing_87 ?_
        refine PW.iload_n 4 dX11_passing_88 rfl rfl ?_
        refine PW.if_eq (tgt := 96) dX11_passing_89 (by decide) (fun c89 => ?_) (fun c89 => ?_)
        · rw [if_pos c89] at h
          refine PW.iconst (x := 0) dX11_passing_96 (by decide) ?_
          exact PW.sub (l' := [(0, .ref (ga K a0)), (4, .int x5)]) [1, 0] rfl (mf_X11_passing_J97 a0 x5 0 (49 + (3 * x5)) x10 hp9 _ h)
        · rw [if_neg c89] at h
          refine PW.iconst (x := 1) dX11_passing_92 (by decide) ?_
          refine PW.goto (tgt := 97) dX11_passing_93 (by decide) ?_
          exact PW.sub (l' := [(0, .ref (ga K a0)), (4, .int x5)]) [1, 0] rfl (mf_X11_passing_J97 a0 x5 1 (49 + (3 * x5)) x10 hp9 _ h)
      · rw [if_pos c43] at h
        refine PW.aload_n 1 dX11_passing_46 rfl rfl ?_
        obtain ⟨q15, hq15, h⟩ := bind_some h
        obtain ⟨hkq15, hcq15, hq15⟩ := vC_spec hq15
        refine PW.callVi (As := []) (rest := []) (k := a0) cal_X11_full dX11_passing_47 wd_1026 rfl rfl (rmLe (by omega)) (Nat.le_of_ble_eq_true rfl) rm_0 hkq15 hcq15 (mf_X11_full a0 hp _ hq15) ?_
        have h := Option.some.inj h; subst h
        exact PW.ret dX11_passing_50 trivial rfl
    · rw [if_pos c21] at h
      refine PW.aload_n 0 dX11_passing_24 rfl rfl ?_
      refine PW.bipush (x := (-2)) dX11_passing_25 (by decide) ?_
      obtain ⟨q16, hq16, h⟩ := bind_some h
      obtain ⟨hkq16, hcq16, hq16⟩ := vC_spec hq16
      refine PW.callVi (As := [.int (-2)]) (rest := []) (k := a0) cal_X11_bad dX11_passing_27 wd_1002 rfl rfl (rmLe (by omega)) (Nat.le_of_ble_eq_true rfl) rm_0 hkq16 hcq16 (mf_X11_bad a0 (-2) hp _ hq16) ?_
      have h := Option.some.inj h; subst h
      exact PW.ret dX11_passing_30 trivial rfl
-- X11_forget
def f_X11_forget (a0 : Nat) (hp : PH) : Option (Int32 × PH) := (gR hp a0 10 0).bind fun x1 => (aI hp x1 0 3).bind fun x2 => (gR hp a0 10 0).bind fun x3 => (uI hp x3 3 0).bind fun hp4 => (some (x2, hp4))
set_option maxRecDepth 100000 in
set_option maxHeartbeats 4000000 in
theorem mf_X11_forget {K : GK} : ∀ (a0 : Nat) (hp : PH) (r : (Int32 × PH)), f_X11_forget a0 hp = some r → PM K (0) M_X11_forget [.ref (ga K a0)] hp (some (.int r.1)) r.2 := by
  intro a0 hp r h
  unfold f_X11_forget at h
  refine PM.enter (l0 := [(0, .ref (ga K a0))]) (by decide +kernel) rfl (Nat.le_of_ble_eq_true rfl) rfl ?_
  refine PW.aload_n 0 dX11_forget_0 rfl rfl ?_
  obtain ⟨x1, hx1, h⟩ := bind_some h
  refine PW.getR cls_X11 (j := 0) (by decide) dX11_forget_1 wd_895 hx1 ?_
  refine PW.iconst (x := 3) dX11_forget_4 (by decide) ?_
  obtain ⟨x2, hx2, h⟩ := bind_some h
  refine PW.iald dX11_forget_5 hx2 ?_
  refine PW.istore_n (l' := [(1, .int x2), (0, .ref (ga K a0))]) dX11_forget_6 rfl (by decide) rfl ?_
  refine PW.aload_n 1 dX11_forget_7 rfl rfl ?_
  obtain ⟨x3, hx3, h⟩ := bind_some h
  refine PW.getR cls_X11 (j := 0) (by decide) dX11_forget_8 wd_895 hx3 ?_
  refine PW.iconst (x := 3) dX11_forget_11 (by decide) ?_
  refine PW.iconst (x := 0) dX11_forget_12 (by decide) ?_
  obtain ⟨hp4, hhp4, h⟩ := bind_some h
  refine PW.iast dX11_forget_13 hhp4 ?_
  refine PW.iload_n 0 dX11_forget_14 rfl rfl ?_
  have h := Option.some.inj h; subst h
  exact PW.ret dX11_forget_15 trivial rfl
-- X11_liars
def f_X11_liars (a0 : Nat) (a1 : Int32) (hp : PH) : Option (Int32 × PH) := (if (f_X11_in (Int32.toInt64 a1) 0 3) = 0 then (vC hp a0 10 (f_X11_bad a0 (-2) hp)).bind fun q6 => (some (q6.1, q6.2)) else (gR hp a0 10 0).bind fun x2 => (aI hp x2 0 4).bind fun x3 => (gR hp a0 10 0).bind fun x4 => (uI hp x4 4 a1).bind fun hp5 => (some (x3, hp5)))
set_option maxRecDepth 100000 in
set_option maxHeartbeats 4000000 in
theorem mf_X11_liars {K : GK} : ∀ (a0 : Nat) (a1 : Int32) (hp : PH) (r : (Int32 × PH)), f_X11_liars a0 a1 hp = some r → PM K (1) M_X11_liars [.ref (ga K a0), .int a1] hp (some (.int r.1)) r.2 := by
  intro a0 a1 hp r h
  unfold f_X11_liars at h
  refine PM.enter (l0 := [(0, .ref (ga K a0)), (1, .int a1)]) (by decide +kernel) rfl (Nat.le_of_ble_eq_true rfl) rfl ?_
  refine PW.iload_n 1 dX11_liars_0 rfl rfl ?_
  refine PW.i2l dX11_liars_1 ?_
  refine PW.lconst (x := 0) dX11_liars_2 (by decide) ?_
  refine PW.ldc2 (x := 3) dX11_liars_3 wd_1242 ?_
  refine PW.callSi (As := [.long (Int32.toInt64 a1), .long 0, .long 3]) (rest := []) cal_X11_in dX11_liars_6 wd_986 rfl rfl (rmLe (by omega)) (Nat.le_of_ble_eq_true rfl) rm_0 (mf_X11_in (Int32.toInt64 a1) 0 3 _ rfl) ?_
  refine PW.if_ne (tgt := 19) dX11_liars_9 (by decide) (fun c9 => ?_) (fun c9 => ?_)
  · rw [if_neg c9] at h
    refine PW.aload_n 0 dX11_liars_19 rfl rfl ?_
    obtain ⟨x2, hx2, h⟩ := bind_some h
    refine PW.getR cls_X11 (j := 0) (by decide) dX11_liars_20 wd_895 hx2 ?_
    refine PW.iconst (x := 4) dX11_liars_23 (by decide) ?_
    obtain ⟨x3, hx3, h⟩ := bind_some h
    refine PW.iald dX11_liars_24 hx3 ?_
    refine PW.istore_n (l' := [(2, .int x3), (0, .ref (ga K a0)), (1, .int a1)]) dX11_liars_25 rfl (by decide) rfl ?_
    refine PW.aload_n 1 dX11_liars_26 rfl rfl ?_
    obtain ⟨x4, hx4, h⟩ := bind_some h
    refine PW.getR cls_X11 (j := 0) (by decide) dX11_liars_27 wd_895 hx4 ?_
    refine PW.iconst (x := 4) dX11_liars_30 (by decide) ?_
    refine PW.iload_n 2 dX11_liars_31 rfl rfl ?_
    obtain ⟨hp5, hhp5, h⟩ := bind_some h
    refine PW.iast dX11_liars_32 hhp5 ?_
    refine PW.iload_n 0 dX11_liars_33 rfl rfl ?_
    have h := Option.some.inj h; subst h
    exact PW.ret dX11_liars_34 trivial rfl
  · rw [if_pos c9] at h
    refine PW.aload_n 0 dX11_liars_12 rfl rfl ?_
    refine PW.bipush (x := (-2)) dX11_liars_13 (by decide) ?_
    obtain ⟨q6, hq6, h⟩ := bind_some h
    obtain ⟨hkq6, hcq6, hq6⟩ := vC_spec hq6
    refine PW.callVi (As := [.int (-2)]) (rest := []) (k := a0) cal_X11_bad dX11_liars_15 wd_1002 rfl rfl (rmLe (by omega)) (Nat.le_of_ble_eq_true rfl) rm_0 hkq6 hcq6 (mf_X11_bad a0 (-2) hp _ hq6) ?_
    have h := Option.some.inj h; subst h
    exact PW.ret dX11_liars_18 trivial rfl
-- X11_figure
def f_X11_figure_L4 : Nat → Int32 → Int32 → Int32 → Option Int32
  | 0, _, _, _ => none
  | n + 1, a1, a2, a3 => (if a3 ≤ a1 then (some (iR a2 10)) else ((f_X11_figure_L4 n) a1 (a2 / 10) (a3 + (-1))))
def f_X11_figure (a0 : Int32) (a1 : Int32) : Option Int32 := (f_X11_figure_L4 NN a1 a0 4)
set_option maxRecDepth 100000 in
set_option maxHeartbeats 4000000 in
theorem mf_X11_figure_L4 {K : GK} {hp : PH} : ∀ (n : Nat) (a1 : Int32) (a2 : Int32) (a3 : Int32) (r : Int32), f_X11_figure_L4 n a1 a2 a3 = some r → PW K (rmD (0)) 0 0 M_X11_figure 4 [(1, .int a1), (2, .int a2), (3, .int a3)] [] hp (some (.int r)) hp := by
  intro n
  induction n with
  | zero =>
    intro a1 a2 a3 r h
    rw [f_X11_figure_L4] at h
    cases h
  | succ n ih =>
    intro a1 a2 a3 r h
    rw [f_X11_figure_L4] at h
    refine PW.iload_n 2 dX11_figure_4 rfl rfl ?_
    refine PW.iload_n 0 dX11_figure_5 rfl rfl ?_
    refine PW.icmp_le (tgt := 20) dX11_figure_6 (by decide) (fun c6 => ?_) (fun c6 => ?_)
    · rw [if_pos c6] at h
      refine PW.iload_n 1 dX11_figure_20 rfl rfl ?_
      refine PW.bipush (x := 10) dX11_figure_21 (by decide) ?_
      refine PW.irem dX11_figure_23 (by decide) ?_
      have h := Option.some.inj h; subst h
      exact PW.ret dX11_figure_24 trivial rfl
    · rw [if_neg c6] at h
      refine PW.iload_n 1 dX11_figure_9 rfl rfl ?_
      refine PW.bipush (x := 10) dX11_figure_10 (by decide) ?_
      refine PW.idiv dX11_figure_12 (by decide) ?_
      refine PW.istore_n (l' := [(2, .int (a2 / 10)), (1, .int a1), (3, .int a3)]) dX11_figure_13 rfl (by decide) rfl ?_
      refine PW.iinc 2 (l' := [(3, .int (a3 + (-1))), (2, .int (a2 / 10)), (1, .int a1)]) dX11_figure_14 rfl (x := a3) (y := (a3 + (-1))) rfl (by decide) rfl ?_
      refine PW.goto (tgt := 4) dX11_figure_17 (by decide) ?_
      exact PW.sub (l' := [(1, .int a1), (2, .int (a2 / 10)), (3, .int (a3 + (-1)))]) [2, 1, 0] rfl (ih a1 (a2 / 10) (a3 + (-1)) _ h)
set_option maxRecDepth 100000 in
set_option maxHeartbeats 4000000 in
theorem mf_X11_figure {K : GK} {hp : PH} : ∀ (a0 : Int32) (a1 : Int32) (r : Int32), f_X11_figure a0 a1 = some r → PM K (0) M_X11_figure [.int a0, .int a1] hp (some (.int r)) hp := by
  intro a0 a1 r h
  unfold f_X11_figure at h
  refine PM.enter (l0 := [(0, .int a0), (1, .int a1)]) (by decide +kernel) rfl (Nat.le_of_ble_eq_true rfl) rfl ?_
  refine PW.iload_n 0 dX11_figure_0 rfl rfl ?_
  refine PW.istore_n (l' := [(2, .int a0), (0, .int a0), (1, .int a1)]) dX11_figure_1 rfl (by decide) rfl ?_
  refine PW.iconst (x := 4) dX11_figure_2 (by decide) ?_
  refine PW.istore_n (l' := [(3, .int 4), (2, .int a0), (0, .int a0), (1, .int a1)]) dX11_figure_3 rfl (by decide) rfl ?_
  exact PW.sub (l' := [(1, .int a1), (2, .int a0), (3, .int 4)]) [3, 1, 0] rfl (mf_X11_figure_L4 NN a1 a0 4 _ h)
-- X11_fitsAll
def f_X11_fitsAll_J90 (k4 : Nat → Int32 → Int32 → Int32 → PH → Option Int32) (a0 : Nat) (a1 : Int32) (a3 : Int32) (s0 : Int32) (s1 : Int32) (hp : PH) : Option Int32 := (gR hp a0 10 0).bind fun x7 => (aI hp x7 0 (49 + (3 * a3))).bind fun x8 => (if s0 = x8 then (k4 a0 a1 (s1 + 0) (a3 + 1) hp) else (k4 a0 a1 (s1 + 1) (a3 + 1) hp))
def f_X11_fitsAll_L30 (k4 : Nat → Int32 → Int32 → Int32 → PH → Option Int32) : Nat → Nat → Int32 → Int32 → Int32 → Int32 → Int32 → PH → Option Int32
  | 0, _, _, _, _, _, _, _ => none
  | n + 1, a0, a1, a2, a3, a4, a5, hp => (if 5 ≤ a5 then (if (iR a4 10) = 0 then (f_X11_fitsAll_J90 k4 a0 a1 a3 1 a2 hp) else (f_X11_fitsAll_J90 k4 a0 a1 a3 0 a2 hp)) else (gR hp a0 10 0).bind fun x9 => (aI hp x9 0 (47 + (3 * a3))).bind fun x10 => (if (f_X11_has x10 a5) = 0 then ((f_X11_fitsAll_L30 k4 n) a0 a1 a2 a3 (a4 + 0) (a5 + 1) hp) else (f_X11_figure a1 a5).bind fun q12 => ((f_X11_fitsAll_L30 k4 n) a0 a1 a2 a3 (a4 + q12) (a5 + 1) hp)))
def f_X11_fitsAll_L4 : Nat → Nat → Int32 → Int32 → Int32 → PH → Option Int32
  | 0, _, _, _, _, _ => none
  | n + 1, a0, a1, a2, a3, hp => (gR hp a0 10 0).bind fun x1 => (aI hp x1 0 3).bind fun x2 => (if x2 ≤ a3 then (gR hp a0 10 0).bind fun x3 => (aI hp x3 0 4).bind fun x4 => (if x4 < a2 then (some 0) else (some 1)) else (gR hp a0 10 0).bind fun x5 => (aI hp x5 0 (48 + (3 * a3))).bind fun x6 => (f_X11_fitsAll_L30 (f_X11_fitsAll_L4 n) NN a0 a1 a2 a3 x6 0 hp))
def f_X11_fitsAll (a0 : Nat) (a1 : Int32) (hp : PH) : Option Int32 := (f_X11_fitsAll_L4 NN a0 a1 0 0 hp)
set_option maxRecDepth 100000 in
set_option maxHeartbeats 4000000 in
theorem mf_X11_fitsAll_J90 {K : GK} {k4 : Nat → Int32 → Int32 → Int32 → PH → Option Int32} (hk4 : ∀ (a0 : Nat) (a1 : Int32) (a2 : Int32) (a3 : Int32) (hp : PH) (r : Int32), k4 a0 a1 a2 a3 hp = some r → PW K (rmD (1)) 0 0 M_X11_fitsAll 4 [(0, .ref (ga K a0)), (1, .int a1), (2, .int a2), (3, .int a3)] [] hp (some (.int r)) hp) : ∀ (a0 : Nat) (a1 : Int32) (a3 : Int32) (s0 : Int32) (s1 : Int32) (hp : PH) (r : Int32), f_X11_fitsAll_J90 k4 a0 a1 a3 s0 s1 hp = some r → PW K (rmD (1)) 0 0 M_X11_fitsAll 90 [(0, .ref (ga K a0)), (1, .int a1), (3, .int a3)] [.int s0, .int s1] hp (some (.int r)) hp := by
  intro a0 a1 a3 s0 s1 hp r h
  unfold f_X11_fitsAll_J90 at h
  refine PW.aload_n 0 dX11_fitsAll_90 rfl rfl ?_
  obtain ⟨x7, hx7, h⟩ := bind_some h
  refine PW.getR cls_X11 (j := 0) (by decide) dX11_fitsAll_91 wd_895 hx7 ?_
  refine PW.bipush (x := 49) dX11_fitsAll_94 (by decide) ?_
  refine PW.iconst (x := 3) dX11_fitsAll_96 (by decide) ?_
  refine PW.iload_n 2 dX11_fitsAll_97 rfl rfl ?_
  refine PW.imul dX11_fitsAll_98 ?_
  refine PW.iadd dX11_fitsAll_99 ?_
  obtain ⟨x8, hx8, h⟩ := bind_some h
  refine PW.iald dX11_fitsAll_100 hx8 ?_
  refine PW.icmp_ne (tgt := 108) dX11_fitsAll_101 (by decide) (fun c101 => ?_) (fun c101 => ?_)
  · rw [if_neg c101] at h
    refine PW.iconst (x := 1) dX11_fitsAll_108 (by decide) ?_
    refine PW.iadd dX11_fitsAll_109 ?_
    refine PW.istore_n (l' := [(2, .int (s1 + 1)), (0, .ref (ga K a0)), (1, .int a1), (3, .int a3)]) dX11_fitsAll_110 rfl (by decide) rfl ?_
    refine PW.iinc 3 (l' := [(3, .int (a3 + 1)), (2, .int (s1 + 1)), (0, .ref (ga K a0)), (1, .int a1)]) dX11_fitsAll_111 rfl (x := a3) (y := (a3 + 1)) rfl (by decide) rfl ?_
    refine PW.goto (tgt := 4) dX11_fitsAll_114 (by decide) ?_
    exact PW.sub (l' := [(0, .ref (ga K a0)), (1, .int a1), (2, .int (s1 + 1)), (3, .int (a3 + 1))]) [2, 3, 1, 0] rfl (hk4 a0 a1 (s1 + 1) (a3 + 1) hp _ h)
  · rw [if_pos c101] at h
    refine PW.iconst (x := 0) dX11_fitsAll_104 (by decide) ?_
    refine PW.goto (tgt := 109) dX11_fitsAll_105 (by decide) ?_
    refine PW.iadd dX11_fitsAll_109 ?_
    refine PW.istore_n (l' := [(2, .int (s1 + 0)), (0, .ref (ga K a0)), (1, .int a1), (3, .int a3)]) dX11_fitsAll_110 rfl (by decide) rfl ?_
    refine PW.iinc 3 (l' := [(3, .int (a3 + 1)), (2, .int (s1 + 0)), (0, .ref (ga K a0)), (1, .int a1)]) dX11_fitsAll_111 rfl (x := a3) (y := (a3 + 1)) rfl (by decide) rfl ?_
    refine PW.goto (tgt := 4) dX11_fitsAll_114 (by decide) ?_
    exact PW.sub (l' := [(0, .ref (ga K a0)), (1, .int a1), (2, .int (s1 + 0)), (3, .int (a3 + 1))]) [2, 3, 1, 0] rfl (hk4 a0 a1 (s1 + 0) (a3 + 1) hp _ h)
set_option maxRecDepth 100000 in
set_option maxHeartbeats 4000000 in
theorem mf_X11_fitsAll_L30 {K : GK} {k4 : Nat → Int32 → Int32 → Int32 → PH → Option Int32} (hk4 : ∀ (a0 : Nat) (a1 : Int32) (a2 : Int32) (a3 : Int32) (hp : PH) (r : Int32), k4 a0 a1 a2 a3 hp = some r → PW K (rmD (1)) 0 0 M_X11_fitsAll 4 [(0, .ref (ga K a0)), (1, .int a1), (2, .int a2), (3, .int a3)] [] hp (some (.int r)) hp) : ∀ (n : Nat) (a0 : Nat) (a1 : Int32) (a2 : Int32) (a3 : Int32) (a4 : Int32) (a5 : Int32) (hp : PH) (r : Int32), f_X11_fitsAll_L30 k4 n a0 a1 a2 a3 a4 a5 hp = some r → PW K (rmD (1)) 0 0 M_X11_fitsAll 30 [(0, .ref (ga K a0)), (1, .int a1), (2, .int a2), (3, .int a3), (4, .int a4), (5, .int a5)] [] hp (some (.int r)) hp := by
  intro n
  induction n with
  | zero =>
    intro a0 a1 a2 a3 a4 a5 hp r h
    rw [f_X11_fitsAll_L30] at h
    cases h
  | succ n ih =>
    intro a0 a1 a2 a3 a4 a5 hp r h
    rw [f_X11_fitsAll_L30] at h
    refine PW.iload 5 dX11_fitsAll_30 rfl ?_
    refine PW.iconst (x := 5) dX11_fitsAll_32 (by decide) ?_
    refine PW.icmp_ge (tgt := 76) dX11_fitsAll_33 (by decide) (fun c33 => ?_) (fun c33 => ?_)
    · rw [if_pos c33] at h
      refine PW.iload_n 2 dX11_fitsAll_76 rfl rfl ?_
      refine PW.iload 4 dX11_fitsAll_77 rfl ?_
      refine PW.bipush (x := 10) dX11_fitsAll_79 (by decide) ?_
      refine PW.irem dX11_fitsAll_81 (by decide) ?_
      refine PW.if_ne (tgt := 89) dX11_fitsAll_82 (by decide) (fun c82 => ?_) (fun c82 => ?_)
      · rw [if_neg c82] at h
        refine PW.iconst (x := 0) dX11_fitsAll_89 (by decide) ?_
        exact PW.sub (l' := [(0, .ref (ga K a0)), (1, .int a1), (3, .int a3)]) [0, 1, 3] rfl (mf_X11_fitsAll_J90 hk4 a0 a1 a3 0 a2 hp _ h)
      · rw [if_pos c82] at h
        refine PW.iconst (x := 1) dX11_fitsAll_85 (by decide) ?_
        refine PW.goto (tgt := 90) dX11_fitsAll_86 (by decide) ?_
        exact PW.sub (l' := [(0, .ref (ga K a0)), (1, .int a1), (3, .int a3)]) [0, 1, 3] rfl (mf_X11_fitsAll_J90 hk4 a0 a1 a3 1 a2 hp _ h)
    · rw [if_neg c33] at h
      refine PW.iload 4 dX11_fitsAll_36 rfl ?_
      refine PW.aload_n 0 dX11_fitsAll_38 rfl rfl ?_
      obtain ⟨x9, hx9, h⟩ := bind_some h
      refine PW.getR cls_X11 (j := 0) (by decide) dX11_fitsAll_39 wd_895 hx9 ?_
      refine PW.bipush (x := 47) dX11_fitsAll_42 (by decide) ?_
      refine PW.iconst (x := 3) dX11_fitsAll_44 (by decide) ?_
      refine PW.iload_n 3 dX11_fitsAll_45 rfl rfl ?_
      refine PW.imul dX11_fitsAll_46 ?_
      refine PW.iadd dX11_fitsAll_47 ?_
      obtain ⟨x10, hx10, h⟩ := bind_some h
      refine PW.iald dX11_fitsAll_48 hx10 ?_
      refine PW.iload 5 dX11_fitsAll_49 rfl ?_
      refine PW.callSi (As := [.int x10, .int a5]) (rest := [.int a4]) cal_X11_has dX11_fitsAll_51 wd_1044 rfl rfl (rmLe (by omega)) (Nat.le_of_ble_eq_true rfl) rm_0 (mf_X11_has x10 a5 _ rfl) ?_
      refine PW.if_eq (tgt := 66) dX11_fitsAll_54 (by decide) (fun c54 => ?_) (fun c54 => ?_)
      · rw [if_pos c54] at h
        refine PW.iconst (x := 0) dX11_fitsAll_66 (by decide) ?_
        refine PW.iadd dX11_fitsAll_67 ?_
        refine PW.istore (l' := [(4, .int (a4 + 0)), (0, .ref (ga K a0)), (1, .int a1), (2, .int a2), (3, .int a3), (5, .int a5)]) dX11_fitsAll_68 (by decide) rfl ?_
        refine PW.iinc 5 (l' := [(5, .int (a5 + 1)), (4, .int (a4 + 0)), (0, .ref (ga K a0)), (1, .int a1), (2, .int a2), (3, .int a3)]) dX11_fitsAll_70 rfl (x := a5) (y := (a5 + 1)) rfl (by decide) rfl ?_
        refine PW.goto (tgt := 30) dX11_fitsAll_73 (by decide) ?_
        exact PW.sub (l' := [(0, .ref (ga K a0)), (1, .int a1), (2, .int a2), (3, .int a3), (4, .int (a4 + 0)), (5, .int (a5 + 1))]) [2, 3, 4, 5, 1, 0] rfl (ih a0 a1 a2 a3 (a4 + 0) (a5 + 1) hp _ h)
      · rw [if_neg c54] at h
        refine PW.iload_n 1 dX11_fitsAll_57 rfl rfl ?_
        refine PW.iload 5 dX11_fitsAll_58 rfl ?_
        obtain ⟨q12, hq12, h⟩ := bind_some h
        refine PW.callSi (As := [.int a1, .int a5]) (rest := [.int a4]) cal_X11_figure dX11_fitsAll_60 wd_1252 rfl rfl (rmLe (by omega)) (Nat.le_of_ble_eq_true rfl) rm_0 (mf_X11_figure a1 a5 _ hq12) ?_
        refine PW.goto (tgt := 67) dX11_fitsAll_63 (by decide) ?_
        refine PW.iadd dX11_fitsAll_67 ?_
        refine PW.istore (l' := [(4, .int (a4 + q12)), (0, .ref (ga K a0)), (1, .int a1), (2, .int a2), (3, .int a3), (5, .int a5)]) dX11_fitsAll_68 (by decide) rfl ?_
        refine PW.iinc 5 (l' := [(5, .int (a5 + 1)), (4, .int (a4 + q12)), (0, .ref (ga K a0)), (1, .int a1), (2, .int a2), (3, .int a3)]) dX11_fitsAll_70 rfl (x := a5) (y := (a5 + 1)) rfl (by decide) rfl ?_
        refine PW.goto (tgt := 30) dX11_fitsAll_73 (by decide) ?_
        exact PW.sub (l' := [(0, .ref (ga K a0)), (1, .int a1), (2, .int a2), (3, .int a3), (4, .int (a4 + q12)), (5, .int (a5 + 1))]) [2, 3, 4, 5, 1, 0] rfl (ih a0 a1 a2 a3 (a4 + q12) (a5 + 1) hp _ h)
set_option maxRecDepth 100000 in
set_option maxHeartbeats 4000000 in
theorem mf_X11_fitsAll_L4 {K : GK} : ∀ (n : Nat) (a0 : Nat) (a1 : Int32) (a2 : Int32) (a3 : Int32) (hp : PH) (r : Int32), f_X11_fitsAll_L4 n a0 a1 a2 a3 hp = some r → PW K (rmD (1)) 0 0 M_X11_fitsAll 4 [(0, .ref (ga K a0)), (1, .int a1), (2, .int a2), (3, .int a3)] [] hp (some (.int r)) hp := by
  intro n
  induction n with
  | zero =>
    intro a0 a1 a2 a3 hp r h
    rw [f_X11_fitsAll_L4] at h
    cases h
  | succ n ih =>
    intro a0 a1 a2 a3 hp r h
    rw [f_X11_fitsAll_L4] at h
    refine PW.iload_n 3 dX11_fitsAll_4 rfl rfl ?_
    refine PW.aload_n 0 dX11_fitsAll_5 rfl rfl ?_
    obtain ⟨x1, hx1, h⟩ := bind_some h
    refine PW.getR cls_X11 (j := 0) (by decide) dX11_fitsAll_6 wd_895 hx1 ?_
    refine PW.iconst (x := 3) dX11_fitsAll_9 (by decide) ?_
    obtain ⟨x2, hx2, h⟩ := bind_some h
    refine PW.iald dX11_fitsAll_10 hx2 ?_
    refine PW.icmp_ge (tgt := 117) dX11_fitsAll_11 (by decide) (fun c11 => ?_) (fun c11 => ?_)
    · rw [if_pos c11] at h
      refine PW.iload_n 2 dX11_fitsAll_117 rfl rfl ?_
      refine PW.aload_n 0 dX11_fitsAll_118 rfl rfl ?_
      obtain ⟨x3, hx3, h⟩ := bind_some h
      refine PW.getR cls_X11 (j := 0) (by decide) dX11_fitsAll_119 wd_895 hx3 ?_
      refine PW.iconst (x := 4) dX11_fitsAll_122 (by decide) ?_
      obtain ⟨x4, hx4, h⟩ := bind_some h
      refine PW.iald dX11_fitsAll_123 hx4 ?_
      refine PW.icmp_gt (tgt := 131) dX11_fitsAll_124 (by decide) (fun c124 => ?_) (fun c124 => ?_)
      · rw [if_pos c124] at h
        refine PW.iconst (x := 0) dX11_fitsAll_131 (by decide) ?_
        have h := Option.some.inj h; subst h
        exact PW.ret dX11_fitsAll_132 (z_nar (Or.inl rfl)).1 rfl
      · rw [if_neg c124] at h
        refine PW.iconst (x := 1) dX11_fitsAll_127 (by decide) ?_
        refine PW.goto (tgt := 132) dX11_fitsAll_128 (by decide) ?_
        have h := Option.some.inj h; subst h
        exact PW.ret dX11_fitsAll_132 (z_nar (Or.inr rfl)).1 rfl
    · rw [if_neg c11] at h
      refine PW.aload_n 0 dX11_fitsAll_14 rfl rfl ?_
      obtain ⟨x5, hx5, h⟩ := bind_some h
      refine PW.getR cls_X11 (j := 0) (by decide) dX11_fitsAll_15 wd_895 hx5 ?_
      refine PW.bipush (x := 48) dX11_fitsAll_18 (by decide) ?_
      refine PW.iconst (x := 3) dX11_fitsAll_20 (by decide) ?_
      refine PW.iload_n 3 dX11_fitsAll_21 rfl rfl ?_
      refine PW.imul dX11_fitsAll_22 ?_
      refine PW.iadd dX11_fitsAll_23 ?_
      obtain ⟨x6, hx6, h⟩ := bind_some h
      refine PW.iald dX11_fitsAll_24 hx6 ?_
      refine PW.istore (l' := [(4, .int x6), (0, .ref (ga K a0)), (1, .int a1), (2, .int a2), (3, .int a3)]) dX11_fitsAll_25 (by decide) rfl ?_
      refine PW.iconst (x := 0) dX11_fitsAll_27 (by decide) ?_
      refine PW.istore (l' := [(5, .int 0), (4, .int x6), (0, .ref (ga K a0)), (1, .int a1), (2, .int a2), (3, .int a3)]) dX11_fitsAll_28 (by decide) rfl ?_
      exact PW.sub (l' := [(0, .ref (ga K a0)), (1, .int a1), (2, .int a2), (3, .int a3), (4, .int x6), (5, .int 0)]) [2, 3, 4, 5, 1, 0] rfl (mf_X11_fitsAll_L30 ih NN a0 a1 a2 a3 x6 0 hp _ h)
set_option maxRecDepth 100000 in
set_option maxHeartbeats 4000000 in
theorem mf_X11_fitsAll {K : GK} : ∀ (a0 : Nat) (a1 : Int32) (hp : PH) (r : Int32), f_X11_fitsAll a0 a1 hp = some r → PM K (1) M_X11_fitsAll [.ref (ga K a0), .int a1] hp (some (.int r)) hp := by
  intro a0 a1 hp r h
  unfold f_X11_fitsAll at h
  refine PM.enter (l0 := [(0, .ref (ga K a0)), (1, .int a1)]) (by decide +kernel) rfl (Nat.le_of_ble_eq_true rfl) rfl ?_
  refine PW.iconst (x := 0) dX11_fitsAll_0 (by decide) ?_
  refine PW.istore_n (l' := [(2, .int 0), (0, .ref (ga K a0)), (1, .int a1)]) dX11_fitsAll_1 rfl (by decide) rfl ?_
  refine PW.iconst (x := 0) dX11_fitsAll_2 (by decide) ?_
  refine PW.istore_n (l' := [(3, .int 0), (2, .int 0), (0, .ref (ga K a0)), (1, .int a1)]) dX11_fitsAll_3 rfl (by decide) rfl ?_
  exact PW.sub (l' := [(0, .ref (ga K a0)), (1, .int a1), (2, .int 0), (3, .int 0)]) [2, 3, 1, 0] rfl (mf_X11_fitsAll_L4 NN a0 a1 0 0 hp _ h)
-- X11_fits
def f_X11_fits_L16 : Nat → Nat → Int32 → Int32 → Int32 → PH → Option (Int32 × PH)
  | 0, _, _, _, _, _ => none
  | n + 1, a0, a1, a2, a3, hp => (if 100000 ≤ a3 then (if a1 = (-1) then (some (a2, hp)) else (some ((-5), hp))) else (vC hp a0 10 (f_X11_fitsAll a0 a3 hp)).bind fun q1 => (if q1 = 0 then ((f_X11_fits_L16 n) a0 a1 a2 (a3 + 1) hp) else (if a2 = a1 then (some (a3, hp)) else ((f_X11_fits_L16 n) a0 a1 (a2 + 1) (a3 + 1) hp))))
def f_X11_fits (a0 : Nat) (a1 : Int32) (hp : PH) : Option (Int32 × PH) := (if (-1) ≤ a1 then (f_X11_fits_L16 NN a0 a1 0 0 hp) else (vC hp a0 10 (f_X11_bad a0 (-10) hp)).bind fun q2 => (some (q2.1, q2.2)))
set_option maxRecDepth 100000 in
set_option maxHeartbeats 4000000 in
theorem mf_X11_fits_L16 {K : GK} : ∀ (n : Nat) (a0 : Nat) (a1 : Int32) (a2 : Int32) (a3 : Int32) (hp : PH) (r : (Int32 × PH)), f_X11_fits_L16 n a0 a1 a2 a3 hp = some r → PW K (rmD (2)) 0 0 M_X11_fits 16 [(0, .ref (ga K a0)), (1, .int a1), (2, .int a2), (3, .int a3)] [] hp (some (.int r.1)) r.2 := by
  intro n
  induction n with
  | zero =>
    intro a0 a1 a2 a3 hp r h
    rw [f_X11_fits_L16] at h
    cases h
  | succ n ih =>
    intro a0 a1 a2 a3 hp r h
    rw [f_X11_fits_L16] at h
    refine PW.iload_n 3 dX11_fits_16 rfl rfl ?_
    refine PW.ldcw (x := 100000) dX11_fits_17 wd_1247 ?_
    refine PW.icmp_ge (tgt := 47) dX11_fits_20 (by decide) (fun c20 => ?_) (fun c20 => ?_)
    · rw [if_pos c20] at h
      refine PW.iload_n 1 dX11_fits_47 rfl rfl ?_
      refine PW.iconst (x := (-1)) dX11_fits_48 (by decide) ?_
      refine PW.icmp_ne (tgt := 56) dX11_fits_49 (by decide) (fun c49 => ?_) (fun c49 => ?_)
      · rw [if_neg c49] at h
        refine PW.bipush (x := (-5)) dX11_fits_56 (by decide) ?_
        have h := Option.some.inj h; subst h
        exact PW.ret dX11_fits_58 trivial rfl
      · rw [if_pos c49] at h
        refine PW.iload_n 2 dX11_fits_52 rfl rfl ?_
        refine PW.goto (tgt := 58) dX11_fits_53 (by decide) ?_
        have h := Option.some.inj h; subst h
        exact PW.ret dX11_fits_58 trivial rfl
    · rw [if_neg c20] at h
      refine PW.aload_n 0 dX11_fits_23 rfl rfl ?_
      refine PW.iload_n 3 dX11_fits_24 rfl rfl ?_
      obtain ⟨q1, hq1, h⟩ := bind_some h
      obtain ⟨hkq1, hcq1, hq1⟩ := vC_spec hq1
      refine PW.callVi (As := [.int a3]) (rest := []) (k := a0) cal_X11_fitsAll dX11_fits_25 wd_1248 rfl rfl (rmLe (by omega)) (Nat.le_of_ble_eq_true rfl) rm_0 hkq1 hcq1 (mf_X11_fitsAll a0 a3 hp _ hq1) ?_
      refine PW.if_eq (tgt := 41) dX11_fits_28 (by decide) (fun c28 => ?_) (fun c28 => ?_)
      · rw [if_pos c28] at h
        refine PW.iinc 3 (l' := [(3, .int (a3 + 1)), (0, .ref (ga K a0)), (1, .int a1), (2, .int a2)]) dX11_fits_41 rfl (x := a3) (y := (a3 + 1)) rfl (by decide) rfl ?_
        refine PW.goto (tgt := 16) dX11_fits_44 (by decide) ?_
        exact PW.sub (l' := [(0, .ref (ga K a0)), (1, .int a1), (2, .int a2), (3, .int (a3 + 1))]) [1, 2, 3, 0] rfl (ih a0 a1 a2 (a3 + 1) hp _ h)
      · rw [if_neg c28] at h
        refine PW.iload_n 2 dX11_fits_31 rfl rfl ?_
        refine PW.iload_n 1 dX11_fits_32 rfl rfl ?_
        refine PW.icmp_ne (tgt := 38) dX11_fits_33 (by decide) (fun c33 => ?_) (fun c33 => ?_)
        · rw [if_neg c33] at h
          refine PW.iinc 2 (l' := [(2, .int (a2 + 1)), (0, .ref (ga K a0)), (1, .int a1), (3, .int a3)]) dX11_fits_38 rfl (x := a2) (y := (a2 + 1)) rfl (by decide) rfl ?_
          refine PW.iinc 3 (l' := [(3, .int (a3 + 1)), (2, .int (a2 + 1)), (0, .ref (ga K a0)), (1, .int a1)]) dX11_fits_41 rfl (x := a3) (y := (a3 + 1)) rfl (by decide) rfl ?_
          refine PW.goto (tgt := 16) dX11_fits_44 (by decide) ?_
          exact PW.sub (l' := [(0, .ref (ga K a0)), (1, .int a1), (2, .int (a2 + 1)), (3, .int (a3 + 1))]) [2, 3, 1, 0] rfl (ih a0 a1 (a2 + 1) (a3 + 1) hp _ h)
        · rw [if_pos c33] at h
          refine PW.iload_n 3 dX11_fits_36 rfl rfl ?_
          have h := Option.some.inj h; subst h
          exact PW.ret dX11_fits_37 trivial rfl
set_option maxRecDepth 100000 in
set_option maxHeartbeats 4000000 in
theorem mf_X11_fits {K : GK} : ∀ (a0 : Nat) (a1 : Int32) (hp : PH) (r : (Int32 × PH)), f_X11_fits a0 a1 hp = some r → PM K (2) M_X11_fits [.ref (ga K a0), .int a1] hp (some (.int r.1)) r.2 := by
  intro a0 a1 hp r h
  unfold f_X11_fits at h
  refine PM.enter (l0 := [(0, .ref (ga K a0)), (1, .int a1)]) (by decide +kernel) rfl (Nat.le_of_ble_eq_true rfl) rfl ?_
  refine PW.iload_n 1 dX11_fits_0 rfl rfl ?_
  refine PW.iconst (x := (-1)) dX11_fits_1 (by decide) ?_
  refine PW.icmp_ge (tgt := 12) dX11_fits_2 (by decide) (fun c2 => ?_) (fun c2 => ?_)
  · rw [if_pos c2] at h
    refine PW.iconst (x := 0) dX11_fits_12 (by decide) ?_
    refine PW.istore_n (l' := [(2, .int 0), (0, .ref (ga K a0)), (1, .int a1)]) dX11_fits_13 rfl (by decide) rfl ?_
    refine PW.iconst (x := 0) dX11_fits_14 (by decide) ?_
    refine PW.istore_n (l' := [(3, .int 0), (2, .int 0), (0, .ref (ga K a0)), (1, .int a1)]) dX11_fits_15 rfl (by decide) rfl ?_
    exact PW.sub (l' := [(0, .ref (ga K a0)), (1, .int a1), (2, .int 0), (3, .int 0)]) [2, 3, 1, 0] rfl (mf_X11_fits_L16 NN a0 a1 0 0 hp _ h)
  · rw [if_neg c2] at h
    refine PW.aload_n 0 dX11_fits_5 rfl rfl ?_
    refine PW.bipush (x := (-10)) dX11_fits_6 (by decide) ?_
    obtain ⟨q2, hq2, h⟩ := bind_some h
    obtain ⟨hkq2, hcq2, hq2⟩ := vC_spec hq2
    refine PW.callVi (As := [.int (-10)]) (rest := []) (k := a0) cal_X11_bad dX11_fits_8 wd_1002 rfl rfl (rmLe (by omega)) (Nat.le_of_ble_eq_true rfl) rm_0 hkq2 hcq2 (mf_X11_bad a0 (-10) hp _ hq2) ?_
    have h := Option.some.inj h; subst h
    exact PW.ret dX11_fits_11 trivial rfl
-- X11_untold
def f_X11_untold_L101 : Nat → Nat → Int32 → Int32 → Int32 → Int32 → PH → Option (Int32 × PH)
  | 0, _, _, _, _, _, _ => none
  | n + 1, a0, a3, a4, a5, a6, hp => (if a6 = 0 then (dvI a4 a5).bind fun x4 => (pJ hp a0 10 5 (Int32.toInt64 x4)).bind fun hp5 => (dvI a3 a5).bind fun x6 => (pJ hp5 a0 10 6 (Int32.toInt64 x6)).bind fun hp7 => (some (1, hp7)) else (rmI a5 a6).bind fun x8 => ((f_X11_untold_L101 n) a0 a3 a4 a6 x8 hp))
def f_X11_untold_L39 : Nat → Nat → Int32 → Int32 → Int32 → Int32 → Int32 → PH → Option (Int32 × PH)
  | 0, _, _, _, _, _, _, _ => none
  | n + 1, a0, a1, a2, a3, a4, a5, hp => (if 100000 ≤ a5 then (if a3 = 0 then (vC hp a0 10 (f_X11_no a0 hp)).bind fun q9 => (some (q9.1, q9.2)) else (f_X11_untold_L101 NN a0 a3 a4 a4 a3 hp)) else (vC hp a0 10 (f_X11_fitsAll a0 a5 hp)).bind fun q10 => (if q10 = 0 then ((f_X11_untold_L39 n) a0 a1 a2 a3 a4 (a5 + 1) hp) else (f_X11_figure a5 a1).bind fun q11 => (if q11 = a2 then ((f_X11_untold_L39 n) a0 a1 a2 (a3 + 1) (a4 + 1) (a5 + 1) hp) else ((f_X11_untold_L39 n) a0 a1 a2 (a3 + 1) (a4 + 0) (a5 + 1) hp))))
def f_X11_untold (a0 : Nat) (a1 : Int32) (a2 : Int32) (hp : PH) : Option (Int32 × PH) := (if (f_X11_in (Int32.toInt64 a1) 0 4) = 0 then (vC hp a0 10 (f_X11_bad a0 (-2) hp)).bind fun q2 => (some (q2.1, q2.2)) else (if (f_X11_in (Int32.toInt64 a2) 0 9) = 0 then (vC hp a0 10 (f_X11_bad a0 (-2) hp)).bind fun q12 => (some (q12.1, q12.2)) else (f_X11_untold_L39 NN a0 a1 a2 0 0 0 hp)))
set_option maxRecDepth 100000 in
set_option maxHeartbeats 4000000 in
theorem mf_X11_untold_L101 {K : GK} : ∀ (n : Nat) (a0 : Nat) (a3 : Int32) (a4 : Int32) (a5 : Int32) (a6 : Int32) (hp : PH) (r : (Int32 × PH)), f_X11_untold_L101 n a0 a3 a4 a5 a6 hp = some r → PW K (rmD (2)) 0 0 M_X11_untold 101 [(0, .ref (ga K a0)), (3, .int a3), (4, .int a4), (5, .int a5), (6, .int a6)] [] hp (some (.int r.1)) r.2 := by
  intro n
  induction n with
  | zero =>
    intro a0 a3 a4 a5 a6 hp r h
    rw [f_X11_untold_L101] at h
    cases h
  | succ n ih =>
    intro a0 a3 a4 a5 a6 hp r h
    rw [f_X11_untold_L101] at h
    refine PW.iload 4 dX11_untold_101 rfl ?_
    refine PW.if_eq (tgt := 124) dX11_untold_103 (by decide) (fun c103 => ?_) (fun c103 => ?_)
    · rw [if_pos c103] at h
      refine PW.aload_n 0 dX11_untold_124 rfl rfl ?_
      refine PW.iload 2 dX11_untold_125 rfl ?_
      refine PW.iload 3 dX11_untold_127 rfl ?_
      obtain ⟨x4, hx4, h⟩ := bind_some h
      refine PW.idivQ dX11_untold_129 hx4 ?_
      refine PW.i2l dX11_untold_130 ?_
      obtain ⟨hp5, hhp5, h⟩ := bind_some h
      refine PW.putJ cls_X11 clw_X11 (j := 5) (by decide) dX11_untold_131 wd_900 rfl rfl hhp5 ?_
      refine PW.aload_n 0 dX11_untold_134 rfl rfl ?_
      refine PW.iload_n 1 dX11_untold_135 rfl rfl ?_
      refine PW.iload 3 dX11_untold_136 rfl ?_
      obtain ⟨x6, hx6, h⟩ := bind_some h
      refine PW.idivQ dX11_untold_138 hx6 ?_
      refine PW.i2l dX11_untold_139 ?_
      obtain ⟨hp7, hhp7, h⟩ := bind_some h
      refine PW.putJ cls_X11 clw_X11 (j := 6) (by decide) dX11_untold_140 wd_901 rfl rfl hhp7 ?_
      refine PW.iconst (x := 1) dX11_untold_143 (by decide) ?_
      have h := Option.some.inj h; subst h
      exact PW.ret dX11_untold_144 trivial rfl
    · rw [if_neg c103] at h
      refine PW.iload 3 dX11_untold_106 rfl ?_
      refine PW.iload 4 dX11_untold_108 rfl ?_
      obtain ⟨x8, hx8, h⟩ := bind_some h
      refine PW.iremQ dX11_untold_110 hx8 ?_
      refine PW.istore (l' := [(7, .int x8), (0, .ref (ga K a0)), (3, .int a3), (4, .int a4), (5, .int a5), (6, .int a6)]) dX11_untold_111 (by decide) rfl ?_
      refine PW.iload 5 dX11_untold_113 rfl ?_
      refine PW.istore (l' := [(5, .int a6), (7, .int x8), (0, .ref (ga K a0)), (3, .int a3), (4, .int a4), (6, .int a6)]) dX11_untold_115 (by decide) rfl ?_
      refine PW.iload 1 dX11_untold_117 rfl ?_
      refine PW.istore (l' := [(6, .int x8), (5, .int a6), (7, .int x8), (0, .ref (ga K a0)), (3, .int a3), (4, .int a4)]) dX11_untold_119 (by decide) rfl ?_
      refine PW.goto (tgt := 101) dX11_untold_121 (by decide) ?_
      exact PW.sub (l' := [(0, .ref (ga K a0)), (3, .int a3), (4, .int a4), (5, .int a6), (6, .int x8)]) [3, 4, 5, 1, 0] rfl (ih a0 a3 a4 a6 x8 hp _ h)
set_option maxRecDepth 100000 in
set_option maxHeartbeats 4000000 in
theorem mf_X11_untold_L39 {K : GK} : ∀ (n : Nat) (a0 : Nat) (a1 : Int32) (a2 : Int32) (a3 : Int32) (a4 : Int32) (a5 : Int32) (hp : PH) (r : (Int32 × PH)), f_X11_untold_L39 n a0 a1 a2 a3 a4 a5 hp = some r → PW K (rmD (2)) 0 0 M_X11_untold 39 [(0, .ref (ga K a0)), (1, .int a1), (2, .int a2), (3, .int a3), (4, .int a4), (5, .int a5)] [] hp (some (.int r.1)) r.2 := by
  intro n
  induction n with
  | zero =>
    intro a0 a1 a2 a3 a4 a5 hp r h
    rw [f_X11_untold_L39] at h
    cases h
  | succ n ih =>
    intro a0 a1 a2 a3 a4 a5 hp r h
    rw [f_X11_untold_L39] at h
    refine PW.iload 5 dX11_untold_39 rfl ?_
    refine PW.ldcw (x := 100000) dX11_untold_41 wd_1247 ?_
    refine PW.icmp_ge (tgt := 85) dX11_untold_44 (by decide) (fun c44 => ?_) (fun c44 => ?_)
    · rw [if_pos c44] at h
      refine PW.iload_n 3 dX11_untold_85 rfl rfl ?_
      refine PW.if_ne (tgt := 94) dX11_untold_86 (by decide) (fun c86 => ?_) (fun c86 => ?_)
      · rw [if_neg c86] at h
        refine PW.iload 4 dX11_untold_94 rfl ?_
        refine PW.istore (l' := [(5, .int a4), (0, .ref (ga K a0)), (1, .int a1), (2, .int a2), (3, .int a3), (4, .int a4)]) dX11_untold_96 (by decide) rfl ?_
        refine PW.iload_n 4 dX11_untold_98 rfl rfl ?_
        refine PW.istore (l' := [(6, .int a3), (5, .int a4), (0, .ref (ga K a0)), (1, .int a1), (2, .int a2), (3, .int a3), (4, .int a4)]) dX11_untold_99 (by decide) rfl ?_
        exact PW.sub (l' := [(0, .ref (ga K a0)), (3, .int a3), (4, .int a4), (5, .int a4), (6, .int a3)]) [2, 5, 6, 1, 0] rfl (mf_X11_untold_L101 NN a0 a3 a4 a4 a3 hp _ h)
      · rw [if_pos c86] at h
        refine PW.aload_n 0 dX11_untold_89 rfl rfl ?_
        obtain ⟨q9, hq9, h⟩ := bind_some h
        obtain ⟨hkq9, hcq9, hq9⟩ := vC_spec hq9
        refine PW.callVi (As := []) (rest := []) (k := a0) cal_X11_no dX11_untold_90 wd_1047 rfl rfl (rmLe (by omega)) (Nat.le_of_ble_eq_true rfl) rm_0 hkq9 hcq9 (mf_X11_no a0 hp _ hq9) ?_
        have h := Option.some.inj h; subst h
        exact PW.ret dX11_untold_93 trivial rfl
    · rw [if_neg c44] at h
      refine PW.aload_n 0 dX11_untold_47 rfl rfl ?_
      refine PW.iload 5 dX11_untold_48 rfl ?_
      obtain ⟨q10, hq10, h⟩ := bind_some h
      obtain ⟨hkq10, hcq10, hq10⟩ := vC_spec hq10
      refine PW.callVi (As := [.int a5]) (rest := []) (k := a0) cal_X11_fitsAll dX11_untold_50 wd_1248 rfl rfl (rmLe (by omega)) (Nat.le_of_ble_eq_true rfl) rm_0 hkq10 hcq10 (mf_X11_fitsAll a0 a5 hp _ hq10) ?_
      refine PW.if_eq (tgt := 79) dX11_untold_53 (by decide) (fun c53 => ?_) (fun c53 => ?_)
      · rw [if_pos c53] at h
        refine PW.iinc 5 (l' := [(5, .int (a5 + 1)), (0, .ref (ga K a0)), (1, .int a1), (2, .int a2), (3, .int a3), (4, .int a4)]) dX11_untold_79 rfl (x := a5) (y := (a5 + 1)) rfl (by decide) rfl ?_
        refine PW.goto (tgt := 39) dX11_untold_82 (by decide) ?_
        exact PW.sub (l' := [(0, .ref (ga K a0)), (1, .int a1), (2, .int a2), (3, .int a3), (4, .int a4), (5, .int (a5 + 1))]) [1, 2, 3, 4, 5, 0] rfl (ih a0 a1 a2 a3 a4 (a5 + 1) hp _ h)
      · rw [if_neg c53] at h
        refine PW.iinc 3 (l' := [(3, .int (a3 + 1)), (0, .ref (ga K a0)), (1, .int a1), (2, .int a2), (4, .int a4), (5, .int a5)]) dX11_untold_56 rfl (x := a3) (y := (a3 + 1)) rfl (by decide) rfl ?_
        refine PW.iload 4 dX11_untold_59 rfl ?_
        refine PW.iload 5 dX11_untold_61 rfl ?_
        refine PW.iload_n 2 dX11_untold_63 rfl rfl ?_
        obtain ⟨q11, hq11, h⟩ := bind_some h
        refine PW.callSi (As := [.int a5, .int a1]) (rest := [.int a4]) cal_X11_figure dX11_untold_64 wd_1252 rfl rfl (rmLe (by omega)) (Nat.le_of_ble_eq_true rfl) rm_0 (mf_X11_figure a5 a1 _ hq11) ?_
        refine PW.iload_n 3 dX11_untold_67 rfl rfl ?_
        refine PW.icmp_ne (tgt := 75) dX11_untold_68 (by decide) (fun c68 => ?_) (fun c68 => ?_)
        · rw [if_neg c68] at h
          refine PW.iconst (x := 0) dX11_untold_75 (by decide) ?_
          refine PW.iadd dX11_untold_76 ?_
          refine PW.istore (l' := [(4, .int (a4 + 0)), (3, .int (a3 + 1)), (0, .ref (ga K a0)), (1, .int a1), (2, .int a2), (5, .int a5)]) dX11_untold_77 (by decide) rfl ?_
          refine PW.iinc 5 (l' := [(5, .int (a5 + 1)), (4, .int (a4 + 0)), (3, .int (a3 + 1)), (0, .ref (ga K a0)), (1, .int a1), (2, .int a2)]) dX11_untold_79 rfl (x := a5) (y := (a5 + 1)) rfl (by decide) rfl ?_
          refine PW.goto (tgt := 39) dX11_untold_82 (by decide) ?_
          exact PW.sub (l' := [(0, .ref (ga K a0)), (1, .int a1), (2, .int a2), (3, .int (a3 + 1)), (4, .int (a4 + 0)), (5, .int (a5 + 1))]) [3, 4, 5, 2, 1, 0] rfl (ih a0 a1 a2 (a3 + 1) (a4 + 0) (a5 + 1) hp _ h)
        · rw [if_pos c68] at h
          refine PW.iconst (x := 1) dX11_untold_71 (by decide) ?_
          refine PW.goto (tgt := 76) dX11_untold_72 (by decide) ?_
          refine PW.iadd dX11_untold_76 ?_
          refine PW.istore (l' := [(4, .int (a4 + 1)), (3, .int (a3 + 1)), (0, .ref (ga K a0)), (1, .int a1), (2, .int a2), (5, .int a5)]) dX11_untold_77 (by decide) rfl ?_
          refine PW.iinc 5 (l' := [(5, .int (a5 + 1)), (4, .int (a4 + 1)), (3, .int (a3 + 1)), (0, .ref (ga K a0)), (1, .int a1), (2, .int a2)]) dX11_untold_79 rfl (x := a5) (y := (a5 + 1)) rfl (by decide) rfl ?_
          refine PW.goto (tgt := 39) dX11_untold_82 (by decide) ?_
          exact PW.sub (l' := [(0, .ref (ga K a0)), (1, .int a1), (2, .int a2), (3, .int (a3 + 1)), (4, .int (a4 + 1)), (5, .int (a5 + 1))]) [3, 4, 5, 2, 1, 0] rfl (ih a0 a1 a2 (a3 + 1) (a4 + 1) (a5 + 1) hp _ h)
set_option maxRecDepth 100000 in
set_option maxHeartbeats 4000000 in
theorem mf_X11_untold {K : GK} : ∀ (a0 : Nat) (a1 : Int32) (a2 : Int32) (hp : PH) (r : (Int32 × PH)), f_X11_untold a0 a1 a2 hp = some r → PM K (2) M_X11_untold [.ref (ga K a0), .int a1, .int a2] hp (some (.int r.1)) r.2 := by
  intro a0 a1 a2 hp r h
  unfold f_X11_untold at h
  refine PM.enter (l0 := [(0, .ref (ga K a0)), (1, .int a1), (2, .int a2)]) (by decide +kernel) rfl (Nat.le_of_ble_eq_true rfl) rfl ?_
  refine PW.iload_n 1 dX11_untold_0 rfl rfl ?_
  refine PW.i2l dX11_untold_1 ?_
  refine PW.lconst (x := 0) dX11_untold_2 (by decide) ?_
  refine PW.ldc2 (x := 4) dX11_untold_3 wd_1034 ?_
  refine PW.callSi (As := [.long (Int32.toInt64 a1), .long 0, .long 4]) (rest := []) cal_X11_in dX11_untold_6 wd_986 rfl rfl (rmLe (by omega)) (Nat.le_of_ble_eq_true rfl) rm_0 (mf_X11_in (Int32.toInt64 a1) 0 4 _ rfl) ?_
  refine PW.if_eq (tgt := 24) dX11_untold_9 (by decide) (fun c9 => ?_) (fun c9 => ?_)
  · rw [if_pos c9] at h
    refine PW.aload_n 0 dX11_untold_24 rfl rfl ?_
    refine PW.bipush (x := (-2)) dX11_untold_25 (by decide) ?_
    obtain ⟨q2, hq2, h⟩ := bind_some h
    obtain ⟨hkq2, hcq2, hq2⟩ := vC_spec hq2
    refine PW.callVi (As := [.int (-2)]) (rest := []) (k := a0) cal_X11_bad dX11_untold_27 wd_1002 rfl rfl (rmLe (by omega)) (Nat.le_of_ble_eq_true rfl) rm_0 hkq2 hcq2 (mf_X11_bad a0 (-2) hp _ hq2) ?_
    have h := Option.some.inj h; subst h
    exact PW.ret dX11_untold_30 trivial rfl
  · rw [if_neg c9] at h
    refine PW.iload_n 2 dX11_untold_12 rfl rfl ?_
    refine PW.i2l dX11_untold_13 ?_
    refine PW.lconst (x := 0) dX11_untold_14 (by decide) ?_
    refine PW.ldc2 (x := 9) dX11_untold_15 wd_1210 ?_
    refine PW.callSi (As := [.long (Int32.toInt64 a2), .long 0, .long 9]) (rest := []) cal_X11_in dX11_untold_18 wd_986 rfl rfl (rmLe (by omega)) (Nat.le_of_ble_eq_true rfl) rm_0 (mf_X11_in (Int32.toInt64 a2) 0 9 _ rfl) ?_
    refine PW.if_ne (tgt := 31) dX11_untold_21 (by decide) (fun c21 => ?_) (fun c21 => ?_)
    · rw [if_neg c21] at h
      refine PW.iconst (x := 0) dX11_untold_31 (by decide) ?_
      refine PW.istore_n (l' := [(3, .int 0), (0, .ref (ga K a0)), (1, .int a1), (2, .int a2)]) dX11_untold_32 rfl (by decide) rfl ?_
      refine PW.iconst (x := 0) dX11_untold_33 (by decide) ?_
      refine PW.istore (l' := [(4, .int 0), (3, .int 0), (0, .ref (ga K a0)), (1, .int a1), (2, .int a2)]) dX11_untold_34 (by decide) rfl ?_
      refine PW.iconst (x := 0) dX11_untold_36 (by decide) ?_
      refine PW.istore (l' := [(5, .int 0), (4, .int 0), (3, .int 0), (0, .ref (ga K a0)), (1, .int a1), (2, .int a2)]) dX11_untold_37 (by decide) rfl ?_
      exact PW.sub (l' := [(0, .ref (ga K a0)), (1, .int a1), (2, .int a2), (3, .int 0), (4, .int 0), (5, .int 0)]) [3, 4, 5, 2, 1, 0] rfl (mf_X11_untold_L39 NN a0 a1 a2 0 0 0 hp _ h)
    · rw [if_pos c21] at h
      refine PW.aload_n 0 dX11_untold_24 rfl rfl ?_
      refine PW.bipush (x := (-2)) dX11_untold_25 (by decide) ?_
      obtain ⟨q12, hq12, h⟩ := bind_some h
      obtain ⟨hkq12, hcq12, hq12⟩ := vC_spec hq12
      refine PW.callVi (As := [.int (-2)]) (rest := []) (k := a0) cal_X11_bad dX11_untold_27 wd_1002 rfl rfl (rmLe (by omega)) (Nat.le_of_ble_eq_true rfl) rm_0 hkq12 hcq12 (mf_X11_bad a0 (-2) hp _ hq12) ?_
      have h := Option.some.inj h; subst h
      exact PW.ret dX11_untold_30 trivial rfl
-- X11_part
def f_X11_part (a0 : Nat) (a1 : Int32) (hp : PH) : Option (Int32 × PH) := (if (f_X11_in (Int32.toInt64 a1) 0 1) = 0 then (vC hp a0 10 (f_X11_bad a0 (-2) hp)).bind fun q2 => (some (q2.1, q2.2)) else (if a1 = 0 then (gJ hp a0 10 5).bind fun x4 => (some ((Int64.toInt32 x4), hp)) else (gJ hp a0 10 6).bind fun x3 => (some ((Int64.toInt32 x3), hp))))
set_option maxRecDepth 100000 in
set_option maxHeartbeats 4000000 in
theorem mf_X11_part {K : GK} : ∀ (a0 : Nat) (a1 : Int32) (hp : PH) (r : (Int32 × PH)), f_X11_part a0 a1 hp = some r → PM K (1) M_X11_part [.ref (ga K a0), .int a1] hp (some (.int r.1)) r.2 := by
  intro a0 a1 hp r h
  unfold f_X11_part at h
  refine PM.enter (l0 := [(0, .ref (ga K a0)), (1, .int a1)]) (by decide +kernel) rfl (Nat.le_of_ble_eq_true rfl) rfl ?_
  refine PW.iload_n 1 dX11_part_0 rfl rfl ?_
  refine PW.i2l dX11_part_1 ?_
  refine PW.lconst (x := 0) dX11_part_2 (by decide) ?_
  refine PW.lconst (x := 1) dX11_part_3 (by decide) ?_
  refine PW.callSi (As := [.long (Int32.toInt64 a1), .long 0, .long 1]) (rest := []) cal_X11_in dX11_part_4 wd_986 rfl rfl (rmLe (by omega)) (Nat.le_of_ble_eq_true rfl) rm_0 (mf_X11_in (Int32.toInt64 a1) 0 1 _ rfl) ?_
  refine PW.if_eq (tgt := 29) dX11_part_7 (by decide) (fun c7 => ?_) (fun c7 => ?_)
  · rw [if_pos c7] at h
    refine PW.aload_n 0 dX11_part_29 rfl rfl ?_
    refine PW.bipush (x := (-2)) dX11_part_30 (by decide) ?_
    obtain ⟨q2, hq2, h⟩ := bind_some h
    obtain ⟨hkq2, hcq2, hq2⟩ := vC_spec hq2
    refine PW.callVi (As := [.int (-2)]) (rest := []) (k := a0) cal_X11_bad dX11_part_32 wd_1002 rfl rfl (rmLe (by omega)) (Nat.le_of_ble_eq_true rfl) rm_0 hkq2 hcq2 (mf_X11_bad a0 (-2) hp _ hq2) ?_
    have h := Option.some.inj h; subst h
    exact PW.ret dX11_part_35 trivial rfl
  · rw [if_neg c7] at h
    refine PW.iload_n 1 dX11_part_10 rfl rfl ?_
    refine PW.if_ne (tgt := 21) dX11_part_11 (by decide) (fun c11 => ?_) (fun c11 => ?_)
    · rw [if_neg c11] at h
      refine PW.aload_n 0 dX11_part_21 rfl rfl ?_
      obtain ⟨x3, hx3, h⟩ := bind_some h
      refine PW.getJ cls_X11 (j := 6) (by decide) dX11_part_22 wd_901 hx3 ?_
      refine PW.l2i dX11_part_25 ?_
      refine PW.goto (tgt := 35) dX11_part_26 (by decide) ?_
      have h := Option.some.inj h; subst h
      exact PW.ret dX11_part_35 trivial rfl
    · rw [if_pos c11] at h
      refine PW.aload_n 0 dX11_part_14 rfl rfl ?_
      obtain ⟨x4, hx4, h⟩ := bind_some h
      refine PW.getJ cls_X11 (j := 5) (by decide) dX11_part_15 wd_900 hx4 ?_
      refine PW.goto (tgt := 25) dX11_part_18 (by decide) ?_
      refine PW.l2i dX11_part_25 ?_
      refine PW.goto (tgt := 35) dX11_part_26 (by decide) ?_
      have h := Option.some.inj h; subst h
      exact PW.ret dX11_part_35 trivial rfl
-- X11_image
def f_X11_image_J100 (a0 : Nat) (a1 : Int32) (s0 : Int32) (s1 : Nat) (hp : PH) : Option (Int32 × PH) := (pZ hp s1 10 3 s0).bind fun hp3 => (gI hp3 a0 10 4).bind fun x4 => (if x4 = 0 then (if a1 = 1 then (pZ hp3 a0 10 4 1).bind fun hp7 => (some (1, hp7)) else (pZ hp3 a0 10 4 0).bind fun hp6 => (some (1, hp6))) else (pZ hp3 a0 10 4 1).bind fun hp5 => (some (1, hp5)))
def f_X11_image_J50 (k19 : Nat → Int32 → Int32 → PH → Option (Int32 × PH)) (a0 : Nat) (a1 : Int32) (a2 : Int32) (s0 : Int32) (s1 : Int32) (s2 : Nat) (hp : PH) : Option (Int32 × PH) := (uI hp s2 s1 s0).bind fun hp11 => (gR hp11 a0 10 2).bind fun x12 => (if a1 = 1 then (gR hp11 a0 10 0).bind fun x16 => (aI hp11 x16 0 a2).bind fun x17 => (uI hp11 x12 a2 x17).bind fun hp18 => (k19 a0 a1 (a2 + 1) hp18) else (gR hp11 a0 10 2).bind fun x13 => (aI hp11 x13 0 a2).bind fun x14 => (uI hp11 x12 a2 x14).bind fun hp15 => (k19 a0 a1 (a2 + 1) hp15))
def f_X11_image_L19 : Nat → Nat → Int32 → Int32 → PH → Option (Int32 × PH)
  | 0, _, _, _, _ => none
  | n + 1, a0, a1, a2, hp => (if 277 ≤ a2 then (gI hp a0 10 3).bind fun x2 => (if x2 = 0 then (if a1 = 0 then (f_X11_image_J100 a0 a1 1 a0 hp) else (f_X11_image_J100 a0 a1 0 a0 hp)) else (f_X11_image_J100 a0 a1 1 a0 hp)) else (gR hp a0 10 1).bind fun x8 => (if a1 = 0 then (gR hp a0 10 0).bind fun x19 => (aI hp x19 0 a2).bind fun x20 => (f_X11_image_J50 (f_X11_image_L19 n) a0 a1 a2 x20 a2 x8 hp) else (gR hp a0 10 1).bind fun x9 => (aI hp x9 0 a2).bind fun x10 => (f_X11_image_J50 (f_X11_image_L19 n) a0 a1 a2 x10 a2 x8 hp)))
def f_X11_image (a0 : Nat) (a1 : Int32) (hp : PH) : Option (Int32 × PH) := (if (f_X11_in (Int32.toInt64 a1) 0 1) = 0 then (vC hp a0 10 (f_X11_bad a0 (-2) hp)).bind fun q21 => (some (q21.1, q21.2)) else (f_X11_image_L19 NN a0 a1 0 hp))
set_option maxRecDepth 100000 in
set_option maxHeartbeats 4000000 in
theorem mf_X11_image_J100 {K : GK} : ∀ (a0 : Nat) (a1 : Int32) (s0 : Int32) (s1 : Nat) (hp : PH) (r : (Int32 × PH)), f_X11_image_J100 a0 a1 s0 s1 hp = some r → PW K (rmD (1)) 0 0 M_X11_image 100 [(0, .ref (ga K a0)), (1, .int a1)] [.int s0, .ref (ga K s1)] hp (some (.int r.1)) r.2 := by
  intro a0 a1 s0 s1 hp r h
  unfold f_X11_image_J100 at h
  obtain ⟨hp3, hhp3, h⟩ := bind_some h
  refine PW.putZ cls_X11 clw_X11 (j := 3) (by decide) dX11_image_100 wd_898 rfl rfl hhp3 ?_
  refine PW.aload_n 0 dX11_image_103 rfl rfl ?_
  refine PW.aload_n 0 dX11_image_104 rfl rfl ?_
  obtain ⟨x4, hx4, h⟩ := bind_some h
  refine PW.getI cls_X11 (j := 4) (by decide) dX11_image_105 wd_899 hx4 ?_
  refine PW.if_ne (tgt := 116) dX11_image_108 (by decide) (fun c108 => ?_) (fun c108 => ?_)
  · rw [if_neg c108] at h
    refine PW.iconst (x := 1) dX11_image_116 (by decide) ?_
    refine PW.goto (tgt := 121) dX11_image_117 (by decide) ?_
    obtain ⟨hp5, hhp5, h⟩ := bind_some h
    refine PW.putZ cls_X11 clw_X11 (j := 4) (by decide) dX11_image_121 wd_899 rfl rfl hhp5 ?_
    refine PW.iconst (x := 1) dX11_image_124 (by decide) ?_
    have h := Option.some.inj h; subst h
    exact PW.ret dX11_image_125 trivial rfl
  · rw [if_pos c108] at h
    refine PW.iload_n 1 dX11_image_111 rfl rfl ?_
    refine PW.iconst (x := 1) dX11_image_112 (by decide) ?_
    refine PW.icmp_ne (tgt := 120) dX11_image_113 (by decide) (fun c113 => ?_) (fun c113 => ?_)
    · rw [if_neg c113] at h
      refine PW.iconst (x := 0) dX11_image_120 (by decide) ?_
      obtain ⟨hp6, hhp6, h⟩ := bind_some h
      refine PW.putZ cls_X11 clw_X11 (j := 4) (by decide) dX11_image_121 wd_899 rfl rfl hhp6 ?_
      refine PW.iconst (x := 1) dX11_image_124 (by decide) ?_
      have h := Option.some.inj h; subst h
      exact PW.ret dX11_image_125 trivial rfl
    · rw [if_pos c113] at h
      refine PW.iconst (x := 1) dX11_image_116 (by decide) ?_
      refine PW.goto (tgt := 121) dX11_image_117 (by decide) ?_
      obtain ⟨hp7, hhp7, h⟩ := bind_some h
      refine PW.putZ cls_X11 clw_X11 (j := 4) (by decide) dX11_image_121 wd_899 rfl rfl hhp7 ?_
      refine PW.iconst (x := 1) dX11_image_124 (by decide) ?_
      have h := Option.some.inj h; subst h
      exact PW.ret dX11_image_125 trivial rfl
set_option maxRecDepth 100000 in
set_option maxHeartbeats 4000000 in
theorem mf_X11_image_J50 {K : GK} {k19 : Nat → Int32 → Int32 → PH → Option (Int32 × PH)} (hk19 : ∀ (a0 : Nat) (a1 : Int32) (a2 : Int32) (hp : PH) (r : (Int32 × PH)), k19 a0 a1 a2 hp = some r → PW K (rmD (1)) 0 0 M_X11_image 19 [(0, .ref (ga K a0)), (1, .int a1), (2, .int a2)] [] hp (some (.int r.1)) r.2) : ∀ (a0 : Nat) (a1 : Int32) (a2 : Int32) (s0 : Int32) (s1 : Int32) (s2 : Nat) (hp : PH) (r : (Int32 × PH)), f_X11_image_J50 k19 a0 a1 a2 s0 s1 s2 hp = some r → PW K (rmD (1)) 0 0 M_X11_image 50 [(0, .ref (ga K a0)), (1, .int a1), (2, .int a2)] [.int s0, .int s1, .ref (ga K s2)] hp (some (.int r.1)) r.2 := by
  intro a0 a1 a2 s0 s1 s2 hp r h
  unfold f_X11_image_J50 at h
  obtain ⟨hp11, hhp11, h⟩ := bind_some h
  refine PW.iast dX11_image_50 hhp11 ?_
  refine PW.aload_n 0 dX11_image_51 rfl rfl ?_
  obtain ⟨x12, hx12, h⟩ := bind_some h
  refine PW.getR cls_X11 (j := 2) (by decide) dX11_image_52 wd_897 hx12 ?_
  refine PW.iload_n 2 dX11_image_55 rfl rfl ?_
  refine PW.iload_n 1 dX11_image_56 rfl rfl ?_
  refine PW.iconst (x := 1) dX11_image_57 (by decide) ?_
  refine PW.icmp_ne (tgt := 70) dX11_image_58 (by decide) (fun c58 => ?_) (fun c58 => ?_)
  · rw [if_neg c58] at h
    refine PW.aload_n 0 dX11_image_70 rfl rfl ?_
    obtain ⟨x13, hx13, h⟩ := bind_some h
    refine PW.getR cls_X11 (j := 2) (by decide) dX11_image_71 wd_897 hx13 ?_
    refine PW.iload_n 2 dX11_image_74 rfl rfl ?_
    obtain ⟨x14, hx14, h⟩ := bind_some h
    refine PW.iald dX11_image_75 hx14 ?_
    obtain ⟨hp15, hhp15, h⟩ := bind_some h
    refine PW.iast dX11_image_76 hhp15 ?_
    refine PW.iinc 2 (l' := [(2, .int (a2 + 1)), (0, .ref (ga K a0)), (1, .int a1)]) dX11_image_77 rfl (x := a2) (y := (a2 + 1)) rfl (by decide) rfl ?_
    refine PW.goto (tgt := 19) dX11_image_80 (by decide) ?_
    exact PW.sub (l' := [(0, .ref (ga K a0)), (1, .int a1), (2, .int (a2 + 1))]) [1, 2, 0] rfl (hk19 a0 a1 (a2 + 1) hp15 _ h)
  · rw [if_pos c58] at h
    refine PW.aload_n 0 dX11_image_61 rfl rfl ?_
    obtain ⟨x16, hx16, h⟩ := bind_some h
    refine PW.getR cls_X11 (j := 0) (by decide) dX11_image_62 wd_895 hx16 ?_
    refine PW.iload_n 2 dX11_image_65 rfl rfl ?_
    obtain ⟨x17, hx17, h⟩ := bind_some h
    refine PW.iald dX11_image_66 hx17 ?_
    refine PW.goto (tgt := 76) dX11_image_67 (by decide) ?_
    obtain ⟨hp18, hhp18, h⟩ := bind_some h
    refine PW.iast dX11_image_76 hhp18 ?_
    refine PW.iinc 2 (l' := [(2, .int (a2 + 1)), (0, .ref (ga K a0)), (1, .int a1)]) dX11_image_77 rfl (x := a2) (y := (a2 + 1)) rfl (by decide) rfl ?_
    refine PW.goto (tgt := 19) dX11_image_80 (by decide) ?_
    exact PW.sub (l' := [(0, .ref (ga K a0)), (1, .int a1), (2, .int (a2 + 1))]) [1, 2, 0] rfl (hk19 a0 a1 (a2 + 1) hp18 _ h)
set_option maxRecDepth 100000 in
set_option maxHeartbeats 4000000 in
theorem mf_X11_image_L19 {K : GK} : ∀ (n : Nat) (a0 : Nat) (a1 : Int32) (a2 : Int32) (hp : PH) (r : (Int32 × PH)), f_X11_image_L19 n a0 a1 a2 hp = some r → PW K (rmD (1)) 0 0 M_X11_image 19 [(0, .ref (ga K a0)), (1, .int a1), (2, .int a2)] [] hp (some (.int r.1)) r.2 := by
  intro n
  induction n with
  | zero =>
    intro a0 a1 a2 hp r h
    rw [f_X11_image_L19] at h
    cases h
  | succ n ih =>
    intro a0 a1 a2 hp r h
    rw [f_X11_image_L19] at h
    refine PW.iload_n 2 dX11_image_19 rfl rfl ?_
    refine PW.sipush (x := 277) dX11_image_20 (by decide) ?_
    refine PW.icmp_ge (tgt := 83) dX11_image_23 (by decide) (fun c23 => ?_) (fun c23 => ?_)
    · rw [if_pos c23] at h
      refine PW.aload_n 0 dX11_image_83 rfl rfl ?_
      refine PW.aload_n 0 dX11_image_84 rfl rfl ?_
      obtain ⟨x2, hx2, h⟩ := bind_some h
      refine PW.getI cls_X11 (j := 3) (by decide) dX11_image_85 wd_898 hx2 ?_
      refine PW.if_ne (tgt := 95) dX11_image_88 (by decide) (fun c88 => ?_) (fun c88 => ?_)
      · rw [if_neg c88] at h
        refine PW.iconst (x := 1) dX11_image_95 (by decide) ?_
        refine PW.goto (tgt := 100) dX11_image_96 (by decide) ?_
        exact PW.sub (l' := [(0, .ref (ga K a0)), (1, .int a1)]) [0, 1] rfl (mf_X11_image_J100 a0 a1 1 a0 hp _ h)
      · rw [if_pos c88] at h
        refine PW.iload_n 1 dX11_image_91 rfl rfl ?_
        refine PW.if_ne (tgt := 99) dX11_image_92 (by decide) (fun c92 => ?_) (fun c92 => ?_)
        · rw [if_neg c92] at h
          refine PW.iconst (x := 0) dX11_image_99 (by decide) ?_
          exact PW.sub (l' := [(0, .ref (ga K a0)), (1, .int a1)]) [0, 1] rfl (mf_X11_image_J100 a0 a1 0 a0 hp _ h)
        · rw [if_pos c92] at h
          refine PW.iconst (x := 1) dX11_image_95 (by decide) ?_
          refine PW.goto (tgt := 100) dX11_image_96 (by decide) ?_
          exact PW.sub (l' := [(0, .ref (ga K a0)), (1, .int a1)]) [0, 1] rfl (mf_X11_image_J100 a0 a1 1 a0 hp _ h)
    · rw [if_neg c23] at h
      refine PW.aload_n 0 dX11_image_26 rfl rfl ?_
      obtain ⟨x8, hx8, h⟩ := bind_some h
      refine PW.getR cls_X11 (j := 1) (by decide) dX11_image_27 wd_896 hx8 ?_
      refine PW.iload_n 2 dX11_image_30 rfl rfl ?_
      refine PW.iload_n 1 dX11_image_31 rfl rfl ?_
      refine PW.if_ne (tgt := 44) dX11_image_32 (by decide) (fun c32 => ?_) (fun c32 => ?_)
      · rw [if_neg c32] at h
        refine PW.aload_n 0 dX11_image_44 rfl rfl ?_
        obtain ⟨x9, hx9, h⟩ := bind_some h
        refine PW.getR cls_X11 (j := 1) (by decide) dX11_image_45 wd_896 hx9 ?_
        refine PW.iload_n 2 dX11_image_48 rfl rfl ?_
        obtain ⟨x10, hx10, h⟩ := bind_some h
        refine PW.iald dX11_image_49 hx10 ?_
        exact PW.sub (l' := [(0, .ref (ga K a0)), (1, .int a1), (2, .int a2)]) [0, 1, 2] rfl (mf_X11_image_J50 ih a0 a1 a2 x10 a2 x8 hp _ h)
      · rw [if_pos c32] at h
        refine PW.aload_n 0 dX11_image_35 rfl rfl ?_
        obtain ⟨x19, hx19, h⟩ := bind_some h
        refine PW.getR cls_X11 (j := 0) (by decide) dX11_image_36 wd_895 hx19 ?_
        refine PW.iload_n 2 dX11_image_39 rfl rfl ?_
        obtain ⟨x20, hx20, h⟩ := bind_some h
        refine PW.iald dX11_image_40 hx20 ?_
        refine PW.goto (tgt := 50) dX11_image_41 (by decide) ?_
        exact PW.sub (l' := [(0, .ref (ga K a0)), (1, .int a1), (2, .int a2)]) [0, 1, 2] rfl (mf_X11_image_J50 ih a0 a1 a2 x20 a2 x8 hp _ h)
set_option maxRecDepth 100000 in
set_option maxHeartbeats 4000000 in
theorem mf_X11_image {K : GK} : ∀ (a0 : Nat) (a1 : Int32) (hp : PH) (r : (Int32 × PH)), f_X11_image a0 a1 hp = some r → PM K (1) M_X11_image [.ref (ga K a0), .int a1] hp (some (.int r.1)) r.2 := by
  intro a0 a1 hp r h
  unfold f_X11_image at h
  refine PM.enter (l0 := [(0, .ref (ga K a0)), (1, .int a1)]) (by decide +kernel) rfl (Nat.le_of_ble_eq_true rfl) rfl ?_
  refine PW.iload_n 1 dX11_image_0 rfl rfl ?_
  refine PW.i2l dX11_image_1 ?_
  refine PW.lconst (x := 0) dX11_image_2 (by decide) ?_
  refine PW.lconst (x := 1) dX11_image_3 (by decide) ?_
  refine PW.callSi (As := [.long (Int32.toInt64 a1), .long 0, .long 1]) (rest := []) cal_X11_in dX11_image_4 wd_986 rfl rfl (rmLe (by omega)) (Nat.le_of_ble_eq_true rfl) rm_0 (mf_X11_in (Int32.toInt64 a1) 0 1 _ rfl) ?_
  refine PW.if_ne (tgt := 17) dX11_image_7 (by decide) (fun c7 => ?_) (fun c7 => ?_)
  · rw [if_neg c7] at h
    refine PW.iconst (x := 0) dX11_image_17 (by decide) ?_
    refine PW.istore_n (l' := [(2, .int 0), (0, .ref (ga K a0)), (1, .int a1)]) dX11_image_18 rfl (by decide) rfl ?_
    exact PW.sub (l' := [(0, .ref (ga K a0)), (1, .int a1), (2, .int 0)]) [1, 2, 0] rfl (mf_X11_image_L19 NN a0 a1 0 hp _ h)
  · rw [if_pos c7] at h
    refine PW.aload_n 0 dX11_image_10 rfl rfl ?_
    refine PW.bipush (x := (-2)) dX11_image_11 (by decide) ?_
    obtain ⟨q21, hq21, h⟩ := bind_some h
    obtain ⟨hkq21, hcq21, hq21⟩ := vC_spec hq21
    refine PW.callVi (As := [.int (-2)]) (rest := []) (k := a0) cal_X11_bad dX11_image_13 wd_1002 rfl rfl (rmLe (by omega)) (Nat.le_of_ble_eq_true rfl) rm_0 hkq21 hcq21 (mf_X11_bad a0 (-2) hp _ hq21) ?_
    have h := Option.some.inj h; subst h
    exact PW.ret dX11_image_16 trivial rfl
