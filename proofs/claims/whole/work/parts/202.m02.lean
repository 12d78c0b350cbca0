-- X2_countBehind
def f_X2_countBehind (rc : Nat → Int32 → Int32 → PH → Option (Int32 × PH)) (a0 : Nat) (a1 : Int32) (a2 : Int32) (a3 : Int32) (hp : PH) : Option (Int32 × PH) := (gR hp a0 1 1).bind fun x1 => (uI hp x1 a1 a2).bind fun hp2 => (gR hp2 a0 1 3).bind fun x3 => (aI hp2 x3 0 ((a1 * 10) + a2)).bind fun x4 => (vC hp2 a0 1 (rc a0 (a1 + 1) (a3 + x4) hp2)).bind fun q5 => (some (q5.1, q5.2))
set_option maxRecDepth 100000 in
set_option maxHeartbeats 4000000 in
theorem mf_X2_countBehind {K : GK} {dd : Nat} {rc : Nat → Int32 → Int32 → PH → Option (Int32 × PH)} (hrc : ∀ (a0 : Nat) (a1 a2 : Int32) (hp : PH) (r : Int32 × PH), rc a0 a1 a2 hp = some r → PM K dd M_X2_countFrom [.ref (ga K a0), .int a1, .int a2] hp (some (.int r.1)) r.2) : ∀ (a0 : Nat) (a1 : Int32) (a2 : Int32) (a3 : Int32) (hp : PH) (r : (Int32 × PH)), f_X2_countBehind rc a0 a1 a2 a3 hp = some r → PM K (dd + 1) M_X2_countBehind [.ref (ga K a0), .int a1, .int a2, .int a3] hp (some (.int r.1)) r.2 := by
  intro a0 a1 a2 a3 hp r h
  unfold f_X2_countBehind at h
  refine PM.enter (l0 := [(0, .ref (ga K a0)), (1, .int a1), (2, .int a2), (3, .int a3)]) (by decide +kernel) rfl (Nat.le_of_ble_eq_true rfl) rfl ?_
  refine PW.aload_n 0 dX2_countBehind_0 rfl rfl ?_
  obtain ⟨x1, hx1, h⟩ := bind_some h
  refine PW.getR cls_X2 (j := 1) (by decide) dX2_countBehind_1 wd_307 hx1 ?_
  refine PW.iload_n 1 dX2_countBehind_4 rfl rfl ?_
  refine PW.iload_n 2 dX2_countBehind_5 rfl rfl ?_
  obtain ⟨hp2, hhp2, h⟩ := bind_some h
  refine PW.iast dX2_countBehind_6 hhp2 ?_
  refine PW.aload_n 0 dX2_countBehind_7 rfl rfl ?_
  refine PW.iload_n 1 dX2_countBehind_8 rfl rfl ?_
  refine PW.iconst (x := 1) dX2_countBehind_9 (by decide) ?_
  refine PW.iadd dX2_countBehind_10 ?_
  refine PW.iload_n 3 dX2_countBehind_11 rfl rfl ?_
  refine PW.aload_n 0 dX2_countBehind_12 rfl rfl ?_
  obtain ⟨x3, hx3, h⟩ := bind_some h
  refine PW.getR cls_X2 (j := 3) (by decide) dX2_countBehind_13 wd_309 hx3 ?_
  refine PW.iload_n 1 dX2_countBehind_16 rfl rfl ?_
  refine PW.bipush (x := 10) dX2_countBehind_17 (by decide) ?_
  refine PW.imul dX2_countBehind_19 ?_
  refine PW.iload_n 2 dX2_countBehind_20 rfl rfl ?_
  refine PW.iadd dX2_countBehind_21 ?_
  obtain ⟨x4, hx4, h⟩ := bind_some h
  refine PW.iald dX2_countBehind_22 hx4 ?_
  refine PW.iadd dX2_countBehind_23 ?_
  obtain ⟨q5, hq5, h⟩ := bind_some h
  obtain ⟨hkq5, hcq5, hq5⟩ := vC_spec hq5
  refine PW.callVi (As := [.int (a1 + 1), .int (a3 + x4)]) (rest := []) (k := a0) cal_X2_countFrom dX2_countBehind_24 wd_805 rfl rfl (rmLe (by omega)) (Nat.le_of_ble_eq_true rfl) rm_0 hkq5 hcq5 (hrc a0 (a1 + 1) (a3 + x4) hp2 _ hq5) ?_
  have h := Option.some.inj h; subst h
  exact PW.ret dX2_countBehind_27 trivial rfl
-- X2_countFrom
def f_X2_countFrom_J76 (rc : Nat → Int32 → Int32 → PH → Option (Int32 × PH)) (k52 : Nat → Int32 → Int32 → Int32 → Int32 → PH → Option (Int32 × PH)) (a0 : Nat) (a1 : Int32) (a2 : Int32) (a3 : Int32) (a4 : Int32) (hp : PH) : Option (Int32 × PH) := (vC hp a0 1 (f_X2_countBehind rc a0 a1 a4 a2 hp)).bind fun q10 => (k52 a0 a1 a2 (a3 + q10.1) (a4 + 1) q10.2)
def f_X2_countFrom_L52 (rc : Nat → Int32 → Int32 → PH → Option (Int32 × PH)) : Nat → Nat → Int32 → Int32 → Int32 → Int32 → PH → Option (Int32 × PH)
  | 0, _, _, _, _, _, _ => none
  | n + 1, a0, a1, a2, a3, a4, hp => (if 10 ≤ a4 then (some (a3, hp)) else (gI hp a0 1 4).bind fun x9 => (if a1 = x9 then (gI hp a0 1 5).bind fun x11 => (if a4 = x11 then (f_X2_countFrom_J76 rc (f_X2_countFrom_L52 rc n) a0 a1 a2 a3 a4 hp) else ((f_X2_countFrom_L52 rc n) a0 a1 a2 a3 (a4 + 1) hp)) else (f_X2_countFrom_J76 rc (f_X2_countFrom_L52 rc n) a0 a1 a2 a3 a4 hp)))
def f_X2_countFrom_body (rc : Nat → Int32 → Int32 → PH → Option (Int32 × PH)) (a0 : Nat) (a1 : Int32) (a2 : Int32) (hp : PH) : Option (Int32 × PH) := (gR hp a0 1 0).bind fun x1 => (gI hp x1 4 1).bind fun x2 => (if a2 ≤ x2 then (if 5 ≤ a1 then (vC hp a0 1 (f_X2_freeWays a0 a1 hp)).bind fun q3 => (some (q3, hp)) else (gR hp a0 1 2).bind fun x4 => (aI hp x4 0 a1).bind fun x5 => (gR hp a0 1 0).bind fun x6 => (gI hp x6 4 1).bind fun x7 => (if x7 < (a2 + x5) then (vC hp a0 1 (f_X2_weighFigures a0 a1 hp)).bind fun q8 => (f_X2_countFrom_L52 rc NN a0 a1 a2 0 0 q8) else (vC hp a0 1 (f_X2_freeWays a0 a1 hp)).bind fun q12 => (some (q12, hp)))) else (some (0, hp)))
def f_X2_countFrom : Nat → Nat → Int32 → Int32 → PH → Option (Int32 × PH)
  | 0, _, _, _, _ => none
  | D + 1, a0, a1, a2, hp => f_X2_countFrom_body (f_X2_countFrom D) a0 a1 a2 hp
set_option maxRecDepth 100000 in
set_option maxHeartbeats 4000000 in
theorem mf_X2_countFrom_J76 {K : GK} {dd : Nat} {rc : Nat → Int32 → Int32 → PH → Option (Int32 × PH)} (hrc : ∀ (a0 : Nat) (a1 a2 : Int32) (hp : PH) (r : Int32 × PH), rc a0 a1 a2 hp = some r → PM K dd M_X2_countFrom [.ref (ga K a0), .int a1, .int a2] hp (some (.int r.1)) r.2) {k52 : Nat → Int32 → Int32 → Int32 → Int32 → PH → Option (Int32 × PH)} (hk52 : ∀ (a0 : Nat) (a1 : Int32) (a2 : Int32) (a3 : Int32) (a4 : Int32) (hp : PH) (r : (Int32 × PH)), k52 a0 a1 a2 a3 a4 hp = some r → PW K (rmD (dd + 4)) 0 0 M_X2_countFrom 52 [(0, .ref (ga K a0)), (1, .int a1), (2, .int a2), (3, .int a3), (4, .int a4)] [] hp (some (.int r.1)) r.2) : ∀ (a0 : Nat) (a1 : Int32) (a2 : Int32) (a3 : Int32) (a4 : Int32) (hp : PH) (r : (Int32 × PH)), f_X2_countFrom_J76 rc k52 a0 a1 a2 a3 a4 hp = some r → PW K (rmD (dd + 4)) 0 0 M_X2_countFrom 76 [(0, .ref (ga K a0)), (1, .int a1), (2, .int a2), (3, .int a3), (4, .int a4)] [] hp (some (.int r.1)) r.2 := by
  intro a0 a1 a2 a3 a4 hp r h
  unfold f_X2_countFrom_J76 at h
  refine PW.iload_n 3 dX2_countFrom_76 rfl rfl ?_
  refine PW.aload_n 0 dX2_countFrom_77 rfl rfl ?_
  refine PW.iload_n 1 dX2_countFrom_78 rfl rfl ?_
  refine PW.iload 4 dX2_countFrom_79 rfl ?_
  refine PW.iload_n 2 dX2_countFrom_81 rfl rfl ?_
  obtain ⟨q10, hq10, h⟩ := bind_some h
  obtain ⟨hkq10, hcq10, hq10⟩ := vC_spec hq10
  refine PW.callVi (As := [.int a1, .int a4, .int a2]) (rest := [.int a3]) (k := a0) cal_X2_countBehind dX2_countFrom_82 wd_821 rfl rfl (rmLe (by omega)) (Nat.le_of_ble_eq_true rfl) rm_0 hkq10 hcq10 (mf_X2_countBehind hrc a0 a1 a4 a2 hp _ hq10) ?_
  refine PW.iadd dX2_countFrom_85 ?_
  refine PW.istore_n (l' := [(3, .int (a3 + q10.1)), (0, .ref (ga K a0)), (1, .int a1), (2, .int a2), (4, .int a4)]) dX2_countFrom_86 rfl (by decide) rfl ?_
  refine PW.iinc 4 (l' := [(4, .int (a4 + 1)), (3, .int (a3 + q10.1)), (0, .ref (ga K a0)), (1, .int a1), (2, .int a2)]) dX2_countFrom_87 rfl (x := a4) (y := (a4 + 1)) rfl (by decide) rfl ?_
  refine PW.goto (tgt := 52) dX2_countFrom_90 (by decide) ?_
  exact PW.sub (l' := [(0, .ref (ga K a0)), (1, .int a1), (2, .int a2), (3, .int (a3 + q10.1)), (4, .int (a4 + 1))]) [2, 3, 4, 1, 0] rfl (hk52 a0 a1 a2 (a3 + q10.1) (a4 + 1) q10.2 _ h)
set_option maxRecDepth 100000 in
set_option maxHeartbeats 4000000 in
theorem mf_X2_countFrom_L52 {K : GK} {dd : Nat} {rc : Nat → Int32 → Int32 → PH → Option (Int32 × PH)} (hrc : ∀ (a0 : Nat) (a1 a2 : Int32) (hp : PH) (r : Int32 × PH), rc a0 a1 a2 hp = some r → PM K dd M_X2_countFrom [.ref (ga K a0), .int a1, .int a2] hp (some (.int r.1)) r.2) : ∀ (n : Nat) (a0 : Nat) (a1 : Int32) (a2 : Int32) (a3 : Int32) (a4 : Int32) (hp : PH) (r : (Int32 × PH)), f_X2_countFrom_L52 rc n a0 a1 a2 a3 a4 hp = some r → PW K (rmD (dd + 4)) 0 0 M_X2_countFrom 52 [(0, .ref (ga K a0)), (1, .int a1), (2, .int a2), (3, .int a3), (4, .int a4)] [] hp (some (.int r.1)) r.2 := by
  intro n
  induction n with
  | zero =>
    intro a0 a1 a2 a3 a4 hp r h
    rw [f_X2_countFrom_L52] at h
    cases h
  | succ n ih =>
    intro a0 a1 a2 a3 a4 hp r h
    rw [f_X2_countFrom_L52] at h
    refine PW.iload 4 dX2_countFrom_52 rfl ?_
    refine PW.bipush (x := 10) dX2_countFrom_54 (by decide) ?_
    refine PW.icmp_ge (tgt := 93) dX2_countFrom_56 (by decide) (fun c56 => ?_) (fun c56 => ?_)
    · rw [if_pos c56] at h
      refine PW.iload_n 3 dX2_countFrom_93 rfl rfl ?_
      have h := Option.some.inj h; subst h
      exact PW.ret dX2_countFrom_94 trivial rfl
    · rw [if_neg c56] at h
      refine PW.iload_n 1 dX2_countFrom_59 rfl rfl ?_
      refine PW.aload_n 0 dX2_countFrom_60 rfl rfl ?_
      obtain ⟨x9, hx9, h⟩ := bind_some h
      refine PW.getI cls_X2 (j := 4) (by decide) dX2_countFrom_61 wd_310 hx9 ?_
      refine PW.icmp_ne (tgt := 76) dX2_countFrom_64 (by decide) (fun c64 => ?_) (fun c64 => ?_)
      · rw [if_neg c64] at h
        exact PW.sub (l' := [(0, .ref (ga K a0)), (1, .int a1), (2, .int a2), (3, .int a3), (4, .int a4)]) [0, 1, 2, 3, 4] rfl (mf_X2_countFrom_J76 hrc ih a0 a1 a2 a3 a4 hp _ h)
      · rw [if_pos c64] at h
        refine PW.iload 4 dX2_countFrom_67 rfl ?_
        refine PW.aload_n 0 dX2_countFrom_69 rfl rfl ?_
        obtain ⟨x11, hx11, h⟩ := bind_some h
        refine PW.getI cls_X2 (j := 5) (by decide) dX2_countFrom_70 wd_311 hx11 ?_
        refine PW.icmp_ne (tgt := 87) dX2_countFrom_73 (by decide) (fun c73 => ?_) (fun c73 => ?_)
        · rw [if_neg c73] at h
          refine PW.iinc 4 (l' := [(4, .int (a4 + 1)), (0, .ref (ga K a0)), (1, .int a1), (2, .int a2), (3, .int a3)]) dX2_countFrom_87 rfl (x := a4) (y := (a4 + 1)) rfl (by decide) rfl ?_
          refine PW.goto (tgt := 52) dX2_countFrom_90 (by decide) ?_
          exact PW.sub (l' := [(0, .ref (ga K a0)), (1, .int a1), (2, .int a2), (3, .int a3), (4, .int (a4 + 1))]) [1, 2, 3, 4, 0] rfl (ih a0 a1 a2 a3 (a4 + 1) hp _ h)
        · rw [if_pos c73] at h
          exact PW.sub (l' := [(0, .ref (ga K a0)), (1, .int a1), (2, .int a2), (3, .int a3), (4, .int a4)]) [0, 1, 2, 3, 4] rfl (mf_X2_countFrom_J76 hrc ih a0 a1 a2 a3 a4 hp _ h)
set_option maxRecDepth 100000 in
set_option maxHeartbeats 4000000 in
theorem mf_X2_countFrom_body {K : GK} {dd : Nat} {rc : Nat → Int32 → Int32 → PH → Option (Int32 × PH)} (hrc : ∀ (a0 : Nat) (a1 a2 : Int32) (hp : PH) (r : Int32 × PH), rc a0 a1 a2 hp = some r → PM K dd M_X2_countFrom [.ref (ga K a0), .int a1, .int a2] hp (some (.int r.1)) r.2) : ∀ (a0 : Nat) (a1 : Int32) (a2 : Int32) (hp : PH) (r : (Int32 × PH)), f_X2_countFrom_body rc a0 a1 a2 hp = some r → PM K (dd + 4) M_X2_countFrom [.ref (ga K a0), .int a1, .int a2] hp (some (.int r.1)) r.2 := by
  intro a0 a1 a2 hp r h
  unfold f_X2_countFrom_body at h
  refine PM.enter (l0 := [(0, .ref (ga K a0)), (1, .int a1), (2, .int a2)]) (by decide +kernel) rfl (Nat.le_of_ble_eq_true rfl) rfl ?_
  refine PW.iload_n 2 dX2_countFrom_0 rfl rfl ?_
  refine PW.aload_n 0 dX2_countFrom_1 rfl rfl ?_
  obtain ⟨x1, hx1, h⟩ := bind_some h
  refine PW.getR cls_X2 (j := 0) (by decide) dX2_countFrom_2 wd_306 hx1 ?_
  obtain ⟨x2, hx2, h⟩ := bind_some h
  refine PW.getI cls_X5 (j := 1) (by decide) dX2_countFrom_5 wd_171 hx2 ?_
  refine PW.icmp_le (tgt := 13) dX2_countFrom_8 (by decide) (fun c8 => ?_) (fun c8 => ?_)
  · rw [if_pos c8] at h
    refine PW.iload_n 1 dX2_countFrom_13 rfl rfl ?_
    refine PW.iconst (x := 5) dX2_countFrom_14 (by decide) ?_
    refine PW.icmp_ge (tgt := 36) dX2_countFrom_15 (by decide) (fun c15 => ?_) (fun c15 => ?_)
    · rw [if_pos c15] at h
      refine PW.aload_n 0 dX2_countFrom_36 rfl rfl ?_
      refine PW.iload_n 1 dX2_countFrom_37 rfl rfl ?_
      obtain ⟨q3, hq3, h⟩ := bind_some h
      obtain ⟨hkq3, hcq3, hq3⟩ := vC_spec hq3
      refine PW.callVi (As := [.int a1]) (rest := []) (k := a0) cal_X2_freeWays dX2_countFrom_38 wd_809 rfl rfl (rmLe (by omega)) (Nat.le_of_ble_eq_true rfl) rm_0 hkq3 hcq3 (mf_X2_freeWays a0 a1 hp _ hq3) ?_
      have h := Option.some.inj h; subst h
      exact PW.ret dX2_countFrom_41 trivial rfl
    · rw [if_neg c15] at h
      refine PW.iload_n 2 dX2_countFrom_18 rfl rfl ?_
      refine PW.aload_n 0 dX2_countFrom_19 rfl rfl ?_
      obtain ⟨x4, hx4, h⟩ := bind_some h
      refine PW.getR cls_X2 (j := 2) (by decide) dX2_countFrom_20 wd_308 hx4 ?_
      refine PW.iload_n 1 dX2_countFrom_23 rfl rfl ?_
      obtain ⟨x5, hx5, h⟩ := bind_some h
      refine PW.iald dX2_countFrom_24 hx5 ?_
      refine PW.iadd dX2_countFrom_25 ?_
      refine PW.aload_n 0 dX2_countFrom_26 rfl rfl ?_
      obtain ⟨x6, hx6, h⟩ := bind_some h
      refine PW.getR cls_X2 (j := 0) (by decide) dX2_countFrom_27 wd_306 hx6 ?_
      obtain ⟨x7, hx7, h⟩ := bind_some h
      refine PW.getI cls_X5 (j := 1) (by decide) dX2_countFrom_30 wd_171 hx7 ?_
      refine PW.icmp_gt (tgt := 42) dX2_countFrom_33 (by decide) (fun c33 => ?_) (fun c33 => ?_)
      · rw [if_pos c33] at h
        refine PW.aload_n 0 dX2_countFrom_42 rfl rfl ?_
        refine PW.iload_n 1 dX2_countFrom_43 rfl rfl ?_
        obtain ⟨q8, hq8, h⟩ := bind_some h
        obtain ⟨hkq8, hcq8, hq8⟩ := vC_spec hq8
        refine PW.callVv (As := [.int a1]) (rest := []) (k := a0) cal_X2_weighFigures dX2_countFrom_44 wd_813 rfl rfl (rmLe (by omega)) (Nat.le_of_ble_eq_true rfl) rm_0 hkq8 hcq8 (mf_X2_weighFigures a0 a1 hp _ hq8) ?_
        refine PW.iconst (x := 0) dX2_countFrom_47 (by decide) ?_
        refine PW.istore_n (l' := [(3, .int 0), (0, .ref (ga K a0)), (1, .int a1), (2, .int a2)]) dX2_countFrom_48 rfl (by decide) rfl ?_
        refine PW.iconst (x := 0) dX2_countFrom_49 (by decide) ?_
        refine PW.istore (l' := [(4, .int 0), (3, .int 0), (0, .ref (ga K a0)), (1, .int a1), (2, .int a2)]) dX2_countFrom_50 (by decide) rfl ?_
        exact PW.sub (l' := [(0, .ref (ga K a0)), (1, .int a1), (2, .int a2), (3, .int 0), (4, .int 0)]) [2, 3, 4, 1, 0] rfl (mf_X2_countFrom_L52 hrc NN a0 a1 a2 0 0 q8 _ h)
      · rw [if_neg c33] at h
        refine PW.aload_n 0 dX2_countFrom_36 rfl rfl ?_
        refine PW.iload_n 1 dX2_countFrom_37 rfl rfl ?_
        obtain ⟨q12, hq12, h⟩ := bind_some h
        obtain ⟨hkq12, hcq12, hq12⟩ := vC_spec hq12
        refine PW.callVi (As := [.int a1]) (rest := []) (k := a0) cal_X2_freeWays dX2_countFrom_38 wd_809 rfl rfl (rmLe (by omega)) (Nat.le_of_ble_eq_true rfl) rm_0 hkq12 hcq12 (mf_X2_freeWays a0 a1 hp _ hq12) ?_
        have h := Option.some.inj h; subst h
        exact PW.ret dX2_countFrom_41 trivial rfl
  · rw [if_neg c8] at h
    refine PW.iconst (x := 0) dX2_countFrom_11 (by decide) ?_
    have h := Option.some.inj h; subst h
    exact PW.ret dX2_countFrom_12 trivial rfl
theorem mf_X2_countFrom {K : GK} : ∀ (D : Nat) (a0 : Nat) (a1 a2 : Int32) (hp : PH) (r : Int32 × PH), f_X2_countFrom D a0 a1 a2 hp = some r → PM K (4 * D) M_X2_countFrom [.ref (ga K a0), .int a1, .int a2] hp (some (.int r.1)) r.2 := by
  intro D
  induction D with
  | zero => intro a0 a1 a2 hp r h; rw [f_X2_countFrom] at h; cases h
  | succ D ih =>
    intro a0 a1 a2 hp r h
    rw [f_X2_countFrom] at h
    exact mf_X2_countFrom_body ih a0 a1 a2 hp r h
-- X2_countAll
def f_X2_countAll (a0 : Nat) (hp : PH) : Option (Int32 × PH) := (gR hp a0 1 0).bind fun x1 => (gI hp x1 4 2).bind fun x2 => (if x2 = (-1) then (vC hp a0 1 (f_X2_begin a0 (-1) (-1) hp)).bind fun q5 => (gR q5 a0 1 0).bind fun x6 => (vC q5 a0 1 (f_X2_countFrom 7 a0 0 0 q5)).bind fun q7 => (pI q7.2 x6 4 2 q7.1).bind fun hp8 => (gR hp8 a0 1 0).bind fun x9 => (gI hp8 x9 4 2).bind fun x10 => (some (x10, hp8)) else (gR hp a0 1 0).bind fun x3 => (gI hp x3 4 2).bind fun x4 => (some (x4, hp)))
set_option maxRecDepth 100000 in
set_option maxHeartbeats 4000000 in
theorem mf_X2_countAll {K : GK} : ∀ (a0 : Nat) (hp : PH) (r : (Int32 × PH)), f_X2_countAll a0 hp = some r → PM K (29) M_X2_countAll [.ref (ga K a0)] hp (some (.int r.1)) r.2 := by
  intro a0 hp r h
  unfold f_X2_countAll at h
  refine PM.enter (l0 := [(0, .ref (ga K a0))]) (by decide +kernel) rfl (Nat.le_of_ble_eq_true rfl) rfl ?_
  refine PW.aload_n 0 dX2_countAll_0 rfl rfl ?_
  obtain ⟨x1, hx1, h⟩ := bind_some h
  refine PW.getR cls_X2 (j := 0) (by decide) dX2_countAll_1 wd_306 hx1 ?_
  obtain ⟨x2, hx2, h⟩ := bind_some h
  refine PW.getI cls_X5 (j := 2) (by decide) dX2_countAll_4 wd_173 hx2 ?_
  refine PW.iconst (x := (-1)) dX2_countAll_7 (by decide) ?_
  refine PW.icmp_ne (tgt := 30) dX2_countAll_8 (by decide) (fun c8 => ?_) (fun c8 => ?_)
  · rw [if_neg c8] at h
    refine PW.aload_n 0 dX2_countAll_30 rfl rfl ?_
    obtain ⟨x3, hx3, h⟩ := bind_some h
    refine PW.getR cls_X2 (j := 0) (by decide) dX2_countAll_31 wd_306 hx3 ?_
    obtain ⟨x4, hx4, h⟩ := bind_some h
    refine PW.getI cls_X5 (j := 2) (by decide) dX2_countAll_34 wd_173 hx4 ?_
    have h := Option.some.inj h; subst h
    exact PW.ret dX2_countAll_37 trivial rfl
  · rw [if_pos c8] at h
    refine PW.aload_n 0 dX2_countAll_11 rfl rfl ?_
    refine PW.iconst (x := (-1)) dX2_countAll_12 (by decide) ?_
    refine PW.iconst (x := (-1)) dX2_countAll_13 (by decide) ?_
    obtain ⟨q5, hq5, h⟩ := bind_some h
    obtain ⟨hkq5, hcq5, hq5⟩ := vC_spec hq5
    refine PW.callVv (As := [.int (-1), .int (-1)]) (rest := []) (k := a0) cal_X2_begin dX2_countAll_14 wd_801 rfl rfl (rmLe (by omega)) (Nat.le_of_ble_eq_true rfl) rm_0 hkq5 hcq5 (mf_X2_begin a0 (-1) (-1) hp _ hq5) ?_
    refine PW.aload_n 0 dX2_countAll_17 rfl rfl ?_
    obtain ⟨x6, hx6, h⟩ := bind_some h
    refine PW.getR cls_X2 (j := 0) (by decide) dX2_countAll_18 wd_306 hx6 ?_
    refine PW.aload_n 0 dX2_countAll_21 rfl rfl ?_
    refine PW.iconst (x := 0) dX2_countAll_22 (by decide) ?_
    refine PW.iconst (x := 0) dX2_countAll_23 (by decide) ?_
    obtain ⟨q7, hq7, h⟩ := bind_some h
    obtain ⟨hkq7, hcq7, hq7⟩ := vC_spec hq7
    refine PW.callVi (As := [.int 0, .int 0]) (rest := [.ref (ga K x6)]) (k := a0) cal_X2_countFrom dX2_countAll_24 wd_805 rfl rfl (rmLe (by omega)) (Nat.le_of_ble_eq_true rfl) rm_0 hkq7 hcq7 (mf_X2_countFrom 7 a0 0 0 q5 _ hq7) ?_
    obtain ⟨hp8, hhp8, h⟩ := bind_some h
    refine PW.putI cls_X5 clw_X5 (j := 2) (by decide) dX2_countAll_27 wd_173 rfl rfl hhp8 ?_
    refine PW.aload_n 0 dX2_countAll_30 rfl rfl ?_
    obtain ⟨x9, hx9, h⟩ := bind_some h
    refine PW.getR cls_X2 (j := 0) (by decide) dX2_countAll_31 wd_306 hx9 ?_
    obtain ⟨x10, hx10, h⟩ := bind_some h
    refine PW.getI cls_X5 (j := 2) (by decide) dX2_countAll_34 wd_173 hx10 ?_
    have h := Option.some.inj h; subst h
    exact PW.ret dX2_countAll_37 trivial rfl
-- X2_countWith
def f_X2_countWith (a0 : Nat) (a1 : Int32) (a2 : Int32) (hp : PH) : Option (Int32 × PH) := (vC hp a0 1 (f_X2_begin a0 a1 a2 hp)).bind fun q1 => (vC q1 a0 1 (f_X2_countFrom 7 a0 0 0 q1)).bind fun q2 => (some (q2.1, q2.2))
set_option maxRecDepth 100000 in
set_option maxHeartbeats 4000000 in
theorem mf_X2_countWith {K : GK} : ∀ (a0 : Nat) (a1 : Int32) (a2 : Int32) (hp : PH) (r : (Int32 × PH)), f_X2_countWith a0 a1 a2 hp = some r → PM K (29) M_X2_countWith [.ref (ga K a0), .int a1, .int a2] hp (some (.int r.1)) r.2 := by
  intro a0 a1 a2 hp r h
  unfold f_X2_countWith at h
  refine PM.enter (l0 := [(0, .ref (ga K a0)), (1, .int a1), (2, .int a2)]) (by decide +kernel) rfl (Nat.le_of_ble_eq_true rfl) rfl ?_
  refine PW.aload_n 0 dX2_countWith_0 rfl rfl ?_
  refine PW.iload_n 1 dX2_countWith_1 rfl rfl ?_
  refine PW.iload_n 2 dX2_countWith_2 rfl rfl ?_
  obtain ⟨q1, hq1, h⟩ := bind_some h
  obtain ⟨hkq1, hcq1, hq1⟩ := vC_spec hq1
  refine PW.callVv (As := [.int a1, .int a2]) (rest := []) (k := a0) cal_X2_begin dX2_countWith_3 wd_801 rfl rfl (rmLe (by omega)) (Nat.le_of_ble_eq_true rfl) rm_0 hkq1 hcq1 (mf_X2_begin a0 a1 a2 hp _ hq1) ?_
  refine PW.aload_n 0 dX2_countWith_6 rfl rfl ?_
  refine PW.iconst (x := 0) dX2_countWith_7 (by decide) ?_
  refine PW.iconst (x := 0) dX2_countWith_8 (by decide) ?_
  obtain ⟨q2, hq2, h⟩ := bind_some h
  obtain ⟨hkq2, hcq2, hq2⟩ := vC_spec hq2
  refine PW.callVi (As := [.int 0, .int 0]) (rest := []) (k := a0) cal_X2_countFrom dX2_countWith_9 wd_805 rfl rfl (rmLe (by omega)) (Nat.le_of_ble_eq_true rfl) rm_0 hkq2 hcq2 (mf_X2_countFrom 7 a0 0 0 q1 _ hq2) ?_
  have h := Option.some.inj h; subst h
  exact PW.ret dX2_countWith_12 trivial rfl
-- X2_pick
def f_X2_pick_J77 (k16 : Nat → Int32 → Int32 → Int32 → Int32 → PH → Option (Int32 × PH)) (a0 : Nat) (a2 : Int32) (a3 : Int32) (a4 : Int32) (a5 : Int32) (a6 : Int32) (hp : PH) : Option (Int32 × PH) := (gR hp a0 1 3).bind fun x4 => (aI hp x4 0 ((a5 * 10) + a6)).bind fun x5 => (k16 a0 a2 (a3 + x5) ((10 * a4) + a6) (a5 + 1) hp)
def f_X2_pick_L42 (k16 : Nat → Int32 → Int32 → Int32 → Int32 → PH → Option (Int32 × PH)) : Nat → Nat → Int32 → Int32 → Int32 → Int32 → Int32 → Int32 → PH → Option (Int32 × PH)
  | 0, _, _, _, _, _, _, _, _ => none
  | n + 1, a0, a2, a3, a4, a5, a6, a7, hp => (if 9 ≤ a6 then (f_X2_pick_J77 k16 a0 a2 a3 a4 a5 a6 hp) else (if a2 < a7 then (f_X2_pick_J77 k16 a0 a2 a3 a4 a5 a6 hp) else (vC hp a0 1 (f_X2_countBehind (f_X2_countFrom 7) a0 a5 (a6 + 1) a3 hp)).bind fun q6 => ((f_X2_pick_L42 k16 n) a0 (a2 - a7) a3 a4 a5 (a6 + 1) q6.1 q6.2)))
def f_X2_pick_L16 : Nat → Nat → Int32 → Int32 → Int32 → Int32 → PH → Option (Int32 × PH)
  | 0, _, _, _, _, _, _ => none
  | n + 1, a0, a2, a3, a4, a5, hp => (if 5 ≤ a5 then (some (a4, hp)) else (vC hp a0 1 (f_X2_weighFigures a0 a5 hp)).bind fun q2 => (vC q2 a0 1 (f_X2_countBehind (f_X2_countFrom 7) a0 a5 0 a3 q2)).bind fun q3 => (f_X2_pick_L42 (f_X2_pick_L16 n) NN a0 a2 a3 a4 a5 0 q3.1 q3.2))
def f_X2_pick (a0 : Nat) (a1 : Int32) (hp : PH) : Option (Int32 × PH) := (vC hp a0 1 (f_X2_begin a0 (-1) (-1) hp)).bind fun q1 => (f_X2_pick_L16 NN a0 a1 0 0 0 q1)
set_option maxRecDepth 100000 in
set_option maxHeartbeats 4000000 in
theorem mf_X2_pick_J77 {K : GK} {k16 : Nat → Int32 → Int32 → Int32 → Int32 → PH → Option (Int32 × PH)} (hk16 : ∀ (a0 : Nat) (a2 : Int32) (a3 : Int32) (a4 : Int32) (a5 : Int32) (hp : PH) (r : (Int32 × PH)), k16 a0 a2 a3 a4 a5 hp = some r → PW K (rmD (30)) 0 0 M_X2_pick 16 [(0, .ref (ga K a0)), (2, .int a2), (3, .int a3), (4, .int a4), (5, .int a5)] [] hp (some (.int r.1)) r.2) : ∀ (a0 : Nat) (a2 : Int32) (a3 : Int32) (a4 : Int32) (a5 : Int32) (a6 : Int32) (hp : PH) (r : (Int32 × PH)), f_X2_pick_J77 k16 a0 a2 a3 a4 a5 a6 hp = some r → PW K (rmD (30)) 0 0 M_X2_pick 77 [(0, .ref (ga K a0)), (2, .int a2), (3, .int a3), (4, .int a4), (5, .int a5), (6, .int a6)] [] hp (some (.int r.1)) r.2 := by
  intro a0 a2 a3 a4 a5 a6 hp r h
  unfold f_X2_pick_J77 at h
  refine PW.iload_n 2 dX2_pick_77 rfl rfl ?_
  refine PW.aload_n 0 dX2_pick_78 rfl rfl ?_
  obtain ⟨x4, hx4, h⟩ := bind_some h
  refine PW.getR cls_X2 (j := 3) (by decide) dX2_pick_79 wd_309 hx4 ?_
  refine PW.iload 4 dX2_pick_82 rfl ?_
  refine PW.bipush (x := 10) dX2_pick_84 (by decide) ?_
  refine PW.imul dX2_pick_86 ?_
  refine PW.iload 5 dX2_pick_87 rfl ?_
  refine PW.iadd dX2_pick_89 ?_
  obtain ⟨x5, hx5, h⟩ := bind_some h
  refine PW.iald dX2_pick_90 hx5 ?_
  refine PW.iadd dX2_pick_91 ?_
  refine PW.istore_n (l' := [(3, .int (a3 + x5)), (0, .ref (ga K a0)), (2, .int a2), (4, .int a4), (5, .int a5), (6, .int a6)]) dX2_pick_92 rfl (by decide) rfl ?_
  refine PW.bipush (x := 10) dX2_pick_93 (by decide) ?_
  refine PW.iload 3 dX2_pick_95 rfl ?_
  refine PW.imul dX2_pick_97 ?_
  refine PW.iload 5 dX2_pick_98 rfl ?_
  refine PW.iadd dX2_pick_100 ?_
  refine PW.istore (l' := [(4, .int ((10 * a4) + a6)), (3, .int (a3 + x5)), (0, .ref (ga K a0)), (2, .int a2), (5, .int a5), (6, .int a6)]) dX2_pick_101 (by decide) rfl ?_
  refine PW.iinc 4 (l' := [(5, .int (a5 + 1)), (4, .int ((10 * a4) + a6)), (3, .int (a3 + x5)), (0, .ref (ga K a0)), (2, .int a2), (6, .int a6)]) dX2_pick_103 rfl (x := a5) (y := (a5 + 1)) rfl (by decide) rfl ?_
  refine PW.goto (tgt := 16) dX2_pick_106 (by decide) ?_
  exact PW.sub (l' := [(0, .ref (ga K a0)), (2, .int a2), (3, .int (a3 + x5)), (4, .int ((10 * a4) + a6)), (5, .int (a5 + 1))]) [3, 4, 2, 1, 0] rfl (hk16 a0 a2 (a3 + x5) ((10 * a4) + a6) (a5 + 1) hp _ h)
set_option maxRecDepth 100000 in
set_option maxHeartbeats 4000000 in
theorem mf_X2_pick_L42 {K : GK} {k16 : Nat → Int32 → Int32 → Int32 → Int32 → PH → Option (Int32 × PH)} (hk16 : ∀ (a0 : Nat) (a2 : Int32) (a3 : Int32) (a4 : Int32) (a5 : Int32) (hp : PH) (r : (Int32 × PH)), k16 a0 a2 a3 a4 a5 hp = some r → PW K (rmD (30)) 0 0 M_X2_pick 16 [(0, .ref (ga K a0)), (2, .int a2), (3, .int a3), (4, .int a4), (5, .int a5)] [] hp (some (.int r.1)) r.2) : ∀ (n : Nat) (a0 : Nat) (a2 : Int32) (a3 : Int32) (a4 : Int32) (a5 : Int32) (a6 : Int32) (a7 : Int32) (hp : PH) (r : (Int32 × PH)), f_X2_pick_L42 k16 n a0 a2 a3 a4 a5 a6 a7 hp = some r → PW K (rmD (30)) 0 0 M_X2_pick 42 [(0, .ref (ga K a0)), (2, .int a2), (3, .int a3), (4, .int a4), (5, .int a5), (6, .int a6), (7, .int a7)] [] hp (some (.int r.1)) r.2 := by
  intro n
  induction n with
  | zero =>
    intro a0 a2 a3 a4 a5 a6 a7 hp r h
    rw [f_X2_pick_L42] at h
    cases h
  | succ n ih =>
    intro a0 a2 a3 a4 a5 a6 a7 hp r h
    rw [f_X2_pick_L42] at h
    refine PW.iload 5 dX2_pick_42 rfl ?_
    refine PW.bipush (x := 9) dX2_pick_44 (by decide) ?_
    refine PW.icmp_ge (tgt := 77) dX2_pick_46 (by decide) (fun c46 => ?_) (fun c46 => ?_)
    · rw [if_pos c46] at h
      exact PW.sub (l' := [(0, .ref (ga K a0)), (2, .int a2), (3, .int a3), (4, .int a4), (5, .int a5), (6, .int a6)]) [0, 1, 2, 3, 4, 5] rfl (mf_X2_pick_J77 hk16 a0 a2 a3 a4 a5 a6 hp _ h)
    · rw [if_neg c46] at h
      refine PW.iload_n 1 dX2_pick_49 rfl rfl ?_
      refine PW.iload 6 dX2_pick_50 rfl ?_
      refine PW.icmp_lt (tgt := 77) dX2_pick_52 (by decide) (fun c52 => ?_) (fun c52 => ?_)
      · rw [if_pos c52] at h
        exact PW.sub (l' := [(0, .ref (ga K a0)), (2, .int a2), (3, .int a3), (4, .int a4), (5, .int a5), (6, .int a6)]) [0, 1, 2, 3, 4, 5] rfl (mf_X2_pick_J77 hk16 a0 a2 a3 a4 a5 a6 hp _ h)
      · rw [if_neg c52] at h
        refine PW.iload_n 1 dX2_pick_55 rfl rfl ?_
        refine PW.iload 6 dX2_pick_56 rfl ?_
        refine PW.isub dX2_pick_58 ?_
        refine PW.istore_n (l' := [(2, .int (a2 - a7)), (0, .ref (ga K a0)), (3, .int a3), (4, .int a4), (5, .int a5), (6, .int a6), (7, .int a7)]) dX2_pick_59 rfl (by decide) rfl ?_
        refine PW.iinc 5 (l' := [(6, .int (a6 + 1)), (2, .int (a2 - a7)), (0, .ref (ga K a0)), (3, .int a3), (4, .int a4), (5, .int a5), (7, .int a7)]) dX2_pick_60 rfl (x := a6) (y := (a6 + 1)) rfl (by decide) rfl ?_
        refine PW.aload_n 2 dX2_pick_63 rfl rfl ?_
        refine PW.iload 5 dX2_pick_64 rfl ?_
        refine PW.iload 0 dX2_pick_66 rfl ?_
        refine PW.iload_n 3 dX2_pick_68 rfl rfl ?_
        obtain ⟨q6, hq6, h⟩ := bind_some h
        obtain ⟨hkq6, hcq6, hq6⟩ := vC_spec hq6
        refine PW.callVi (As := [.int a5, .int (a6 + 1), .int a3]) (rest := []) (k := a0) cal_X2_countBehind dX2_pick_69 wd_821 rfl rfl (rmLe (by omega)) (Nat.le_of_ble_eq_true rfl) rm_0 hkq6 hcq6 (mf_X2_countBehind (mf_X2_countFrom 7) a0 a5 (a6 + 1) a3 hp _ hq6) ?_
        refine PW.istore (l' := [(7, .int q6.1), (6, .int (a6 + 1)), (2, .int (a2 - a7)), (0, .ref (ga K a0)), (3, .int a3), (4, .int a4), (5, .int a5)]) dX2_pick_72 (by decide) rfl ?_
        refine PW.goto (tgt := 42) dX2_pick_74 (by decide) ?_
        exact PW.sub (l' := [(0, .ref (ga K a0)), (2, .int (a2 - a7)), (3, .int a3), (4, .int a4), (5, .int a5), (6, .int (a6 + 1)), (7, .int q6.1)]) [3, 2, 4, 5, 6, 1, 0] rfl (ih a0 (a2 - a7) a3 a4 a5 (a6 + 1) q6.1 q6.2 _ h)
set_option maxRecDepth 100000 in
set_option maxHeartbeats 4000000 in
theorem mf_X2_pick_L16 {K : GK} : ∀ (n : Nat) (a0 : Nat) (a2 : Int32) (a3 : Int32) (a4 : Int32) (a5 : Int32) (hp : PH) (r : (Int32 × PH)), f_X2_pick_L16 n a0 a2 a3 a4 a5 hp = some r → PW K (rmD (30)) 0 0 M_X2_pick 16 [(0, .ref (ga K a0)), (2, .int a2), (3, .int a3), (4, .int a4), (5, .int a5)] [] hp (some (.int r.1)) r.2 := by
  intro n
  induction n with
  | zero =>
    intro a0 a2 a3 a4 a5 hp r h
    rw [f_X2_pick_L16] at h
    cases h
  | succ n ih =>
    intro a0 a2 a3 a4 a5 hp r h
    rw [f_X2_pick_L16] at h
    refine PW.iload 4 dX2_pick_16 rfl ?_
    refine PW.iconst (x := 5) dX2_pick_18 (by decide) ?_
    refine PW.icmp_ge (tgt := 109) dX2_pick_19 (by decide) (fun c19 => ?_) (fun c19 => ?_)
    · rw [if_pos c19] at h
      refine PW.iload 3 dX2_pick_109 rfl ?_
      have h := Option.some.inj h; subst h
      exact PW.ret dX2_pick_111 trivial rfl
    · rw [if_neg c19] at h
      refine PW.aload_n 0 dX2_pick_22 rfl rfl ?_
      refine PW.iload 4 dX2_pick_23 rfl ?_
      obtain ⟨q2, hq2, h⟩ := bind_some h
      obtain ⟨hkq2, hcq2, hq2⟩ := vC_spec hq2
      refine PW.callVv (As := [.int a5]) (rest := []) (k := a0) cal_X2_weighFigures dX2_pick_25 wd_813 rfl rfl (rmLe (by omega)) (Nat.le_of_ble_eq_true rfl) rm_0 hkq2 hcq2 (mf_X2_weighFigures a0 a5 hp _ hq2) ?_
      refine PW.iconst (x := 0) dX2_pick_28 (by decide) ?_
      refine PW.istore (l' := [(6, .int 0), (0, .ref (ga K a0)), (2, .int a2), (3, .int a3), (4, .int a4), (5, .int a5)]) dX2_pick_29 (by decide) rfl ?_
      refine PW.aload_n 1 dX2_pick_31 rfl rfl ?_
      refine PW.iload 5 dX2_pick_32 rfl ?_
      refine PW.iload 0 dX2_pick_34 rfl ?_
      refine PW.iload_n 3 dX2_pick_36 rfl rfl ?_
      obtain ⟨q3, hq3, h⟩ := bind_some h
      obtain ⟨hkq3, hcq3, hq3⟩ := vC_spec hq3
      refine PW.callVi (As := [.int a5, .int 0, .int a3]) (rest := []) (k := a0) cal_X2_countBehind dX2_pick_37 wd_821 rfl rfl (rmLe (by omega)) (Nat.le_of_ble_eq_true rfl) rm_0 hkq3 hcq3 (mf_X2_countBehind (mf_X2_countFrom 7) a0 a5 0 a3 q2 _ hq3) ?_
      refine PW.istore (l' := [(7, .int q3.1), (6, .int 0), (0, .ref (ga K a0)), (2, .int a2), (3, .int a3), (4, .int a4), (5, .int a5)]) dX2_pick_40 (by decide) rfl ?_
      exact PW.sub (l' := [(0, .ref (ga K a0)), (2, .int a2), (3, .int a3), (4, .int a4), (5, .int a5), (6, .int 0), (7, .int q3.1)]) [2, 3, 4, 5, 6, 1, 0] rfl (mf_X2_pick_L42 ih NN a0 a2 a3 a4 a5 0 q3.1 q3.2 _ h)
set_option maxRecDepth 100000 in
set_option maxHeartbeats 4000000 in
theorem mf_X2_pick {K : GK} : ∀ (a0 : Nat) (a1 : Int32) (hp : PH) (r : (Int32 × PH)), f_X2_pick a0 a1 hp = some r → PM K (30) M_X2_pick [.ref (ga K a0), .int a1] hp (some (.int r.1)) r.2 := by
  intro a0 a1 hp r h
  unfold f_X2_pick at h
  refine PM.enter (l0 := [(0, .ref (ga K a0)), (1, .int a1)]) (by decide +kernel) rfl (Nat.le_of_ble_eq_true rfl) rfl ?_
  refine PW.aload_n 0 dX2_pick_0 rfl rfl ?_
  refine PW.iconst (x := (-1)) dX2_pick_1 (by decide) ?_
  refine PW.iconst (x := (-1)) dX2_pick_2 (by decide) ?_
  obtain ⟨q1, hq1, h⟩ := bind_some h
  obtain ⟨hkq1, hcq1, hq1⟩ := vC_spec hq1
  refine PW.callVv (As := [.int (-1), .int (-1)]) (rest := []) (k := a0) cal_X2_begin dX2_pick_3 wd_801 rfl rfl (rmLe (by omega)) (Nat.le_of_ble_eq_true rfl) rm_0 hkq1 hcq1 (mf_X2_begin a0 (-1) (-1) hp _ hq1) ?_
  refine PW.iload_n 1 dX2_pick_6 rfl rfl ?_
  refine PW.istore_n (l' := [(2, .int a1), (0, .ref (ga K a0)), (1, .int a1)]) dX2_pick_7 rfl (by decide) rfl ?_
  refine PW.iconst (x := 0) dX2_pick_8 (by decide) ?_
  refine PW.istore_n (l' := [(3, .int 0), (2, .int a1), (0, .ref (ga K a0)), (1, .int a1)]) dX2_pick_9 rfl (by decide) rfl ?_
  refine PW.iconst (x := 0) dX2_pick_10 (by decide) ?_
  refine PW.istore (l' := [(4, .int 0), (3, .int 0), (2, .int a1), (0, .ref (ga K a0)), (1, .int a1)]) dX2_pick_11 (by decide) rfl ?_
  refine PW.iconst (x := 0) dX2_pick_13 (by decide) ?_
  refine PW.istore (l' := [(5, .int 0), (4, .int 0), (3, .int 0), (2, .int a1), (0, .ref (ga K a0)), (1, .int a1)]) dX2_pick_14 (by decide) rfl ?_
  exact PW.sub (l' := [(0, .ref (ga K a0)), (2, .int a1), (3, .int 0), (4, .int 0), (5, .int 0)]) [4, 3, 2, 1, 0] rfl (mf_X2_pick_L16 NN a0 a1 0 0 0 q1 _ h)
-- X7_yearsOf
def f_X7_yearsOf (a0 : Nat) (a1 : Int32) (a2 : Int32) (a3 : Int32) (hp : PH) : Option Int32 := (gR hp a0 6 2).bind fun x1 => (aI hp x1 0 a1).bind fun x2 => (if x2 ≤ a2 then (gR hp a0 6 3).bind fun x3 => (aI hp x3 0 a1).bind fun x4 => (gR hp a0 6 4).bind fun x5 => (aI hp x5 0 a1).bind fun x6 => (if (f_X1_dayInYear a3 x6) ≤ a2 then (some (a3 - x4)) else (some ((a3 - x4) - 1))) else (some (-1)))
set_option maxRecDepth 100000 in
set_option maxHeartbeats 4000000 in
theorem mf_X7_yearsOf {K : GK} : ∀ (a0 : Nat) (a1 : Int32) (a2 : Int32) (a3 : Int32) (hp : PH) (r : Int32), f_X7_yearsOf a0 a1 a2 a3 hp = some r → PM K (2) M_X7_yearsOf [.ref (ga K a0), .int a1, .int a2, .int a3] hp (some (.int r)) hp := by
  intro a0 a1 a2 a3 hp r h
  unfold f_X7_yearsOf at h
  refine PM.enter (l0 := [(0, .ref (ga K a0)), (1, .int a1), (2, .int a2), (3, .int a3)]) (by decide +kernel) rfl (Nat.le_of_ble_eq_true rfl) rfl ?_
  refine PW.iload_n 2 dX7_yearsOf_0 rfl rfl ?_
  refine PW.aload_n 0 dX7_yearsOf_1 rfl rfl ?_
  obtain ⟨x1, hx1, h⟩ := bind_some h
  refine PW.getR cls_X7 (j := 2) (by decide) dX7_yearsOf_2 wd_103 hx1 ?_
  refine PW.iload_n 1 dX7_yearsOf_5 rfl rfl ?_
  obtain ⟨x2, hx2, h⟩ := bind_some h
  refine PW.iald dX7_yearsOf_6 hx2 ?_
  refine PW.icmp_ge (tgt := 12) dX7_yearsOf_7 (by decide) (fun c7 => ?_) (fun c7 => ?_)
  · rw [if_pos c7] at h
    refine PW.iload_n 3 dX7_yearsOf_12 rfl rfl ?_
    refine PW.aload_n 0 dX7_yearsOf_13 rfl rfl ?_
    obtain ⟨x3, hx3, h⟩ := bind_some h
    refine PW.getR cls_X7 (j := 3) (by decide) dX7_yearsOf_14 wd_105 hx3 ?_
    refine PW.iload_n 1 dX7_yearsOf_17 rfl rfl ?_
    obtain ⟨x4, hx4, h⟩ := bind_some h
    refine PW.iald dX7_yearsOf_18 hx4 ?_
    refine PW.isub dX7_yearsOf_19 ?_
    refine PW.istore (l' := [(4, .int (a3 - x4)), (0, .ref (ga K a0)), (1, .int a1), (2, .int a2), (3, .int a3)]) dX7_yearsOf_20 (by decide) rfl ?_
    refine PW.iload_n 3 dX7_yearsOf_22 rfl rfl ?_
    refine PW.iload_n 4 dX7_yearsOf_23 rfl rfl ?_
    refine PW.aload_n 1 dX7_yearsOf_24 rfl rfl ?_
    obtain ⟨x5, hx5, h⟩ := bind_some h
    refine PW.getR cls_X7 (j := 4) (by decide) dX7_yearsOf_25 wd_106 hx5 ?_
    refine PW.iload_n 2 dX7_yearsOf_28 rfl rfl ?_
    obtain ⟨x6, hx6, h⟩ := bind_some h
    refine PW.iald dX7_yearsOf_29 hx6 ?_
    refine PW.callSi (As := [.int a3, .int x6]) (rest := [.int a2]) cal_X1_dayInYear dX7_yearsOf_30 wd_467 rfl rfl (rmLe (by omega)) (Nat.le_of_ble_eq_true rfl) rm_0 (mf_X1_dayInYear a3 x6 _ rfl) ?_
    refine PW.icmp_ge (tgt := 43) dX7_yearsOf_33 (by decide) (fun c33 => ?_) (fun c33 => ?_)
    · rw [if_pos c33] at h
      refine PW.iload 0 dX7_yearsOf_43 rfl ?_
      have h := Option.some.inj h; subst h
      exact PW.ret dX7_yearsOf_45 trivial rfl
    · rw [if_neg c33] at h
      refine PW.iload 0 dX7_yearsOf_36 rfl ?_
      refine PW.iconst (x := 1) dX7_yearsOf_38 (by decide) ?_
      refine PW.isub dX7_yearsOf_39 ?_
      refine PW.goto (tgt := 45) dX7_yearsOf_40 (by decide) ?_
      have h := Option.some.inj h; subst h
      exact PW.ret dX7_yearsOf_45 trivial rfl
  · rw [if_neg c7] at h
    refine PW.iconst (x := (-1)) dX7_yearsOf_10 (by decide) ?_
    have h := Option.some.inj h; subst h
    exact PW.ret dX7_yearsOf_11 trivial rfl
-- X3_standOn
def f_X3_standOn_L12 : Nat → Nat → Int32 → Int32 → Int32 → PH → Option PH
  | 0, _, _, _, _, _ => none
  | n + 1, a0, a1, a2, a3, hp => (gR hp a0 2 0).bind fun x3 => (gI hp x3 6 0).bind fun x4 => (if x4 ≤ a3 then some hp else (gR hp a0 2 1).bind fun x5 => (gR hp a0 2 0).bind fun x6 => (vC hp x6 6 (f_X7_yearsOf x6 a3 a1 a2 hp)).bind fun q7 => (uI hp x5 a3 q7).bind fun hp8 => (gR hp8 a0 2 1).bind fun x9 => (aI hp8 x9 0 a3).bind fun x10 => (if 0 ≤ x10 then ((f_X3_standOn_L12 n) a0 a1 a2 (a3 + 1) hp8) else (gI hp8 a0 2 2).bind fun x11 => (pI hp8 a0 2 2 (x11 ||| (iL 1 a3))).bind fun hp12 => ((f_X3_standOn_L12 n) a0 a1 a2 (a3 + 1) hp12)))
def f_X3_standOn (a0 : Nat) (a1 : Int32) (hp : PH) : Option PH := (f_X1_yearOf a1).bind fun q1 => (pI hp a0 2 2 0).bind fun hp2 => (f_X3_standOn_L12 NN a0 a1 q1 0 hp2)
set_option maxRecDepth 100000 in
set_option maxHeartbeats 4000000 in
theorem mf_X3_standOn_L12 {K : GK} : ∀ (n : Nat) (a0 : Nat) (a1 : Int32) (a2 : Int32) (a3 : Int32) (hp : PH) (r : PH), f_X3_standOn_L12 n a0 a1 a2 a3 hp = some r → PW K (rmD (3)) 0 0 M_X3_standOn 12 [(0, .ref (ga K a0)), (1, .int a1), (2, .int a2), (3, .int a3)] [] hp none r := by
  intro n
  induction n with
  | zero =>
    intro a0 a1 a2 a3 hp r h
    rw [f_X3_standOn_L12] at h
    cases h
  | succ n ih =>
    intro a0 a1 a2 a3 hp r h
    rw [f_X3_standOn_L12] at h
    refine PW.iload_n 3 dX3_standOn_12 rfl rfl ?_
    refine PW.aload_n 0 dX3_standOn_13 rfl rfl ?_
    obtain ⟨x3, hx3, h⟩ := bind_some h
    refine PW.getR cls_X3 (j := 0) (by decide) dX3_standOn_14 wd_248 hx3 ?_
    obtain ⟨x4, hx4, h⟩ := bind_some h
    refine PW.getI cls_X7 (j := 0) (by decide) dX3_standOn_17 wd_94 hx4 ?_
    refine PW.icmp_ge (tgt := 66) dX3_standOn_20 (by decide) (fun c20 => ?_) (fun c20 => ?_)
    · rw [if_pos c20] at h
      have h := Option.some.inj h
      subst h
      exact PW.ret dX3_standOn_66 trivial rfl
    · rw [if_neg c20] at h
      refine PW.aload_n 0 dX3_standOn_23 rfl rfl ?_
      obtain ⟨x5, hx5, h⟩ := bind_some h
      refine PW.getR cls_X3 (j := 1) (by decide) dX3_standOn_24 wd_249 hx5 ?_
      refine PW.iload_n 3 dX3_standOn_27 rfl rfl ?_
      refine PW.aload_n 0 dX3_standOn_28 rfl rfl ?_
      obtain ⟨x6, hx6, h⟩ := bind_some h
      refine PW.getR cls_X3 (j := 0) (by decide) dX3_standOn_29 wd_248 hx6 ?_
      refine PW.iload_n 3 dX3_standOn_32 rfl rfl ?_
      refine PW.iload_n 1 dX3_standOn_33 rfl rfl ?_
      refine PW.iload_n 2 dX3_standOn_34 rfl rfl ?_
      obtain ⟨q7, hq7, h⟩ := bind_some h
      obtain ⟨hkq7, hcq7, hq7⟩ := vC_spec hq7
      refine PW.callVi (As := [.int a3, .int a1, .int a2]) (rest := [.int a3, .ref (ga K x5)]) (k := x6) cal_X7_yearsOf dX3_standOn_35 wd_497 rfl rfl (rmLe (by omega)) (Nat.le_of_ble_eq_true rfl) rm_0 hkq7 hcq7 (mf_X7_yearsOf x6 a3 a1 a2 hp _ hq7) ?_
      obtain ⟨hp8, hhp8, h⟩ := bind_some h
      refine PW.iast dX3_standOn_38 hhp8 ?_
      refine PW.aload_n 0 dX3_standOn_39 rfl rfl ?_
      obtain ⟨x9, hx9, h⟩ := bind_some h
      refine PW.getR cls_X3 (j := 1) (by decide) dX3_standOn_40 wd_249 hx9 ?_
      refine PW.iload_n 3 dX3_standOn_43 rfl rfl ?_
      obtain ⟨x10, hx10, h⟩ := bind_some h
      refine PW.iald dX3_standOn_44 hx10 ?_
      refine PW.if_ge (tgt := 60) dX3_standOn_45 (by decide) (fun c45 => ?_) (fun c45 => ?_)
      · rw [if_pos c45] at h
        refine PW.iinc 3 (l' := [(3, .int (a3 + 1)), (0, .ref (ga K a0)), (1, .int a1), (2, .int a2)]) dX3_standOn_60 rfl (x := a3) (y := (a3 + 1)) rfl (by decide) rfl ?_
        refine PW.goto (tgt := 12) dX3_standOn_63 (by decide) ?_
        exact PW.sub (l' := [(0, .ref (ga K a0)), (1, .int a1), (2, .int a2), (3, .int (a3 + 1))]) [1, 2, 3, 0] rfl (ih a0 a1 a2 (a3 + 1) hp8 _ h)
      · rw [if_neg c45] at h
        refine PW.aload_n 0 dX3_standOn_48 rfl rfl ?_
        refine PW.dup dX3_standOn_49 rfl ?_
        obtain ⟨x11, hx11, h⟩ := bind_some h
        refine PW.getI cls_X3 (j := 2) (by decide) dX3_standOn_50 wd_250 hx11 ?_
        refine PW.iconst (x := 1) dX3_standOn_53 (by decide) ?_
        refine PW.iload_n 3 dX3_standOn_54 rfl rfl ?_
        refine PW.ishl dX3_standOn_55 ?_
        refine PW.ior dX3_standOn_56 ?_
        obtain ⟨hp12, hhp12, h⟩ := bind_some h
        refine PW.putI cls_X3 clw_X3 (j := 2) (by decide) dX3_standOn_57 wd_250 rfl rfl hhp12 ?_
        refine PW.iinc 3 (l' := [(3, .int (a3 + 1)), (0, .ref (ga K a0)), (1, .int a1), (2, .int a2)]) dX3_standOn_60 rfl (x := a3) (y := (a3 + 1)) rfl (by decide) rfl ?_
        refine PW.goto (tgt := 12) dX3_standOn_63 (by decide) ?_
        exact PW.sub (l' := [(0, .ref (ga K a0)), (1, .int a1), (2, .int a2), (3, .int (a3 + 1))]) [1, 2, 3, 0] rfl (ih a0 a1 a2 (a3 + 1) hp12 _ h)
set_option maxRecDepth 100000 in
set_option maxHeartbeats 4000000 in
theorem mf_X3_standOn {K : GK} : ∀ (a0 : Nat) (a1 : Int32) (hp : PH) (r : PH), f_X3_standOn a0 a1 hp = some r → PM K (3) M_X3_standOn [.ref (ga K a0), .int a1] hp none r := by
  intro a0 a1 hp r h
  unfold f_X3_standOn at h
  refine PM.enter (l0 := [(0, .ref (ga K a0)), (1, .int a1)]) (by decide +kernel) rfl (Nat.le_of_ble_eq_true rfl) rfl ?_
  refine PW.iload_n 1 dX3_standOn_0 rfl rfl ?_
  obtain ⟨q1, hq1, h⟩ := bind_some h
  refine PW.callSi (As := [.int a1]) (rest := []) cal_X1_yearOf dX3_standOn_1 wd_496 rfl rfl (rmLe (by omega)) (Nat.le_of_ble_eq_true rfl) rm_0 (mf_X1_yearOf a1 _ hq1) ?_
  refine PW.istore_n (l' := [(2, .int q1), (0, .ref (ga K a0)), (1, .int a1)]) dX3_standOn_4 rfl (by decide) rfl ?_
  refine PW.aload_n 1 dX3_standOn_5 rfl rfl ?_
  refine PW.iconst (x := 0) dX3_standOn_6 (by decide) ?_
  obtain ⟨hp2, hhp2, h⟩ := bind_some h
  refine PW.putI cls_X3 clw_X3 (j := 2) (by decide) dX3_standOn_7 wd_250 rfl rfl hhp2 ?_
  refine PW.iconst (x := 0) dX3_standOn_10 (by decide) ?_
  refine PW.istore_n (l' := [(3, .int 0), (2, .int q1), (0, .ref (ga K a0)), (1, .int a1)]) dX3_standOn_11 rfl (by decide) rfl ?_
  exact PW.sub (l' := [(0, .ref (ga K a0)), (1, .int a1), (2, .int q1), (3, .int 0)]) [2, 3, 1, 0] rfl (mf_X3_standOn_L12 NN a0 a1 q1 0 hp2 _ h)
-- J6_bitCount_0f7a4
def f_J6_bitCount_0f7a4 (a0 : Int32) : Int32 := (((((((((a0 - ((iU a0 1) &&& 1431655765)) &&& 858993459) + ((iU (a0 - ((iU a0 1) &&& 1431655765)) 2) &&& 858993459)) + (iU (((a0 - ((iU a0 1) &&& 1431655765)) &&& 858993459) + ((iU (a0 - ((iU a0 1) &&& 1431655765)) 2) &&& 858993459)) 4)) &&& 252645135) + (iU (((((a0 - ((iU a0 1) &&& 1431655765)) &&& 858993459) + ((iU (a0 - ((iU a0 1) &&& 1431655765)) 2) &&& 858993459)) + (iU (((a0 - ((iU a0 1) &&& 1431655765)) &&& 858993459) + ((iU (a0 - ((iU a0 1) &&& 1431655765)) 2) &&& 858993459)) 4)) &&& 252645135) 8)) + (iU ((((((a0 - ((iU a0 1) &&& 1431655765)) &&& 858993459) + ((iU (a0 - ((iU a0 1) &&& 1431655765)) 2) &&& 858993459)) + (iU (((a0 - ((iU a0 1) &&& 1431655765)) &&& 858993459) + ((iU (a0 - ((iU a0 1) &&& 1431655765)) 2) &&& 858993459)) 4)) &&& 252645135) + (iU (((((a0 - ((iU a0 1) &&& 1431655765)) &&& 858993459) + ((iU (a0 - ((iU a0 1) &&& 1431655765)) 2) &&& 858993459)) + (iU (((a0 - ((iU a0 1) &&& 1431655765)) &&& 858993459) + ((iU (a0 - ((iU a0 1) &&& 1431655765)) 2) &&& 858993459)) 4)) &&& 252645135) 8)) 16)) &&& 63))
set_option maxRecDepth 100000 in
set_option maxHeartbeats 4000000 in
theorem mf_J6_bitCount_0f7a4 {K : GK} {hp : PH} : ∀ (a0 : Int32) (r : Int32), f_J6_bitCount_0f7a4 a0 = r → PM K (0) M_J6_bitCount_0f7a4 [.int a0] hp (some (.int r)) hp := by
  intro a0 r h
  unfold f_J6_bitCount_0f7a4 at h
  refine PM.enter (l0 := [(0, .int a0)]) (by decide +kernel) rfl (Nat.le_of_ble_eq_true rfl) rfl ?_
  refine PW.iload_n 0 dJ6_bitCount_0f7a4_0 rfl rfl ?_
  refine PW.iload_n 0 dJ6_bitCount_0f7a4_1 rfl rfl ?_
  refine PW.iconst (x := 1) dJ6_bitCount_0f7a4_2 (by decide) ?_
  refine PW.iushr dJ6_bitCount_0f7a4_3 ?_
  refine PW.ldcw (x := 1431655765) dJ6_bitCount_0f7a4_4 wd_509 ?_
  refine PW.iand dJ6_bitCount_0f7a4_7 ?_
  refine PW.isub dJ6_bitCount_0f7a4_8 ?_
  refine PW.istore_n (l' := [(0, .int (a0 - ((iU a0 1) &&& 1431655765)))]) dJ6_bitCount_0f7a4_9 rfl (by decide) rfl ?_
  refine PW.iload_n 0 dJ6_bitCount_0f7a4_10 rfl rfl ?_
  refine PW.ldcw (x := 858993459) dJ6_bitCount_0f7a4_11 wd_510 ?_
  refine PW.iand dJ6_bitCount_0f7a4_14 ?_
  refine PW.iload_n 0 dJ6_bitCount_0f7a4_15 rfl rfl ?_
  refine PW.iconst (x := 2) dJ6_bitCount_0f7a4_16 (by decide) ?_
  refine PW.iushr dJ6_bitCount_0f7a4_17 ?_
  refine PW.ldcw (x := 858993459) dJ6_bitCount_0f7a4_18 wd_510 ?_
  refine PW.iand dJ6_bitCount_0f7a4_21 ?_
  refine PW.iadd dJ6_bitCount_0f7a4_22 ?_
  refine PW.istore_n (l' := [(0, .int (((a0 - ((iU a0 1) &&& 1431655765)) &&& 858993459) + ((iU (a0 - ((iU a0 1) &&& 1431655765)) 2) &&& 858993459)))]) dJ6_bitCount_0f7a4_23 rfl (by decide) rfl ?_
  refine PW.iload_n 0 dJ6_bitCount_0f7a4_24 rfl rfl ?_
  refine PW.iload_n 0 dJ6_bitCount_0f7a4_25 rfl rfl ?_
  refine PW.iconst (x := 4) dJ6_bitCount_0f7a4_26 (by decide) ?_
  refine PW.iushr dJ6_bitCount_0f7a4_27 ?_
  refine PW.iadd dJ6_bitCount_0f7a4_28 ?_
  refine PW.ldcw (x := 252645135) dJ6_bitCount_0f7a4_29 wd_511 ?_
  refine PW.iand dJ6_bitCount_0f7a4_32 ?_
  refine PW.istore_n (l' := [(0, .int (((((a0 - ((iU a0 1) &&& 1431655765)) &&& 858993459) + ((iU (a0 - ((iU a0 1) &&& 1431655765)) 2) &&& 858993459)) + (iU (((a0 - ((iU a0 1) &&& 1431655765)) &&& 858993459) + ((iU (a0 - ((iU a0 1) &&& 1431655765)) 2) &&& 858993459)) 4)) &&& 252645135))]) dJ6_bitCount_0f7a4_33 rfl (by decide) rfl ?_
  refine PW.iload_n 0 dJ6_bitCount_0f7a4_34 rfl rfl ?_
  refine PW.iload_n 0 dJ6_bitCount_0f7a4_35 rfl rfl ?_
  refine PW.bipush (x := 8) dJ6_bitCount_0f7a4_36 (by decide) ?_
  refine PW.iushr dJ6_bitCount_0f7a4_38 ?_
  refine PW.iadd dJ6_bitCount_0f7a4_39 ?_
  refine PW.istore_n (l' := [(0, .int ((((((a0 - ((iU a0 1) &&& 1431655765)) &&& 858993459) + ((iU (a0 - ((iU a0 1) &&& 1431655765)) 2) &&& 858993459)) + (iU (((a0 - ((iU a0 1) &&& 1431655765)) &&& 858993459) + ((iU (a0 - ((iU a0 1) &&& 1431655765)) 2) &&& 858993459)) 4)) &&& 252645135) + (iU (((((a0 - ((iU a0 1) &&& 1431655765)) &&& 858993459) + ((iU (a0 - ((iU a0 1) &&& 1431655765)) 2) &&& 858993459)) + (iU (((a0 - ((iU a0 1) &&& 1431655765)) &&& 858993459) + ((iU (a0 - ((iU a0 1) &&& 1431655765)) 2) &&& 858993459)) 4)) &&& 252645135) 8)))]) dJ6_bitCount_0f7a4_40 rfl (by decide) rfl ?_
  refine PW.iload_n 0 dJ6_bitCount_0f7a4_41 rfl rfl ?_
  refine PW.iload_n 0 dJ6_bitCount_0f7a4_42 rfl rfl ?_
  refine PW.bipush (x := 16) dJ6_bitCount_0f7a4_43 (by decide) ?_
  refine PW.iushr dJ6_bitCount_0f7a4_45 ?_
  refine PW.iadd dJ6_bitCount_0f7a4_46 ?_
  refine PW.istore_n (l' := [(0, .int (((((((a0 - ((iU a0 1) &&& 1431655765)) &&& 858993459) + ((iU (a0 - ((iU a0 1) &&& 1431655765)) 2) &&& 858993459)) + (iU (((a0 - ((iU a0 1) &&& 1431655765)) &&& 858993459) + ((iU (a0 - ((iU a0 1) &&& 1431655765)) 2) &&& 858993459)) 4)) &&& 252645135) + (iU (((((a0 - ((iU a0 1) &&& 1431655765)) &&& 858993459) + ((iU (a0 - ((iU a0 1) &&& 1431655765)) 2) &&& 858993459)) + (iU (((a0 - ((iU a0 1) &&& 1431655765)) &&& 858993459) + ((iU (a0 - ((iU a0 1) &&& 1431655765)) 2) &&& 858993459)) 4)) &&& 252645135) 8)) + (iU ((((((a0 - ((iU a0 1) &&& 1431655765)) &&& 858993459) + ((iU (a0 - ((iU a0 1) &&& 1431655765)) 2) &&& 858993459)) + (iU (((a0 - ((iU a0 1) &&& 1431655765)) &&& 858993459) + ((iU (a0 - ((iU a0 1) &&& 1431655765)) 2) &&& 858993459)) 4)) &&& 252645135) + (iU (((((a0 - ((iU a0 1) &&& 1431655765)) &&& 858993459) + ((iU (a0 - ((iU a0 1) &&& 1431655765)) 2) &&& 858993459)) + (iU (((a0 - ((iU a0 1) &&& 1431655765)) &&& 858993459) + ((iU (a0 - ((iU a0 1) &&& 1431655765)) 2) &&& 858993459)) 4)) &&& 252645135) 8)) 16)))]) dJ6_bitCount_0f7a4_47 rfl (by decide) rfl ?_
  refine PW.iload_n 0 dJ6_bitCount_0f7a4_48 rfl rfl ?_
  refine PW.bipush (x := 63) dJ6_bitCount_0f7a4_49 (by decide) ?_
  refine PW.iand dJ6_bitCount_0f7a4_51 ?_
  subst h
  exact PW.ret dJ6_bitCount_0f7a4_52 trivial rfl
-- X3_lastingReason
def f_X3_lastingReason_L26 : Nat → Nat → Int32 → Int32 → Int32 → Int32 → PH → Option Int32
  | 0, _, _, _, _, _, _ => none
  | n + 1, a0, a1, a3, a4, a5, hp => (gR hp a0 2 0).bind fun x5 => (gI hp x5 6 0).bind fun x6 => (if x6 ≤ a5 then (if (a3 &&& (a1 ^^^ (-1))) = 0 then (if (a4 &&& a1) = 0 then (some 0) else (some 4)) else (some 3)) else (if ((iS a1 a5) &&& 1) = 0 then ((f_X3_lastingReason_L26 n) a0 a1 a3 a4 (a5 + 1) hp) else (gR hp a0 2 0).bind fun x7 => (gR hp x7 6 5).bind fun x8 => (aI hp x8 0 a5).bind fun x9 => (gR hp a0 2 0).bind fun x10 => (gR hp x10 6 6).bind fun x11 => (aI hp x11 0 a5).bind fun x12 => ((f_X3_lastingReason_L26 n) a0 a1 (a3 ||| x9) (a4 ||| x12) (a5 + 1) hp)))
def f_X3_lastingReason (a0 : Nat) (a1 : Int32) (a2 : Int32) (hp : PH) : Option Int32 := (gR hp a0 2 0).bind fun x2 => (gR hp x2 6 8).bind fun x3 => (aI hp x3 0 a2).bind fun x4 => (if (f_J6_bitCount_0f7a4 a1) ≤ x4 then (f_X3_lastingReason_L26 NN a0 a1 0 0 0 hp) else (some 2))
set_option maxRecDepth 100000 in
set_option maxHeartbeats 4000000 in
theorem mf_X3_lastingReason_L26 {K : GK} : ∀ (n : Nat) (a0 : Nat) (a1 : Int32) (a3 : Int32) (a4 : Int32) (a5 : Int32) (hp : PH) (r : Int32), f_X3_lastingReason_L26 n a0 a1 a3 a4 a5 hp = some r → PW K (rmD (1)) 0 0 M_X3_lastingReason 26 [(0, .ref (ga K a0)), (1, .int a1), (3, .int a3), (4, .int a4), (5, .int a5)] [] hp (some (.int r)) hp := by
  intro n
  induction n with
  | zero =>
    intro a0 a1 a3 a4 a5 hp r h
    rw [f_X3_lastingReason_L26] at h
    cases h
  | succ n ih =>
    intro a0 a1 a3 a4 a5 hp r h
    rw [f_X3_lastingReason_L26] at h
    refine PW.iload 4 dX3_lastingReason_26 rfl ?_
    refine PW.aload_n 0 dX3_lastingReason_28 rfl rfl ?_
    obtain ⟨x5, hx5, h⟩ := bind_some h
    refine PW.getR cls_X3 (j := 0) (by decide) dX3_lastingReason_29 wd_248 hx5 ?_
    obtain ⟨x6, hx6, h⟩ := bind_some h
    refine PW.getI cls_X7 (j := 0) (by decide) dX3_lastingReason_32 wd_94 hx6 ?_
    refine PW.icmp_ge (tgt := 81) dX3_lastingReason_35 (by decide) (fun c35 => ?_) (fun c35 => ?_)
    · rw [if_pos c35] at h
      refine PW.iload_n 2 dX3_lastingReason_81 rfl rfl ?_
      refine PW.iload_n 1 dX3_lastingReason_82 rfl rfl ?_
      refine PW.iconst (x := (-1)) dX3_lastingReason_83 (by decide) ?_
      refine PW.ixor dX3_lastingReason_84 ?_
      refine PW.iand dX3_lastingReason_85 ?_
      refine PW.if_eq (tgt := 91) dX3_lastingReason_86 (by decide) (fun c86 => ?_) (fun c86 => ?_)
      · rw [if_pos c86] at h
        refine PW.iload 3 dX3_lastingReason_91 rfl ?_
        refine PW.iload_n 1 dX3_lastingReason_93 rfl rfl ?_
        refine PW.iand dX3_lastingReason_94 ?_
        refine PW.if_eq (tgt := 102) dX3_lastingReason_95 (by decide) (fun c95 => ?_) (fun c95 => ?_)
        · rw [if_pos c95] at h
          refine PW.iconst (x := 0) dX3_lastingReason_102 (by decide) ?_
          have h := Option.some.inj h; subst h
          exact PW.ret dX3_lastingReason_103 trivial rfl
        · rw [if_neg c95] at h
          refine PW.iconst (x := 4) dX3_lastingReason_98 (by decide) ?_
          refine PW.goto (tgt := 103) dX3_lastingReason_99 (by decide) ?_
          have h := Option.some.inj h; subst h
          exact PW.ret dX3_lastingReason_103 trivial rfl
      · rw [if_neg c86] at h
        refine PW.iconst (x := 3) dX3_lastingReason_89 (by decide) ?_
        have h := Option.some.inj h; subst h
        exact PW.ret dX3_lastingReason_90 trivial rfl
    · rw [if_neg c35] at h
      refine PW.iload_n 1 dX3_lastingReason_38 rfl rfl ?_
      refine PW.iload 4 dX3_lastingReason_39 rfl ?_
      refine PW.ishr dX3_lastingReason_41 ?_
      refine PW.iconst (x := 1) dX3_lastingReason_42 (by decide) ?_
      refine PW.iand dX3_lastingReason_43 ?_
      refine PW.if_eq (tgt := 75) dX3_lastingReason_44 (by decide) (fun c44 => ?_) (fun c44 => ?_)
      · rw [if_pos c44] at h
        refine PW.iinc 4 (l' := [(5, .int (a5 + 1)), (0, .ref (ga K a0)), (1, .int a1), (3, .int a3), (4, .int a4)]) dX3_lastingReason_75 rfl (x := a5) (y := (a5 + 1)) rfl (by decide) rfl ?_
        refine PW.goto (tgt := 26) dX3_lastingReason_78 (by decide) ?_
        exact PW.sub (l' := [(0, .ref (ga K a0)), (1, .int a1), (3, .int a3), (4, .int a4), (5, .int (a5 + 1))]) [1, 2, 3, 4, 0] rfl (ih a0 a1 a3 a4 (a5 + 1) hp _ h)
      · rw [if_neg c44] at h
        refine PW.iload_n 2 dX3_lastingReason_47 rfl rfl ?_
        refine PW.aload_n 0 dX3_lastingReason_48 rfl rfl ?_
        obtain ⟨x7, hx7, h⟩ := bind_some h
        refine PW.getR cls_X3 (j := 0) (by decide) dX3_lastingReason_49 wd_248 hx7 ?_
        obtain ⟨x8, hx8, h⟩ := bind_some h
        refine PW.getR cls_X7 (j := 5) (by decide) dX3_lastingReason_52 wd_110 hx8 ?_
        refine PW.iload 4 dX3_lastingReason_55 rfl ?_
        obtain ⟨x9, hx9, h⟩ := bind_some h
        refine PW.iald dX3_lastingReason_57 hx9 ?_
        refine PW.ior dX3_lastingReason_58 ?_
        refine PW.istore_n (l' := [(3, .int (a3 ||| x9)), (0, .ref (ga K a0)), (1, .int a1), (4, .int a4), (5, .int a5)]) dX3_lastingReason_59 rfl (by decide) rfl ?_
        refine PW.iload 3 dX3_lastingReason_60 rfl ?_
        refine PW.aload_n 1 dX3_lastingReason_62 rfl rfl ?_
        obtain ⟨x10, hx10, h⟩ := bind_some h
        refine PW.getR cls_X3 (j := 0) (by decide) dX3_lastingReason_63 wd_248 hx10 ?_
        obtain ⟨x11, hx11, h⟩ := bind_some h
        refine PW.getR cls_X7 (j := 6) (by decide) dX3_lastingReason_66 wd_115 hx11 ?_
        refine PW.iload 4 dX3_lastingReason_69 rfl ?_
        obtain ⟨x12, hx12, h⟩ := bind_some h
        refine PW.iald dX3_lastingReason_71 hx12 ?_
        refine PW.ior dX3_lastingReason_72 ?_
        refine PW.istore (l' := [(4, .int (a4 ||| x12)), (3, .int (a3 ||| x9)), (0, .ref (ga K a0)), (1, .int a1), (5, .int a5)]) dX3_lastingReason_73 (by decide) rfl ?_
        refine PW.iinc 4 (l' := [(5, .int (a5 + 1)), (4, .int (a4 ||| x12)), (3, .int (a3 ||| x9)), (0, .ref (ga K a0)), (1, .int a1)]) dX3_lastingReason_75 rfl (x := a5) (y := (a5 + 1)) rfl (by decide) rfl ?_
        refine PW.goto (tgt := 26) dX3_lastingReason_78 (by decide) ?_
        exact PW.sub (l' := [(0, .ref (ga K a0)), (1, .int a1), (3, .int (a3 ||| x9)), (4, .int (a4 ||| x12)), (5, .int (a5 + 1))]) [3, 4, 2, 1, 0] rfl (ih a0 a1 (a3 ||| x9) (a4 ||| x12) (a5 + 1) hp _ h)
set_option maxRecDepth 100000 in
set_option maxHeartbeats 4000000 in
theorem mf_X3_lastingReason {K : GK} : ∀ (a0 : Nat) (a1 : Int32) (a2 : Int32) (hp : PH) (r : Int32), f_X3_lastingReason a0 a1 a2 hp = some r → PM K (1) M_X3_lastingReason [.ref (ga K a0), .int a1, .int a2] hp (some (.int r)) hp := by
  intro a0 a1 a2 hp r h
  unfold f_X3_lastingReason at h
  refine PM.enter (l0 := [(0, .ref (ga K a0)), (1, .int a1), (2, .int a2)]) (by decide +kernel) rfl (Nat.le_of_ble_eq_true rfl) rfl ?_
  refine PW.iload_n 1 dX3_lastingReason_0 rfl rfl ?_
  refine PW.callSi (As := [.int a1]) (rest := []) cal_J6_bitCount_0f7a4 dX3_lastingReason_1 wd_506 rfl rfl (rmLe (by omega)) (Nat.le_of_ble_eq_true rfl) rm_0 (mf_J6_bitCount_0f7a4 a1 _ rfl) ?_
  refine PW.aload_n 0 dX3_lastingReason_4 rfl rfl ?_
  obtain ⟨x2, hx2, h⟩ := bind_some h
  refine PW.getR cls_X3 (j := 0) (by decide) dX3_lastingReason_5 wd_248 hx2 ?_
  obtain ⟨x3, hx3, h⟩ := bind_some h
  refine PW.getR cls_X7 (j := 8) (by decide) dX3_lastingReason_8 wd_122 hx3 ?_
  refine PW.iload_n 2 dX3_lastingReason_11 rfl rfl ?_
  obtain ⟨x4, hx4, h⟩ := bind_some h
  refine PW.iald dX3_lastingReason_12 hx4 ?_
  refine PW.icmp_le (tgt := 18) dX3_lastingReason_13 (by decide) (fun c13 => ?_) (fun c13 => ?_)
  · rw [if_pos c13] at h
    refine PW.iconst (x := 0) dX3_lastingReason_18 (by decide) ?_
    refine PW.istore_n (l' := [(3, .int 0), (0, .ref (ga K a0)), (1, .int a1), (2, .int a2)]) dX3_lastingReason_19 rfl (by decide) rfl ?_
    refine PW.iconst (x := 0) dX3_lastingReason_20 (by decide) ?_
    refine PW.istore (l' := [(4, .int 0), (3, .int 0), (0, .ref (ga K a0)), (1, .int a1), (2, .int a2)]) dX3_lastingReason_21 (by decide) rfl ?_
    refine PW.iconst (x := 0) dX3_lastingReason_23 (by decide) ?_
    refine PW.istore (l' := [(5, .int 0), (4, .int 0), (3, .int 0), (0, .ref (ga K a0)), (1, .int a1), (2, .int a2)]) dX3_lastingReason_24 (by decide) rfl ?_
    exact PW.sub (l' := [(0, .ref (ga K a0)), (1, .int a1), (3, .int 0), (4, .int 0), (5, .int 0)]) [3, 4, 2, 1, 0] rfl (mf_X3_lastingReason_L26 NN a0 a1 0 0 0 hp _ h)
  · rw [if_neg c13] at h
    refine PW.iconst (x := 2) dX3_lastingReason_16 (by decide) ?_
    have h := Option.some.inj h; subst h
    exact PW.ret dX3_lastingReason_17 trivial rfl
-- X3_yearsTogether
def f_X3_yearsTogether_L4 : Nat → Nat → Int32 → Int32 → Int32 → PH → Option Int32
  | 0, _, _, _, _, _ => none
  | n + 1, a0, a1, a2, a3, hp => (gR hp a0 2 0).bind fun x1 => (gI hp x1 6 0).bind fun x2 => (if x2 ≤ a3 then (some a2) else (if ((iS a1 a3) &&& 1) = 0 then ((f_X3_yearsTogether_L4 n) a0 a1 a2 (a3 + 1) hp) else (gR hp a0 2 1).bind fun x3 => (aI hp x3 0 a3).bind fun x4 => ((f_X3_yearsTogether_L4 n) a0 a1 (a2 + x4) (a3 + 1) hp)))
def f_X3_yearsTogether (a0 : Nat) (a1 : Int32) (hp : PH) : Option Int32 := (f_X3_yearsTogether_L4 NN a0 a1 0 0 hp)
set_option maxRecDepth 100000 in
set_option maxHeartbeats 4000000 in
theorem mf_X3_yearsTogether_L4 {K : GK} : ∀ (n : Nat) (a0 : Nat) (a1 : Int32) (a2 : Int32) (a3 : Int32) (hp : PH) (r : Int32), f_X3_yearsTogether_L4 n a0 a1 a2 a3 hp = some r → PW K (rmD (0)) 0 0 M_X3_yearsTogether 4 [(0, .ref (ga K a0)), (1, .int a1), (2, .int a2), (3, .int a3)] [] hp (some (.int r)) hp := by
  intro n
  induction n with
  | zero =>
    intro a0 a1 a2 a3 hp r h
    rw [f_X3_yearsTogether_L4] at h
    cases h
  | succ n ih =>
    intro a0 a1 a2 a3 hp r h
    rw [f_X3_yearsTogether_L4] at h
    refine PW.iload_n 3 dX3_yearsTogether_4 rfl rfl ?_
    refine PW.aload_n 0 dX3_yearsTogether_5 rfl rfl ?_
    obtain ⟨x1, hx1, h⟩ := bind_some h
    refine PW.getR cls_X3 (j := 0) (by decide) dX3_yearsTogether_6 wd_248 hx1 ?_
    obtain ⟨x2, hx2, h⟩ := bind_some h
    refine PW.getI cls_X7 (j := 0) (by decide) dX3_yearsTogether_9 wd_94 hx2 ?_
    refine PW.icmp_ge (tgt := 38) dX3_yearsTogether_12 (by decide) (fun c12 => ?_) (fun c12 => ?_)
    · rw [if_pos c12] at h
      refine PW.iload_n 2 dX3_yearsTogether_38 rfl rfl ?_
      have h := Option.some.inj h; subst h
      exact PW.ret dX3_yearsTogether_39 trivial rfl
    · rw [if_neg c12] at h
      refine PW.iload_n 1 dX3_yearsTogether_15 rfl rfl ?_
      refine PW.iload_n 3 dX3_yearsTogether_16 rfl rfl ?_
      refine PW.ishr dX3_yearsTogether_17 ?_
      refine PW.iconst (x := 1) dX3_yearsTogether_18 (by decide) ?_
      refine PW.iand dX3_yearsTogether_19 ?_
      refine PW.if_eq (tgt := 32) dX3_yearsTogether_20 (by decide) (fun c20 => ?_) (fun c20 => ?_)
      · rw [if_pos c20] at h
        refine PW.iinc 3 (l' := [(3, .int (a3 + 1)), (0, .ref (ga K a0)), (1, .int a1), (2, .int a2)]) dX3_yearsTogether_32 rfl (x := a3) (y := (a3 + 1)) rfl (by decide) rfl ?_
        refine PW.goto (tgt := 4) dX3_yearsTogether_35 (by decide) ?_
        exact PW.sub (l' := [(0, .ref (ga K a0)), (1, .int a1), (2, .int a2), (3, .int (a3 + 1))]) [1, 2, 3, 0] rfl (ih a0 a1 a2 (a3 + 1) hp _ h)
      · rw [if_neg c20] at h
        refine PW.iload_n 2 dX3_yearsTogether_23 rfl rfl ?_
        refine PW.aload_n 0 dX3_yearsTogether_24 rfl rfl ?_
        obtain ⟨x3, hx3, h⟩ := bind_some h
        refine PW.getR cls_X3 (j := 1) (by decide) dX3_yearsTogether_25 wd_249 hx3 ?_
        refine PW.iload_n 3 dX3_yearsTogether_28 rfl rfl ?_
        obtain ⟨x4, hx4, h⟩ := bind_some h
        refine PW.iald dX3_yearsTogether_29 hx4 ?_
        refine PW.iadd dX3_yearsTogether_30 ?_
        refine PW.istore_n (l' := [(2, .int (a2 + x4)), (0, .ref (ga K a0)), (1, .int a1), (3, .int a3)]) dX3_yearsTogether_31 rfl (by decide) rfl ?_
        refine PW.iinc 3 (l' := [(3, .int (a3 + 1)), (2, .int (a2 + x4)), (0, .ref (ga K a0)), (1, .int a1)]) dX3_yearsTogether_32 rfl (x := a3) (y := (a3 + 1)) rfl (by decide) rfl ?_
        refine PW.goto (tgt := 4) dX3_yearsTogether_35 (by decide) ?_
        exact PW.sub (l' := [(0, .ref (ga K a0)), (1, .int a1), (2, .int (a2 + x4)), (3, .int (a3 + 1))]) [2, 3, 1, 0] rfl (ih a0 a1 (a2 + x4) (a3 + 1) hp _ h)
set_option maxRecDepth 100000 in
set_option maxHeartbeats 4000000 in
theorem mf_X3_yearsTogether {K : GK} : ∀ (a0 : Nat) (a1 : Int32) (hp : PH) (r : Int32), f_X3_yearsTogether a0 a1 hp = some r → PM K (0) M_X3_yearsTogether [.ref (ga K a0), .int a1] hp (some (.int r)) hp := by
  intro a0 a1 hp r h
  unfold f_X3_yearsTogether at h
  refine PM.enter (l0 := [(0, .ref (ga K a0)), (1, .int a1)]) (by decide +kernel) rfl (Nat.le_of_ble_eq_true rfl) rfl ?_
  refine PW.iconst (x := 0) dX3_yearsTogether_0 (by decide) ?_
  refine PW.istore_n (l' := [(2, .int 0), (0, .ref (ga K a0)), (1, .int a1)]) dX3_yearsTogether_1 rfl (by decide) rfl ?_
  refine PW.iconst (x := 0) dX3_yearsTogether_2 (by decide) ?_
  refine PW.istore_n (l' := [(3, .int 0), (2, .int 0), (0, .ref (ga K a0)), (1, .int a1)]) dX3_yearsTogether_3 rfl (by decide) rfl ?_
  exact PW.sub (l' := [(0, .ref (ga K a0)), (1, .int a1), (2, .int 0), (3, .int 0)]) [2, 3, 1, 0] rfl (mf_X3_yearsTogether_L4 NN a0 a1 0 0 hp _ h)
-- X3_isSquare
def f_X3_isSquare_L2 : Nat → Int32 → Int32 → Option Int32
  | 0, _, _ => none
  | n + 1, a0, a1 => (if 57 < a1 then (some 0) else (if (a1 * a1) = a0 then (some 1) else ((f_X3_isSquare_L2 n) a0 (a1 + 1))))
def f_X3_isSquare (a0 : Int32) : Option Int32 := (f_X3_isSquare_L2 NN a0 0)
set_option maxRecDepth 100000 in
set_option maxHeartbeats 4000000 in
theorem mf_X3_isSquare_L2 {K : GK} {hp : PH} : ∀ (n : Nat) (a0 : Int32) (a1 : Int32) (r : Int32), f_X3_isSquare_L2 n a0 a1 = some r → PW K (rmD (0)) 0 0 M_X3_isSquare 2 [(0, .int a0), (1, .int a1)] [] hp (some (.int r)) hp := by
  intro n
  induction n with
  | zero =>
    intro a0 a1 r h
    rw [f_X3_isSquare_L2] at h
    cases h
  | succ n ih =>
    intro a0 a1 r h
    rw [f_X3_isSquare_L2] at h
    refine PW.iload_n 1 dX3_isSquare_2 rfl rfl ?_
    refine PW.bipush (x := 57) dX3_isSquare_3 (by decide) ?_
    refine PW.icmp_gt (tgt := 23) dX3_isSquare_5 (by decide) (fun c5 => ?_) (fun c5 => ?_)
    · rw [if_pos c5] at h
      refine PW.iconst (x := 0) dX3_isSquare_23 (by decide) ?_
      have h := Option.some.inj h; subst h
      exact PW.ret dX3_isSquare_24 (z_nar (Or.inl rfl)).1 rfl
    · rw [if_neg c5] at h
      refine PW.iload_n 1 dX3_isSquare_8 rfl rfl ?_
      refine PW.iload_n 1 dX3_isSquare_9 rfl rfl ?_
      refine PW.imul dX3_isSquare_10 ?_
      refine PW.iload_n 0 dX3_isSquare_11 rfl rfl ?_
      refine PW.icmp_ne (tgt := 17) dX3_isSquare_12 (by decide) (fun c12 => ?_) (fun c12 => ?_)
      · rw [if_neg c12] at h
        refine PW.iinc 1 (l' := [(1, .int (a1 + 1)), (0, .int a0)]) dX3_isSquare_17 rfl (x := a1) (y := (a1 + 1)) rfl (by decide) rfl ?_
        refine PW.goto (tgt := 2) dX3_isSquare_20 (by decide) ?_
        exact PW.sub (l' := [(0, .int a0), (1, .int (a1 + 1))]) [1, 0] rfl (ih a0 (a1 + 1) _ h)
      · rw [if_pos c12] at h
        refine PW.iconst (x := 1) dX3_isSquare_15 (by decide) ?_
        have h := Option.some.inj h; subst h
        exact PW.ret dX3_isSquare_16 (z_nar (Or.inr rfl)).1 rfl
set_option maxRecDepth 100000 in
set_option maxHeartbeats 4000000 in
theorem mf_X3_isSquare {K : GK} {hp : PH} : ∀ (a0 : Int32) (r : Int32), f_X3_isSquare a0 = some r → PM K (0) M_X3_isSquare [.int a0] hp (some (.int r)) hp := by
  intro a0 r h
  unfold f_X3_isSquare at h
  refine PM.enter (l0 := [(0, .int a0)]) (by decide +kernel) rfl (Nat.le_of_ble_eq_true rfl) rfl ?_
  refine PW.iconst (x := 0) dX3_isSquare_0 (by decide) ?_
  refine PW.istore_n (l' := [(1, .int 0), (0, .int a0)]) dX3_isSquare_1 rfl (by decide) rfl ?_
  exact PW.sub (l' := [(0, .int a0), (1, .int 0)]) [1, 0] rfl (mf_X3_isSquare_L2 NN a0 0 _ h)
