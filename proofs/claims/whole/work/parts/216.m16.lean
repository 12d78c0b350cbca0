-- X11_from
def f_X11_from_L45 : Nat → Nat → Int32 → Int32 → PH → Option (Int32 × PH)
  | 0, _, _, _, _ => none
  | n + 1, a0, a1, a2, hp => (if 277 ≤ a2 then (some (1, hp)) else (gR hp a0 10 0).bind fun x3 => (if a1 = 0 then (gR hp a0 10 1).bind fun x7 => (aI hp x7 0 a2).bind fun x8 => (uI hp x3 a2 x8).bind fun hp9 => ((f_X11_from_L45 n) a0 a1 (a2 + 1) hp9) else (gR hp a0 10 2).bind fun x4 => (aI hp x4 0 a2).bind fun x5 => (uI hp x3 a2 x5).bind fun hp6 => ((f_X11_from_L45 n) a0 a1 (a2 + 1) hp6)))
def f_X11_from (a0 : Nat) (a1 : Int32) (hp : PH) : Option (Int32 × PH) := (if (f_X11_in (Int32.toInt64 a1) 0 1) = 0 then (vC hp a0 10 (f_X11_bad a0 (-2) hp)).bind fun q13 => (some (q13.1, q13.2)) else (if a1 = 0 then (gI hp a0 10 3).bind fun x11 => (if x11 = 0 then (vC hp a0 10 (f_X11_no a0 hp)).bind fun q12 => (some (q12.1, q12.2)) else (f_X11_from_L45 NN a0 a1 0 hp)) else (gI hp a0 10 4).bind fun x2 => (if x2 = 0 then (vC hp a0 10 (f_X11_no a0 hp)).bind fun q10 => (some (q10.1, q10.2)) else (f_X11_from_L45 NN a0 a1 0 hp))))
set_option maxRecDepth 100000 in
set_option maxHeartbeats 4000000 in
theorem mf_X11_from_L45 {K : GK} : ∀ (n : Nat) (a0 : Nat) (a1 : Int32) (a2 : Int32) (hp : PH) (r : (Int32 × PH)), f_X11_from_L45 n a0 a1 a2 hp = some r → PW K (rmD (1)) 0 0 M_X11_from 45 [(0, .ref (ga K a0)), (1, .int a1), (2, .int a2)] [] hp (some (.int r.1)) r.2 := by
  intro n
  induction n with
  | zero =>
    intro a0 a1 a2 hp r h
    rw [f_X11_from_L45] at h
    cases h
  | succ n ih =>
    intro a0 a1 a2 hp r h
    rw [f_X11_from_L45] at h
    refine PW.iload_n 2 dX11_from_45 rfl rfl ?_
    refine PW.sipush (x := 277) dX11_from_46 (by decide) ?_
    refine PW.icmp_ge (tgt := 83) dX11_from_49 (by decide) (fun c49 => ?_) (fun c49 => ?_)
    · rw [if_pos c49] at h
      refine PW.iconst (x := 1) dX11_from_83 (by decide) ?_
      have h := Option.some.inj h; subst h
      exact PW.ret dX11_from_84 trivial rfl
    · rw [if_neg c49] at h
      refine PW.aload_n 0 dX11_from_52 rfl rfl ?_
      obtain ⟨x3, hx3, h⟩ := bind_some h
      refine PW.getR cls_X11 (j := 0) (by decide) dX11_from_53 wd_895 hx3 ?_
      refine PW.iload_n 2 dX11_from_56 rfl rfl ?_
      refine PW.iload_n 1 dX11_from_57 rfl rfl ?_
      refine PW.if_ne (tgt := 70) dX11_from_58 (by decide) (fun c58 => ?_) (fun c58 => ?_)
      · rw [if_neg c58] at h
        refine PW.aload_n 0 dX11_from_70 rfl rfl ?_
        obtain ⟨x4, hx4, h⟩ := bind_some h
        refine PW.getR cls_X11 (j := 2) (by decide) dX11_from_71 wd_897 hx4 ?_
        refine PW.iload_n 2 dX11_from_74 rfl rfl ?_
        obtain ⟨x5, hx5, h⟩ := bind_some h
        refine PW.iald dX11_from_75 hx5 ?_
        obtain ⟨hp6, hhp6, h⟩ := bind_some h
        refine PW.iast dX11_from_76 hhp6 ?_
        refine PW.iinc 2 (l' := [(2, .int (a2 + 1)), (0, .ref (ga K a0)), (1, .int a1)]) dX11_from_77 rfl (x := a2) (y := (a2 + 1)) rfl (by decide) rfl ?_
        refine PW.goto (tgt := 45) dX11_from_80 (by decide) ?_
        exact PW.sub (l' := [(0, .ref (ga K a0)), (1, .int a1), (2, .int (a2 + 1))]) [1, 2, 0] rfl (ih a0 a1 (a2 + 1) hp6 _ h)
      · rw [if_pos c58] at h
        refine PW.aload_n 0 dX11_from_61 rfl rfl ?_
        obtain ⟨x7, hx7, h⟩ := bind_some h
        refine PW.getR cls_X11 (j := 1) (by decide) dX11_from_62 wd_896 hx7 ?_
        refine PW.iload_n 2 dX11_from_65 rfl rfl ?_
        obtain ⟨x8, hx8, h⟩ := bind_some h
        refine PW.iald dX11_from_66 hx8 ?_
        refine PW.goto (tgt := 76) dX11_from_67 (by decide) ?_
        obtain ⟨hp9, hhp9, h⟩ := bind_some h
        refine PW.iast dX11_from_76 hhp9 ?_
        refine PW.iinc 2 (l' := [(2, .int (a2 + 1)), (0, .ref (ga K a0)), (1, .int a1)]) dX11_from_77 rfl (x := a2) (y := (a2 + 1)) rfl (by decide) rfl ?_
        refine PW.goto (tgt := 45) dX11_from_80 (by decide) ?_
        exact PW.sub (l' := [(0, .ref (ga K a0)), (1, .int a1), (2, .int (a2 + 1))]) [1, 2, 0] rfl (ih a0 a1 (a2 + 1) hp9 _ h)
set_option maxRecDepth 100000 in
set_option maxHeartbeats 4000000 in
theorem mf_X11_from {K : GK} : ∀ (a0 : Nat) (a1 : Int32) (hp : PH) (r : (Int32 × PH)), f_X11_from a0 a1 hp = some r → PM K (1) M_X11_from [.ref (ga K a0), .int a1] hp (some (.int r.1)) r.2 := by
  intro a0 a1 hp r h
  unfold f_X11_from at h
  refine PM.enter (l0 := [(0, .ref (ga K a0)), (1, .int a1)]) (by decide +kernel) rfl (Nat.le_of_ble_eq_true rfl) rfl ?_
  refine PW.iload_n 1 dX11_from_0 rfl rfl ?_
  refine PW.i2l dX11_from_1 ?_
  refine PW.lconst (x := 0) dX11_from_2 (by decide) ?_
  refine PW.lconst (x := 1) dX11_from_3 (by decide) ?_
  refine PW.callSi (As := [.long (Int32.toInt64 a1), .long 0, .long 1]) (rest := []) cal_X11_in dX11_from_4 wd_986 rfl rfl (rmLe (by omega)) (Nat.le_of_ble_eq_true rfl) rm_0 (mf_X11_in (Int32.toInt64 a1) 0 1 _ rfl) ?_
  refine PW.if_ne (tgt := 17) dX11_from_7 (by decide) (fun c7 => ?_) (fun c7 => ?_)
  · rw [if_neg c7] at h
    refine PW.iload_n 1 dX11_from_17 rfl rfl ?_
    refine PW.if_ne (tgt := 31) dX11_from_18 (by decide) (fun c18 => ?_) (fun c18 => ?_)
    · rw [if_neg c18] at h
      refine PW.aload_n 0 dX11_from_31 rfl rfl ?_
      obtain ⟨x2, hx2, h⟩ := bind_some h
      refine PW.getI cls_X11 (j := 4) (by decide) dX11_from_32 wd_899 hx2 ?_
      refine PW.if_ne (tgt := 43) dX11_from_35 (by decide) (fun c35 => ?_) (fun c35 => ?_)
      · rw [if_neg c35] at h
        refine PW.iconst (x := 0) dX11_from_43 (by decide) ?_
        refine PW.istore_n (l' := [(2, .int 0), (0, .ref (ga K a0)), (1, .int a1)]) dX11_from_44 rfl (by decide) rfl ?_
        exact PW.sub (l' := [(0, .ref (ga K a0)), (1, .int a1), (2, .int 0)]) [1, 2, 0] rfl (mf_X11_from_L45 NN a0 a1 0 hp _ h)
      · rw [if_pos c35] at h
        refine PW.aload_n 0 dX11_from_38 rfl rfl ?_
        obtain ⟨q10, hq10, h⟩ := bind_some h
        obtain ⟨hkq10, hcq10, hq10⟩ := vC_spec hq10
        refine PW.callVi (As := []) (rest := []) (k := a0) cal_X11_no dX11_from_39 wd_1047 rfl rfl (rmLe (by omega)) (Nat.le_of_ble_eq_true rfl) rm_0 hkq10 hcq10 (mf_X11_no a0 hp _ hq10) ?_
        have h := Option.some.inj h; subst h
        exact PW.ret dX11_from_42 trivial rfl
    · rw [if_pos c18] at h
      refine PW.aload_n 0 dX11_from_21 rfl rfl ?_
      obtain ⟨x11, hx11, h⟩ := bind_some h
      refine PW.getI cls_X11 (j := 3) (by decide) dX11_from_22 wd_898 hx11 ?_
      refine PW.if_ne (tgt := 43) dX11_from_25 (by decide) (fun c25 => ?_) (fun c25 => ?_)
      · rw [if_neg c25] at h
        refine PW.iconst (x := 0) dX11_from_43 (by decide) ?_
        refine PW.istore_n (l' := [(2, .int 0), (0, .ref (ga K a0)), (1, .int a1)]) dX11_from_44 rfl (by decide) rfl ?_
        exact PW.sub (l' := [(0, .ref (ga K a0)), (1, .int a1), (2, .int 0)]) [1, 2, 0] rfl (mf_X11_from_L45 NN a0 a1 0 hp _ h)
      · rw [if_pos c25] at h
        refine PW.goto (tgt := 38) dX11_from_28 (by decide) ?_
        refine PW.aload_n 0 dX11_from_38 rfl rfl ?_
        obtain ⟨q12, hq12, h⟩ := bind_some h
        obtain ⟨hkq12, hcq12, hq12⟩ := vC_spec hq12
        refine PW.callVi (As := []) (rest := []) (k := a0) cal_X11_no dX11_from_39 wd_1047 rfl rfl (rmLe (by omega)) (Nat.le_of_ble_eq_true rfl) rm_0 hkq12 hcq12 (mf_X11_no a0 hp _ hq12) ?_
        have h := Option.some.inj h; subst h
        exact PW.ret dX11_from_42 trivial rfl
  · rw [if_pos c7] at h
    refine PW.aload_n 0 dX11_from_10 rfl rfl ?_
    refine PW.bipush (x := (-2)) dX11_from_11 (by decide) ?_
    obtain ⟨q13, hq13, h⟩ := bind_some h
    obtain ⟨hkq13, hcq13, hq13⟩ := vC_spec hq13
    refine PW.callVi (As := [.int (-2)]) (rest := []) (k := a0) cal_X11_bad dX11_from_13 wd_1002 rfl rfl (rmLe (by omega)) (Nat.le_of_ble_eq_true rfl) rm_0 hkq13 hcq13 (mf_X11_bad a0 (-2) hp _ hq13) ?_
    have h := Option.some.inj h; subst h
    exact PW.ret dX11_from_16 trivial rfl
-- X11_status
def f_X11_status (a0 : Nat) (a1 : Int32) (hp : PH) : Option (Int32 × PH) := (if (f_X11_in (Int32.toInt64 a1) 0 2) = 0 then (vC hp a0 10 (f_X11_bad a0 (-1) hp)).bind fun q2 => (some (q2.1, q2.2)) else (gR hp a0 10 7).bind fun x3 => (aI hp x3 0 a1).bind fun x4 => (some (x4, hp)))
set_option maxRecDepth 100000 in
set_option maxHeartbeats 4000000 in
theorem mf_X11_status {K : GK} : ∀ (a0 : Nat) (a1 : Int32) (hp : PH) (r : (Int32 × PH)), f_X11_status a0 a1 hp = some r → PM K (1) M_X11_status [.ref (ga K a0), .int a1] hp (some (.int r.1)) r.2 := by
  intro a0 a1 hp r h
  unfold f_X11_status at h
  refine PM.enter (l0 := [(0, .ref (ga K a0)), (1, .int a1)]) (by decide +kernel) rfl (Nat.le_of_ble_eq_true rfl) rfl ?_
  refine PW.iload_n 1 dX11_status_0 rfl rfl ?_
  refine PW.i2l dX11_status_1 ?_
  refine PW.lconst (x := 0) dX11_status_2 (by decide) ?_
  refine PW.ldc2 (x := 2) dX11_status_3 wd_1014 ?_
  refine PW.callSi (As := [.long (Int32.toInt64 a1), .long 0, .long 2]) (rest := []) cal_X11_in dX11_status_6 wd_986 rfl rfl (rmLe (by omega)) (Nat.le_of_ble_eq_true rfl) rm_0 (mf_X11_in (Int32.toInt64 a1) 0 2 _ rfl) ?_
  refine PW.if_eq (tgt := 21) dX11_status_9 (by decide) (fun c9 => ?_) (fun c9 => ?_)
  · rw [if_pos c9] at h
    refine PW.aload_n 0 dX11_status_21 rfl rfl ?_
    refine PW.iconst (x := (-1)) dX11_status_22 (by decide) ?_
    obtain ⟨q2, hq2, h⟩ := bind_some h
    obtain ⟨hkq2, hcq2, hq2⟩ := vC_spec hq2
    refine PW.callVi (As := [.int (-1)]) (rest := []) (k := a0) cal_X11_bad dX11_status_23 wd_1002 rfl rfl (rmLe (by omega)) (Nat.le_of_ble_eq_true rfl) rm_0 hkq2 hcq2 (mf_X11_bad a0 (-1) hp _ hq2) ?_
    have h := Option.some.inj h; subst h
    exact PW.ret dX11_status_26 trivial rfl
  · rw [if_neg c9] at h
    refine PW.aload_n 0 dX11_status_12 rfl rfl ?_
    obtain ⟨x3, hx3, h⟩ := bind_some h
    refine PW.getR cls_X11 (j := 7) (by decide) dX11_status_13 wd_902 hx3 ?_
    refine PW.iload_n 1 dX11_status_16 rfl rfl ?_
    obtain ⟨x4, hx4, h⟩ := bind_some h
    refine PW.iald dX11_status_17 hx4 ?_
    refine PW.goto (tgt := 26) dX11_status_18 (by decide) ?_
    have h := Option.some.inj h; subst h
    exact PW.ret dX11_status_26 trivial rfl
-- X11_count
def f_X11_count (a0 : Nat) (a1 : Int32) (hp : PH) : Option (Int32 × PH) := (if (f_X11_in (Int32.toInt64 a1) 0 3) = 0 then (vC hp a0 10 (f_X11_bad a0 (-2) hp)).bind fun q2 => (some (q2.1, q2.2)) else (gR hp a0 10 0).bind fun x3 => (aI hp x3 0 a1).bind fun x4 => (some (x4, hp)))
set_option maxRecDepth 100000 in
set_option maxHeartbeats 4000000 in
theorem mf_X11_count {K : GK} : ∀ (a0 : Nat) (a1 : Int32) (hp : PH) (r : (Int32 × PH)), f_X11_count a0 a1 hp = some r → PM K (1) M_X11_count [.ref (ga K a0), .int a1] hp (some (.int r.1)) r.2 := by
  intro a0 a1 hp r h
  unfold f_X11_count at h
  refine PM.enter (l0 := [(0, .ref (ga K a0)), (1, .int a1)]) (by decide +kernel) rfl (Nat.le_of_ble_eq_true rfl) rfl ?_
  refine PW.iload_n 1 dX11_count_0 rfl rfl ?_
  refine PW.i2l dX11_count_1 ?_
  refine PW.lconst (x := 0) dX11_count_2 (by decide) ?_
  refine PW.ldc2 (x := 3) dX11_count_3 wd_1242 ?_
  refine PW.callSi (As := [.long (Int32.toInt64 a1), .long 0, .long 3]) (rest := []) cal_X11_in dX11_count_6 wd_986 rfl rfl (rmLe (by omega)) (Nat.le_of_ble_eq_true rfl) rm_0 (mf_X11_in (Int32.toInt64 a1) 0 3 _ rfl) ?_
  refine PW.if_eq (tgt := 21) dX11_count_9 (by decide) (fun c9 => ?_) (fun c9 => ?_)
  · rw [if_pos c9] at h
    refine PW.aload_n 0 dX11_count_21 rfl rfl ?_
    refine PW.bipush (x := (-2)) dX11_count_22 (by decide) ?_
    obtain ⟨q2, hq2, h⟩ := bind_some h
    obtain ⟨hkq2, hcq2, hq2⟩ := vC_spec hq2
    refine PW.callVi (As := [.int (-2)]) (rest := []) (k := a0) cal_X11_bad dX11_count_24 wd_1002 rfl rfl (rmLe (by omega)) (Nat.le_of_ble_eq_true rfl) rm_0 hkq2 hcq2 (mf_X11_bad a0 (-2) hp _ hq2) ?_
    have h := Option.some.inj h; subst h
    exact PW.ret dX11_count_27 trivial rfl
  · rw [if_neg c9] at h
    refine PW.aload_n 0 dX11_count_12 rfl rfl ?_
    obtain ⟨x3, hx3, h⟩ := bind_some h
    refine PW.getR cls_X11 (j := 0) (by decide) dX11_count_13 wd_895 hx3 ?_
    refine PW.iload_n 1 dX11_count_16 rfl rfl ?_
    obtain ⟨x4, hx4, h⟩ := bind_some h
    refine PW.iald dX11_count_17 hx4 ?_
    refine PW.goto (tgt := 27) dX11_count_18 (by decide) ?_
    have h := Option.some.inj h; subst h
    exact PW.ret dX11_count_27 trivial rfl
-- X11_digest
def f_X11_digest_L219 : Nat → Nat → Int64 → Int32 → PH → Option Int64
  | 0, _, _, _, _ => none
  | n + 1, a0, a1, a3, hp => (gR hp a0 10 0).bind fun x7 => (aI hp x7 0 3).bind fun x8 => (if (3 * x8) ≤ a3 then (gR hp a0 10 0).bind fun x9 => (aI hp x9 0 4).bind fun x10 => (gJ hp a0 10 5).bind fun x11 => (gJ hp a0 10 6).bind fun x12 => (some ((31 * ((31 * ((31 * a1) + (Int32.toInt64 x10))) + x11)) + x12)) else (gR hp a0 10 0).bind fun x13 => (aI hp x13 0 (47 + a3)).bind fun x14 => ((f_X11_digest_L219 n) a0 ((31 * a1) + (Int32.toInt64 x14)) (a3 + 1) hp))
def f_X11_digest_L188 : Nat → Nat → Int64 → Int32 → PH → Option Int64
  | 0, _, _, _, _ => none
  | n + 1, a0, a1, a3, hp => (if 10 ≤ a3 then (f_X11_digest_L219 NN a0 a1 0 hp) else (gR hp a0 10 0).bind fun x15 => (aI hp x15 0 (37 + a3)).bind fun x16 => ((f_X11_digest_L188 n) a0 ((31 * a1) + (Int32.toInt64 x16)) (a3 + 1) hp))
def f_X11_digest_L153 : Nat → Nat → Int64 → Int32 → PH → Option Int64
  | 0, _, _, _, _ => none
  | n + 1, a0, a1, a3, hp => (gR hp a0 10 0).bind fun x5 => (aI hp x5 0 2).bind fun x6 => (if x6 ≤ a3 then (f_X11_digest_L188 NN a0 a1 0 hp) else (gR hp a0 10 0).bind fun x17 => (aI hp x17 0 (77 + a3)).bind fun x18 => ((f_X11_digest_L153 n) a0 ((31 * a1) + (Int32.toInt64 x18)) (a3 + 1) hp))
def f_X11_digest_L101 : Nat → Nat → Int64 → Int32 → PH → Option Int64
  | 0, _, _, _, _ => none
  | n + 1, a0, a1, a3, hp => (gR hp a0 10 0).bind fun x3 => (aI hp x3 0 1).bind fun x4 => (if x4 ≤ a3 then (f_X11_digest_L153 NN a0 a1 0 hp) else (gR hp a0 10 0).bind fun x19 => (aI hp x19 0 (29 + a3)).bind fun x20 => (gR hp a0 10 0).bind fun x21 => (aI hp x21 0 (33 + a3)).bind fun x22 => ((f_X11_digest_L101 n) a0 ((31 * ((31 * a1) + (Int32.toInt64 x20))) + (Int32.toInt64 x22)) (a3 + 1) hp))
def f_X11_digest_L33 : Nat → Nat → Int64 → Int32 → PH → Option Int64
  | 0, _, _, _, _ => none
  | n + 1, a0, a1, a3, hp => (gR hp a0 10 0).bind fun x1 => (aI hp x1 0 0).bind fun x2 => (if x2 ≤ a3 then (f_X11_digest_L101 NN a0 a1 0 hp) else (gR hp a0 10 0).bind fun x23 => (aI hp x23 0 (5 + a3)).bind fun x24 => (gR hp a0 10 0).bind fun x25 => (aI hp x25 0 (13 + a3)).bind fun x26 => (gR hp a0 10 0).bind fun x27 => (aI hp x27 0 (21 + a3)).bind fun x28 => ((f_X11_digest_L33 n) a0 ((31 * ((31 * ((31 * a1) + (Int32.toInt64 x24))) + (Int32.toInt64 x26))) + (Int32.toInt64 x28)) (a3 + 1) hp))
def f_X11_digest_L6 : Nat → Nat → Int64 → Int32 → PH → Option Int64
  | 0, _, _, _, _ => none
  | n + 1, a0, a1, a3, hp => (if 4 ≤ a3 then (f_X11_digest_L33 NN a0 a1 0 hp) else (gR hp a0 10 0).bind fun x29 => (aI hp x29 0 a3).bind fun x30 => ((f_X11_digest_L6 n) a0 ((31 * a1) + (Int32.toInt64 x30)) (a3 + 1) hp))
def f_X11_digest (a0 : Nat) (hp : PH) : Option Int64 := (f_X11_digest_L6 NN a0 641 0 hp)
set_option maxRecDepth 100000 in
set_option maxHeartbeats 4000000 in
theorem mf_X11_digest_L219 {K : GK} : ∀ (n : Nat) (a0 : Nat) (a1 : Int64) (a3 : Int32) (hp : PH) (r : Int64), f_X11_digest_L219 n a0 a1 a3 hp = some r → PW K (rmD (0)) 0 0 M_X11_digest 219 [(0, .ref (ga K a0)), (1, .long a1), (3, .int a3)] [] hp (some (.long r)) hp := by
  intro n
  induction n with
  | zero =>
    intro a0 a1 a3 hp r h
    rw [f_X11_digest_L219] at h
    cases h
  | succ n ih =>
    intro a0 a1 a3 hp r h
    rw [f_X11_digest_L219] at h
    refine PW.iload_n 2 dX11_digest_219 rfl rfl ?_
    refine PW.iconst (x := 3) dX11_digest_220 (by decide) ?_
    refine PW.aload_n 0 dX11_digest_221 rfl rfl ?_
    obtain ⟨x7, hx7, h⟩ := bind_some h
    refine PW.getR cls_X11 (j := 0) (by decide) dX11_digest_222 wd_895 hx7 ?_
    refine PW.iconst (x := 3) dX11_digest_225 (by decide) ?_
    obtain ⟨x8, hx8, h⟩ := bind_some h
    refine PW.iald dX11_digest_226 hx8 ?_
    refine PW.imul dX11_digest_227 ?_
    refine PW.icmp_ge (tgt := 254) dX11_digest_228 (by decide) (fun c228 => ?_) (fun c228 => ?_)
    · rw [if_pos c228] at h
      refine PW.ldc2 (x := 31) dX11_digest_254 wd_1232 ?_
      refine PW.lload_n 1 dX11_digest_257 rfl rfl ?_
      refine PW.lmul dX11_digest_258 ?_
      refine PW.aload_n 0 dX11_digest_259 rfl rfl ?_
      obtain ⟨x9, hx9, h⟩ := bind_some h
      refine PW.getR cls_X11 (j := 0) (by decide) dX11_digest_260 wd_895 hx9 ?_
      refine PW.iconst (x := 4) dX11_digest_263 (by decide) ?_
      obtain ⟨x10, hx10, h⟩ := bind_some h
      refine PW.iald dX11_digest_264 hx10 ?_
      refine PW.i2l dX11_digest_265 ?_
      refine PW.ladd dX11_digest_266 ?_
      refine PW.lstore_n (l' := [(1, .long ((31 * a1) + (Int32.toInt64 x10))), (0, .ref (ga K a0)), (3, .int a3)]) dX11_digest_267 rfl (by decide) rfl ?_
      refine PW.ldc2 (x := 31) dX11_digest_268 wd_1232 ?_
      refine PW.lload_n 0 dX11_digest_271 rfl rfl ?_
      refine PW.lmul dX11_digest_272 ?_
      refine PW.aload_n 1 dX11_digest_273 rfl rfl ?_
      obtain ⟨x11, hx11, h⟩ := bind_some h
      refine PW.getJ cls_X11 (j := 5) (by decide) dX11_digest_274 wd_900 hx11 ?_
      refine PW.ladd dX11_digest_277 ?_
      refine PW.lstore_n (l' := [(1, .long ((31 * ((31 * a1) + (Int32.toInt64 x10))) + x11)), (0, .ref (ga K a0)), (3, .int a3)]) dX11_digest_278 rfl (by decide) rfl ?_
      refine PW.ldc2 (x := 31) dX11_digest_279 wd_1232 ?_
      refine PW.lload_n 0 dX11_digest_282 rfl rfl ?_
      refine PW.lmul dX11_digest_283 ?_
      refine PW.aload_n 1 dX11_digest_284 rfl rfl ?_
      obtain ⟨x12, hx12, h⟩ := bind_some h
      refine PW.getJ cls_X11 (j := 6) (by decide) dX11_digest_285 wd_901 hx12 ?_
      refine PW.ladd dX11_digest_288 ?_
      have h := Option.some.inj h; subst h
      exact PW.ret dX11_digest_289 trivial rfl
    · rw [if_neg c228] at h
      refine PW.ldc2 (x := 31) dX11_digest_231 wd_1232 ?_
      refine PW.lload_n 1 dX11_digest_234 rfl rfl ?_
      refine PW.lmul dX11_digest_235 ?_
      refine PW.aload_n 0 dX11_digest_236 rfl rfl ?_
      obtain ⟨x13, hx13, h⟩ := bind_some h
      refine PW.getR cls_X11 (j := 0) (by decide) dX11_digest_237 wd_895 hx13 ?_
      refine PW.bipush (x := 47) dX11_digest_240 (by decide) ?_
      refine PW.iload_n 2 dX11_digest_242 rfl rfl ?_
      refine PW.iadd dX11_digest_243 ?_
      obtain ⟨x14, hx14, h⟩ := bind_some h
      refine PW.iald dX11_digest_244 hx14 ?_
      refine PW.i2l dX11_digest_245 ?_
      refine PW.ladd dX11_digest_246 ?_
      refine PW.lstore_n (l' := [(1, .long ((31 * a1) + (Int32.toInt64 x14))), (0, .ref (ga K a0)), (3, .int a3)]) dX11_digest_247 rfl (by decide) rfl ?_
      refine PW.iinc 2 (l' := [(3, .int (a3 + 1)), (1, .long ((31 * a1) + (Int32.toInt64 x14))), (0, .ref (ga K a0))]) dX11_digest_248 rfl (x := a3) (y := (a3 + 1)) rfl (by decide) rfl ?_
      refine PW.goto (tgt := 219) dX11_digest_251 (by decide) ?_
      exact PW.sub (l' := [(0, .ref (ga K a0)), (1, .long ((31 * a1) + (Int32.toInt64 x14))), (3, .int (a3 + 1))]) [2, 1, 0] rfl (ih a0 ((31 * a1) + (Int32.toInt64 x14)) (a3 + 1) hp _ h)
set_option maxRecDepth 100000 in
set_option maxHeartbeats 4000000 in
theorem mf_X11_digest_L188 {K : GK} : ∀ (n : Nat) (a0 : Nat) (a1 : Int64) (a3 : Int32) (hp : PH) (r : Int64), f_X11_digest_L188 n a0 a1 a3 hp = some r → PW K (rmD (0)) 0 0 M_X11_digest 188 [(0, .ref (ga K a0)), (1, .long a1), (3, .int a3)] [] hp (some (.long r)) hp := by
  intro n
  induction n with
  | zero =>
    intro a0 a1 a3 hp r h
    rw [f_X11_digest_L188] at h
    cases h
  | succ n ih =>
    intro a0 a1 a3 hp r h
    rw [f_X11_digest_L188] at h
    refine PW.iload_n 2 dX11_digest_188 rfl rfl ?_
    refine PW.bipush (x := 10) dX11_digest_189 (by decide) ?_
    refine PW.icmp_ge (tgt := 217) dX11_digest_191 (by decide) (fun c191 => ?_) (fun c191 => ?_)
    · rw [if_pos c191] at h
      refine PW.iconst (x := 0) dX11_digest_217 (by decide) ?_
      refine PW.istore_n (l' := [(3, .int 0), (0, .ref (ga K a0)), (1, .long a1)]) dX11_digest_218 rfl (by decide) rfl ?_
      exact PW.sub (l' := [(0, .ref (ga K a0)), (1, .long a1), (3, .int 0)]) [1, 2, 0] rfl (mf_X11_digest_L219 NN a0 a1 0 hp _ h)
    · rw [if_neg c191] at h
      refine PW.ldc2 (x := 31) dX11_digest_194 wd_1232 ?_
      refine PW.lload_n 1 dX11_digest_197 rfl rfl ?_
      refine PW.lmul dX11_digest_198 ?_
      refine PW.aload_n 0 dX11_digest_199 rfl rfl ?_
      obtain ⟨x15, hx15, h⟩ := bind_some h
      refine PW.getR cls_X11 (j := 0) (by decide) dX11_digest_200 wd_895 hx15 ?_
      refine PW.bipush (x := 37) dX11_digest_203 (by decide) ?_
      refine PW.iload_n 2 dX11_digest_205 rfl rfl ?_
      refine PW.iadd dX11_digest_206 ?_
      obtain ⟨x16, hx16, h⟩ := bind_some h
      refine PW.iald dX11_digest_207 hx16 ?_
      refine PW.i2l dX11_digest_208 ?_
      refine PW.ladd dX11_digest_209 ?_
      refine PW.lstore_n (l' := [(1, .long ((31 * a1) + (Int32.toInt64 x16))), (0, .ref (ga K a0)), (3, .int a3)]) dX11_digest_210 rfl (by decide) rfl ?_
      refine PW.iinc 2 (l' := [(3, .int (a3 + 1)), (1, .long ((31 * a1) + (Int32.toInt64 x16))), (0, .ref (ga K a0))]) dX11_digest_211 rfl (x := a3) (y := (a3 + 1)) rfl (by decide) rfl ?_
      refine PW.goto (tgt := 188) dX11_digest_214 (by decide) ?_
      exact PW.sub (l' := [(0, .ref (ga K a0)), (1, .long ((31 * a1) + (Int32.toInt64 x16))), (3, .int (a3 + 1))]) [2, 1, 0] rfl (ih a0 ((31 * a1) + (Int32.toInt64 x16)) (a3 + 1) hp _ h)
set_option maxRecDepth 100000 in
set_option maxHeartbeats 4000000 in
theorem mf_X11_digest_L153 {K : GK} : ∀ (n : Nat) (a0 : Nat) (a1 : Int64) (a3 : Int32) (hp : PH) (r : Int64), f_X11_digest_L153 n a0 a1 a3 hp = some r → PW K (rmD (0)) 0 0 M_X11_digest 153 [(0, .ref (ga K a0)), (1, .long a1), (3, .int a3)] [] hp (some (.long r)) hp := by
  intro n
  induction n with
  | zero =>
    intro a0 a1 a3 hp r h
    rw [f_X11_digest_L153] at h
    cases h
  | succ n ih =>
    intro a0 a1 a3 hp r h
    rw [f_X11_digest_L153] at h
    refine PW.iload_n 2 dX11_digest_153 rfl rfl ?_
    refine PW.aload_n 0 dX11_digest_154 rfl rfl ?_
    obtain ⟨x5, hx5, h⟩ := bind_some h
    refine PW.getR cls_X11 (j := 0) (by decide) dX11_digest_155 wd_895 hx5 ?_
    refine PW.iconst (x := 2) dX11_digest_158 (by decide) ?_
    obtain ⟨x6, hx6, h⟩ := bind_some h
    refine PW.iald dX11_digest_159 hx6 ?_
    refine PW.icmp_ge (tgt := 186) dX11_digest_160 (by decide) (fun c160 => ?_) (fun c160 => ?_)
    · rw [if_pos c160] at h
      refine PW.iconst (x := 0) dX11_digest_186 (by decide) ?_
      refine PW.istore_n (l' := [(3, .int 0), (0, .ref (ga K a0)), (1, .long a1)]) dX11_digest_187 rfl (by decide) rfl ?_
      exact PW.sub (l' := [(0, .ref (ga K a0)), (1, .long a1), (3, .int 0)]) [1, 2, 0] rfl (mf_X11_digest_L188 NN a0 a1 0 hp _ h)
    · rw [if_neg c160] at h
      refine PW.ldc2 (x := 31) dX11_digest_163 wd_1232 ?_
      refine PW.lload_n 1 dX11_digest_166 rfl rfl ?_
      refine PW.lmul dX11_digest_167 ?_
      refine PW.aload_n 0 dX11_digest_168 rfl rfl ?_
      obtain ⟨x17, hx17, h⟩ := bind_some h
      refine PW.getR cls_X11 (j := 0) (by decide) dX11_digest_169 wd_895 hx17 ?_
      refine PW.bipush (x := 77) dX11_digest_172 (by decide) ?_
      refine PW.iload_n 2 dX11_digest_174 rfl rfl ?_
      refine PW.iadd dX11_digest_175 ?_
      obtain ⟨x18, hx18, h⟩ := bind_some h
      refine PW.iald dX11_digest_176 hx18 ?_
      refine PW.i2l dX11_digest_177 ?_
      refine PW.ladd dX11_digest_178 ?_
      refine PW.lstore_n (l' := [(1, .long ((31 * a1) + (Int32.toInt64 x18))), (0, .ref (ga K a0)), (3, .int a3)]) dX11_digest_179 rfl (by decide) rfl ?_
      refine PW.iinc 2 (l' := [(3, .int (a3 + 1)), (1, .long ((31 * a1) + (Int32.toInt64 x18))), (0, .ref (ga K a0))]) dX11_digest_180 rfl (x := a3) (y := (a3 + 1)) rfl (by decide) rfl ?_
      refine PW.goto (tgt := 153) dX11_digest_183 (by decide) ?_
      exact PW.sub (l' := [(0, .ref (ga K a0)), (1, .long ((31 * a1) + (Int32.toInt64 x18))), (3, .int (a3 + 1))]) [2, 1, 0] rfl (ih a0 ((31 * a1) + (Int32.toInt64 x18)) (a3 + 1) hp _ h)
set_option maxRecDepth 100000 in
set_option maxHeartbeats 4000000 in
theorem mf_X11_digest_L101 {K : GK} : ∀ (n : Nat) (a0 : Nat) (a1 : Int64) (a3 : Int32) (hp : PH) (r : Int64), f_X11_digest_L101 n a0 a1 a3 hp = some r → PW K (rmD (0)) 0 0 M_X11_digest 101 [(0, .ref (ga K a0)), (1, .long a1), (3, .int a3)] [] hp (some (.long r)) hp := by
  intro n
  induction n with
  | zero =>
    intro a0 a1 a3 hp r h
    rw [f_X11_digest_L101] at h
    cases h
  | succ n ih =>
    intro a0 a1 a3 hp r h
    rw [f_X11_digest_L101] at h
    refine PW.iload_n 2 dX11_digest_101 rfl rfl ?_
    refine PW.aload_n 0 dX11_digest_102 rfl rfl ?_
    obtain ⟨x3, hx3, h⟩ := bind_some h
    refine PW.getR cls_X11 (j := 0) (by decide) dX11_digest_103 wd_895 hx3 ?_
    refine PW.iconst (x := 1) dX11_digest_106 (by decide) ?_
    obtain ⟨x4, hx4, h⟩ := bind_some h
    refine PW.iald dX11_digest_107 hx4 ?_
    refine PW.icmp_ge (tgt := 151) dX11_digest_108 (by decide) (fun c108 => ?_) (fun c108 => ?_)
    · rw [if_pos c108] at h
      refine PW.iconst (x := 0) dX11_digest_151 (by decide) ?_
      refine PW.istore_n (l' := [(3, .int 0), (0, .ref (ga K a0)), (1, .long a1)]) dX11_digest_152 rfl (by decide) rfl ?_
      exact PW.sub (l' := [(0, .ref (ga K a0)), (1, .long a1), (3, .int 0)]) [1, 2, 0] rfl (mf_X11_digest_L153 NN a0 a1 0 hp _ h)
    · rw [if_neg c108] at h
      refine PW.ldc2 (x := 31) dX11_digest_111 wd_1232 ?_
      refine PW.lload_n 1 dX11_digest_114 rfl rfl ?_
      refine PW.lmul dX11_digest_115 ?_
      refine PW.aload_n 0 dX11_digest_116 rfl rfl ?_
      obtain ⟨x19, hx19, h⟩ := bind_some h
      refine PW.getR cls_X11 (j := 0) (by decide) dX11_digest_117 wd_895 hx19 ?_
      refine PW.bipush (x := 29) dX11_digest_120 (by decide) ?_
      refine PW.iload_n 2 dX11_digest_122 rfl rfl ?_
      refine PW.iadd dX11_digest_123 ?_
      obtain ⟨x20, hx20, h⟩ := bind_some h
      refine PW.iald dX11_digest_124 hx20 ?_
      refine PW.i2l dX11_digest_125 ?_
      refine PW.ladd dX11_digest_126 ?_
      refine PW.lstore_n (l' := [(1, .long ((31 * a1) + (Int32.toInt64 x20))), (0, .ref (ga K a0)), (3, .int a3)]) dX11_digest_127 rfl (by decide) rfl ?_
      refine PW.ldc2 (x := 31) dX11_digest_128 wd_1232 ?_
      refine PW.lload_n 0 dX11_digest_131 rfl rfl ?_
      refine PW.lmul dX11_digest_132 ?_
      refine PW.aload_n 1 dX11_digest_133 rfl rfl ?_
      obtain ⟨x21, hx21, h⟩ := bind_some h
      refine PW.getR cls_X11 (j := 0) (by decide) dX11_digest_134 wd_895 hx21 ?_
      refine PW.bipush (x := 33) dX11_digest_137 (by decide) ?_
      refine PW.iload_n 2 dX11_digest_139 rfl rfl ?_
      refine PW.iadd dX11_digest_140 ?_
      obtain ⟨x22, hx22, h⟩ := bind_some h
      refine PW.iald dX11_digest_141 hx22 ?_
      refine PW.i2l dX11_digest_142 ?_
      refine PW.ladd dX11_digest_143 ?_
      refine PW.lstore_n (l' := [(1, .long ((31 * ((31 * a1) + (Int32.toInt64 x20))) + (Int32.toInt64 x22))), (0, .ref (ga K a0)), (3, .int a3)]) dX11_digest_144 rfl (by decide) rfl ?_
      refine PW.iinc 2 (l' := [(3, .int (a3 + 1)), (1, .long ((31 * ((31 * a1) + (Int32.toInt64 x20))) + (Int32.toInt64 x22))), (0, .ref (ga K a0))]) dX11_digest_145 rfl (x := a3) (y := (a3 + 1)) rfl (by decide) rfl ?_
      refine PW.goto (tgt := 101) dX11_digest_148 (by decide) ?_
      exact PW.sub (l' := [(0, .ref (ga K a0)), (1, .long ((31 * ((31 * a1) + (Int32.toInt64 x20))) + (Int32.toInt64 x22))), (3, .int (a3 + 1))]) [2, 1, 0] rfl (ih a0 ((31 * ((31 * a1) + (Int32.toInt64 x20))) + (Int32.toInt64 x22)) (a3 + 1) hp _ h)
set_option maxRecDepth 100000 in
set_option maxHeartbeats 4000000 in
theorem mf_X11_digest_L33 {K : GK} : ∀ (n : Nat) (a0 : Nat) (a1 : Int64) (a3 : Int32) (hp : PH) (r : Int64), f_X11_digest_L33 n a0 a1 a3 hp = some r → PW K (rmD (0)) 0 0 M_X11_digest 33 [(0, .ref (ga K a0)), (1, .long a1), (3, .int a3)] [] hp (some (.long r)) hp := by
  intro n
  induction n with
  | zero =>
    intro a0 a1 a3 hp r h
    rw [f_X11_digest_L33] at h
    cases h
  | succ n ih =>
    intro a0 a1 a3 hp r h
    rw [f_X11_digest_L33] at h
    refine PW.iload_n 2 dX11_digest_33 rfl rfl ?_
    refine PW.aload_n 0 dX11_digest_34 rfl rfl ?_
    obtain ⟨x1, hx1, h⟩ := bind_some h
    refine PW.getR cls_X11 (j := 0) (by decide) dX11_digest_35 wd_895 hx1 ?_
    refine PW.iconst (x := 0) dX11_digest_38 (by decide) ?_
    obtain ⟨x2, hx2, h⟩ := bind_some h
    refine PW.iald dX11_digest_39 hx2 ?_
    refine PW.icmp_ge (tgt := 99) dX11_digest_40 (by decide) (fun c40 => ?_) (fun c40 => ?_)
    · rw [if_pos c40] at h
      refine PW.iconst (x := 0) dX11_digest_99 (by decide) ?_
      refine PW.istore_n (l' := [(3, .int 0), (0, .ref (ga K a0)), (1, .long a1)]) dX11_digest_100 rfl (by decide) rfl ?_
      exact PW.sub (l' := [(0, .ref (ga K a0)), (1, .long a1), (3, .int 0)]) [1, 2, 0] rfl (mf_X11_digest_L101 NN a0 a1 0 hp _ h)
    · rw [if_neg c40] at h
      refine PW.ldc2 (x := 31) dX11_digest_43 wd_1232 ?_
      refine PW.lload_n 1 dX11_digest_46 rfl rfl ?_
      refine PW.lmul dX11_digest_47 ?_
      refine PW.aload_n 0 dX11_digest_48 rfl rfl ?_
      obtain ⟨x23, hx23, h⟩ := bind_some h
      refine PW.getR cls_X11 (j := 0) (by decide) dX11_digest_49 wd_895 hx23 ?_
      refine PW.iconst (x := 5) dX11_digest_52 (by decide) ?_
      refine PW.iload_n 2 dX11_digest_53 rfl rfl ?_
      refine PW.iadd dX11_digest_54 ?_
      obtain ⟨x24, hx24, h⟩ := bind_some h
      refine PW.iald dX11_digest_55 hx24 ?_
      refine PW.i2l dX11_digest_56 ?_
      refine PW.ladd dX11_digest_57 ?_
      refine PW.lstore_n (l' := [(1, .long ((31 * a1) + (Int32.toInt64 x24))), (0, .ref (ga K a0)), (3, .int a3)]) dX11_digest_58 rfl (by decide) rfl ?_
      refine PW.ldc2 (x := 31) dX11_digest_59 wd_1232 ?_
      refine PW.lload_n 0 dX11_digest_62 rfl rfl ?_
      refine PW.lmul dX11_digest_63 ?_
      refine PW.aload_n 1 dX11_digest_64 rfl rfl ?_
      obtain ⟨x25, hx25, h⟩ := bind_some h
      refine PW.getR cls_X11 (j := 0) (by decide) dX11_digest_65 wd_895 hx25 ?_
      refine PW.bipush (x := 13) dX11_digest_68 (by decide) ?_
      refine PW.iload_n 2 dX11_digest_70 rfl rfl ?_
      refine PW.iadd dX11_digest_71 ?_
      obtain ⟨x26, hx26, h⟩ := bind_some h
      refine PW.iald dX11_digest_72 hx26 ?_
      refine PW.i2l dX11_digest_73 ?_
      refine PW.ladd dX11_digest_74 ?_
      refine PW.lstore_n (l' := [(1, .long ((31 * ((31 * a1) + (Int32.toInt64 x24))) + (Int32.toInt64 x26))), (0, .ref (ga K a0)), (3, .int a3)]) dX11_digest_75 rfl (by decide) rfl ?_
      refine PW.ldc2 (x := 31) dX11_digest_76 wd_1232 ?_
      refine PW.lload_n 0 dX11_digest_79 rfl rfl ?_
      refine PW.lmul dX11_digest_80 ?_
      refine PW.aload_n 1 dX11_digest_81 rfl rfl ?_
      obtain ⟨x27, hx27, h⟩ := bind_some h
      refine PW.getR cls_X11 (j := 0) (by decide) dX11_digest_82 wd_895 hx27 ?_
      refine PW.bipush (x := 21) dX11_digest_85 (by decide) ?_
      refine PW.iload_n 2 dX11_digest_87 rfl rfl ?_
      refine PW.iadd dX11_digest_88 ?_
      obtain ⟨x28, hx28, h⟩ := bind_some h
      refine PW.iald dX11_digest_89 hx28 ?_
      refine PW.i2l dX11_digest_90 ?_
      refine PW.ladd dX11_digest_91 ?_
      refine PW.lstore_n (l' := [(1, .long ((31 * ((31 * ((31 * a1) + (Int32.toInt64 x24))) + (Int32.toInt64 x26))) + (Int32.toInt64 x28))), (0, .ref (ga K a0)), (3, .int a3)]) dX11_digest_92 rfl (by decide) rfl ?_
      refine PW.iinc 2 (l' := [(3, .int (a3 + 1)), (1, .long ((31 * ((31 * ((31 * a1) + (Int32.toInt64 x24))) + (Int32.toInt64 x26))) + (Int32.toInt64 x28))), (0, .ref (ga K a0))]) dX11_digest_93 rfl (x := a3) (y := (a3 + 1)) rfl (by decide) rfl ?_
      refine PW.goto (tgt := 33) dX11_digest_96 (by decide) ?_
      exact PW.sub (l' := [(0, .ref (ga K a0)), (1, .long ((31 * ((31 * ((31 * a1) + (Int32.toInt64 x24))) + (Int32.toInt64 x26))) + (Int32.toInt64 x28))), (3, .int (a3 + 1))]) [2, 1, 0] rfl (ih a0 ((31 * ((31 * ((31 * a1) + (Int32.toInt64 x24))) + (Int32.toInt64 x26))) + (Int32.toInt64 x28)) (a3 + 1) hp _ h)
set_option maxRecDepth 100000 in
set_option maxHeartbeats 4000000 in
theorem mf_X11_digest_L6 {K : GK} : ∀ (n : Nat) (a0 : Nat) (a1 : Int64) (a3 : Int32) (hp : PH) (r : Int64), f_X11_digest_L6 n a0 a1 a3 hp = some r → PW K (rmD (0)) 0 0 M_X11_digest 6 [(0, .ref (ga K a0)), (1, .long a1), (3, .int a3)] [] hp (some (.long r)) hp := by
  intro n
  induction n with
  | zero =>
    intro a0 a1 a3 hp r h
    rw [f_X11_digest_L6] at h
    cases h
  | succ n ih =>
    intro a0 a1 a3 hp r h
    rw [f_X11_digest_L6] at h
    refine PW.iload_n 2 dX11_digest_6 rfl rfl ?_
    refine PW.iconst (x := 4) dX11_digest_7 (by decide) ?_
    refine PW.icmp_ge (tgt := 31) dX11_digest_8 (by decide) (fun c8 => ?_) (fun c8 => ?_)
    · rw [if_pos c8] at h
      refine PW.iconst (x := 0) dX11_digest_31 (by decide) ?_
      refine PW.istore_n (l' := [(3, .int 0), (0, .ref (ga K a0)), (1, .long a1)]) dX11_digest_32 rfl (by decide) rfl ?_
      exact PW.sub (l' := [(0, .ref (ga K a0)), (1, .long a1), (3, .int 0)]) [1, 2, 0] rfl (mf_X11_digest_L33 NN a0 a1 0 hp _ h)
    · rw [if_neg c8] at h
      refine PW.ldc2 (x := 31) dX11_digest_11 wd_1232 ?_
      refine PW.lload_n 1 dX11_digest_14 rfl rfl ?_
      refine PW.lmul dX11_digest_15 ?_
      refine PW.aload_n 0 dX11_digest_16 rfl rfl ?_
      obtain ⟨x29, hx29, h⟩ := bind_some h
      refine PW.getR cls_X11 (j := 0) (by decide) dX11_digest_17 wd_895 hx29 ?_
      refine PW.iload_n 2 dX11_digest_20 rfl rfl ?_
      obtain ⟨x30, hx30, h⟩ := bind_some h
      refine PW.iald dX11_digest_21 hx30 ?_
      refine PW.i2l dX11_digest_22 ?_
      refine PW.ladd dX11_digest_23 ?_
      refine PW.lstore_n (l' := [(1, .long ((31 * a1) + (Int32.toInt64 x30))), (0, .ref (ga K a0)), (3, .int a3)]) dX11_digest_24 rfl (by decide) rfl ?_
      refine PW.iinc 2 (l' := [(3, .int (a3 + 1)), (1, .long ((31 * a1) + (Int32.toInt64 x30))), (0, .ref (ga K a0))]) dX11_digest_25 rfl (x := a3) (y := (a3 + 1)) rfl (by decide) rfl ?_
      refine PW.goto (tgt := 6) dX11_digest_28 (by decide) ?_
      exact PW.sub (l' := [(0, .ref (ga K a0)), (1, .long ((31 * a1) + (Int32.toInt64 x30))), (3, .int (a3 + 1))]) [2, 1, 0] rfl (ih a0 ((31 * a1) + (Int32.toInt64 x30)) (a3 + 1) hp _ h)
set_option maxRecDepth 100000 in
set_option maxHeartbeats 4000000 in
theorem mf_X11_digest {K : GK} : ∀ (a0 : Nat) (hp : PH) (r : Int64), f_X11_digest a0 hp = some r → PM K (0) M_X11_digest [.ref (ga K a0)] hp (some (.long r)) hp := by
  intro a0 hp r h
  unfold f_X11_digest at h
  refine PM.enter (l0 := [(0, .ref (ga K a0))]) (by decide +kernel) rfl (Nat.le_of_ble_eq_true rfl) rfl ?_
  refine PW.ldc2 (x := 641) dX11_digest_0 wd_1283 ?_
  refine PW.lstore_n (l' := [(1, .long 641), (0, .ref (ga K a0))]) dX11_digest_3 rfl (by decide) rfl ?_
  refine PW.iconst (x := 0) dX11_digest_4 (by decide) ?_
  refine PW.istore_n (l' := [(3, .int 0), (1, .long 641), (0, .ref (ga K a0))]) dX11_digest_5 rfl (by decide) rfl ?_
  exact PW.sub (l' := [(0, .ref (ga K a0)), (1, .long 641), (3, .int 0)]) [2, 1, 0] rfl (mf_X11_digest_L6 NN a0 641 0 hp _ h)
