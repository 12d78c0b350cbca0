-- X10_part
def f_X10_part (a0 : Nat) (a1 : Int32) (hp : PH) : Option (Int32 × PH) := (if a1 < 0 then (vC hp a0 9 (f_X10_refuse a0 (-2) hp)).bind fun q1 => (some (q1.1, q1.2)) else (if a1 ≤ 1 then (if a1 = 0 then (gI hp a0 9 9).bind fun x3 => (some (x3, hp)) else (gI hp a0 9 10).bind fun x2 => (some (x2, hp))) else (vC hp a0 9 (f_X10_refuse a0 (-2) hp)).bind fun q4 => (some (q4.1, q4.2))))
set_option maxRecDepth 100000 in
set_option maxHeartbeats 4000000 in
theorem mf_X10_part {K : GK} : ∀ (a0 : Nat) (a1 : Int32) (hp : PH) (r : (Int32 × PH)), f_X10_part a0 a1 hp = some r → PM K (2) M_X10_part [.ref (ga K a0), .int a1] hp (some (.int r.1)) r.2 := by
  intro a0 a1 hp r h
  unfold f_X10_part at h
  refine PM.enter (l0 := [(0, .ref (ga K a0)), (1, .int a1)]) (by decide +kernel) rfl (Nat.le_of_ble_eq_true rfl) rfl ?_
  refine PW.iload_n 1 dX10_part_0 rfl rfl ?_
  refine PW.if_lt (tgt := 9) dX10_part_1 (by decide) (fun c1 => ?_) (fun c1 => ?_)
  · rw [if_pos c1] at h
    refine PW.aload_n 0 dX10_part_9 rfl rfl ?_
    refine PW.bipush (x := (-2)) dX10_part_10 (by decide) ?_
    obtain ⟨q1, hq1, h⟩ := bind_some h
    obtain ⟨hkq1, hcq1, hq1⟩ := vC_spec hq1
    refine PW.callVi (As := [.int (-2)]) (rest := []) (k := a0) cal_X10_refuse dX10_part_12 wd_398 rfl rfl (rmLe (by omega)) (Nat.le_of_ble_eq_true rfl) rm_0 hkq1 hcq1 (mf_X10_refuse a0 (-2) hp _ hq1) ?_
    have h := Option.some.inj h; subst h
    exact PW.ret dX10_part_15 trivial rfl
  · rw [if_neg c1] at h
    refine PW.iload_n 1 dX10_part_4 rfl rfl ?_
    refine PW.iconst (x := 1) dX10_part_5 (by decide) ?_
    refine PW.icmp_le (tgt := 16) dX10_part_6 (by decide) (fun c6 => ?_) (fun c6 => ?_)
    · rw [if_pos c6] at h
      refine PW.iload_n 1 dX10_part_16 rfl rfl ?_
      refine PW.if_ne (tgt := 27) dX10_part_17 (by decide) (fun c17 => ?_) (fun c17 => ?_)
      · rw [if_neg c17] at h
        refine PW.aload_n 0 dX10_part_27 rfl rfl ?_
        obtain ⟨x2, hx2, h⟩ := bind_some h
        refine PW.getI cls_X10 (j := 10) (by decide) dX10_part_28 wd_335 hx2 ?_
        have h := Option.some.inj h; subst h
        exact PW.ret dX10_part_31 trivial rfl
      · rw [if_pos c17] at h
        refine PW.aload_n 0 dX10_part_20 rfl rfl ?_
        obtain ⟨x3, hx3, h⟩ := bind_some h
        refine PW.getI cls_X10 (j := 9) (by decide) dX10_part_21 wd_334 hx3 ?_
        refine PW.goto (tgt := 31) dX10_part_24 (by decide) ?_
        have h := Option.some.inj h; subst h
        exact PW.ret dX10_part_31 trivial rfl
    · rw [if_neg c6] at h
      refine PW.aload_n 0 dX10_part_9 rfl rfl ?_
      refine PW.bipush (x := (-2)) dX10_part_10 (by decide) ?_
      obtain ⟨q4, hq4, h⟩ := bind_some h
      obtain ⟨hkq4, hcq4, hq4⟩ := vC_spec hq4
      refine PW.callVi (As := [.int (-2)]) (rest := []) (k := a0) cal_X10_refuse dX10_part_12 wd_398 rfl rfl (rmLe (by omega)) (Nat.le_of_ble_eq_true rfl) rm_0 hkq4 hcq4 (mf_X10_refuse a0 (-2) hp _ hq4) ?_
      have h := Option.some.inj h; subst h
      exact PW.ret dX10_part_15 trivial rfl
-- X10_image
def f_X10_image (a0 : Nat) (a1 : Int32) (hp : PH) : Option (Int32 × PH) := (if a1 < 0 then (vC hp a0 9 (f_X10_refuse a0 (-2) hp)).bind fun q1 => (some (q1.1, q1.2)) else (if a1 < 2 then (gR hp a0 9 1).bind fun x2 => (aQ hp x2 a1).bind fun x3 => (gR hp a0 9 0).bind fun x4 => (vC hp x3 7 (f_X8_copyFrom x3 x4 hp)).bind fun q5 => (gR q5 a0 9 2).bind fun x6 => (uZ q5 x6 a1 1).bind fun hp7 => (some (1, hp7)) else (vC hp a0 9 (f_X10_refuse a0 (-2) hp)).bind fun q8 => (some (q8.1, q8.2))))
set_option maxRecDepth 100000 in
set_option maxHeartbeats 4000000 in
theorem mf_X10_image {K : GK} : ∀ (a0 : Nat) (a1 : Int32) (hp : PH) (r : (Int32 × PH)), f_X10_image a0 a1 hp = some r → PM K (3) M_X10_image [.ref (ga K a0), .int a1] hp (some (.int r.1)) r.2 := by
  intro a0 a1 hp r h
  unfold f_X10_image at h
  refine PM.enter (l0 := [(0, .ref (ga K a0)), (1, .int a1)]) (by decide +kernel) rfl (Nat.le_of_ble_eq_true rfl) rfl ?_
  refine PW.iload_n 1 dX10_image_0 rfl rfl ?_
  refine PW.if_lt (tgt := 9) dX10_image_1 (by decide) (fun c1 => ?_) (fun c1 => ?_)
  · rw [if_pos c1] at h
    refine PW.aload_n 0 dX10_image_9 rfl rfl ?_
    refine PW.bipush (x := (-2)) dX10_image_10 (by decide) ?_
    obtain ⟨q1, hq1, h⟩ := bind_some h
    obtain ⟨hkq1, hcq1, hq1⟩ := vC_spec hq1
    refine PW.callVi (As := [.int (-2)]) (rest := []) (k := a0) cal_X10_refuse dX10_image_12 wd_398 rfl rfl (rmLe (by omega)) (Nat.le_of_ble_eq_true rfl) rm_0 hkq1 hcq1 (mf_X10_refuse a0 (-2) hp _ hq1) ?_
    have h := Option.some.inj h; subst h
    exact PW.ret dX10_image_15 trivial rfl
  · rw [if_neg c1] at h
    refine PW.iload_n 1 dX10_image_4 rfl rfl ?_
    refine PW.iconst (x := 2) dX10_image_5 (by decide) ?_
    refine PW.icmp_lt (tgt := 16) dX10_image_6 (by decide) (fun c6 => ?_) (fun c6 => ?_)
    · rw [if_pos c6] at h
      refine PW.aload_n 0 dX10_image_16 rfl rfl ?_
      obtain ⟨x2, hx2, h⟩ := bind_some h
      refine PW.getR cls_X10 (j := 1) (by decide) dX10_image_17 wd_326 hx2 ?_
      refine PW.iload_n 1 dX10_image_20 rfl rfl ?_
      obtain ⟨x3, hx3, h⟩ := bind_some h
      refine PW.aald dX10_image_21 hx3 ?_
      refine PW.aload_n 0 dX10_image_22 rfl rfl ?_
      obtain ⟨x4, hx4, h⟩ := bind_some h
      refine PW.getR cls_X10 (j := 0) (by decide) dX10_image_23 wd_325 hx4 ?_
      obtain ⟨q5, hq5, h⟩ := bind_some h
      obtain ⟨hkq5, hcq5, hq5⟩ := vC_spec hq5
      refine PW.callVv (As := [.ref (ga K x4)]) (rest := []) (k := x3) cal_X8_copyFrom dX10_image_26 wd_849 rfl rfl (rmLe (by omega)) (Nat.le_of_ble_eq_true rfl) rm_0 hkq5 hcq5 (mf_X8_copyFrom x3 x4 hp _ hq5) ?_
      refine PW.aload_n 0 dX10_image_29 rfl rfl ?_
      obtain ⟨x6, hx6, h⟩ := bind_some h
      refine PW.getR cls_X10 (j := 2) (by decide) dX10_image_30 wd_327 hx6 ?_
      refine PW.iload_n 1 dX10_image_33 rfl rfl ?_
      refine PW.iconst (x := 1) dX10_image_34 (by decide) ?_
      obtain ⟨hp7, hhp7, h⟩ := bind_some h
      refine PW.zast dX10_image_35 hhp7 ?_
      refine PW.iconst (x := 1) dX10_image_36 (by decide) ?_
      have h := Option.some.inj h; subst h
      exact PW.ret dX10_image_37 trivial rfl
    · rw [if_neg c6] at h
      refine PW.aload_n 0 dX10_image_9 rfl rfl ?_
      refine PW.bipush (x := (-2)) dX10_image_10 (by decide) ?_
      obtain ⟨q8, hq8, h⟩ := bind_some h
      obtain ⟨hkq8, hcq8, hq8⟩ := vC_spec hq8
      refine PW.callVi (As := [.int (-2)]) (rest := []) (k := a0) cal_X10_refuse dX10_image_12 wd_398 rfl rfl (rmLe (by omega)) (Nat.le_of_ble_eq_true rfl) rm_0 hkq8 hcq8 (mf_X10_refuse a0 (-2) hp _ hq8) ?_
      have h := Option.some.inj h; subst h
      exact PW.ret dX10_image_15 trivial rfl
-- X10_from
def f_X10_from (a0 : Nat) (a1 : Int32) (hp : PH) : Option (Int32 × PH) := (if a1 < 0 then (vC hp a0 9 (f_X10_refuse a0 (-2) hp)).bind fun q1 => (some (q1.1, q1.2)) else (if a1 < 2 then (gR hp a0 9 2).bind fun x2 => (aI hp x2 1 a1).bind fun x3 => (if x3 = 0 then (vC hp a0 9 (f_X10_refuse a0 (-3) hp)).bind fun q8 => (some (q8.1, q8.2)) else (gR hp a0 9 0).bind fun x4 => (gR hp a0 9 1).bind fun x5 => (aQ hp x5 a1).bind fun x6 => (vC hp x4 7 (f_X8_copyFrom x4 x6 hp)).bind fun q7 => (some (1, q7))) else (vC hp a0 9 (f_X10_refuse a0 (-2) hp)).bind fun q9 => (some (q9.1, q9.2))))
set_option maxRecDepth 100000 in
set_option maxHeartbeats 4000000 in
theorem mf_X10_from {K : GK} : ∀ (a0 : Nat) (a1 : Int32) (hp : PH) (r : (Int32 × PH)), f_X10_from a0 a1 hp = some r → PM K (3) M_X10_from [.ref (ga K a0), .int a1] hp (some (.int r.1)) r.2 := by
  intro a0 a1 hp r h
  unfold f_X10_from at h
  refine PM.enter (l0 := [(0, .ref (ga K a0)), (1, .int a1)]) (by decide +kernel) rfl (Nat.le_of_ble_eq_true rfl) rfl ?_
  refine PW.iload_n 1 dX10_from_0 rfl rfl ?_
  refine PW.if_lt (tgt := 9) dX10_from_1 (by decide) (fun c1 => ?_) (fun c1 => ?_)
  · rw [if_pos c1] at h
    refine PW.aload_n 0 dX10_from_9 rfl rfl ?_
    refine PW.bipush (x := (-2)) dX10_from_10 (by decide) ?_
    obtain ⟨q1, hq1, h⟩ := bind_some h
    obtain ⟨hkq1, hcq1, hq1⟩ := vC_spec hq1
    refine PW.callVi (As := [.int (-2)]) (rest := []) (k := a0) cal_X10_refuse dX10_from_12 wd_398 rfl rfl (rmLe (by omega)) (Nat.le_of_ble_eq_true rfl) rm_0 hkq1 hcq1 (mf_X10_refuse a0 (-2) hp _ hq1) ?_
    have h := Option.some.inj h; subst h
    exact PW.ret dX10_from_15 trivial rfl
  · rw [if_neg c1] at h
    refine PW.iload_n 1 dX10_from_4 rfl rfl ?_
    refine PW.iconst (x := 2) dX10_from_5 (by decide) ?_
    refine PW.icmp_lt (tgt := 16) dX10_from_6 (by decide) (fun c6 => ?_) (fun c6 => ?_)
    · rw [if_pos c6] at h
      refine PW.aload_n 0 dX10_from_16 rfl rfl ?_
      obtain ⟨x2, hx2, h⟩ := bind_some h
      refine PW.getR cls_X10 (j := 2) (by decide) dX10_from_17 wd_327 hx2 ?_
      refine PW.iload_n 1 dX10_from_20 rfl rfl ?_
      obtain ⟨x3, hx3, h⟩ := bind_some h
      refine PW.zald dX10_from_21 hx3 ?_
      refine PW.if_ne (tgt := 32) dX10_from_22 (by decide) (fun c22 => ?_) (fun c22 => ?_)
      · rw [if_neg c22] at h
        refine PW.aload_n 0 dX10_from_32 rfl rfl ?_
        obtain ⟨x4, hx4, h⟩ := bind_some h
        refine PW.getR cls_X10 (j := 0) (by decide) dX10_from_33 wd_325 hx4 ?_
        refine PW.aload_n 0 dX10_from_36 rfl rfl ?_
        obtain ⟨x5, hx5, h⟩ := bind_some h
        refine PW.getR cls_X10 (j := 1) (by decide) dX10_from_37 wd_326 hx5 ?_
        refine PW.iload_n 1 dX10_from_40 rfl rfl ?_
        obtain ⟨x6, hx6, h⟩ := bind_some h
        refine PW.aald dX10_from_41 hx6 ?_
        obtain ⟨q7, hq7, h⟩ := bind_some h
        obtain ⟨hkq7, hcq7, hq7⟩ := vC_spec hq7
        refine PW.callVv (As := [.ref (ga K x6)]) (rest := []) (k := x4) cal_X8_copyFrom dX10_from_42 wd_849 rfl rfl (rmLe (by omega)) (Nat.le_of_ble_eq_true rfl) rm_0 hkq7 hcq7 (mf_X8_copyFrom x4 x6 hp _ hq7) ?_
        refine PW.iconst (x := 1) dX10_from_45 (by decide) ?_
        have h := Option.some.inj h; subst h
        exact PW.ret dX10_from_46 trivial rfl
      · rw [if_pos c22] at h
        refine PW.aload_n 0 dX10_from_25 rfl rfl ?_
        refine PW.bipush (x := (-3)) dX10_from_26 (by decide) ?_
        obtain ⟨q8, hq8, h⟩ := bind_some h
        obtain ⟨hkq8, hcq8, hq8⟩ := vC_spec hq8
        refine PW.callVi (As := [.int (-3)]) (rest := []) (k := a0) cal_X10_refuse dX10_from_28 wd_398 rfl rfl (rmLe (by omega)) (Nat.le_of_ble_eq_true rfl) rm_0 hkq8 hcq8 (mf_X10_refuse a0 (-3) hp _ hq8) ?_
        have h := Option.some.inj h; subst h
        exact PW.ret dX10_from_31 trivial rfl
    · rw [if_neg c6] at h
      refine PW.aload_n 0 dX10_from_9 rfl rfl ?_
      refine PW.bipush (x := (-2)) dX10_from_10 (by decide) ?_
      obtain ⟨q9, hq9, h⟩ := bind_some h
      obtain ⟨hkq9, hcq9, hq9⟩ := vC_spec hq9
      refine PW.callVi (As := [.int (-2)]) (rest := []) (k := a0) cal_X10_refuse dX10_from_12 wd_398 rfl rfl (rmLe (by omega)) (Nat.le_of_ble_eq_true rfl) rm_0 hkq9 hcq9 (mf_X10_refuse a0 (-2) hp _ hq9) ?_
      have h := Option.some.inj h; subst h
      exact PW.ret dX10_from_15 trivial rfl
-- X10_status
def f_X10_status (a0 : Nat) (a1 : Int32) (hp : PH) : Option (Int32 × PH) := (if a1 = 0 then (gI hp a0 9 11).bind fun x1 => (some (x1, hp)) else if a1 = 1 then (gI hp a0 9 12).bind fun x2 => (some (x2, hp)) else if a1 = 2 then (gI hp a0 9 13).bind fun x3 => (some (x3, hp)) else (vC hp a0 9 (f_X10_refuseAs a0 (-2) (-1) hp)).bind fun q4 => (some (q4.1, q4.2)))
set_option maxRecDepth 100000 in
set_option maxHeartbeats 4000000 in
theorem mf_X10_status {K : GK} : ∀ (a0 : Nat) (a1 : Int32) (hp : PH) (r : (Int32 × PH)), f_X10_status a0 a1 hp = some r → PM K (1) M_X10_status [.ref (ga K a0), .int a1] hp (some (.int r.1)) r.2 := by
  intro a0 a1 hp r h
  unfold f_X10_status at h
  refine PM.enter (l0 := [(0, .ref (ga K a0)), (1, .int a1)]) (by decide +kernel) rfl (Nat.le_of_ble_eq_true rfl) rfl ?_
  refine PW.iload_n 1 dX10_status_0 rfl rfl ?_
  by_cases c1 : a1 = 0
  · rw [if_pos c1] at h
    refine PW.tabE c1 (tgt := 28) (off := 27) dX10_status_1 (by decide) (by decide) (by decide) (by decide) ?_
    refine PW.aload_n 0 dX10_status_28 rfl rfl ?_
    obtain ⟨x1, hx1, h⟩ := bind_some h
    refine PW.getI cls_X10 (j := 11) (by decide) dX10_status_29 wd_336 hx1 ?_
    have h := Option.some.inj h; subst h
    exact PW.ret dX10_status_32 trivial rfl
  · rw [if_neg c1] at h
    have c1_0 := sw_ne c1
    by_cases c1 : a1 = 1
    · rw [if_pos c1] at h
      refine PW.tabE c1 (tgt := 33) (off := 32) dX10_status_1 (by decide) (by decide) (by decide) (by decide) ?_
      refine PW.aload_n 0 dX10_status_33 rfl rfl ?_
      obtain ⟨x2, hx2, h⟩ := bind_some h
      refine PW.getI cls_X10 (j := 12) (by decide) dX10_status_34 wd_337 hx2 ?_
      have h := Option.some.inj h; subst h
      exact PW.ret dX10_status_37 trivial rfl
    · rw [if_neg c1] at h
      have c1_1 := sw_ne c1
      by_cases c1 : a1 = 2
      · rw [if_pos c1] at h
        refine PW.tabE c1 (tgt := 38) (off := 37) dX10_status_1 (by decide) (by decide) (by decide) (by decide) ?_
        refine PW.aload_n 0 dX10_status_38 rfl rfl ?_
        obtain ⟨x3, hx3, h⟩ := bind_some h
        refine PW.getI cls_X10 (j := 13) (by decide) dX10_status_39 wd_338 hx3 ?_
        have h := Option.some.inj h; subst h
        exact PW.ret dX10_status_42 trivial rfl
      · rw [if_neg c1] at h
        have c1_2 := sw_ne c1
        refine PW.tabOut (tgt := 43) dX10_status_1 (sw_out3 c1_0 c1_1 c1_2) (by decide) ?_
        refine PW.aload_n 0 dX10_status_43 rfl rfl ?_
        refine PW.bipush (x := (-2)) dX10_status_44 (by decide) ?_
        refine PW.iconst (x := (-1)) dX10_status_46 (by decide) ?_
        obtain ⟨q4, hq4, h⟩ := bind_some h
        obtain ⟨hkq4, hcq4, hq4⟩ := vC_spec hq4
        refine PW.callVi (As := [.int (-2), .int (-1)]) (rest := []) (k := a0) cal_X10_refuseAs dX10_status_47 wd_402 rfl rfl (rmLe (by omega)) (Nat.le_of_ble_eq_true rfl) rm_0 hkq4 hcq4 (mf_X10_refuseAs a0 (-2) (-1) hp _ hq4) ?_
        have h := Option.some.inj h; subst h
        exact PW.ret dX10_status_50 trivial rfl
-- X10_count
def f_X10_count (a0 : Nat) (a1 : Int32) (hp : PH) : Option (Int32 × PH) := (if a1 = 0 then (gR hp a0 9 0).bind fun x1 => (gR hp x1 7 0).bind fun x2 => (gI hp x2 6 0).bind fun x3 => (some (x3, hp)) else if a1 = 1 then (gR hp a0 9 0).bind fun x4 => (gR hp x4 7 0).bind fun x5 => (gI hp x5 6 1).bind fun x6 => (some (x6, hp)) else if a1 = 2 then (gR hp a0 9 0).bind fun x7 => (gR hp x7 7 1).bind fun x8 => (gI hp x8 0 0).bind fun x9 => (some (x9, hp)) else if a1 = 3 then (gR hp a0 9 0).bind fun x10 => (gR hp x10 7 3).bind fun x11 => (gI hp x11 4 0).bind fun x12 => (some (x12, hp)) else (vC hp a0 9 (f_X10_refuse a0 (-2) hp)).bind fun q13 => (some (q13.1, q13.2)))
set_option maxRecDepth 100000 in
set_option maxHeartbeats 4000000 in
theorem mf_X10_count {K : GK} : ∀ (a0 : Nat) (a1 : Int32) (hp : PH) (r : (Int32 × PH)), f_X10_count a0 a1 hp = some r → PM K (2) M_X10_count [.ref (ga K a0), .int a1] hp (some (.int r.1)) r.2 := by
  intro a0 a1 hp r h
  unfold f_X10_count at h
  refine PM.enter (l0 := [(0, .ref (ga K a0)), (1, .int a1)]) (by decide +kernel) rfl (Nat.le_of_ble_eq_true rfl) rfl ?_
  refine PW.iload_n 1 dX10_count_0 rfl rfl ?_
  by_cases c1 : a1 = 0
  · rw [if_pos c1] at h
    refine PW.tabE c1 (tgt := 32) (off := 31) dX10_count_1 (by decide) (by decide) (by decide) (by decide) ?_
    refine PW.aload_n 0 dX10_count_32 rfl rfl ?_
    obtain ⟨x1, hx1, h⟩ := bind_some h
    refine PW.getR cls_X10 (j := 0) (by decide) dX10_count_33 wd_325 hx1 ?_
    obtain ⟨x2, hx2, h⟩ := bind_some h
    refine PW.getR cls_X8 (j := 0) (by decide) dX10_count_36 wd_198 hx2 ?_
    obtain ⟨x3, hx3, h⟩ := bind_some h
    refine PW.getI cls_X7 (j := 0) (by decide) dX10_count_39 wd_98 hx3 ?_
    have h := Option.some.inj h; subst h
    exact PW.ret dX10_count_42 trivial rfl
  · rw [if_neg c1] at h
    have c1_0 := sw_ne c1
    by_cases c1 : a1 = 1
    · rw [if_pos c1] at h
      refine PW.tabE c1 (tgt := 43) (off := 42) dX10_count_1 (by decide) (by decide) (by decide) (by decide) ?_
      refine PW.aload_n 0 dX10_count_43 rfl rfl ?_
      obtain ⟨x4, hx4, h⟩ := bind_some h
      refine PW.getR cls_X10 (j := 0) (by decide) dX10_count_44 wd_325 hx4 ?_
      obtain ⟨x5, hx5, h⟩ := bind_some h
      refine PW.getR cls_X8 (j := 0) (by decide) dX10_count_47 wd_198 hx5 ?_
      obtain ⟨x6, hx6, h⟩ := bind_some h
      refine PW.getI cls_X7 (j := 1) (by decide) dX10_count_50 wd_102 hx6 ?_
      have h := Option.some.inj h; subst h
      exact PW.ret dX10_count_53 trivial rfl
    · rw [if_neg c1] at h
      have c1_1 := sw_ne c1
      by_cases c1 : a1 = 2
      · rw [if_pos c1] at h
        refine PW.tabE c1 (tgt := 54) (off := 53) dX10_count_1 (by decide) (by decide) (by decide) (by decide) ?_
        refine PW.aload_n 0 dX10_count_54 rfl rfl ?_
        obtain ⟨x7, hx7, h⟩ := bind_some h
        refine PW.getR cls_X10 (j := 0) (by decide) dX10_count_55 wd_325 hx7 ?_
        obtain ⟨x8, hx8, h⟩ := bind_some h
        refine PW.getR cls_X8 (j := 1) (by decide) dX10_count_58 wd_200 hx8 ?_
        obtain ⟨x9, hx9, h⟩ := bind_some h
        refine PW.getI cls_X0 (j := 0) (by decide) dX10_count_61 wd_151 hx9 ?_
        have h := Option.some.inj h; subst h
        exact PW.ret dX10_count_64 trivial rfl
      · rw [if_neg c1] at h
        have c1_2 := sw_ne c1
        by_cases c1 : a1 = 3
        · rw [if_pos c1] at h
          refine PW.tabE c1 (tgt := 65) (off := 64) dX10_count_1 (by decide) (by decide) (by decide) (by decide) ?_
          refine PW.aload_n 0 dX10_count_65 rfl rfl ?_
          obtain ⟨x10, hx10, h⟩ := bind_some h
          refine PW.getR cls_X10 (j := 0) (by decide) dX10_count_66 wd_325 hx10 ?_
          obtain ⟨x11, hx11, h⟩ := bind_some h
          refine PW.getR cls_X8 (j := 3) (by decide) dX10_count_69 wd_204 hx11 ?_
          obtain ⟨x12, hx12, h⟩ := bind_some h
          refine PW.getI cls_X5 (j := 0) (by decide) dX10_count_72 wd_168 hx12 ?_
          have h := Option.some.inj h; subst h
          exact PW.ret dX10_count_75 trivial rfl
        · rw [if_neg c1] at h
          have c1_3 := sw_ne c1
          refine PW.tabOut (tgt := 76) dX10_count_1 (sw_out4 c1_0 c1_1 c1_2 c1_3) (by decide) ?_
          refine PW.aload_n 0 dX10_count_76 rfl rfl ?_
          refine PW.bipush (x := (-2)) dX10_count_77 (by decide) ?_
          obtain ⟨q13, hq13, h⟩ := bind_some h
          obtain ⟨hkq13, hcq13, hq13⟩ := vC_spec hq13
          refine PW.callVi (As := [.int (-2)]) (rest := []) (k := a0) cal_X10_refuse dX10_count_79 wd_398 rfl rfl (rmLe (by omega)) (Nat.le_of_ble_eq_true rfl) rm_0 hkq13 hcq13 (mf_X10_refuse a0 (-2) hp _ hq13) ?_
          have h := Option.some.inj h; subst h
          exact PW.ret dX10_count_82 trivial rfl
-- X10_digest
def f_X10_digest (a0 : Nat) (hp : PH) : Option Int64 := (gR hp a0 9 0).bind fun x1 => (vC hp x1 7 (f_X8_digestFrom x1 641 hp)).bind fun q2 => (gI hp a0 9 9).bind fun x3 => (gI hp a0 9 10).bind fun x4 => (some ((31 * ((31 * q2) + (Int32.toInt64 x3))) + (Int32.toInt64 x4)))
set_option maxRecDepth 100000 in
set_option maxHeartbeats 4000000 in
theorem mf_X10_digest {K : GK} : ∀ (a0 : Nat) (hp : PH) (r : Int64), f_X10_digest a0 hp = some r → PM K (2) M_X10_digest [.ref (ga K a0)] hp (some (.long r)) hp := by
  intro a0 hp r h
  unfold f_X10_digest at h
  refine PM.enter (l0 := [(0, .ref (ga K a0))]) (by decide +kernel) rfl (Nat.le_of_ble_eq_true rfl) rfl ?_
  refine PW.ldc2 (x := 31) dX10_digest_0 wd_881 ?_
  refine PW.ldc2 (x := 31) dX10_digest_3 wd_881 ?_
  refine PW.aload_n 0 dX10_digest_6 rfl rfl ?_
  obtain ⟨x1, hx1, h⟩ := bind_some h
  refine PW.getR cls_X10 (j := 0) (by decide) dX10_digest_7 wd_325 hx1 ?_
  refine PW.ldc2 (x := 641) dX10_digest_10 wd_882 ?_
  obtain ⟨q2, hq2, h⟩ := bind_some h
  obtain ⟨hkq2, hcq2, hq2⟩ := vC_spec hq2
  refine PW.callVl (As := [.long 641]) (rest := [.long 31, .long 31]) (k := x1) cal_X8_digestFrom dX10_digest_13 wd_883 rfl rfl (rmLe (by omega)) (Nat.le_of_ble_eq_true rfl) rm_0 hkq2 hcq2 (mf_X8_digestFrom x1 641 hp _ hq2) ?_
  refine PW.lmul dX10_digest_16 ?_
  refine PW.aload_n 0 dX10_digest_17 rfl rfl ?_
  obtain ⟨x3, hx3, h⟩ := bind_some h
  refine PW.getI cls_X10 (j := 9) (by decide) dX10_digest_18 wd_334 hx3 ?_
  refine PW.i2l dX10_digest_21 ?_
  refine PW.ladd dX10_digest_22 ?_
  refine PW.lmul dX10_digest_23 ?_
  refine PW.aload_n 0 dX10_digest_24 rfl rfl ?_
  obtain ⟨x4, hx4, h⟩ := bind_some h
  refine PW.getI cls_X10 (j := 10) (by decide) dX10_digest_25 wd_335 hx4 ?_
  refine PW.i2l dX10_digest_28 ?_
  refine PW.ladd dX10_digest_29 ?_
  have h := Option.some.inj h; subst h
  exact PW.ret dX10_digest_30 trivial rfl
-- X11_in
def f_X11_in (a0 : Int64) (a2 : Int64) (a4 : Int64) : Int32 := (if (lg_cmp a0 a2) < 0 then (0) else (if 0 < (lg_cmp a0 a4) then (0) else (1)))
set_option maxRecDepth 100000 in
set_option maxHeartbeats 4000000 in
theorem mf_X11_in {K : GK} {hp : PH} : ∀ (a0 : Int64) (a2 : Int64) (a4 : Int64) (r : Int32), f_X11_in a0 a2 a4 = r → PM K (0) M_X11_in [.long a0, .long a2, .long a4] hp (some (.int r)) hp := by
  intro a0 a2 a4 r h
  unfold f_X11_in at h
  refine PM.enter (l0 := [(0, .long a0), (2, .long a2), (4, .long a4)]) (by decide +kernel) rfl (Nat.le_of_ble_eq_true rfl) rfl ?_
  refine PW.lload_n 0 dX11_in_0 rfl rfl ?_
  refine PW.lload_n 1 dX11_in_1 rfl rfl ?_
  refine PW.lcmp dX11_in_2 ?_
  refine PW.if_lt (tgt := 17) dX11_in_3 (by decide) (fun c3 => ?_) (fun c3 => ?_)
  · rw [if_pos c3] at h
    refine PW.iconst (x := 0) dX11_in_17 (by decide) ?_
    subst h
    exact PW.ret dX11_in_18 (z_nar (Or.inl rfl)).1 rfl
  · rw [if_neg c3] at h
    refine PW.lload_n 0 dX11_in_6 rfl rfl ?_
    refine PW.lload 2 dX11_in_7 rfl ?_
    refine PW.lcmp dX11_in_9 ?_
    refine PW.if_gt (tgt := 17) dX11_in_10 (by decide) (fun c10 => ?_) (fun c10 => ?_)
    · rw [if_pos c10] at h
      refine PW.iconst (x := 0) dX11_in_17 (by decide) ?_
      subst h
      exact PW.ret dX11_in_18 (z_nar (Or.inl rfl)).1 rfl
    · rw [if_neg c10] at h
      refine PW.iconst (x := 1) dX11_in_13 (by decide) ?_
      refine PW.goto (tgt := 18) dX11_in_14 (by decide) ?_
      subst h
      exact PW.ret dX11_in_18 (z_nar (Or.inr rfl)).1 rfl
-- X11_has
def f_X11_has (a0 : Int32) (a1 : Int32) : Int32 := (if ((iS a0 a1) &&& 1) = 1 then (1) else (0))
set_option maxRecDepth 100000 in
set_option maxHeartbeats 4000000 in
theorem mf_X11_has {K : GK} {hp : PH} : ∀ (a0 : Int32) (a1 : Int32) (r : Int32), f_X11_has a0 a1 = r → PM K (0) M_X11_has [.int a0, .int a1] hp (some (.int r)) hp := by
  intro a0 a1 r h
  unfold f_X11_has at h
  refine PM.enter (l0 := [(0, .int a0), (1, .int a1)]) (by decide +kernel) rfl (Nat.le_of_ble_eq_true rfl) rfl ?_
  refine PW.iload_n 0 dX11_has_0 rfl rfl ?_
  refine PW.iload_n 1 dX11_has_1 rfl rfl ?_
  refine PW.ishr dX11_has_2 ?_
  refine PW.iconst (x := 1) dX11_has_3 (by decide) ?_
  refine PW.iand dX11_has_4 ?_
  refine PW.iconst (x := 1) dX11_has_5 (by decide) ?_
  refine PW.icmp_ne (tgt := 13) dX11_has_6 (by decide) (fun c6 => ?_) (fun c6 => ?_)
  · rw [if_neg c6] at h
    refine PW.iconst (x := 0) dX11_has_13 (by decide) ?_
    subst h
    exact PW.ret dX11_has_14 (z_nar (Or.inl rfl)).1 rfl
  · rw [if_pos c6] at h
    refine PW.iconst (x := 1) dX11_has_9 (by decide) ?_
    refine PW.goto (tgt := 14) dX11_has_10 (by decide) ?_
    subst h
    exact PW.ret dX11_has_14 (z_nar (Or.inr rfl)).1 rfl
-- X11_bad
def f_X11_bad (a0 : Nat) (a1 : Int32) (hp : PH) : Option (Int32 × PH) := (gR hp a0 10 7).bind fun x1 => (aI hp x1 0 0).bind fun x2 => (uI hp x1 0 (x2 + 1)).bind fun hp3 => (some (a1, hp3))
set_option maxRecDepth 100000 in
set_option maxHeartbeats 4000000 in
theorem mf_X11_bad {K : GK} : ∀ (a0 : Nat) (a1 : Int32) (hp : PH) (r : (Int32 × PH)), f_X11_bad a0 a1 hp = some r → PM K (0) M_X11_bad [.ref (ga K a0), .int a1] hp (some (.int r.1)) r.2 := by
  intro a0 a1 hp r h
  unfold f_X11_bad at h
  refine PM.enter (l0 := [(0, .ref (ga K a0)), (1, .int a1)]) (by decide +kernel) rfl (Nat.le_of_ble_eq_true rfl) rfl ?_
  refine PW.aload_n 0 dX11_bad_0 rfl rfl ?_
  obtain ⟨x1, hx1, h⟩ := bind_some h
  refine PW.getR cls_X11 (j := 7) (by decide) dX11_bad_1 wd_902 hx1 ?_
  refine PW.iconst (x := 0) dX11_bad_4 (by decide) ?_
  refine PW.dup2 dX11_bad_5 rfl rfl ?_
  obtain ⟨x2, hx2, h⟩ := bind_some h
  refine PW.iald dX11_bad_6 hx2 ?_
  refine PW.iconst (x := 1) dX11_bad_7 (by decide) ?_
  refine PW.iadd dX11_bad_8 ?_
  obtain ⟨hp3, hhp3, h⟩ := bind_some h
  refine PW.iast dX11_bad_9 hhp3 ?_
  refine PW.iload_n 1 dX11_bad_10 rfl rfl ?_
  have h := Option.some.inj h; subst h
  exact PW.ret dX11_bad_11 trivial rfl
-- X11_no
def f_X11_no (a0 : Nat) (hp : PH) : Option (Int32 × PH) := (gR hp a0 10 7).bind fun x1 => (aI hp x1 0 1).bind fun x2 => (uI hp x1 1 (x2 + 1)).bind fun hp3 => (some ((-3), hp3))
set_option maxRecDepth 100000 in
set_option maxHeartbeats 4000000 in
theorem mf_X11_no {K : GK} : ∀ (a0 : Nat) (hp : PH) (r : (Int32 × PH)), f_X11_no a0 hp = some r → PM K (0) M_X11_no [.ref (ga K a0)] hp (some (.int r.1)) r.2 := by
  intro a0 hp r h
  unfold f_X11_no at h
  refine PM.enter (l0 := [(0, .ref (ga K a0))]) (by decide +kernel) rfl (Nat.le_of_ble_eq_true rfl) rfl ?_
  refine PW.aload_n 0 dX11_no_0 rfl rfl ?_
  obtain ⟨x1, hx1, h⟩ := bind_some h
  refine PW.getR cls_X11 (j := 7) (by decide) dX11_no_1 wd_902 hx1 ?_
  refine PW.iconst (x := 1) dX11_no_4 (by decide) ?_
  refine PW.dup2 dX11_no_5 rfl rfl ?_
  obtain ⟨x2, hx2, h⟩ := bind_some h
  refine PW.iald dX11_no_6 hx2 ?_
  refine PW.iconst (x := 1) dX11_no_7 (by decide) ?_
  refine PW.iadd dX11_no_8 ?_
  obtain ⟨hp3, hhp3, h⟩ := bind_some h
  refine PW.iast dX11_no_9 hhp3 ?_
  refine PW.bipush (x := (-3)) dX11_no_10 (by decide) ?_
  have h := Option.some.inj h; subst h
  exact PW.ret dX11_no_12 trivial rfl
-- X11_full
def f_X11_full (a0 : Nat) (hp : PH) : Option (Int32 × PH) := (gR hp a0 10 7).bind fun x1 => (aI hp x1 0 2).bind fun x2 => (uI hp x1 2 (x2 + 1)).bind fun hp3 => (some ((-4), hp3))
set_option maxRecDepth 100000 in
set_option maxHeartbeats 4000000 in
theorem mf_X11_full {K : GK} : ∀ (a0 : Nat) (hp : PH) (r : (Int32 × PH)), f_X11_full a0 hp = some r → PM K (0) M_X11_full [.ref (ga K a0)] hp (some (.int r.1)) r.2 := by
  intro a0 hp r h
  unfold f_X11_full at h
  refine PM.enter (l0 := [(0, .ref (ga K a0))]) (by decide +kernel) rfl (Nat.le_of_ble_eq_true rfl) rfl ?_
  refine PW.aload_n 0 dX11_full_0 rfl rfl ?_
  obtain ⟨x1, hx1, h⟩ := bind_some h
  refine PW.getR cls_X11 (j := 7) (by decide) dX11_full_1 wd_902 hx1 ?_
  refine PW.iconst (x := 2) dX11_full_4 (by decide) ?_
  refine PW.dup2 dX11_full_5 rfl rfl ?_
  obtain ⟨x2, hx2, h⟩ := bind_some h
  refine PW.iald dX11_full_6 hx2 ?_
  refine PW.iconst (x := 1) dX11_full_7 (by decide) ?_
  refine PW.iadd dX11_full_8 ?_
  obtain ⟨hp3, hhp3, h⟩ := bind_some h
  refine PW.iast dX11_full_9 hhp3 ?_
  refine PW.bipush (x := (-4)) dX11_full_10 (by decide) ?_
  have h := Option.some.inj h; subst h
  exact PW.ret dX11_full_12 trivial rfl
-- X11_isLeap
def f_X11_isLeap (a0 : Int32) : Int32 := (if (iR a0 4) = 0 then (if (iR a0 100) = 0 then (if (iR a0 400) = 0 then (1) else (0)) else (1)) else (0))
set_option maxRecDepth 100000 in
set_option maxHeartbeats 4000000 in
theorem mf_X11_isLeap {K : GK} {hp : PH} : ∀ (a0 : Int32) (r : Int32), f_X11_isLeap a0 = r → PM K (0) M_X11_isLeap [.int a0] hp (some (.int r)) hp := by
  intro a0 r h
  unfold f_X11_isLeap at h
  refine PM.enter (l0 := [(0, .int a0)]) (by decide +kernel) rfl (Nat.le_of_ble_eq_true rfl) rfl ?_
  refine PW.iload_n 0 dX11_isLeap_0 rfl rfl ?_
  refine PW.iconst (x := 4) dX11_isLeap_1 (by decide) ?_
  refine PW.irem dX11_isLeap_2 (by decide) ?_
  refine PW.if_ne (tgt := 25) dX11_isLeap_3 (by decide) (fun c3 => ?_) (fun c3 => ?_)
  · rw [if_neg c3] at h
    refine PW.iconst (x := 0) dX11_isLeap_25 (by decide) ?_
    subst h
    exact PW.ret dX11_isLeap_26 (z_nar (Or.inl rfl)).1 rfl
  · rw [if_pos c3] at h
    refine PW.iload_n 0 dX11_isLeap_6 rfl rfl ?_
    refine PW.bipush (x := 100) dX11_isLeap_7 (by decide) ?_
    refine PW.irem dX11_isLeap_9 (by decide) ?_
    refine PW.if_ne (tgt := 21) dX11_isLeap_10 (by decide) (fun c10 => ?_) (fun c10 => ?_)
    · rw [if_neg c10] at h
      refine PW.iconst (x := 1) dX11_isLeap_21 (by decide) ?_
      refine PW.goto (tgt := 26) dX11_isLeap_22 (by decide) ?_
      subst h
      exact PW.ret dX11_isLeap_26 (z_nar (Or.inr rfl)).1 rfl
    · rw [if_pos c10] at h
      refine PW.iload_n 0 dX11_isLeap_13 rfl rfl ?_
      refine PW.sipush (x := 400) dX11_isLeap_14 (by decide) ?_
      refine PW.irem dX11_isLeap_17 (by decide) ?_
      refine PW.if_ne (tgt := 25) dX11_isLeap_18 (by decide) (fun c18 => ?_) (fun c18 => ?_)
      · rw [if_neg c18] at h
        refine PW.iconst (x := 0) dX11_isLeap_25 (by decide) ?_
        subst h
        exact PW.ret dX11_isLeap_26 (z_nar (Or.inl rfl)).1 rfl
      · rw [if_pos c18] at h
        refine PW.iconst (x := 1) dX11_isLeap_21 (by decide) ?_
        refine PW.goto (tgt := 26) dX11_isLeap_22 (by decide) ?_
        subst h
        exact PW.ret dX11_isLeap_26 (z_nar (Or.inr rfl)).1 rfl
-- X11_monthLong
def f_X11_monthLong (a0 : Int32) (a1 : Int32) : Int32 := (if a1 = 2 then (if (f_X11_isLeap a0) = 0 then (28) else (29)) else (if a1 = 4 then (30) else (if a1 = 6 then (30) else (if a1 = 9 then (30) else (if a1 = 11 then (30) else (31))))))
set_option maxRecDepth 100000 in
set_option maxHeartbeats 4000000 in
theorem mf_X11_monthLong {K : GK} {hp : PH} : ∀ (a0 : Int32) (a1 : Int32) (r : Int32), f_X11_monthLong a0 a1 = r → PM K (1) M_X11_monthLong [.int a0, .int a1] hp (some (.int r)) hp := by
  intro a0 a1 r h
  unfold f_X11_monthLong at h
  refine PM.enter (l0 := [(0, .int a0), (1, .int a1)]) (by decide +kernel) rfl (Nat.le_of_ble_eq_true rfl) rfl ?_
  refine PW.iload_n 1 dX11_monthLong_0 rfl rfl ?_
  refine PW.iconst (x := 2) dX11_monthLong_1 (by decide) ?_
  refine PW.icmp_ne (tgt := 20) dX11_monthLong_2 (by decide) (fun c2 => ?_) (fun c2 => ?_)
  · rw [if_neg c2] at h
    refine PW.iload_n 1 dX11_monthLong_20 rfl rfl ?_
    refine PW.iconst (x := 4) dX11_monthLong_21 (by decide) ?_
    refine PW.icmp_eq (tgt := 43) dX11_monthLong_22 (by decide) (fun c22 => ?_) (fun c22 => ?_)
    · rw [if_pos c22] at h
      refine PW.bipush (x := 30) dX11_monthLong_43 (by decide) ?_
      refine PW.goto (tgt := 50) dX11_monthLong_45 (by decide) ?_
      subst h
      exact PW.ret dX11_monthLong_50 trivial rfl
    · rw [if_neg c22] at h
      refine PW.iload_n 1 dX11_monthLong_25 rfl rfl ?_
      refine PW.bipush (x := 6) dX11_monthLong_26 (by decide) ?_
      refine PW.icmp_eq (tgt := 43) dX11_monthLong_28 (by decide) (fun c28 => ?_) (fun c28 => ?_)
      · rw [if_pos c28] at h
        refine PW.bipush (x := 30) dX11_monthLong_43 (by decide) ?_
        refine PW.goto (tgt := 50) dX11_monthLong_45 (by decide) ?_
        subst h
        exact PW.ret dX11_monthLong_50 trivial rfl
      · rw [if_neg c28] at h
        refine PW.iload_n 1 dX11_monthLong_31 rfl rfl ?_
        refine PW.bipush (x := 9) dX11_monthLong_32 (by decide) ?_
        refine PW.icmp_eq (tgt := 43) dX11_monthLong_34 (by decide) (fun c34 => ?_) (fun c34 => ?_)
        · rw [if_pos c34] at h
          refine PW.bipush (x := 30) dX11_monthLong_43 (by decide) ?_
          refine PW.goto (tgt := 50) dX11_monthLong_45 (by decide) ?_
          subst h
          exact PW.ret dX11_monthLong_50 trivial rfl
        · rw [if_neg c34] at h
          refine PW.iload_n 1 dX11_monthLong_37 rfl rfl ?_
          refine PW.bipush (x := 11) dX11_monthLong_38 (by decide) ?_
          refine PW.icmp_ne (tgt := 48) dX11_monthLong_40 (by decide) (fun c40 => ?_) (fun c40 => ?_)
          · rw [if_neg c40] at h
            refine PW.bipush (x := 31) dX11_monthLong_48 (by decide) ?_
            subst h
            exact PW.ret dX11_monthLong_50 trivial rfl
          · rw [if_pos c40] at h
            refine PW.bipush (x := 30) dX11_monthLong_43 (by decide) ?_
            refine PW.goto (tgt := 50) dX11_monthLong_45 (by decide) ?_
            subst h
            exact PW.ret dX11_monthLong_50 trivial rfl
  · rw [if_pos c2] at h
    refine PW.iload_n 0 dX11_monthLong_5 rfl rfl ?_
    refine PW.callSi (As := [.int a0]) (rest := []) cal_X11_isLeap dX11_monthLong_6 wd_993 rfl rfl (rmLe (by omega)) (Nat.le_of_ble_eq_true rfl) rm_0 (mf_X11_isLeap a0 _ rfl) ?_
    refine PW.if_eq (tgt := 17) dX11_monthLong_9 (by decide) (fun c9 => ?_) (fun c9 => ?_)
    · rw [if_pos c9] at h
      refine PW.bipush (x := 28) dX11_monthLong_17 (by decide) ?_
      subst h
      exact PW.ret dX11_monthLong_19 trivial rfl
    · rw [if_neg c9] at h
      refine PW.bipush (x := 29) dX11_monthLong_12 (by decide) ?_
      refine PW.goto (tgt := 19) dX11_monthLong_14 (by decide) ?_
      subst h
      exact PW.ret dX11_monthLong_19 trivial rfl
-- X11_isDate
def f_X11_isDate (a0 : Int32) (a1 : Int32) (a2 : Int32) : Int32 := (if (f_X11_in (Int32.toInt64 a0) 1800 2199) = 0 then (0) else (if (f_X11_in (Int32.toInt64 a1) 1 12) = 0 then (0) else (if a2 < 1 then (0) else (if (f_X11_monthLong a0 a1) < a2 then (0) else (1)))))
set_option maxRecDepth 100000 in
set_option maxHeartbeats 4000000 in
theorem mf_X11_isDate {K : GK} {hp : PH} : ∀ (a0 : Int32) (a1 : Int32) (a2 : Int32) (r : Int32), f_X11_isDate a0 a1 a2 = r → PM K (2) M_X11_isDate [.int a0, .int a1, .int a2] hp (some (.int r)) hp := by
  intro a0 a1 a2 r h
  unfold f_X11_isDate at h
  refine PM.enter (l0 := [(0, .int a0), (1, .int a1), (2, .int a2)]) (by decide +kernel) rfl (Nat.le_of_ble_eq_true rfl) rfl ?_
  refine PW.iload_n 0 dX11_isDate_0 rfl rfl ?_
  refine PW.i2l dX11_isDate_1 ?_
  refine PW.ldc2 (x := 1800) dX11_isDate_2 wd_984 ?_
  refine PW.ldc2 (x := 2199) dX11_isDate_5 wd_985 ?_
  refine PW.callSi (As := [.long (Int32.toInt64 a0), .long 1800, .long 2199]) (rest := []) cal_X11_in dX11_isDate_8 wd_986 rfl rfl (rmLe (by omega)) (Nat.le_of_ble_eq_true rfl) rm_0 (mf_X11_in (Int32.toInt64 a0) 1800 2199 _ rfl) ?_
  refine PW.if_eq (tgt := 44) dX11_isDate_11 (by decide) (fun c11 => ?_) (fun c11 => ?_)
  · rw [if_pos c11] at h
    refine PW.iconst (x := 0) dX11_isDate_44 (by decide) ?_
    subst h
    exact PW.ret dX11_isDate_45 (z_nar (Or.inl rfl)).1 rfl
  · rw [if_neg c11] at h
    refine PW.iload_n 1 dX11_isDate_14 rfl rfl ?_
    refine PW.i2l dX11_isDate_15 ?_
    refine PW.lconst (x := 1) dX11_isDate_16 (by decide) ?_
    refine PW.ldc2 (x := 12) dX11_isDate_17 wd_989 ?_
    refine PW.callSi (As := [.long (Int32.toInt64 a1), .long 1, .long 12]) (rest := []) cal_X11_in dX11_isDate_20 wd_986 rfl rfl (rmLe (by omega)) (Nat.le_of_ble_eq_true rfl) rm_0 (mf_X11_in (Int32.toInt64 a1) 1 12 _ rfl) ?_
    refine PW.if_eq (tgt := 44) dX11_isDate_23 (by decide) (fun c23 => ?_) (fun c23 => ?_)
    · rw [if_pos c23] at h
      refine PW.iconst (x := 0) dX11_isDate_44 (by decide) ?_
      subst h
      exact PW.ret dX11_isDate_45 (z_nar (Or.inl rfl)).1 rfl
    · rw [if_neg c23] at h
      refine PW.iload_n 2 dX11_isDate_26 rfl rfl ?_
      refine PW.iconst (x := 1) dX11_isDate_27 (by decide) ?_
      refine PW.icmp_lt (tgt := 44) dX11_isDate_28 (by decide) (fun c28 => ?_) (fun c28 => ?_)
      · rw [if_pos c28] at h
        refine PW.iconst (x := 0) dX11_isDate_44 (by decide) ?_
        subst h
        exact PW.ret dX11_isDate_45 (z_nar (Or.inl rfl)).1 rfl
      · rw [if_neg c28] at h
        refine PW.iload_n 2 dX11_isDate_31 rfl rfl ?_
        refine PW.iload_n 0 dX11_isDate_32 rfl rfl ?_
        refine PW.iload_n 1 dX11_isDate_33 rfl rfl ?_
        refine PW.callSi (As := [.int a0, .int a1]) (rest := [.int a2]) cal_X11_monthLong dX11_isDate_34 wd_990 rfl rfl (rmLe (by omega)) (Nat.le_of_ble_eq_true rfl) rm_0 (mf_X11_monthLong a0 a1 _ rfl) ?_
        refine PW.icmp_gt (tgt := 44) dX11_isDate_37 (by decide) (fun c37 => ?_) (fun c37 => ?_)
        · rw [if_pos c37] at h
          refine PW.iconst (x := 0) dX11_isDate_44 (by decide) ?_
          subst h
          exact PW.ret dX11_isDate_45 (z_nar (Or.inl rfl)).1 rfl
        · rw [if_neg c37] at h
          refine PW.iconst (x := 1) dX11_isDate_40 (by decide) ?_
          refine PW.goto (tgt := 45) dX11_isDate_41 (by decide) ?_
          subst h
          exact PW.ret dX11_isDate_45 (z_nar (Or.inr rfl)).1 rfl
-- X11_yearBegin
def f_X11_yearBegin (a0 : Int32) : Int32 := (((365 * (a0 - 1800)) + (((((a0 - 1) / 4) - ((a0 - 1) / 100)) + ((a0 - 1) / 400)) - 436)))
set_option maxRecDepth 100000 in
set_option maxHeartbeats 4000000 in
theorem mf_X11_yearBegin {K : GK} {hp : PH} : ∀ (a0 : Int32) (r : Int32), f_X11_yearBegin a0 = r → PM K (0) M_X11_yearBegin [.int a0] hp (some (.int r)) hp := by
  intro a0 r h
  unfold f_X11_yearBegin at h
  refine PM.enter (l0 := [(0, .int a0)]) (by decide +kernel) rfl (Nat.le_of_ble_eq_true rfl) rfl ?_
  refine PW.iload_n 0 dX11_yearBegin_0 rfl rfl ?_
  refine PW.iconst (x := 1) dX11_yearBegin_1 (by decide) ?_
  refine PW.isub dX11_yearBegin_2 ?_
  refine PW.istore_n (l' := [(1, .int (a0 - 1)), (0, .int a0)]) dX11_yearBegin_3 rfl (by decide) rfl ?_
  refine PW.iload_n 0 dX11_yearBegin_4 rfl rfl ?_
  refine PW.iconst (x := 4) dX11_yearBegin_5 (by decide) ?_
  refine PW.idiv dX11_yearBegin_6 (by decide) ?_
  refine PW.iload_n 0 dX11_yearBegin_7 rfl rfl ?_
  refine PW.bipush (x := 100) dX11_yearBegin_8 (by decide) ?_
  refine PW.idiv dX11_yearBegin_10 (by decide) ?_
  refine PW.isub dX11_yearBegin_11 ?_
  refine PW.iload_n 0 dX11_yearBegin_12 rfl rfl ?_
  refine PW.sipush (x := 400) dX11_yearBegin_13 (by decide) ?_
  refine PW.idiv dX11_yearBegin_16 (by decide) ?_
  refine PW.iadd dX11_yearBegin_17 ?_
  refine PW.sipush (x := 436) dX11_yearBegin_18 (by decide) ?_
  refine PW.isub dX11_yearBegin_21 ?_
  refine PW.istore_n (l' := [(2, .int (((((a0 - 1) / 4) - ((a0 - 1) / 100)) + ((a0 - 1) / 400)) - 436)), (1, .int (a0 - 1)), (0, .int a0)]) dX11_yearBegin_22 rfl (by decide) rfl ?_
  refine PW.sipush (x := 365) dX11_yearBegin_23 (by decide) ?_
  refine PW.iload_n 2 dX11_yearBegin_26 rfl rfl ?_
  refine PW.sipush (x := 1800) dX11_yearBegin_27 (by decide) ?_
  refine PW.isub dX11_yearBegin_30 ?_
  refine PW.imul dX11_yearBegin_31 ?_
  refine PW.iload_n 0 dX11_yearBegin_32 rfl rfl ?_
  refine PW.iadd dX11_yearBegin_33 ?_
  subst h
  exact PW.ret dX11_yearBegin_34 trivial rfl
-- X11_numberOf
def f_X11_numberOf_L8 : Nat → Int32 → Int32 → Int32 → Int32 → Int32 → Option Int32
  | 0, _, _, _, _, _ => none
  | n + 1, a0, a1, a2, a3, a4 => (if a1 ≤ a4 then (some ((a3 + a2) - 1)) else ((f_X11_numberOf_L8 n) a0 a1 a2 (a3 + (f_X11_monthLong a0 a4)) (a4 + 1)))
def f_X11_numberOf (a0 : Int32) (a1 : Int32) (a2 : Int32) : Option Int32 := (f_X11_numberOf_L8 NN a0 a1 a2 (f_X11_yearBegin a0) 1)
set_option maxRecDepth 100000 in
set_option maxHeartbeats 4000000 in
theorem mf_X11_numberOf_L8 {K : GK} {hp : PH} : ∀ (n : Nat) (a0 : Int32) (a1 : Int32) (a2 : Int32) (a3 : Int32) (a4 : Int32) (r : Int32), f_X11_numberOf_L8 n a0 a1 a2 a3 a4 = some r → PW K (rmD (2)) 0 0 M_X11_numberOf 8 [(0, .int a0), (1, .int a1), (2, .int a2), (3, .int a3), (4, .int a4)] [] hp (some (.int r)) hp := by
  intro n
  induction n with
  | zero =>
    intro a0 a1 a2 a3 a4 r h
    rw [f_X11_numberOf_L8] at h
    cases h
  | succ n ih =>
    intro a0 a1 a2 a3 a4 r h
    rw [f_X11_numberOf_L8] at h
    refine PW.iload 4 dX11_numberOf_8 rfl ?_
    refine PW.iload_n 1 dX11_numberOf_10 rfl rfl ?_
    refine PW.icmp_ge (tgt := 29) dX11_numberOf_11 (by decide) (fun c11 => ?_) (fun c11 => ?_)
    · rw [if_pos c11] at h
      refine PW.iload_n 3 dX11_numberOf_29 rfl rfl ?_
      refine PW.iload_n 2 dX11_numberOf_30 rfl rfl ?_
      refine PW.iadd dX11_numberOf_31 ?_
      refine PW.iconst (x := 1) dX11_numberOf_32 (by decide) ?_
      refine PW.isub dX11_numberOf_33 ?_
      have h := Option.some.inj h; subst h
      exact PW.ret dX11_numberOf_34 trivial rfl
    · rw [if_neg c11] at h
      refine PW.iload_n 3 dX11_numberOf_14 rfl rfl ?_
      refine PW.iload_n 0 dX11_numberOf_15 rfl rfl ?_
      refine PW.iload 4 dX11_numberOf_16 rfl ?_
      refine PW.callSi (As := [.int a0, .int a4]) (rest := [.int a3]) cal_X11_monthLong dX11_numberOf_18 wd_990 rfl rfl (rmLe (by omega)) (Nat.le_of_ble_eq_true rfl) rm_0 (mf_X11_monthLong a0 a4 _ rfl) ?_
      refine PW.iadd dX11_numberOf_21 ?_
      refine PW.istore_n (l' := [(3, .int (a3 + (f_X11_monthLong a0 a4))), (0, .int a0), (1, .int a1), (2, .int a2), (4, .int a4)]) dX11_numberOf_22 rfl (by decide) rfl ?_
      refine PW.iinc 4 (l' := [(4, .int (a4 + 1)), (3, .int (a3 + (f_X11_monthLong a0 a4))), (0, .int a0), (1, .int a1), (2, .int a2)]) dX11_numberOf_23 rfl (x := a4) (y := (a4 + 1)) rfl (by decide) rfl ?_
      refine PW.goto (tgt := 8) dX11_numberOf_26 (by decide) ?_
      exact PW.sub (l' := [(0, .int a0), (1, .int a1), (2, .int a2), (3, .int (a3 + (f_X11_monthLong a0 a4))), (4, .int (a4 + 1))]) [2, 3, 4, 1, 0] rfl (ih a0 a1 a2 (a3 + (f_X11_monthLong a0 a4)) (a4 + 1) _ h)
set_option maxRecDepth 100000 in
set_option maxHeartbeats 4000000 in
theorem mf_X11_numberOf {K : GK} {hp : PH} : ∀ (a0 : Int32) (a1 : Int32) (a2 : Int32) (r : Int32), f_X11_numberOf a0 a1 a2 = some r → PM K (2) M_X11_numberOf [.int a0, .int a1, .int a2] hp (some (.int r)) hp := by
  intro a0 a1 a2 r h
  unfold f_X11_numberOf at h
  refine PM.enter (l0 := [(0, .int a0), (1, .int a1), (2, .int a2)]) (by decide +kernel) rfl (Nat.le_of_ble_eq_true rfl) rfl ?_
  refine PW.iload_n 0 dX11_numberOf_0 rfl rfl ?_
  refine PW.callSi (As := [.int a0]) (rest := []) cal_X11_yearBegin dX11_numberOf_1 wd_999 rfl rfl (rmLe (by omega)) (Nat.le_of_ble_eq_true rfl) rm_0 (mf_X11_yearBegin a0 _ rfl) ?_
  refine PW.istore_n (l' := [(3, .int (f_X11_yearBegin a0)), (0, .int a0), (1, .int a1), (2, .int a2)]) dX11_numberOf_4 rfl (by decide) rfl ?_
  refine PW.iconst (x := 1) dX11_numberOf_5 (by decide) ?_
  refine PW.istore (l' := [(4, .int 1), (3, .int (f_X11_yearBegin a0)), (0, .int a0), (1, .int a1), (2, .int a2)]) dX11_numberOf_6 (by decide) rfl ?_
  exact PW.sub (l' := [(0, .int a0), (1, .int a1), (2, .int a2), (3, .int (f_X11_yearBegin a0)), (4, .int 1)]) [2, 3, 4, 1, 0] rfl (mf_X11_numberOf_L8 NN a0 a1 a2 (f_X11_yearBegin a0) 1 _ h)
-- X11_yearOf
def f_X11_yearOf_L10 : Nat → Int32 → Int32 → Option Int32
  | 0, _, _ => none
  | n + 1, a0, a1 => (if 2199 ≤ a1 then (some a1) else (if a0 < (f_X11_yearBegin (a1 + 1)) then (some a1) else ((f_X11_yearOf_L10 n) a0 (a1 + 1))))
def f_X11_yearOf (a0 : Int32) : Option Int32 := (f_X11_yearOf_L10 NN a0 (1800 + (a0 / 366)))
set_option maxRecDepth 100000 in
set_option maxHeartbeats 4000000 in
theorem mf_X11_yearOf_L10 {K : GK} {hp : PH} : ∀ (n : Nat) (a0 : Int32) (a1 : Int32) (r : Int32), f_X11_yearOf_L10 n a0 a1 = some r → PW K (rmD (1)) 0 0 M_X11_yearOf 10 [(0, .int a0), (1, .int a1)] [] hp (some (.int r)) hp := by
  intro n
  induction n with
  | zero =>
    intro a0 a1 r h
    rw [f_X11_yearOf_L10] at h
    cases h
  | succ n ih =>
    intro a0 a1 r h
    rw [f_X11_yearOf_L10] at h
    refine PW.iload_n 1 dX11_yearOf_10 rfl rfl ?_
    refine PW.sipush (x := 2199) dX11_yearOf_11 (by decide) ?_
    refine PW.icmp_ge (tgt := 33) dX11_yearOf_14 (by decide) (fun c14 => ?_) (fun c14 => ?_)
    · rw [if_pos c14] at h
      refine PW.iload_n 1 dX11_yearOf_33 rfl rfl ?_
      have h := Option.some.inj h; subst h
      exact PW.ret dX11_yearOf_34 trivial rfl
    · rw [if_neg c14] at h
      refine PW.iload_n 1 dX11_yearOf_17 rfl rfl ?_
      refine PW.iconst (x := 1) dX11_yearOf_18 (by decide) ?_
      refine PW.iadd dX11_yearOf_19 ?_
      refine PW.callSi (As := [.int (a1 + 1)]) (rest := []) cal_X11_yearBegin dX11_yearOf_20 wd_999 rfl rfl (rmLe (by omega)) (Nat.le_of_ble_eq_true rfl) rm_0 (mf_X11_yearBegin (a1 + 1) _ rfl) ?_
      refine PW.iload_n 0 dX11_yearOf_23 rfl rfl ?_
      refine PW.icmp_gt (tgt := 33) dX11_yearOf_24 (by decide) (fun c24 => ?_) (fun c24 => ?_)
      · rw [if_pos c24] at h
        refine PW.iload_n 1 dX11_yearOf_33 rfl rfl ?_
        have h := Option.some.inj h; subst h
        exact PW.ret dX11_yearOf_34 trivial rfl
      · rw [if_neg c24] at h
        refine PW.iinc 1 (l' := [(1, .int (a1 + 1)), (0, .int a0)]) dX11_yearOf_27 rfl (x := a1) (y := (a1 + 1)) rfl (by decide) rfl ?_
        refine PW.goto (tgt := 10) dX11_yearOf_30 (by decide) ?_
        exact PW.sub (l' := [(0, .int a0), (1, .int (a1 + 1))]) [1, 0] rfl (ih a0 (a1 + 1) _ h)
set_option maxRecDepth 100000 in
set_option maxHeartbeats 4000000 in
theorem mf_X11_yearOf {K : GK} {hp : PH} : ∀ (a0 : Int32) (r : Int32), f_X11_yearOf a0 = some r → PM K (1) M_X11_yearOf [.int a0] hp (some (.int r)) hp := by
  intro a0 r h
  unfold f_X11_yearOf at h
  refine PM.enter (l0 := [(0, .int a0)]) (by decide +kernel) rfl (Nat.le_of_ble_eq_true rfl) rfl ?_
  refine PW.sipush (x := 1800) dX11_yearOf_0 (by decide) ?_
  refine PW.iload_n 0 dX11_yearOf_3 rfl rfl ?_
  refine PW.sipush (x := 366) dX11_yearOf_4 (by decide) ?_
  refine PW.idiv dX11_yearOf_7 (by decide) ?_
  refine PW.iadd dX11_yearOf_8 ?_
  refine PW.istore_n (l' := [(1, .int (1800 + (a0 / 366))), (0, .int a0)]) dX11_yearOf_9 rfl (by decide) rfl ?_
  exact PW.sub (l' := [(0, .int a0), (1, .int (1800 + (a0 / 366)))]) [1, 0] rfl (mf_X11_yearOf_L10 NN a0 (1800 + (a0 / 366)) _ h)
-- X11_takeApart
def f_X11_takeApart_L23 : Nat → Nat → Int32 → PH → Option PH
  | 0, _, _, _ => none
  | n + 1, a0, a2, hp => (gI hp a0 10 8).bind fun x6 => (gI hp a0 10 9).bind fun x7 => (if a2 < (f_X11_monthLong x6 x7) then (pI hp a0 10 10 (a2 + 1)).bind fun hp9 => some hp9 else (gI hp a0 10 8).bind fun x10 => (gI hp a0 10 9).bind fun x11 => (gI hp a0 10 9).bind fun x13 => (pI hp a0 10 9 (x13 + 1)).bind fun hp14 => ((f_X11_takeApart_L23 n) a0 (a2 - (f_X11_monthLong x10 x11)) hp14))
def f_X11_takeApart (a0 : Nat) (a1 : Int32) (hp : PH) : Option PH := (f_X11_yearOf a1).bind fun q1 => (pI hp a0 10 8 q1).bind fun hp2 => (gI hp2 a0 10 8).bind fun x3 => (pI hp2 a0 10 9 1).bind fun hp5 => (f_X11_takeApart_L23 NN a0 (a1 - (f_X11_yearBegin x3)) hp5)
set_option maxRecDepth 100000 in
set_option maxHeartbeats 4000000 in
theorem mf_X11_takeApart_L23 {K : GK} : ∀ (n : Nat) (a0 : Nat) (a2 : Int32) (hp : PH) (r : PH), f_X11_takeApart_L23 n a0 a2 hp = some r → PW K (rmD (2)) 0 0 M_X11_takeApart 23 [(0, .ref (ga K a0)), (2, .int a2)] [] hp none r := by
  intro n
  induction n with
  | zero =>
    intro a0 a2 hp r h
    rw [f_X11_takeApart_L23] at h
    cases h
  | succ n ih =>
    intro a0 a2 hp r h
    rw [f_X11_takeApart_L23] at h
    refine PW.iload_n 1 dX11_takeApart_23 rfl rfl ?_
    refine PW.aload_n 0 dX11_takeApart_24 rfl rfl ?_
    obtain ⟨x6, hx6, h⟩ := bind_some h
    refine PW.getI cls_X11 (j := 8) (by decide) dX11_takeApart_25 wd_903 hx6 ?_
    refine PW.aload_n 0 dX11_takeApart_28 rfl rfl ?_
    obtain ⟨x7, hx7, h⟩ := bind_some h
    refine PW.getI cls_X11 (j := 9) (by decide) dX11_takeApart_29 wd_904 hx7 ?_
    refine PW.callSi (As := [.int x6, .int x7]) (rest := [.int a2]) cal_X11_monthLong dX11_takeApart_32 wd_990 rfl rfl (rmLe (by omega)) (Nat.le_of_ble_eq_true rfl) rm_0 (mf_X11_monthLong x6 x7 _ rfl) ?_
    refine PW.icmp_lt (tgt := 65) dX11_takeApart_35 (by decide) (fun c35 => ?_) (fun c35 => ?_)
    · rw [if_pos c35] at h
      refine PW.aload_n 0 dX11_takeApart_65 rfl rfl ?_
      refine PW.iload_n 1 dX11_takeApart_66 rfl rfl ?_
      refine PW.iconst (x := 1) dX11_takeApart_67 (by decide) ?_
      refine PW.iadd dX11_takeApart_68 ?_
      obtain ⟨hp9, hhp9, h⟩ := bind_some h
      refine PW.putI cls_X11 clw_X11 (j := 10) (by decide) dX11_takeApart_69 wd_905 rfl rfl hhp9 ?_
      have h := Option.some.inj h
      subst h
      exact PW.ret dX11_takeApart_72 trivial rfl
    · rw [if_neg c35] at h
      refine PW.iload_n 1 dX11_takeApart_38 rfl rfl ?_
      refine PW.aload_n 0 dX11_takeApart_39 rfl rfl ?_
      obtain ⟨x10, hx10, h⟩ := bind_some h
      refine PW.getI cls_X11 (j := 8) (by decide) dX11_takeApart_40 wd_903 hx10 ?_
      refine PW.aload_n 0 dX11_takeApart_43 rfl rfl ?_
      obtain ⟨x11, hx11, h⟩ := bind_some h
      refine PW.getI cls_X11 (j := 9) (by decide) dX11_takeApart_44 wd_904 hx11 ?_
      refine PW.callSi (As := [.int x10, .int x11]) (rest := [.int a2]) cal_X11_monthLong dX11_takeApart_47 wd_990 rfl rfl (rmLe (by omega)) (Nat.le_of_ble_eq_true rfl) rm_0 (mf_X11_monthLong x10 x11 _ rfl) ?_
      refine PW.isub dX11_takeApart_50 ?_
      refine PW.istore_n (l' := [(2, .int (a2 - (f_X11_monthLong x10 x11))), (0, .ref (ga K a0))]) dX11_takeApart_51 rfl (by decide) rfl ?_
      refine PW.aload_n 1 dX11_takeApart_52 rfl rfl ?_
      refine PW.dup dX11_takeApart_53 rfl ?_
      obtain ⟨x13, hx13, h⟩ := bind_some h
      refine PW.getI cls_X11 (j := 9) (by decide) dX11_takeApart_54 wd_904 hx13 ?_
      refine PW.iconst (x := 1) dX11_takeApart_57 (by decide) ?_
      refine PW.iadd dX11_takeApart_58 ?_
      obtain ⟨hp14, hhp14, h⟩ := bind_some h
      refine PW.putI cls_X11 clw_X11 (j := 9) (by decide) dX11_takeApart_59 wd_904 rfl rfl hhp14 ?_
      refine PW.goto (tgt := 23) dX11_takeApart_62 (by decide) ?_
      exact PW.sub (l' := [(0, .ref (ga K a0)), (2, .int (a2 - (f_X11_monthLong x10 x11)))]) [1, 0] rfl (ih a0 (a2 - (f_X11_monthLong x10 x11)) hp14 _ h)
set_option maxRecDepth 100000 in
set_option maxHeartbeats 4000000 in
theorem mf_X11_takeApart {K : GK} : ∀ (a0 : Nat) (a1 : Int32) (hp : PH) (r : PH), f_X11_takeApart a0 a1 hp = some r → PM K (2) M_X11_takeApart [.ref (ga K a0), .int a1] hp none r := by
  intro a0 a1 hp r h
  unfold f_X11_takeApart at h
  refine PM.enter (l0 := [(0, .ref (ga K a0)), (1, .int a1)]) (by decide +kernel) rfl (Nat.le_of_ble_eq_true rfl) rfl ?_
  refine PW.aload_n 0 dX11_takeApart_0 rfl rfl ?_
  refine PW.iload_n 1 dX11_takeApart_1 rfl rfl ?_
  obtain ⟨q1, hq1, h⟩ := bind_some h
  refine PW.callSi (As := [.int a1]) (rest := [.ref (ga K a0)]) cal_X11_yearOf dX11_takeApart_2 wd_1019 rfl rfl (rmLe (by omega)) (Nat.le_of_ble_eq_true rfl) rm_0 (mf_X11_yearOf a1 _ hq1) ?_
  obtain ⟨hp2, hhp2, h⟩ := bind_some h
  refine PW.putI cls_X11 clw_X11 (j := 8) (by decide) dX11_takeApart_5 wd_903 rfl rfl hhp2 ?_
  refine PW.iload_n 1 dX11_takeApart_8 rfl rfl ?_
  refine PW.aload_n 0 dX11_takeApart_9 rfl rfl ?_
  obtain ⟨x3, hx3, h⟩ := bind_some h
  refine PW.getI cls_X11 (j := 8) (by decide) dX11_takeApart_10 wd_903 hx3 ?_
  refine PW.callSi (As := [.int x3]) (rest := [.int a1]) cal_X11_yearBegin dX11_takeApart_13 wd_999 rfl rfl (rmLe (by omega)) (Nat.le_of_ble_eq_true rfl) rm_0 (mf_X11_yearBegin x3 _ rfl) ?_
  refine PW.isub dX11_takeApart_16 ?_
  refine PW.istore_n (l' := [(2, .int (a1 - (f_X11_yearBegin x3))), (0, .ref (ga K a0)), (1, .int a1)]) dX11_takeApart_17 rfl (by decide) rfl ?_
  refine PW.aload_n 1 dX11_takeApart_18 rfl rfl ?_
  refine PW.iconst (x := 1) dX11_takeApart_19 (by decide) ?_
  obtain ⟨hp5, hhp5, h⟩ := bind_some h
  refine PW.putI cls_X11 clw_X11 (j := 9) (by decide) dX11_takeApart_20 wd_904 rfl rfl hhp5 ?_
  exact PW.sub (l' := [(0, .ref (ga K a0)), (2, .int (a1 - (f_X11_yearBegin x3)))]) [1, 0] rfl (mf_X11_takeApart_L23 NN a0 (a1 - (f_X11_yearBegin x3)) hp5 _ h)
-- X11_isDay
def f_X11_isDay (a0 : Int32) : Option Int32 := (zR (f_X11_in (Int32.toInt64 a0) 0 146096))
set_option maxRecDepth 100000 in
set_option maxHeartbeats 4000000 in
theorem mf_X11_isDay {K : GK} {hp : PH} : ∀ (a0 : Int32) (r : Int32), f_X11_isDay a0 = some r → PM K (1) M_X11_isDay [.int a0] hp (some (.int r)) hp := by
  intro a0 r h
  unfold f_X11_isDay at h
  refine PM.enter (l0 := [(0, .int a0)]) (by decide +kernel) rfl (Nat.le_of_ble_eq_true rfl) rfl ?_
  refine PW.iload_n 0 dX11_isDay_0 rfl rfl ?_
  refine PW.i2l dX11_isDay_1 ?_
  refine PW.lconst (x := 0) dX11_isDay_2 (by decide) ?_
  refine PW.ldc2 (x := 146096) dX11_isDay_3 wd_1013 ?_
  refine PW.callSi (As := [.long (Int32.toInt64 a0), .long 0, .long 146096]) (rest := []) cal_X11_in dX11_isDay_6 wd_986 rfl rfl (rmLe (by omega)) (Nat.le_of_ble_eq_true rfl) rm_0 (mf_X11_in (Int32.toInt64 a0) 0 146096 _ rfl) ?_
  obtain ⟨hz, h⟩ := zR_spec h
  subst h
  exact PW.ret dX11_isDay_9 (z_nar hz).1 rfl
-- X11_day
def f_X11_day (a0 : Nat) (a1 : Int32) (a2 : Int32) (a3 : Int32) (hp : PH) : Option (Int32 × PH) := (if (f_X11_isDate a1 a2 a3) = 0 then (vC hp a0 10 (f_X11_bad a0 (-2) hp)).bind fun q2 => (some (q2.1, q2.2)) else (f_X11_numberOf a1 a2 a3).bind fun q3 => (some (q3, hp)))
set_option maxRecDepth 100000 in
set_option maxHeartbeats 4000000 in
theorem mf_X11_day {K : GK} : ∀ (a0 : Nat) (a1 : Int32) (a2 : Int32) (a3 : Int32) (hp : PH) (r : (Int32 × PH)), f_X11_day a0 a1 a2 a3 hp = some r → PM K (3) M_X11_day [.ref (ga K a0), .int a1, .int a2, .int a3] hp (some (.int r.1)) r.2 := by
  intro a0 a1 a2 a3 hp r h
  unfold f_X11_day at h
  refine PM.enter (l0 := [(0, .ref (ga K a0)), (1, .int a1), (2, .int a2), (3, .int a3)]) (by decide +kernel) rfl (Nat.le_of_ble_eq_true rfl) rfl ?_
  refine PW.iload_n 1 dX11_day_0 rfl rfl ?_
  refine PW.iload_n 2 dX11_day_1 rfl rfl ?_
  refine PW.iload_n 3 dX11_day_2 rfl rfl ?_
  refine PW.callSi (As := [.int a1, .int a2, .int a3]) (rest := []) cal_X11_isDate dX11_day_3 wd_981 rfl rfl (rmLe (by omega)) (Nat.le_of_ble_eq_true rfl) rm_0 (mf_X11_isDate a1 a2 a3 _ rfl) ?_
  refine PW.if_eq (tgt := 18) dX11_day_6 (by decide) (fun c6 => ?_) (fun c6 => ?_)
  · rw [if_pos c6] at h
    refine PW.aload_n 0 dX11_day_18 rfl rfl ?_
    refine PW.bipush (x := (-2)) dX11_day_19 (by decide) ?_
    obtain ⟨q2, hq2, h⟩ := bind_some h
    obtain ⟨hkq2, hcq2, hq2⟩ := vC_spec hq2
    refine PW.callVi (As := [.int (-2)]) (rest := []) (k := a0) cal_X11_bad dX11_day_21 wd_1002 rfl rfl (rmLe (by omega)) (Nat.le_of_ble_eq_true rfl) rm_0 hkq2 hcq2 (mf_X11_bad a0 (-2) hp _ hq2) ?_
    have h := Option.some.inj h; subst h
    exact PW.ret dX11_day_24 trivial rfl
  · rw [if_neg c6] at h
    refine PW.iload_n 1 dX11_day_9 rfl rfl ?_
    refine PW.iload_n 2 dX11_day_10 rfl rfl ?_
    refine PW.iload_n 3 dX11_day_11 rfl rfl ?_
    obtain ⟨q3, hq3, h⟩ := bind_some h
    refine PW.callSi (As := [.int a1, .int a2, .int a3]) (rest := []) cal_X11_numberOf dX11_day_12 wd_996 rfl rfl (rmLe (by omega)) (Nat.le_of_ble_eq_true rfl) rm_0 (mf_X11_numberOf a1 a2 a3 _ hq3) ?_
    refine PW.goto (tgt := 24) dX11_day_15 (by decide) ?_
    have h := Option.some.inj h; subst h
    exact PW.ret dX11_day_24 trivial rfl
-- X11_date
def f_X11_date (a0 : Nat) (a1 : Int32) (a2 : Int32) (hp : PH) : Option (Int32 × PH) := (f_X11_isDay a1).bind fun q1 => (if q1 = 0 then (vC hp a0 10 (f_X11_bad a0 (-2) hp)).bind fun q2 => (some (q2.1, q2.2)) else (if (f_X11_in (Int32.toInt64 a2) 0 2) = 0 then (vC hp a0 10 (f_X11_bad a0 (-2) hp)).bind fun q8 => (some (q8.1, q8.2)) else (vC hp a0 10 (f_X11_takeApart a0 a1 hp)).bind fun q4 => (if a2 = 0 then (gI q4 a0 10 8).bind fun x7 => (some (x7, q4)) else (if a2 = 1 then (gI q4 a0 10 9).bind fun x6 => (some (x6, q4)) else (gI q4 a0 10 10).bind fun x5 => (some (x5, q4))))))
set_option maxRecDepth 100000 in
set_option maxHeartbeats 4000000 in
theorem mf_X11_date {K : GK} : ∀ (a0 : Nat) (a1 : Int32) (a2 : Int32) (hp : PH) (r : (Int32 × PH)), f_X11_date a0 a1 a2 hp = some r → PM K (3) M_X11_date [.ref (ga K a0), .int a1, .int a2] hp (some (.int r.1)) r.2 := by
  intro a0 a1 a2 hp r h
  unfold f_X11_date at h
  refine PM.enter (l0 := [(0, .ref (ga K a0)), (1, .int a1), (2, .int a2)]) (by decide +kernel) rfl (Nat.le_of_ble_eq_true rfl) rfl ?_
  refine PW.iload_n 1 dX11_date_0 rfl rfl ?_
  obtain ⟨q1, hq1, h⟩ := bind_some h
  refine PW.callSi (As := [.int a1]) (rest := []) cal_X11_isDay dX11_date_1 wd_1010 rfl rfl (rmLe (by omega)) (Nat.le_of_ble_eq_true rfl) rm_0 (mf_X11_isDay a1 _ hq1) ?_
  refine PW.if_eq (tgt := 19) dX11_date_4 (by decide) (fun c4 => ?_) (fun c4 => ?_)
  · rw [if_pos c4] at h
    refine PW.aload_n 0 dX11_date_19 rfl rfl ?_
    refine PW.bipush (x := (-2)) dX11_date_20 (by decide) ?_
    obtain ⟨q2, hq2, h⟩ := bind_some h
    obtain ⟨hkq2, hcq2, hq2⟩ := vC_spec hq2
    refine PW.callVi (As := [.int (-2)]) (rest := []) (k := a0) cal_X11_bad dX11_date_22 wd_1002 rfl rfl (rmLe (by omega)) (Nat.le_of_ble_eq_true rfl) rm_0 hkq2 hcq2 (mf_X11_bad a0 (-2) hp _ hq2) ?_
    have h := Option.some.inj h; subst h
    exact PW.ret dX11_date_25 trivial rfl
  · rw [if_neg c4] at h
    refine PW.iload_n 2 dX11_date_7 rfl rfl ?_
    refine PW.i2l dX11_date_8 ?_
    refine PW.lconst (x := 0) dX11_date_9 (by decide) ?_
    refine PW.ldc2 (x := 2) dX11_date_10 wd_1014 ?_
    refine PW.callSi (As := [.long (Int32.toInt64 a2), .long 0, .long 2]) (rest := []) cal_X11_in dX11_date_13 wd_986 rfl rfl (rmLe (by omega)) (Nat.le_of_ble_eq_true rfl) rm_0 (mf_X11_in (Int32.toInt64 a2) 0 2 _ rfl) ?_
    refine PW.if_ne (tgt := 26) dX11_date_16 (by decide) (fun c16 => ?_) (fun c16 => ?_)
    · rw [if_neg c16] at h
      refine PW.aload_n 0 dX11_date_26 rfl rfl ?_
      refine PW.iload_n 1 dX11_date_27 rfl rfl ?_
      obtain ⟨q4, hq4, h⟩ := bind_some h
      obtain ⟨hkq4, hcq4, hq4⟩ := vC_spec hq4
      refine PW.callVv (As := [.int a1]) (rest := []) (k := a0) cal_X11_takeApart dX11_date_28 wd_1015 rfl rfl (rmLe (by omega)) (Nat.le_of_ble_eq_true rfl) rm_0 hkq4 hcq4 (mf_X11_takeApart a0 a1 hp _ hq4) ?_
      refine PW.iload_n 2 dX11_date_31 rfl rfl ?_
      refine PW.if_ne (tgt := 42) dX11_date_32 (by decide) (fun c32 => ?_) (fun c32 => ?_)
      · rw [if_neg c32] at h
        refine PW.iload_n 2 dX11_date_42 rfl rfl ?_
        refine PW.iconst (x := 1) dX11_date_43 (by decide) ?_
        refine PW.icmp_ne (tgt := 54) dX11_date_44 (by decide) (fun c44 => ?_) (fun c44 => ?_)
        · rw [if_neg c44] at h
          refine PW.aload_n 0 dX11_date_54 rfl rfl ?_
          obtain ⟨x5, hx5, h⟩ := bind_some h
          refine PW.getI cls_X11 (j := 10) (by decide) dX11_date_55 wd_905 hx5 ?_
          have h := Option.some.inj h; subst h
          exact PW.ret dX11_date_58 trivial rfl
        · rw [if_pos c44] at h
          refine PW.aload_n 0 dX11_date_47 rfl rfl ?_
          obtain ⟨x6, hx6, h⟩ := bind_some h
          refine PW.getI cls_X11 (j := 9) (by decide) dX11_date_48 wd_904 hx6 ?_
          refine PW.goto (tgt := 58) dX11_date_51 (by decide) ?_
          have h := Option.some.inj h; subst h
          exact PW.ret dX11_date_58 trivial rfl
      · rw [if_pos c32] at h
        refine PW.aload_n 0 dX11_date_35 rfl rfl ?_
        obtain ⟨x7, hx7, h⟩ := bind_some h
        refine PW.getI cls_X11 (j := 8) (by decide) dX11_date_36 wd_903 hx7 ?_
        refine PW.goto (tgt := 58) dX11_date_39 (by decide) ?_
        have h := Option.some.inj h; subst h
        exact PW.ret dX11_date_58 trivial rfl
    · rw [if_pos c16] at h
      refine PW.aload_n 0 dX11_date_19 rfl rfl ?_
      refine PW.bipush (x := (-2)) dX11_date_20 (by decide) ?_
      obtain ⟨q8, hq8, h⟩ := bind_some h
      obtain ⟨hkq8, hcq8, hq8⟩ := vC_spec hq8
      refine PW.callVi (As := [.int (-2)]) (rest := []) (k := a0) cal_X11_bad dX11_date_22 wd_1002 rfl rfl (rmLe (by omega)) (Nat.le_of_ble_eq_true rfl) rm_0 hkq8 hcq8 (mf_X11_bad a0 (-2) hp _ hq8) ?_
      have h := Option.some.inj h; subst h
      exact PW.ret dX11_date_25 trivial rfl
-- X11_isPerson
def f_X11_isPerson (a0 : Nat) (a1 : Int32) (hp : PH) : Option Int32 := (gR hp a0 10 0).bind fun x1 => (aI hp x1 0 0).bind fun x2 => (zR (f_X11_in (Int32.toInt64 a1) 0 (Int32.toInt64 (x2 - 1))))
set_option maxRecDepth 100000 in
set_option maxHeartbeats 4000000 in
theorem mf_X11_isPerson {K : GK} : ∀ (a0 : Nat) (a1 : Int32) (hp : PH) (r : Int32), f_X11_isPerson a0 a1 hp = some r → PM K (1) M_X11_isPerson [.ref (ga K a0), .int a1] hp (some (.int r)) hp := by
  intro a0 a1 hp r h
  unfold f_X11_isPerson at h
  refine PM.enter (l0 := [(0, .ref (ga K a0)), (1, .int a1)]) (by decide +kernel) rfl (Nat.le_of_ble_eq_true rfl) rfl ?_
  refine PW.iload_n 1 dX11_isPerson_0 rfl rfl ?_
  refine PW.i2l dX11_isPerson_1 ?_
  refine PW.lconst (x := 0) dX11_isPerson_2 (by decide) ?_
  refine PW.aload_n 0 dX11_isPerson_3 rfl rfl ?_
  obtain ⟨x1, hx1, h⟩ := bind_some h
  refine PW.getR cls_X11 (j := 0) (by decide) dX11_isPerson_4 wd_895 hx1 ?_
  refine PW.iconst (x := 0) dX11_isPerson_7 (by decide) ?_
  obtain ⟨x2, hx2, h⟩ := bind_some h
  refine PW.iald dX11_isPerson_8 hx2 ?_
  refine PW.iconst (x := 1) dX11_isPerson_9 (by decide) ?_
  refine PW.isub dX11_isPerson_10 ?_
  refine PW.i2l dX11_isPerson_11 ?_
  refine PW.callSi (As := [.long (Int32.toInt64 a1), .long 0, .long (Int32.toInt64 (x2 - 1))]) (rest := []) cal_X11_in dX11_isPerson_12 wd_986 rfl rfl (rmLe (by omega)) (Nat.le_of_ble_eq_true rfl) rm_0 (mf_X11_in (Int32.toInt64 a1) 0 (Int32.toInt64 (x2 - 1)) _ rfl) ?_
  obtain ⟨hz, h⟩ := zR_spec h
  subst h
  exact PW.ret dX11_isPerson_15 (z_nar hz).1 rfl
