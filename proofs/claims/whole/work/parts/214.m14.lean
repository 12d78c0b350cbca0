-- X11_worth
def f_X11_worth_L41 : Nat → Nat → Int32 → Int32 → Int32 → Int32 → PH → Option (Int32 × PH)
  | 0, _, _, _, _, _, _ => none
  | n + 1, a0, a1, a2, a4, a5, hp => (gR hp a0 10 0).bind fun x7 => (aI hp x7 0 0).bind fun x8 => (if (iL 1 x8) ≤ a5 then (some (a4, hp)) else (if (f_X11_has a5 a1) = 0 then ((f_X11_worth_L41 n) a0 a1 a2 (a4 + 0) (a5 + 1) hp) else (vC hp a0 10 (f_X11_whyNot a0 a5 a2 hp)).bind fun q10 => (if q10 = 0 then ((f_X11_worth_L41 n) a0 a1 a2 (a4 + 1) (a5 + 1) hp) else ((f_X11_worth_L41 n) a0 a1 a2 (a4 + 0) (a5 + 1) hp))))
def f_X11_worth (a0 : Nat) (a1 : Int32) (a2 : Int32) (a3 : Int32) (hp : PH) : Option (Int32 × PH) := (vC hp a0 10 (f_X11_isPerson a0 a1 hp)).bind fun q1 => (if q1 = 0 then (vC hp a0 10 (f_X11_bad a0 (-2) hp)).bind fun q2 => (some (q2.1, q2.2)) else (vC hp a0 10 (f_X11_isGate a0 a2 hp)).bind fun q3 => (if q3 = 0 then (vC hp a0 10 (f_X11_bad a0 (-2) hp)).bind fun q4 => (some (q4.1, q4.2)) else (f_X11_isDay a3).bind fun q5 => (if q5 = 0 then (vC hp a0 10 (f_X11_bad a0 (-2) hp)).bind fun q11 => (some (q11.1, q11.2)) else (vC hp a0 10 (f_X11_look a0 a3 hp)).bind fun q6 => (f_X11_worth_L41 NN a0 a1 a2 0 1 q6))))
set_option maxRecDepth 100000 in
set_option maxHeartbeats 4000000 in
theorem mf_X11_worth_L41 {K : GK} : ∀ (n : Nat) (a0 : Nat) (a1 : Int32) (a2 : Int32) (a4 : Int32) (a5 : Int32) (hp : PH) (r : (Int32 × PH)), f_X11_worth_L41 n a0 a1 a2 a4 a5 hp = some r → PW K (rmD (5)) 0 0 M_X11_worth 41 [(0, .ref (ga K a0)), (1, .int a1), (2, .int a2), (4, .int a4), (5, .int a5)] [] hp (some (.int r.1)) r.2 := by
  intro n
  induction n with
  | zero =>
    intro a0 a1 a2 a4 a5 hp r h
    rw [f_X11_worth_L41] at h
    cases h
  | succ n ih =>
    intro a0 a1 a2 a4 a5 hp r h
    rw [f_X11_worth_L41] at h
    refine PW.iload 4 dX11_worth_41 rfl ?_
    refine PW.iconst (x := 1) dX11_worth_43 (by decide) ?_
    refine PW.aload_n 0 dX11_worth_44 rfl rfl ?_
    obtain ⟨x7, hx7, h⟩ := bind_some h
    refine PW.getR cls_X11 (j := 0) (by decide) dX11_worth_45 wd_895 hx7 ?_
    refine PW.iconst (x := 0) dX11_worth_48 (by decide) ?_
    obtain ⟨x8, hx8, h⟩ := bind_some h
    refine PW.iald dX11_worth_49 hx8 ?_
    refine PW.ishl dX11_worth_50 ?_
    refine PW.icmp_ge (tgt := 89) dX11_worth_51 (by decide) (fun c51 => ?_) (fun c51 => ?_)
    · rw [if_pos c51] at h
      refine PW.iload 3 dX11_worth_89 rfl ?_
      have h := Option.some.inj h; subst h
      exact PW.ret dX11_worth_91 trivial rfl
    · rw [if_neg c51] at h
      refine PW.iload 3 dX11_worth_54 rfl ?_
      refine PW.iload 4 dX11_worth_56 rfl ?_
      refine PW.iload_n 1 dX11_worth_58 rfl rfl ?_
      refine PW.callSi (As := [.int a5, .int a1]) (rest := [.int a4]) cal_X11_has dX11_worth_59 wd_1044 rfl rfl (rmLe (by omega)) (Nat.le_of_ble_eq_true rfl) rm_0 (mf_X11_has a5 a1 _ rfl) ?_
      refine PW.if_eq (tgt := 79) dX11_worth_62 (by decide) (fun c62 => ?_) (fun c62 => ?_)
      · rw [if_pos c62] at h
        refine PW.iconst (x := 0) dX11_worth_79 (by decide) ?_
        refine PW.iadd dX11_worth_80 ?_
        refine PW.istore (l' := [(4, .int (a4 + 0)), (0, .ref (ga K a0)), (1, .int a1), (2, .int a2), (5, .int a5)]) dX11_worth_81 (by decide) rfl ?_
        refine PW.iinc 4 (l' := [(5, .int (a5 + 1)), (4, .int (a4 + 0)), (0, .ref (ga K a0)), (1, .int a1), (2, .int a2)]) dX11_worth_83 rfl (x := a5) (y := (a5 + 1)) rfl (by decide) rfl ?_
        refine PW.goto (tgt := 41) dX11_worth_86 (by decide) ?_
        exact PW.sub (l' := [(0, .ref (ga K a0)), (1, .int a1), (2, .int a2), (4, .int (a4 + 0)), (5, .int (a5 + 1))]) [2, 3, 4, 1, 0] rfl (ih a0 a1 a2 (a4 + 0) (a5 + 1) hp _ h)
      · rw [if_neg c62] at h
        refine PW.aload_n 0 dX11_worth_65 rfl rfl ?_
        refine PW.iload 4 dX11_worth_66 rfl ?_
        refine PW.iload_n 2 dX11_worth_68 rfl rfl ?_
        obtain ⟨q10, hq10, h⟩ := bind_some h
        obtain ⟨hkq10, hcq10, hq10⟩ := vC_spec hq10
        refine PW.callVi (As := [.int a5, .int a2]) (rest := [.int a4]) (k := a0) cal_X11_whyNot dX11_worth_69 wd_1079 rfl rfl (rmLe (by omega)) (Nat.le_of_ble_eq_true rfl) rm_0 hkq10 hcq10 (mf_X11_whyNot a0 a5 a2 hp _ hq10) ?_
        refine PW.if_ne (tgt := 79) dX11_worth_72 (by decide) (fun c72 => ?_) (fun c72 => ?_)
        · rw [if_neg c72] at h
          refine PW.iconst (x := 0) dX11_worth_79 (by decide) ?_
          refine PW.iadd dX11_worth_80 ?_
          refine PW.istore (l' := [(4, .int (a4 + 0)), (0, .ref (ga K a0)), (1, .int a1), (2, .int a2), (5, .int a5)]) dX11_worth_81 (by decide) rfl ?_
          refine PW.iinc 4 (l' := [(5, .int (a5 + 1)), (4, .int (a4 + 0)), (0, .ref (ga K a0)), (1, .int a1), (2, .int a2)]) dX11_worth_83 rfl (x := a5) (y := (a5 + 1)) rfl (by decide) rfl ?_
          refine PW.goto (tgt := 41) dX11_worth_86 (by decide) ?_
          exact PW.sub (l' := [(0, .ref (ga K a0)), (1, .int a1), (2, .int a2), (4, .int (a4 + 0)), (5, .int (a5 + 1))]) [2, 3, 4, 1, 0] rfl (ih a0 a1 a2 (a4 + 0) (a5 + 1) hp _ h)
        · rw [if_pos c72] at h
          refine PW.iconst (x := 1) dX11_worth_75 (by decide) ?_
          refine PW.goto (tgt := 80) dX11_worth_76 (by decide) ?_
          refine PW.iadd dX11_worth_80 ?_
          refine PW.istore (l' := [(4, .int (a4 + 1)), (0, .ref (ga K a0)), (1, .int a1), (2, .int a2), (5, .int a5)]) dX11_worth_81 (by decide) rfl ?_
          refine PW.iinc 4 (l' := [(5, .int (a5 + 1)), (4, .int (a4 + 1)), (0, .ref (ga K a0)), (1, .int a1), (2, .int a2)]) dX11_worth_83 rfl (x := a5) (y := (a5 + 1)) rfl (by decide) rfl ?_
          refine PW.goto (tgt := 41) dX11_worth_86 (by decide) ?_
          exact PW.sub (l' := [(0, .ref (ga K a0)), (1, .int a1), (2, .int a2), (4, .int (a4 + 1)), (5, .int (a5 + 1))]) [2, 3, 4, 1, 0] rfl (ih a0 a1 a2 (a4 + 1) (a5 + 1) hp _ h)
set_option maxRecDepth 100000 in
set_option maxHeartbeats 4000000 in
theorem mf_X11_worth {K : GK} : ∀ (a0 : Nat) (a1 : Int32) (a2 : Int32) (a3 : Int32) (hp : PH) (r : (Int32 × PH)), f_X11_worth a0 a1 a2 a3 hp = some r → PM K (5) M_X11_worth [.ref (ga K a0), .int a1, .int a2, .int a3] hp (some (.int r.1)) r.2 := by
  intro a0 a1 a2 a3 hp r h
  unfold f_X11_worth at h
  refine PM.enter (l0 := [(0, .ref (ga K a0)), (1, .int a1), (2, .int a2), (3, .int a3)]) (by decide +kernel) rfl (Nat.le_of_ble_eq_true rfl) rfl ?_
  refine PW.aload_n 0 dX11_worth_0 rfl rfl ?_
  refine PW.iload_n 1 dX11_worth_1 rfl rfl ?_
  obtain ⟨q1, hq1, h⟩ := bind_some h
  obtain ⟨hkq1, hcq1, hq1⟩ := vC_spec hq1
  refine PW.callVi (As := [.int a1]) (rest := []) (k := a0) cal_X11_isPerson dX11_worth_2 wd_1040 rfl rfl (rmLe (by omega)) (Nat.le_of_ble_eq_true rfl) rm_0 hkq1 hcq1 (mf_X11_isPerson a0 a1 hp _ hq1) ?_
  refine PW.if_eq (tgt := 23) dX11_worth_5 (by decide) (fun c5 => ?_) (fun c5 => ?_)
  · rw [if_pos c5] at h
    refine PW.aload_n 0 dX11_worth_23 rfl rfl ?_
    refine PW.bipush (x := (-2)) dX11_worth_24 (by decide) ?_
    obtain ⟨q2, hq2, h⟩ := bind_some h
    obtain ⟨hkq2, hcq2, hq2⟩ := vC_spec hq2
    refine PW.callVi (As := [.int (-2)]) (rest := []) (k := a0) cal_X11_bad dX11_worth_26 wd_1002 rfl rfl (rmLe (by omega)) (Nat.le_of_ble_eq_true rfl) rm_0 hkq2 hcq2 (mf_X11_bad a0 (-2) hp _ hq2) ?_
    have h := Option.some.inj h; subst h
    exact PW.ret dX11_worth_29 trivial rfl
  · rw [if_neg c5] at h
    refine PW.aload_n 0 dX11_worth_8 rfl rfl ?_
    refine PW.iload_n 2 dX11_worth_9 rfl rfl ?_
    obtain ⟨q3, hq3, h⟩ := bind_some h
    obtain ⟨hkq3, hcq3, hq3⟩ := vC_spec hq3
    refine PW.callVi (As := [.int a2]) (rest := []) (k := a0) cal_X11_isGate dX11_worth_10 wd_1075 rfl rfl (rmLe (by omega)) (Nat.le_of_ble_eq_true rfl) rm_0 hkq3 hcq3 (mf_X11_isGate a0 a2 hp _ hq3) ?_
    refine PW.if_eq (tgt := 23) dX11_worth_13 (by decide) (fun c13 => ?_) (fun c13 => ?_)
    · rw [if_pos c13] at h
      refine PW.aload_n 0 dX11_worth_23 rfl rfl ?_
      refine PW.bipush (x := (-2)) dX11_worth_24 (by decide) ?_
      obtain ⟨q4, hq4, h⟩ := bind_some h
      obtain ⟨hkq4, hcq4, hq4⟩ := vC_spec hq4
      refine PW.callVi (As := [.int (-2)]) (rest := []) (k := a0) cal_X11_bad dX11_worth_26 wd_1002 rfl rfl (rmLe (by omega)) (Nat.le_of_ble_eq_true rfl) rm_0 hkq4 hcq4 (mf_X11_bad a0 (-2) hp _ hq4) ?_
      have h := Option.some.inj h; subst h
      exact PW.ret dX11_worth_29 trivial rfl
    · rw [if_neg c13] at h
      refine PW.iload_n 3 dX11_worth_16 rfl rfl ?_
      obtain ⟨q5, hq5, h⟩ := bind_some h
      refine PW.callSi (As := [.int a3]) (rest := []) cal_X11_isDay dX11_worth_17 wd_1010 rfl rfl (rmLe (by omega)) (Nat.le_of_ble_eq_true rfl) rm_0 (mf_X11_isDay a3 _ hq5) ?_
      refine PW.if_ne (tgt := 30) dX11_worth_20 (by decide) (fun c20 => ?_) (fun c20 => ?_)
      · rw [if_neg c20] at h
        refine PW.aload_n 0 dX11_worth_30 rfl rfl ?_
        refine PW.iload_n 3 dX11_worth_31 rfl rfl ?_
        obtain ⟨q6, hq6, h⟩ := bind_some h
        obtain ⟨hkq6, hcq6, hq6⟩ := vC_spec hq6
        refine PW.callVv (As := [.int a3]) (rest := []) (k := a0) cal_X11_look dX11_worth_32 wd_1055 rfl rfl (rmLe (by omega)) (Nat.le_of_ble_eq_true rfl) rm_0 hkq6 hcq6 (mf_X11_look a0 a3 hp _ hq6) ?_
        refine PW.iconst (x := 0) dX11_worth_35 (by decide) ?_
        refine PW.istore (l' := [(4, .int 0), (0, .ref (ga K a0)), (1, .int a1), (2, .int a2), (3, .int a3)]) dX11_worth_36 (by decide) rfl ?_
        refine PW.iconst (x := 1) dX11_worth_38 (by decide) ?_
        refine PW.istore (l' := [(5, .int 1), (4, .int 0), (0, .ref (ga K a0)), (1, .int a1), (2, .int a2), (3, .int a3)]) dX11_worth_39 (by decide) rfl ?_
        exact PW.sub (l' := [(0, .ref (ga K a0)), (1, .int a1), (2, .int a2), (4, .int 0), (5, .int 1)]) [2, 3, 4, 1, 0] rfl (mf_X11_worth_L41 NN a0 a1 a2 0 1 q6 _ h)
      · rw [if_pos c20] at h
        refine PW.aload_n 0 dX11_worth_23 rfl rfl ?_
        refine PW.bipush (x := (-2)) dX11_worth_24 (by decide) ?_
        obtain ⟨q11, hq11, h⟩ := bind_some h
        obtain ⟨hkq11, hcq11, hq11⟩ := vC_spec hq11
        refine PW.callVi (As := [.int (-2)]) (rest := []) (k := a0) cal_X11_bad dX11_worth_26 wd_1002 rfl rfl (rmLe (by omega)) (Nat.le_of_ble_eq_true rfl) rm_0 hkq11 hcq11 (mf_X11_bad a0 (-2) hp _ hq11) ?_
        have h := Option.some.inj h; subst h
        exact PW.ret dX11_worth_29 trivial rfl
-- X11_dates
def f_X11_dates_L73 : Nat → Nat → Int32 → Int32 → Int32 → Int32 → Int32 → PH → Option (Int32 × PH)
  | 0, _, _, _, _, _, _, _ => none
  | n + 1, a0, a1, a2, a4, a5, a6, hp => (if a5 ≤ a6 then (some (a4, hp)) else (vC hp a0 10 (f_X11_layAges a0 a6 hp)).bind fun q10 => (vC q10 a0 10 (f_X11_whyNot a0 a1 a2 q10)).bind fun q11 => (if q11 = 0 then ((f_X11_dates_L73 n) a0 a1 a2 (a4 + 1) a5 (a6 + 1) q10) else ((f_X11_dates_L73 n) a0 a1 a2 (a4 + 0) a5 (a6 + 1) q10)))
def f_X11_dates (a0 : Nat) (a1 : Int32) (a2 : Int32) (a3 : Int32) (hp : PH) : Option (Int32 × PH) := (vC hp a0 10 (f_X11_isCompany a0 a1 hp)).bind fun q1 => (if q1 = 0 then (vC hp a0 10 (f_X11_bad a0 (-2) hp)).bind fun q2 => (some (q2.1, q2.2)) else (vC hp a0 10 (f_X11_isGate a0 a2 hp)).bind fun q3 => (if q3 = 0 then (vC hp a0 10 (f_X11_bad a0 (-2) hp)).bind fun q4 => (some (q4.1, q4.2)) else (if (f_X11_in (Int32.toInt64 a3) 1800 2199) = 0 then (vC hp a0 10 (f_X11_bad a0 (-2) hp)).bind fun q13 => (some (q13.1, q13.2)) else (vC hp a0 10 (f_X11_layBirths a0 hp)).bind fun q6 => (if (f_X11_isLeap a3) = 0 then (f_X11_dates_L73 NN a0 a1 a2 0 ((f_X11_yearBegin a3) + 365) (f_X11_yearBegin a3) q6) else (f_X11_dates_L73 NN a0 a1 a2 0 ((f_X11_yearBegin a3) + 366) (f_X11_yearBegin a3) q6)))))
set_option maxRecDepth 100000 in
set_option maxHeartbeats 4000000 in
theorem mf_X11_dates_L73 {K : GK} : ∀ (n : Nat) (a0 : Nat) (a1 : Int32) (a2 : Int32) (a4 : Int32) (a5 : Int32) (a6 : Int32) (hp : PH) (r : (Int32 × PH)), f_X11_dates_L73 n a0 a1 a2 a4 a5 a6 hp = some r → PW K (rmD (4)) 0 0 M_X11_dates 73 [(0, .ref (ga K a0)), (1, .int a1), (2, .int a2), (4, .int a4), (5, .int a5), (6, .int a6)] [] hp (some (.int r.1)) r.2 := by
  intro n
  induction n with
  | zero =>
    intro a0 a1 a2 a4 a5 a6 hp r h
    rw [f_X11_dates_L73] at h
    cases h
  | succ n ih =>
    intro a0 a1 a2 a4 a5 a6 hp r h
    rw [f_X11_dates_L73] at h
    refine PW.iload 5 dX11_dates_73 rfl ?_
    refine PW.iload 4 dX11_dates_75 rfl ?_
    refine PW.icmp_ge (tgt := 111) dX11_dates_77 (by decide) (fun c77 => ?_) (fun c77 => ?_)
    · rw [if_pos c77] at h
      refine PW.iload 3 dX11_dates_111 rfl ?_
      have h := Option.some.inj h; subst h
      exact PW.ret dX11_dates_113 trivial rfl
    · rw [if_neg c77] at h
      refine PW.aload_n 0 dX11_dates_80 rfl rfl ?_
      refine PW.iload 5 dX11_dates_81 rfl ?_
      obtain ⟨q10, hq10, h⟩ := bind_some h
      obtain ⟨hkq10, hcq10, hq10⟩ := vC_spec hq10
      refine PW.callVv (As := [.int a6]) (rest := []) (k := a0) cal_X11_layAges dX11_dates_83 wd_1063 rfl rfl (rmLe (by omega)) (Nat.le_of_ble_eq_true rfl) rm_0 hkq10 hcq10 (mf_X11_layAges a0 a6 hp _ hq10) ?_
      refine PW.iload 3 dX11_dates_86 rfl ?_
      refine PW.aload_n 0 dX11_dates_88 rfl rfl ?_
      refine PW.iload_n 1 dX11_dates_89 rfl rfl ?_
      refine PW.iload_n 2 dX11_dates_90 rfl rfl ?_
      obtain ⟨q11, hq11, h⟩ := bind_some h
      obtain ⟨hkq11, hcq11, hq11⟩ := vC_spec hq11
      refine PW.callVi (As := [.int a1, .int a2]) (rest := [.int a4]) (k := a0) cal_X11_whyNot dX11_dates_91 wd_1079 rfl rfl (rmLe (by omega)) (Nat.le_of_ble_eq_true rfl) rm_0 hkq11 hcq11 (mf_X11_whyNot a0 a1 a2 q10 _ hq11) ?_
      refine PW.if_ne (tgt := 101) dX11_dates_94 (by decide) (fun c94 => ?_) (fun c94 => ?_)
      · rw [if_neg c94] at h
        refine PW.iconst (x := 0) dX11_dates_101 (by decide) ?_
        refine PW.iadd dX11_dates_102 ?_
        refine PW.istore (l' := [(4, .int (a4 + 0)), (0, .ref (ga K a0)), (1, .int a1), (2, .int a2), (5, .int a5), (6, .int a6)]) dX11_dates_103 (by decide) rfl ?_
        refine PW.iinc 5 (l' := [(6, .int (a6 + 1)), (4, .int (a4 + 0)), (0, .ref (ga K a0)), (1, .int a1), (2, .int a2), (5, .int a5)]) dX11_dates_105 rfl (x := a6) (y := (a6 + 1)) rfl (by decide) rfl ?_
        refine PW.goto (tgt := 73) dX11_dates_108 (by decide) ?_
        exact PW.sub (l' := [(0, .ref (ga K a0)), (1, .int a1), (2, .int a2), (4, .int (a4 + 0)), (5, .int a5), (6, .int (a6 + 1))]) [2, 3, 4, 1, 5, 0] rfl (ih a0 a1 a2 (a4 + 0) a5 (a6 + 1) q10 _ h)
      · rw [if_pos c94] at h
        refine PW.iconst (x := 1) dX11_dates_97 (by decide) ?_
        refine PW.goto (tgt := 102) dX11_dates_98 (by decide) ?_
        refine PW.iadd dX11_dates_102 ?_
        refine PW.istore (l' := [(4, .int (a4 + 1)), (0, .ref (ga K a0)), (1, .int a1), (2, .int a2), (5, .int a5), (6, .int a6)]) dX11_dates_103 (by decide) rfl ?_
        refine PW.iinc 5 (l' := [(6, .int (a6 + 1)), (4, .int (a4 + 1)), (0, .ref (ga K a0)), (1, .int a1), (2, .int a2), (5, .int a5)]) dX11_dates_105 rfl (x := a6) (y := (a6 + 1)) rfl (by decide) rfl ?_
        refine PW.goto (tgt := 73) dX11_dates_108 (by decide) ?_
        exact PW.sub (l' := [(0, .ref (ga K a0)), (1, .int a1), (2, .int a2), (4, .int (a4 + 1)), (5, .int a5), (6, .int (a6 + 1))]) [2, 3, 4, 1, 5, 0] rfl (ih a0 a1 a2 (a4 + 1) a5 (a6 + 1) q10 _ h)
set_option maxRecDepth 100000 in
set_option maxHeartbeats 4000000 in
theorem mf_X11_dates {K : GK} : ∀ (a0 : Nat) (a1 : Int32) (a2 : Int32) (a3 : Int32) (hp : PH) (r : (Int32 × PH)), f_X11_dates a0 a1 a2 a3 hp = some r → PM K (4) M_X11_dates [.ref (ga K a0), .int a1, .int a2, .int a3] hp (some (.int r.1)) r.2 := by
  intro a0 a1 a2 a3 hp r h
  unfold f_X11_dates at h
  refine PM.enter (l0 := [(0, .ref (ga K a0)), (1, .int a1), (2, .int a2), (3, .int a3)]) (by decide +kernel) rfl (Nat.le_of_ble_eq_true rfl) rfl ?_
  refine PW.aload_n 0 dX11_dates_0 rfl rfl ?_
  refine PW.iload_n 1 dX11_dates_1 rfl rfl ?_
  obtain ⟨q1, hq1, h⟩ := bind_some h
  obtain ⟨hkq1, hcq1, hq1⟩ := vC_spec hq1
  refine PW.callVi (As := [.int a1]) (rest := []) (k := a0) cal_X11_isCompany dX11_dates_2 wd_1071 rfl rfl (rmLe (by omega)) (Nat.le_of_ble_eq_true rfl) rm_0 hkq1 hcq1 (mf_X11_isCompany a0 a1 hp _ hq1) ?_
  refine PW.if_eq (tgt := 30) dX11_dates_5 (by decide) (fun c5 => ?_) (fun c5 => ?_)
  · rw [if_pos c5] at h
    refine PW.aload_n 0 dX11_dates_30 rfl rfl ?_
    refine PW.bipush (x := (-2)) dX11_dates_31 (by decide) ?_
    obtain ⟨q2, hq2, h⟩ := bind_some h
    obtain ⟨hkq2, hcq2, hq2⟩ := vC_spec hq2
    refine PW.callVi (As := [.int (-2)]) (rest := []) (k := a0) cal_X11_bad dX11_dates_33 wd_1002 rfl rfl (rmLe (by omega)) (Nat.le_of_ble_eq_true rfl) rm_0 hkq2 hcq2 (mf_X11_bad a0 (-2) hp _ hq2) ?_
    have h := Option.some.inj h; subst h
    exact PW.ret dX11_dates_36 trivial rfl
  · rw [if_neg c5] at h
    refine PW.aload_n 0 dX11_dates_8 rfl rfl ?_
    refine PW.iload_n 2 dX11_dates_9 rfl rfl ?_
    obtain ⟨q3, hq3, h⟩ := bind_some h
    obtain ⟨hkq3, hcq3, hq3⟩ := vC_spec hq3
    refine PW.callVi (As := [.int a2]) (rest := []) (k := a0) cal_X11_isGate dX11_dates_10 wd_1075 rfl rfl (rmLe (by omega)) (Nat.le_of_ble_eq_true rfl) rm_0 hkq3 hcq3 (mf_X11_isGate a0 a2 hp _ hq3) ?_
    refine PW.if_eq (tgt := 30) dX11_dates_13 (by decide) (fun c13 => ?_) (fun c13 => ?_)
    · rw [if_pos c13] at h
      refine PW.aload_n 0 dX11_dates_30 rfl rfl ?_
      refine PW.bipush (x := (-2)) dX11_dates_31 (by decide) ?_
      obtain ⟨q4, hq4, h⟩ := bind_some h
      obtain ⟨hkq4, hcq4, hq4⟩ := vC_spec hq4
      refine PW.callVi (As := [.int (-2)]) (rest := []) (k := a0) cal_X11_bad dX11_dates_33 wd_1002 rfl rfl (rmLe (by omega)) (Nat.le_of_ble_eq_true rfl) rm_0 hkq4 hcq4 (mf_X11_bad a0 (-2) hp _ hq4) ?_
      have h := Option.some.inj h; subst h
      exact PW.ret dX11_dates_36 trivial rfl
    · rw [if_neg c13] at h
      refine PW.iload_n 3 dX11_dates_16 rfl rfl ?_
      refine PW.i2l dX11_dates_17 ?_
      refine PW.ldc2 (x := 1800) dX11_dates_18 wd_984 ?_
      refine PW.ldc2 (x := 2199) dX11_dates_21 wd_985 ?_
      refine PW.callSi (As := [.long (Int32.toInt64 a3), .long 1800, .long 2199]) (rest := []) cal_X11_in dX11_dates_24 wd_986 rfl rfl (rmLe (by omega)) (Nat.le_of_ble_eq_true rfl) rm_0 (mf_X11_in (Int32.toInt64 a3) 1800 2199 _ rfl) ?_
      refine PW.if_ne (tgt := 37) dX11_dates_27 (by decide) (fun c27 => ?_) (fun c27 => ?_)
      · rw [if_neg c27] at h
        refine PW.aload_n 0 dX11_dates_37 rfl rfl ?_
        obtain ⟨q6, hq6, h⟩ := bind_some h
        obtain ⟨hkq6, hcq6, hq6⟩ := vC_spec hq6
        refine PW.callVv (As := []) (rest := []) (k := a0) cal_X11_layBirths dX11_dates_38 wd_1059 rfl rfl (rmLe (by omega)) (Nat.le_of_ble_eq_true rfl) rm_0 hkq6 hcq6 (mf_X11_layBirths a0 hp _ hq6) ?_
        refine PW.iconst (x := 0) dX11_dates_41 (by decide) ?_
        refine PW.istore (l' := [(4, .int 0), (0, .ref (ga K a0)), (1, .int a1), (2, .int a2), (3, .int a3)]) dX11_dates_42 (by decide) rfl ?_
        refine PW.iload_n 4 dX11_dates_44 rfl rfl ?_
        refine PW.callSi (As := [.int a3]) (rest := []) cal_X11_yearBegin dX11_dates_45 wd_999 rfl rfl (rmLe (by omega)) (Nat.le_of_ble_eq_true rfl) rm_0 (mf_X11_yearBegin a3 _ rfl) ?_
        refine PW.iload_n 4 dX11_dates_48 rfl rfl ?_
        refine PW.callSi (As := [.int a3]) (rest := [.int (f_X11_yearBegin a3)]) cal_X11_isLeap dX11_dates_49 wd_993 rfl rfl (rmLe (by omega)) (Nat.le_of_ble_eq_true rfl) rm_0 (mf_X11_isLeap a3 _ rfl) ?_
        refine PW.if_eq (tgt := 61) dX11_dates_52 (by decide) (fun c52 => ?_) (fun c52 => ?_)
        · rw [if_pos c52] at h
          refine PW.sipush (x := 365) dX11_dates_61 (by decide) ?_
          refine PW.iadd dX11_dates_64 ?_
          refine PW.istore (l' := [(5, .int ((f_X11_yearBegin a3) + 365)), (4, .int 0), (0, .ref (ga K a0)), (1, .int a1), (2, .int a2), (3, .int a3)]) dX11_dates_65 (by decide) rfl ?_
          refine PW.iload_n 5 dX11_dates_67 rfl rfl ?_
          refine PW.callSi (As := [.int a3]) (rest := []) cal_X11_yearBegin dX11_dates_68 wd_999 rfl rfl (rmLe (by omega)) (Nat.le_of_ble_eq_true rfl) rm_0 (mf_X11_yearBegin a3 _ rfl) ?_
          refine PW.istore (l' := [(6, .int (f_X11_yearBegin a3)), (5, .int ((f_X11_yearBegin a3) + 365)), (4, .int 0), (0, .ref (ga K a0)), (1, .int a1), (2, .int a2), (3, .int a3)]) dX11_dates_71 (by decide) rfl ?_
          exact PW.sub (l' := [(0, .ref (ga K a0)), (1, .int a1), (2, .int a2), (4, .int 0), (5, .int ((f_X11_yearBegin a3) + 365)), (6, .int (f_X11_yearBegin a3))]) [3, 4, 5, 2, 1, 0] rfl (mf_X11_dates_L73 NN a0 a1 a2 0 ((f_X11_yearBegin a3) + 365) (f_X11_yearBegin a3) q6 _ h)
        · rw [if_neg c52] at h
          refine PW.sipush (x := 366) dX11_dates_55 (by decide) ?_
          refine PW.goto (tgt := 64) dX11_dates_58 (by decide) ?_
          refine PW.iadd dX11_dates_64 ?_
          refine PW.istore (l' := [(5, .int ((f_X11_yearBegin a3) + 366)), (4, .int 0), (0, .ref (ga K a0)), (1, .int a1), (2, .int a2), (3, .int a3)]) dX11_dates_65 (by decide) rfl ?_
          refine PW.iload_n 5 dX11_dates_67 rfl rfl ?_
          refine PW.callSi (As := [.int a3]) (rest := []) cal_X11_yearBegin dX11_dates_68 wd_999 rfl rfl (rmLe (by omega)) (Nat.le_of_ble_eq_true rfl) rm_0 (mf_X11_yearBegin a3 _ rfl) ?_
          refine PW.istore (l' := [(6, .int (f_X11_yearBegin a3)), (5, .int ((f_X11_yearBegin a3) + 366)), (4, .int 0), (0, .ref (ga K a0)), (1, .int a1), (2, .int a2), (3, .int a3)]) dX11_dates_71 (by decide) rfl ?_
          exact PW.sub (l' := [(0, .ref (ga K a0)), (1, .int a1), (2, .int a2), (4, .int 0), (5, .int ((f_X11_yearBegin a3) + 366)), (6, .int (f_X11_yearBegin a3))]) [3, 4, 5, 2, 1, 0] rfl (mf_X11_dates_L73 NN a0 a1 a2 0 ((f_X11_yearBegin a3) + 366) (f_X11_yearBegin a3) q6 _ h)
      · rw [if_pos c27] at h
        refine PW.aload_n 0 dX11_dates_30 rfl rfl ?_
        refine PW.bipush (x := (-2)) dX11_dates_31 (by decide) ?_
        obtain ⟨q13, hq13, h⟩ := bind_some h
        obtain ⟨hkq13, hcq13, hq13⟩ := vC_spec hq13
        refine PW.callVi (As := [.int (-2)]) (rest := []) (k := a0) cal_X11_bad dX11_dates_33 wd_1002 rfl rfl (rmLe (by omega)) (Nat.le_of_ble_eq_true rfl) rm_0 hkq13 hcq13 (mf_X11_bad a0 (-2) hp _ hq13) ?_
        have h := Option.some.inj h; subst h
        exact PW.ret dX11_dates_36 trivial rfl
-- X11_next
def f_X11_next_L32 : Nat → Nat → Int32 → Int32 → Int32 → PH → Option (Int32 × PH)
  | 0, _, _, _, _, _ => none
  | n + 1, a0, a1, a2, a4, hp => (if 146097 ≤ a4 then (some ((-1), hp)) else (vC hp a0 10 (f_X11_layAges a0 a4 hp)).bind fun q5 => (vC q5 a0 10 (f_X11_whyNot a0 a1 a2 q5)).bind fun q6 => (if q6 = 0 then (some (a4, q5)) else ((f_X11_next_L32 n) a0 a1 a2 (a4 + 1) q5)))
def f_X11_next (a0 : Nat) (a1 : Int32) (a2 : Int32) (a3 : Int32) (hp : PH) : Option (Int32 × PH) := (vC hp a0 10 (f_X11_isCompany a0 a1 hp)).bind fun q1 => (if q1 = 0 then (vC hp a0 10 (f_X11_bad a0 (-2) hp)).bind fun q2 => (some (q2.1, q2.2)) else (vC hp a0 10 (f_X11_isLook a0 a1 a2 a3 hp)).bind fun q3 => (if q3 = 0 then (vC hp a0 10 (f_X11_bad a0 (-2) hp)).bind fun q7 => (some (q7.1, q7.2)) else (vC hp a0 10 (f_X11_layBirths a0 hp)).bind fun q4 => (f_X11_next_L32 NN a0 a1 a2 a3 q4)))
set_option maxRecDepth 100000 in
set_option maxHeartbeats 4000000 in
theorem mf_X11_next_L32 {K : GK} : ∀ (n : Nat) (a0 : Nat) (a1 : Int32) (a2 : Int32) (a4 : Int32) (hp : PH) (r : (Int32 × PH)), f_X11_next_L32 n a0 a1 a2 a4 hp = some r → PW K (rmD (4)) 0 0 M_X11_next 32 [(0, .ref (ga K a0)), (1, .int a1), (2, .int a2), (4, .int a4)] [] hp (some (.int r.1)) r.2 := by
  intro n
  induction n with
  | zero =>
    intro a0 a1 a2 a4 hp r h
    rw [f_X11_next_L32] at h
    cases h
  | succ n ih =>
    intro a0 a1 a2 a4 hp r h
    rw [f_X11_next_L32] at h
    refine PW.iload 3 dX11_next_32 rfl ?_
    refine PW.ldc (x := 146097) dX11_next_34 wd_1193 ?_
    refine PW.icmp_ge (tgt := 63) dX11_next_36 (by decide) (fun c36 => ?_) (fun c36 => ?_)
    · rw [if_pos c36] at h
      refine PW.iconst (x := (-1)) dX11_next_63 (by decide) ?_
      have h := Option.some.inj h; subst h
      exact PW.ret dX11_next_64 trivial rfl
    · rw [if_neg c36] at h
      refine PW.aload_n 0 dX11_next_39 rfl rfl ?_
      refine PW.iload 3 dX11_next_40 rfl ?_
      obtain ⟨q5, hq5, h⟩ := bind_some h
      obtain ⟨hkq5, hcq5, hq5⟩ := vC_spec hq5
      refine PW.callVv (As := [.int a4]) (rest := []) (k := a0) cal_X11_layAges dX11_next_42 wd_1063 rfl rfl (rmLe (by omega)) (Nat.le_of_ble_eq_true rfl) rm_0 hkq5 hcq5 (mf_X11_layAges a0 a4 hp _ hq5) ?_
      refine PW.aload_n 0 dX11_next_45 rfl rfl ?_
      refine PW.iload_n 1 dX11_next_46 rfl rfl ?_
      refine PW.iload_n 2 dX11_next_47 rfl rfl ?_
      obtain ⟨q6, hq6, h⟩ := bind_some h
      obtain ⟨hkq6, hcq6, hq6⟩ := vC_spec hq6
      refine PW.callVi (As := [.int a1, .int a2]) (rest := []) (k := a0) cal_X11_whyNot dX11_next_48 wd_1079 rfl rfl (rmLe (by omega)) (Nat.le_of_ble_eq_true rfl) rm_0 hkq6 hcq6 (mf_X11_whyNot a0 a1 a2 q5 _ hq6) ?_
      refine PW.if_ne (tgt := 57) dX11_next_51 (by decide) (fun c51 => ?_) (fun c51 => ?_)
      · rw [if_neg c51] at h
        refine PW.iinc 3 (l' := [(4, .int (a4 + 1)), (0, .ref (ga K a0)), (1, .int a1), (2, .int a2)]) dX11_next_57 rfl (x := a4) (y := (a4 + 1)) rfl (by decide) rfl ?_
        refine PW.goto (tgt := 32) dX11_next_60 (by decide) ?_
        exact PW.sub (l' := [(0, .ref (ga K a0)), (1, .int a1), (2, .int a2), (4, .int (a4 + 1))]) [1, 2, 3, 0] rfl (ih a0 a1 a2 (a4 + 1) q5 _ h)
      · rw [if_pos c51] at h
        refine PW.iload 3 dX11_next_54 rfl ?_
        have h := Option.some.inj h; subst h
        exact PW.ret dX11_next_56 trivial rfl
set_option maxRecDepth 100000 in
set_option maxHeartbeats 4000000 in
theorem mf_X11_next {K : GK} : ∀ (a0 : Nat) (a1 : Int32) (a2 : Int32) (a3 : Int32) (hp : PH) (r : (Int32 × PH)), f_X11_next a0 a1 a2 a3 hp = some r → PM K (4) M_X11_next [.ref (ga K a0), .int a1, .int a2, .int a3] hp (some (.int r.1)) r.2 := by
  intro a0 a1 a2 a3 hp r h
  unfold f_X11_next at h
  refine PM.enter (l0 := [(0, .ref (ga K a0)), (1, .int a1), (2, .int a2), (3, .int a3)]) (by decide +kernel) rfl (Nat.le_of_ble_eq_true rfl) rfl ?_
  refine PW.aload_n 0 dX11_next_0 rfl rfl ?_
  refine PW.iload_n 1 dX11_next_1 rfl rfl ?_
  obtain ⟨q1, hq1, h⟩ := bind_some h
  obtain ⟨hkq1, hcq1, hq1⟩ := vC_spec hq1
  refine PW.callVi (As := [.int a1]) (rest := []) (k := a0) cal_X11_isCompany dX11_next_2 wd_1071 rfl rfl (rmLe (by omega)) (Nat.le_of_ble_eq_true rfl) rm_0 hkq1 hcq1 (mf_X11_isCompany a0 a1 hp _ hq1) ?_
  refine PW.if_eq (tgt := 18) dX11_next_5 (by decide) (fun c5 => ?_) (fun c5 => ?_)
  · rw [if_pos c5] at h
    refine PW.aload_n 0 dX11_next_18 rfl rfl ?_
    refine PW.bipush (x := (-2)) dX11_next_19 (by decide) ?_
    obtain ⟨q2, hq2, h⟩ := bind_some h
    obtain ⟨hkq2, hcq2, hq2⟩ := vC_spec hq2
    refine PW.callVi (As := [.int (-2)]) (rest := []) (k := a0) cal_X11_bad dX11_next_21 wd_1002 rfl rfl (rmLe (by omega)) (Nat.le_of_ble_eq_true rfl) rm_0 hkq2 hcq2 (mf_X11_bad a0 (-2) hp _ hq2) ?_
    have h := Option.some.inj h; subst h
    exact PW.ret dX11_next_24 trivial rfl
  · rw [if_neg c5] at h
    refine PW.aload_n 0 dX11_next_8 rfl rfl ?_
    refine PW.iload_n 1 dX11_next_9 rfl rfl ?_
    refine PW.iload_n 2 dX11_next_10 rfl rfl ?_
    refine PW.iload_n 3 dX11_next_11 rfl rfl ?_
    obtain ⟨q3, hq3, h⟩ := bind_some h
    obtain ⟨hkq3, hcq3, hq3⟩ := vC_spec hq3
    refine PW.callVi (As := [.int a1, .int a2, .int a3]) (rest := []) (k := a0) cal_X11_isLook dX11_next_12 wd_1151 rfl rfl (rmLe (by omega)) (Nat.le_of_ble_eq_true rfl) rm_0 hkq3 hcq3 (mf_X11_isLook a0 a1 a2 a3 hp _ hq3) ?_
    refine PW.if_ne (tgt := 25) dX11_next_15 (by decide) (fun c15 => ?_) (fun c15 => ?_)
    · rw [if_neg c15] at h
      refine PW.aload_n 0 dX11_next_25 rfl rfl ?_
      obtain ⟨q4, hq4, h⟩ := bind_some h
      obtain ⟨hkq4, hcq4, hq4⟩ := vC_spec hq4
      refine PW.callVv (As := []) (rest := []) (k := a0) cal_X11_layBirths dX11_next_26 wd_1059 rfl rfl (rmLe (by omega)) (Nat.le_of_ble_eq_true rfl) rm_0 hkq4 hcq4 (mf_X11_layBirths a0 hp _ hq4) ?_
      refine PW.iload_n 3 dX11_next_29 rfl rfl ?_
      refine PW.istore (l' := [(4, .int a3), (0, .ref (ga K a0)), (1, .int a1), (2, .int a2), (3, .int a3)]) dX11_next_30 (by decide) rfl ?_
      exact PW.sub (l' := [(0, .ref (ga K a0)), (1, .int a1), (2, .int a2), (4, .int a3)]) [1, 2, 3, 0] rfl (mf_X11_next_L32 NN a0 a1 a2 a3 q4 _ h)
    · rw [if_pos c15] at h
      refine PW.aload_n 0 dX11_next_18 rfl rfl ?_
      refine PW.bipush (x := (-2)) dX11_next_19 (by decide) ?_
      obtain ⟨q7, hq7, h⟩ := bind_some h
      obtain ⟨hkq7, hcq7, hq7⟩ := vC_spec hq7
      refine PW.callVi (As := [.int (-2)]) (rest := []) (k := a0) cal_X11_bad dX11_next_21 wd_1002 rfl rfl (rmLe (by omega)) (Nat.le_of_ble_eq_true rfl) rm_0 hkq7 hcq7 (mf_X11_bad a0 (-2) hp _ hq7) ?_
      have h := Option.some.inj h; subst h
      exact PW.ret dX11_next_24 trivial rfl
-- X11_areOther
def f_X11_areOther_J38 (k4 : Nat → Int32 → Int32 → PH → Option (Int32 × PH)) (a0 : Nat) (a2 : Int32) (s0 : Int32) (hp : PH) : Option (Int32 × PH) := (gR hp a0 10 24).bind fun x3 => (gR hp a0 10 13).bind fun x4 => (aI hp x4 0 a2).bind fun x5 => (uI hp x3 a2 x5).bind fun hp6 => (k4 a0 s0 (a2 + 1) hp6)
def f_X11_areOther_L4 : Nat → Nat → Int32 → Int32 → PH → Option (Int32 × PH)
  | 0, _, _, _, _ => none
  | n + 1, a0, a1, a2, hp => (gR hp a0 10 0).bind fun x1 => (aI hp x1 0 0).bind fun x2 => (if x2 ≤ a2 then ((zR a1).bind fun z => some (z, hp)) else (if a1 = 0 then (gR hp a0 10 13).bind fun x7 => (aI hp x7 0 a2).bind fun x8 => (gR hp a0 10 24).bind fun x9 => (aI hp x9 0 a2).bind fun x10 => (if x8 = x10 then (f_X11_areOther_J38 (f_X11_areOther_L4 n) a0 a2 0 hp) else (f_X11_areOther_J38 (f_X11_areOther_L4 n) a0 a2 1 hp)) else (f_X11_areOther_J38 (f_X11_areOther_L4 n) a0 a2 1 hp)))
def f_X11_areOther (a0 : Nat) (hp : PH) : Option (Int32 × PH) := (f_X11_areOther_L4 NN a0 0 0 hp)
set_option maxRecDepth 100000 in
set_option maxHeartbeats 4000000 in
theorem mf_X11_areOther_J38 {K : GK} {k4 : Nat → Int32 → Int32 → PH → Option (Int32 × PH)} (hk4 : ∀ (a0 : Nat) (a1 : Int32) (a2 : Int32) (hp : PH) (r : (Int32 × PH)), k4 a0 a1 a2 hp = some r → PW K (rmD (0)) 0 0 M_X11_areOther 4 [(0, .ref (ga K a0)), (1, .int a1), (2, .int a2)] [] hp (some (.int r.1)) r.2) : ∀ (a0 : Nat) (a2 : Int32) (s0 : Int32) (hp : PH) (r : (Int32 × PH)), f_X11_areOther_J38 k4 a0 a2 s0 hp = some r → PW K (rmD (0)) 0 0 M_X11_areOther 38 [(0, .ref (ga K a0)), (2, .int a2)] [.int s0] hp (some (.int r.1)) r.2 := by
  intro a0 a2 s0 hp r h
  unfold f_X11_areOther_J38 at h
  refine PW.istore_n (l' := [(1, .int s0), (0, .ref (ga K a0)), (2, .int a2)]) dX11_areOther_38 rfl (by decide) rfl ?_
  refine PW.aload_n 1 dX11_areOther_39 rfl rfl ?_
  obtain ⟨x3, hx3, h⟩ := bind_some h
  refine PW.getR cls_X11 (j := 24) (by decide) dX11_areOther_40 wd_919 hx3 ?_
  refine PW.iload_n 2 dX11_areOther_43 rfl rfl ?_
  refine PW.aload_n 1 dX11_areOther_44 rfl rfl ?_
  obtain ⟨x4, hx4, h⟩ := bind_some h
  refine PW.getR cls_X11 (j := 13) (by decide) dX11_areOther_45 wd_908 hx4 ?_
  refine PW.iload_n 2 dX11_areOther_48 rfl rfl ?_
  obtain ⟨x5, hx5, h⟩ := bind_some h
  refine PW.iald dX11_areOther_49 hx5 ?_
  obtain ⟨hp6, hhp6, h⟩ := bind_some h
  refine PW.iast dX11_areOther_50 hhp6 ?_
  refine PW.iinc 2 (l' := [(2, .int (a2 + 1)), (1, .int s0), (0, .ref (ga K a0))]) dX11_areOther_51 rfl (x := a2) (y := (a2 + 1)) rfl (by decide) rfl ?_
  refine PW.goto (tgt := 4) dX11_areOther_54 (by decide) ?_
  exact PW.sub (l' := [(0, .ref (ga K a0)), (1, .int s0), (2, .int (a2 + 1))]) [2, 1, 0] rfl (hk4 a0 s0 (a2 + 1) hp6 _ h)
set_option maxRecDepth 100000 in
set_option maxHeartbeats 4000000 in
theorem mf_X11_areOther_L4 {K : GK} : ∀ (n : Nat) (a0 : Nat) (a1 : Int32) (a2 : Int32) (hp : PH) (r : (Int32 × PH)), f_X11_areOther_L4 n a0 a1 a2 hp = some r → PW K (rmD (0)) 0 0 M_X11_areOther 4 [(0, .ref (ga K a0)), (1, .int a1), (2, .int a2)] [] hp (some (.int r.1)) r.2 := by
  intro n
  induction n with
  | zero =>
    intro a0 a1 a2 hp r h
    rw [f_X11_areOther_L4] at h
    cases h
  | succ n ih =>
    intro a0 a1 a2 hp r h
    rw [f_X11_areOther_L4] at h
    refine PW.iload_n 2 dX11_areOther_4 rfl rfl ?_
    refine PW.aload_n 0 dX11_areOther_5 rfl rfl ?_
    obtain ⟨x1, hx1, h⟩ := bind_some h
    refine PW.getR cls_X11 (j := 0) (by decide) dX11_areOther_6 wd_895 hx1 ?_
    refine PW.iconst (x := 0) dX11_areOther_9 (by decide) ?_
    obtain ⟨x2, hx2, h⟩ := bind_some h
    refine PW.iald dX11_areOther_10 hx2 ?_
    refine PW.icmp_ge (tgt := 57) dX11_areOther_11 (by decide) (fun c11 => ?_) (fun c11 => ?_)
    · rw [if_pos c11] at h
      refine PW.iload_n 1 dX11_areOther_57 rfl rfl ?_
      obtain ⟨z, hzz, h⟩ := bind_some h
      obtain ⟨hz, e9⟩ := zR_spec hzz
      subst e9
      have h := Option.some.inj h
      subst h
      exact PW.ret dX11_areOther_58 (z_nar hz).1 rfl
    · rw [if_neg c11] at h
      refine PW.iload_n 1 dX11_areOther_14 rfl rfl ?_
      refine PW.if_ne (tgt := 33) dX11_areOther_15 (by decide) (fun c15 => ?_) (fun c15 => ?_)
      · rw [if_neg c15] at h
        refine PW.iconst (x := 1) dX11_areOther_33 (by decide) ?_
        refine PW.goto (tgt := 38) dX11_areOther_34 (by decide) ?_
        exact PW.sub (l' := [(0, .ref (ga K a0)), (2, .int a2)]) [0, 2] rfl (mf_X11_areOther_J38 ih a0 a2 1 hp _ h)
      · rw [if_pos c15] at h
        refine PW.aload_n 0 dX11_areOther_18 rfl rfl ?_
        obtain ⟨x7, hx7, h⟩ := bind_some h
        refine PW.getR cls_X11 (j := 13) (by decide) dX11_areOther_19 wd_908 hx7 ?_
        refine PW.iload_n 2 dX11_areOther_22 rfl rfl ?_
        obtain ⟨x8, hx8, h⟩ := bind_some h
        refine PW.iald dX11_areOther_23 hx8 ?_
        refine PW.aload_n 0 dX11_areOther_24 rfl rfl ?_
        obtain ⟨x9, hx9, h⟩ := bind_some h
        refine PW.getR cls_X11 (j := 24) (by decide) dX11_areOther_25 wd_919 hx9 ?_
        refine PW.iload_n 2 dX11_areOther_28 rfl rfl ?_
        obtain ⟨x10, hx10, h⟩ := bind_some h
        refine PW.iald dX11_areOther_29 hx10 ?_
        refine PW.icmp_eq (tgt := 37) dX11_areOther_30 (by decide) (fun c30 => ?_) (fun c30 => ?_)
        · rw [if_pos c30] at h
          refine PW.iconst (x := 0) dX11_areOther_37 (by decide) ?_
          exact PW.sub (l' := [(0, .ref (ga K a0)), (2, .int a2)]) [0, 2] rfl (mf_X11_areOther_J38 ih a0 a2 0 hp _ h)
        · rw [if_neg c30] at h
          refine PW.iconst (x := 1) dX11_areOther_33 (by decide) ?_
          refine PW.goto (tgt := 38) dX11_areOther_34 (by decide) ?_
          exact PW.sub (l' := [(0, .ref (ga K a0)), (2, .int a2)]) [0, 2] rfl (mf_X11_areOther_J38 ih a0 a2 1 hp _ h)
set_option maxRecDepth 100000 in
set_option maxHeartbeats 4000000 in
theorem mf_X11_areOther {K : GK} : ∀ (a0 : Nat) (hp : PH) (r : (Int32 × PH)), f_X11_areOther a0 hp = some r → PM K (0) M_X11_areOther [.ref (ga K a0)] hp (some (.int r.1)) r.2 := by
  intro a0 hp r h
  unfold f_X11_areOther at h
  refine PM.enter (l0 := [(0, .ref (ga K a0))]) (by decide +kernel) rfl (Nat.le_of_ble_eq_true rfl) rfl ?_
  refine PW.iconst (x := 0) dX11_areOther_0 (by decide) ?_
  refine PW.istore_n (l' := [(1, .int 0), (0, .ref (ga K a0))]) dX11_areOther_1 rfl (by decide) rfl ?_
  refine PW.iconst (x := 0) dX11_areOther_2 (by decide) ?_
  refine PW.istore_n (l' := [(2, .int 0), (1, .int 0), (0, .ref (ga K a0))]) dX11_areOther_3 rfl (by decide) rfl ?_
  exact PW.sub (l' := [(0, .ref (ga K a0)), (1, .int 0), (2, .int 0)]) [2, 1, 0] rfl (mf_X11_areOther_L4 NN a0 0 0 hp _ h)
-- X11_leavesNobody
def f_X11_leavesNobody (a0 : Nat) (a1 : Int32) (a2 : Int32) (hp : PH) : Option (Int32 × PH) := (vC hp a0 10 (f_X11_layParts a0 a1 a2 hp)).bind fun q1 => (gR q1 a0 10 20).bind fun x2 => (aI q1 x2 0 a1).bind fun x3 => (if 16 ≤ x3 then (some (0, q1)) else (some (1, q1)))
set_option maxRecDepth 100000 in
set_option maxHeartbeats 4000000 in
theorem mf_X11_leavesNobody {K : GK} : ∀ (a0 : Nat) (a1 : Int32) (a2 : Int32) (hp : PH) (r : (Int32 × PH)), f_X11_leavesNobody a0 a1 a2 hp = some r → PM K (4) M_X11_leavesNobody [.ref (ga K a0), .int a1, .int a2] hp (some (.int r.1)) r.2 := by
  intro a0 a1 a2 hp r h
  unfold f_X11_leavesNobody at h
  refine PM.enter (l0 := [(0, .ref (ga K a0)), (1, .int a1), (2, .int a2)]) (by decide +kernel) rfl (Nat.le_of_ble_eq_true rfl) rfl ?_
  refine PW.aload_n 0 dX11_leavesNobody_0 rfl rfl ?_
  refine PW.iload_n 1 dX11_leavesNobody_1 rfl rfl ?_
  refine PW.iload_n 2 dX11_leavesNobody_2 rfl rfl ?_
  obtain ⟨q1, hq1, h⟩ := bind_some h
  obtain ⟨hkq1, hcq1, hq1⟩ := vC_spec hq1
  refine PW.callVv (As := [.int a1, .int a2]) (rest := []) (k := a0) cal_X11_layParts dX11_leavesNobody_3 wd_1159 rfl rfl (rmLe (by omega)) (Nat.le_of_ble_eq_true rfl) rm_0 hkq1 hcq1 (mf_X11_layParts a0 a1 a2 hp _ hq1) ?_
  refine PW.aload_n 0 dX11_leavesNobody_6 rfl rfl ?_
  obtain ⟨x2, hx2, h⟩ := bind_some h
  refine PW.getR cls_X11 (j := 20) (by decide) dX11_leavesNobody_7 wd_915 hx2 ?_
  refine PW.iload_n 1 dX11_leavesNobody_10 rfl rfl ?_
  obtain ⟨x3, hx3, h⟩ := bind_some h
  refine PW.iald dX11_leavesNobody_11 hx3 ?_
  refine PW.bipush (x := 16) dX11_leavesNobody_12 (by decide) ?_
  refine PW.icmp_ge (tgt := 21) dX11_leavesNobody_14 (by decide) (fun c14 => ?_) (fun c14 => ?_)
  · rw [if_pos c14] at h
    refine PW.iconst (x := 0) dX11_leavesNobody_21 (by decide) ?_
    have h := Option.some.inj h; subst h
    exact PW.ret dX11_leavesNobody_22 (z_nar (Or.inl rfl)).1 rfl
  · rw [if_neg c14] at h
    refine PW.iconst (x := 1) dX11_leavesNobody_17 (by decide) ?_
    refine PW.goto (tgt := 22) dX11_leavesNobody_18 (by decide) ?_
    have h := Option.some.inj h; subst h
    exact PW.ret dX11_leavesNobody_22 (z_nar (Or.inr rfl)).1 rfl
-- X11_wedding
def f_X11_wedding_J83 (k40 : Nat → Int32 → Int32 → Int32 → Int32 → Int32 → PH → Option (Int32 × PH)) (a0 : Nat) (a1 : Int32) (a2 : Int32) (a3 : Int32) (a4 : Int32) (a5 : Int32) (s0 : Int32) (hp : PH) : Option (Int32 × PH) := (if s0 = 0 then (k40 a0 a1 a2 a3 a4 (a5 + 1) hp) else (vC hp a0 10 (f_X11_leavesNobody a0 a1 a3 hp)).bind fun q8 => (if q8.1 = 0 then (k40 a0 a1 a2 a3 a4 (a5 + 1) q8.2) else (vC q8.2 a0 10 (f_X11_leavesNobody a0 a2 a3 q8.2)).bind fun q9 => (if q9.1 = 0 then (k40 a0 a1 a2 a3 a4 (a5 + 1) q9.2) else (some (a5, q9.2)))))
def f_X11_wedding_L40 : Nat → Nat → Int32 → Int32 → Int32 → Int32 → Int32 → PH → Option (Int32 × PH)
  | 0, _, _, _, _, _, _, _ => none
  | n + 1, a0, a1, a2, a3, a4, a5, hp => (if (a4 + 1500) < a5 then (some ((-1), hp)) else (if 146097 ≤ a5 then (some ((-1), hp)) else (vC hp a0 10 (f_X11_layAges a0 a5 hp)).bind fun q6 => (vC q6 a0 10 (f_X11_areOther a0 q6)).bind fun q7 => (if q7.1 = 0 then (if a5 = a4 then (f_X11_wedding_J83 (f_X11_wedding_L40 n) a0 a1 a2 a3 a4 a5 1 q7.2) else (f_X11_wedding_J83 (f_X11_wedding_L40 n) a0 a1 a2 a3 a4 a5 0 q7.2)) else (f_X11_wedding_J83 (f_X11_wedding_L40 n) a0 a1 a2 a3 a4 a5 1 q7.2))))
def f_X11_wedding (a0 : Nat) (a1 : Int32) (a2 : Int32) (a3 : Int32) (a4 : Int32) (hp : PH) : Option (Int32 × PH) := (vC hp a0 10 (f_X11_isLook a0 a1 a3 a4 hp)).bind fun q1 => (if q1 = 0 then (vC hp a0 10 (f_X11_bad a0 (-2) hp)).bind fun q2 => (some (q2.1, q2.2)) else (vC hp a0 10 (f_X11_isSet a0 a2 hp)).bind fun q3 => (if q3 = 0 then (vC hp a0 10 (f_X11_bad a0 (-2) hp)).bind fun q4 => (some (q4.1, q4.2)) else (if (a1 &&& a2) = 0 then (vC hp a0 10 (f_X11_layBirths a0 hp)).bind fun q5 => (f_X11_wedding_L40 NN a0 a1 a2 a3 a4 a4 q5) else (vC hp a0 10 (f_X11_bad a0 (-2) hp)).bind fun q10 => (some (q10.1, q10.2)))))
set_option maxRecDepth 100000 in
set_option maxHeartbeats 4000000 in
theorem mf_X11_wedding_J83 {K : GK} {k40 : Nat → Int32 → Int32 → Int32 → Int32 → Int32 → PH → Option (Int32 × PH)} (hk40 : ∀ (a0 : Nat) (a1 : Int32) (a2 : Int32) (a3 : Int32) (a4 : Int32) (a5 : Int32) (hp : PH) (r : (Int32 × PH)), k40 a0 a1 a2 a3 a4 a5 hp = some r → PW K (rmD (5)) 0 0 M_X11_wedding 40 [(0, .ref (ga K a0)), (1, .int a1), (2, .int a2), (3, .int a3), (4, .int a4), (5, .int a5)] [] hp (some (.int r.1)) r.2) : ∀ (a0 : Nat) (a1 : Int32) (a2 : Int32) (a3 : Int32) (a4 : Int32) (a5 : Int32) (s0 : Int32) (hp : PH) (r : (Int32 × PH)), f_X11_wedding_J83 k40 a0 a1 a2 a3 a4 a5 s0 hp = some r → PW K (rmD (5)) 0 0 M_X11_wedding 83 [(0, .ref (ga K a0)), (1, .int a1), (2, .int a2), (3, .int a3), (4, .int a4), (5, .int a5)] [.int s0] hp (some (.int r.1)) r.2 := by
  intro a0 a1 a2 a3 a4 a5 s0 hp r h
  unfold f_X11_wedding_J83 at h
  refine PW.istore (l' := [(6, .int s0), (0, .ref (ga K a0)), (1, .int a1), (2, .int a2), (3, .int a3), (4, .int a4), (5, .int a5)]) dX11_wedding_83 (by decide) rfl ?_
  refine PW.iload 0 dX11_wedding_85 rfl ?_
  refine PW.if_eq (tgt := 111) dX11_wedding_87 (by decide) (fun c87 => ?_) (fun c87 => ?_)
  · rw [if_pos c87] at h
    refine PW.iinc 6 (l' := [(5, .int (a5 + 1)), (6, .int s0), (0, .ref (ga K a0)), (1, .int a1), (2, .int a2), (3, .int a3), (4, .int a4)]) dX11_wedding_111 rfl (x := a5) (y := (a5 + 1)) rfl (by decide) rfl ?_
    refine PW.goto (tgt := 40) dX11_wedding_114 (by decide) ?_
    exact PW.sub (l' := [(0, .ref (ga K a0)), (1, .int a1), (2, .int a2), (3, .int a3), (4, .int a4), (5, .int (a5 + 1))]) [2, 3, 4, 5, 6, 0] rfl (hk40 a0 a1 a2 a3 a4 (a5 + 1) hp _ h)
  · rw [if_neg c87] at h
    refine PW.aload_n 1 dX11_wedding_90 rfl rfl ?_
    refine PW.iload_n 2 dX11_wedding_91 rfl rfl ?_
    refine PW.iload_n 4 dX11_wedding_92 rfl rfl ?_
    obtain ⟨q8, hq8, h⟩ := bind_some h
    obtain ⟨hkq8, hcq8, hq8⟩ := vC_spec hq8
    refine PW.callVi (As := [.int a1, .int a3]) (rest := []) (k := a0) cal_X11_leavesNobody dX11_wedding_93 wd_1202 rfl rfl (rmLe (by omega)) (Nat.le_of_ble_eq_true rfl) rm_0 hkq8 hcq8 (mf_X11_leavesNobody a0 a1 a3 hp _ hq8) ?_
    refine PW.if_eq (tgt := 111) dX11_wedding_96 (by decide) (fun c96 => ?_) (fun c96 => ?_)
    · rw [if_pos c96] at h
      refine PW.iinc 6 (l' := [(5, .int (a5 + 1)), (6, .int s0), (0, .ref (ga K a0)), (1, .int a1), (2, .int a2), (3, .int a3), (4, .int a4)]) dX11_wedding_111 rfl (x := a5) (y := (a5 + 1)) rfl (by decide) rfl ?_
      refine PW.goto (tgt := 40) dX11_wedding_114 (by decide) ?_
      exact PW.sub (l' := [(0, .ref (ga K a0)), (1, .int a1), (2, .int a2), (3, .int a3), (4, .int a4), (5, .int (a5 + 1))]) [2, 3, 4, 5, 6, 0] rfl (hk40 a0 a1 a2 a3 a4 (a5 + 1) q8.2 _ h)
    · rw [if_neg c96] at h
      refine PW.aload_n 1 dX11_wedding_99 rfl rfl ?_
      refine PW.iload_n 3 dX11_wedding_100 rfl rfl ?_
      refine PW.iload_n 4 dX11_wedding_101 rfl rfl ?_
      obtain ⟨q9, hq9, h⟩ := bind_some h
      obtain ⟨hkq9, hcq9, hq9⟩ := vC_spec hq9
      refine PW.callVi (As := [.int a2, .int a3]) (rest := []) (k := a0) cal_X11_leavesNobody dX11_wedding_102 wd_1202 rfl rfl (rmLe (by omega)) (Nat.le_of_ble_eq_true rfl) rm_0 hkq9 hcq9 (mf_X11_leavesNobody a0 a2 a3 q8.2 _ hq9) ?_
      refine PW.if_eq (tgt := 111) dX11_wedding_105 (by decide) (fun c105 => ?_) (fun c105 => ?_)
      · rw [if_pos c105] at h
        refine PW.iinc 6 (l' := [(5, .int (a5 + 1)), (6, .int s0), (0, .ref (ga K a0)), (1, .int a1), (2, .int a2), (3, .int a3), (4, .int a4)]) dX11_wedding_111 rfl (x := a5) (y := (a5 + 1)) rfl (by decide) rfl ?_
        refine PW.goto (tgt := 40) dX11_wedding_114 (by decide) ?_
        exact PW.sub (l' := [(0, .ref (ga K a0)), (1, .int a1), (2, .int a2), (3, .int a3), (4, .int a4), (5, .int (a5 + 1))]) [2, 3, 4, 5, 6, 0] rfl (hk40 a0 a1 a2 a3 a4 (a5 + 1) q9.2 _ h)
      · rw [if_neg c105] at h
        refine PW.iload 6 dX11_wedding_108 rfl ?_
        have h := Option.some.inj h; subst h
        exact PW.ret dX11_wedding_110 trivial rfl
set_option maxRecDepth 100000 in
set_option maxHeartbeats 4000000 in
theorem mf_X11_wedding_L40 {K : GK} : ∀ (n : Nat) (a0 : Nat) (a1 : Int32) (a2 : Int32) (a3 : Int32) (a4 : Int32) (a5 : Int32) (hp : PH) (r : (Int32 × PH)), f_X11_wedding_L40 n a0 a1 a2 a3 a4 a5 hp = some r → PW K (rmD (5)) 0 0 M_X11_wedding 40 [(0, .ref (ga K a0)), (1, .int a1), (2, .int a2), (3, .int a3), (4, .int a4), (5, .int a5)] [] hp (some (.int r.1)) r.2 := by
  intro n
  induction n with
  | zero =>
    intro a0 a1 a2 a3 a4 a5 hp r h
    rw [f_X11_wedding_L40] at h
    cases h
  | succ n ih =>
    intro a0 a1 a2 a3 a4 a5 hp r h
    rw [f_X11_wedding_L40] at h
    refine PW.iload 5 dX11_wedding_40 rfl ?_
    refine PW.iload 4 dX11_wedding_42 rfl ?_
    refine PW.sipush (x := 1500) dX11_wedding_44 (by decide) ?_
    refine PW.iadd dX11_wedding_47 ?_
    refine PW.icmp_gt (tgt := 117) dX11_wedding_48 (by decide) (fun c48 => ?_) (fun c48 => ?_)
    · rw [if_pos c48] at h
      refine PW.iconst (x := (-1)) dX11_wedding_117 (by decide) ?_
      have h := Option.some.inj h; subst h
      exact PW.ret dX11_wedding_118 trivial rfl
    · rw [if_neg c48] at h
      refine PW.iload 5 dX11_wedding_51 rfl ?_
      refine PW.ldc (x := 146097) dX11_wedding_53 wd_1193 ?_
      refine PW.icmp_ge (tgt := 117) dX11_wedding_55 (by decide) (fun c55 => ?_) (fun c55 => ?_)
      · rw [if_pos c55] at h
        refine PW.iconst (x := (-1)) dX11_wedding_117 (by decide) ?_
        have h := Option.some.inj h; subst h
        exact PW.ret dX11_wedding_118 trivial rfl
      · rw [if_neg c55] at h
        refine PW.aload_n 0 dX11_wedding_58 rfl rfl ?_
        refine PW.iload 5 dX11_wedding_59 rfl ?_
        obtain ⟨q6, hq6, h⟩ := bind_some h
        obtain ⟨hkq6, hcq6, hq6⟩ := vC_spec hq6
        refine PW.callVv (As := [.int a5]) (rest := []) (k := a0) cal_X11_layAges dX11_wedding_61 wd_1063 rfl rfl (rmLe (by omega)) (Nat.le_of_ble_eq_true rfl) rm_0 hkq6 hcq6 (mf_X11_layAges a0 a5 hp _ hq6) ?_
        refine PW.aload_n 0 dX11_wedding_64 rfl rfl ?_
        obtain ⟨q7, hq7, h⟩ := bind_some h
        obtain ⟨hkq7, hcq7, hq7⟩ := vC_spec hq7
        refine PW.callVi (As := []) (rest := []) (k := a0) cal_X11_areOther dX11_wedding_65 wd_1198 rfl rfl (rmLe (by omega)) (Nat.le_of_ble_eq_true rfl) rm_0 hkq7 hcq7 (mf_X11_areOther a0 q6 _ hq7) ?_
        refine PW.if_ne (tgt := 78) dX11_wedding_68 (by decide) (fun c68 => ?_) (fun c68 => ?_)
        · rw [if_neg c68] at h
          refine PW.iconst (x := 1) dX11_wedding_78 (by decide) ?_
          refine PW.goto (tgt := 83) dX11_wedding_79 (by decide) ?_
          exact PW.sub (l' := [(0, .ref (ga K a0)), (1, .int a1), (2, .int a2), (3, .int a3), (4, .int a4), (5, .int a5)]) [0, 1, 2, 3, 4, 5] rfl (mf_X11_wedding_J83 ih a0 a1 a2 a3 a4 a5 1 q7.2 _ h)
        · rw [if_pos c68] at h
          refine PW.iload 5 dX11_wedding_71 rfl ?_
          refine PW.iload 4 dX11_wedding_73 rfl ?_
          refine PW.icmp_ne (tgt := 82) dX11_wedding_75 (by decide) (fun c75 => ?_) (fun c75 => ?_)
          · rw [if_neg c75] at h
            refine PW.iconst (x := 0) dX11_wedding_82 (by decide) ?_
            exact PW.sub (l' := [(0, .ref (ga K a0)), (1, .int a1), (2, .int a2), (3, .int a3), (4, .int a4), (5, .int a5)]) [0, 1, 2, 3, 4, 5] rfl (mf_X11_wedding_J83 ih a0 a1 a2 a3 a4 a5 0 q7.2 _ h)
          · rw [if_pos c75] at h
            refine PW.iconst (x := 1) dX11_wedding_78 (by decide) ?_
            refine PW.goto (tgt := 83) dX11_wedding_79 (by decide) ?_
            exact PW.sub (l' := [(0, .ref (ga K a0)), (1, .int a1), (2, .int a2), (3, .int a3), (4, .int a4), (5, .int a5)]) [0, 1, 2, 3, 4, 5] rfl (mf_X11_wedding_J83 ih a0 a1 a2 a3 a4 a5 1 q7.2 _ h)
set_option maxRecDepth 100000 in
set_option maxHeartbeats 4000000 in
theorem mf_X11_wedding {K : GK} : ∀ (a0 : Nat) (a1 : Int32) (a2 : Int32) (a3 : Int32) (a4 : Int32) (hp : PH) (r : (Int32 × PH)), f_X11_wedding a0 a1 a2 a3 a4 hp = some r → PM K (5) M_X11_wedding [.ref (ga K a0), .int a1, .int a2, .int a3, .int a4] hp (some (.int r.1)) r.2 := by
  intro a0 a1 a2 a3 a4 hp r h
  unfold f_X11_wedding at h
  refine PM.enter (l0 := [(0, .ref (ga K a0)), (1, .int a1), (2, .int a2), (3, .int a3), (4, .int a4)]) (by decide +kernel) rfl (Nat.le_of_ble_eq_true rfl) rfl ?_
  refine PW.aload_n 0 dX11_wedding_0 rfl rfl ?_
  refine PW.iload_n 1 dX11_wedding_1 rfl rfl ?_
  refine PW.iload_n 3 dX11_wedding_2 rfl rfl ?_
  refine PW.iload 4 dX11_wedding_3 rfl ?_
  obtain ⟨q1, hq1, h⟩ := bind_some h
  obtain ⟨hkq1, hcq1, hq1⟩ := vC_spec hq1
  refine PW.callVi (As := [.int a1, .int a3, .int a4]) (rest := []) (k := a0) cal_X11_isLook dX11_wedding_5 wd_1151 rfl rfl (rmLe (by omega)) (Nat.le_of_ble_eq_true rfl) rm_0 hkq1 hcq1 (mf_X11_isLook a0 a1 a3 a4 hp _ hq1) ?_
  refine PW.if_eq (tgt := 25) dX11_wedding_8 (by decide) (fun c8 => ?_) (fun c8 => ?_)
  · rw [if_pos c8] at h
    refine PW.aload_n 0 dX11_wedding_25 rfl rfl ?_
    refine PW.bipush (x := (-2)) dX11_wedding_26 (by decide) ?_
    obtain ⟨q2, hq2, h⟩ := bind_some h
    obtain ⟨hkq2, hcq2, hq2⟩ := vC_spec hq2
    refine PW.callVi (As := [.int (-2)]) (rest := []) (k := a0) cal_X11_bad dX11_wedding_28 wd_1002 rfl rfl (rmLe (by omega)) (Nat.le_of_ble_eq_true rfl) rm_0 hkq2 hcq2 (mf_X11_bad a0 (-2) hp _ hq2) ?_
    have h := Option.some.inj h; subst h
    exact PW.ret dX11_wedding_31 trivial rfl
  · rw [if_neg c8] at h
    refine PW.aload_n 0 dX11_wedding_11 rfl rfl ?_
    refine PW.iload_n 2 dX11_wedding_12 rfl rfl ?_
    obtain ⟨q3, hq3, h⟩ := bind_some h
    obtain ⟨hkq3, hcq3, hq3⟩ := vC_spec hq3
    refine PW.callVi (As := [.int a2]) (rest := []) (k := a0) cal_X11_isSet dX11_wedding_13 wd_1155 rfl rfl (rmLe (by omega)) (Nat.le_of_ble_eq_true rfl) rm_0 hkq3 hcq3 (mf_X11_isSet a0 a2 hp _ hq3) ?_
    refine PW.if_eq (tgt := 25) dX11_wedding_16 (by decide) (fun c16 => ?_) (fun c16 => ?_)
    · rw [if_pos c16] at h
      refine PW.aload_n 0 dX11_wedding_25 rfl rfl ?_
      refine PW.bipush (x := (-2)) dX11_wedding_26 (by decide) ?_
      obtain ⟨q4, hq4, h⟩ := bind_some h
      obtain ⟨hkq4, hcq4, hq4⟩ := vC_spec hq4
      refine PW.callVi (As := [.int (-2)]) (rest := []) (k := a0) cal_X11_bad dX11_wedding_28 wd_1002 rfl rfl (rmLe (by omega)) (Nat.le_of_ble_eq_true rfl) rm_0 hkq4 hcq4 (mf_X11_bad a0 (-2) hp _ hq4) ?_
      have h := Option.some.inj h; subst h
      exact PW.ret dX11_wedding_31 trivial rfl
    · rw [if_neg c16] at h
      refine PW.iload_n 1 dX11_wedding_19 rfl rfl ?_
      refine PW.iload_n 2 dX11_wedding_20 rfl rfl ?_
      refine PW.iand dX11_wedding_21 ?_
      refine PW.if_eq (tgt := 32) dX11_wedding_22 (by decide) (fun c22 => ?_) (fun c22 => ?_)
      · rw [if_pos c22] at h
        refine PW.aload_n 0 dX11_wedding_32 rfl rfl ?_
        obtain ⟨q5, hq5, h⟩ := bind_some h
        obtain ⟨hkq5, hcq5, hq5⟩ := vC_spec hq5
        refine PW.callVv (As := []) (rest := []) (k := a0) cal_X11_layBirths dX11_wedding_33 wd_1059 rfl rfl (rmLe (by omega)) (Nat.le_of_ble_eq_true rfl) rm_0 hkq5 hcq5 (mf_X11_layBirths a0 hp _ hq5) ?_
        refine PW.iload 4 dX11_wedding_36 rfl ?_
        refine PW.istore (l' := [(5, .int a4), (0, .ref (ga K a0)), (1, .int a1), (2, .int a2), (3, .int a3), (4, .int a4)]) dX11_wedding_38 (by decide) rfl ?_
        exact PW.sub (l' := [(0, .ref (ga K a0)), (1, .int a1), (2, .int a2), (3, .int a3), (4, .int a4), (5, .int a4)]) [1, 2, 3, 4, 5, 0] rfl (mf_X11_wedding_L40 NN a0 a1 a2 a3 a4 a4 q5 _ h)
      · rw [if_neg c22] at h
        refine PW.aload_n 0 dX11_wedding_25 rfl rfl ?_
        refine PW.bipush (x := (-2)) dX11_wedding_26 (by decide) ?_
        obtain ⟨q10, hq10, h⟩ := bind_some h
        obtain ⟨hkq10, hcq10, hq10⟩ := vC_spec hq10
        refine PW.callVi (As := [.int (-2)]) (rest := []) (k := a0) cal_X11_bad dX11_wedding_28 wd_1002 rfl rfl (rmLe (by omega)) (Nat.le_of_ble_eq_true rfl) rm_0 hkq10 hcq10 (mf_X11_bad a0 (-2) hp _ hq10) ?_
        have h := Option.some.inj h; subst h
        exact PW.ret dX11_wedding_31 trivial rfl
-- X11_crowd
def f_X11_crowd (a0 : Nat) (a1 : Int32) (a2 : Int32) (hp : PH) : Option (Int32 × PH) := (if (f_X11_in (Int32.toInt64 a1) 0 9) = 0 then (vC hp a0 10 (f_X11_bad a0 (-2) hp)).bind fun q2 => (some (q2.1, q2.2)) else (if (f_X11_in (Int32.toInt64 a2) 0 6) = 0 then (vC hp a0 10 (f_X11_bad a0 (-2) hp)).bind fun q8 => (some (q8.1, q8.2)) else (gR hp a0 10 0).bind fun x4 => (aI hp x4 0 (37 + a1)).bind fun x5 => (gR hp a0 10 0).bind fun x6 => (uI hp x6 (37 + a1) a2).bind fun hp7 => (some (x5, hp7))))
set_option maxRecDepth 100000 in
set_option maxHeartbeats 4000000 in
theorem mf_X11_crowd {K : GK} : ∀ (a0 : Nat) (a1 : Int32) (a2 : Int32) (hp : PH) (r : (Int32 × PH)), f_X11_crowd a0 a1 a2 hp = some r → PM K (1) M_X11_crowd [.ref (ga K a0), .int a1, .int a2] hp (some (.int r.1)) r.2 := by
  intro a0 a1 a2 hp r h
  unfold f_X11_crowd at h
  refine PM.enter (l0 := [(0, .ref (ga K a0)), (1, .int a1), (2, .int a2)]) (by decide +kernel) rfl (Nat.le_of_ble_eq_true rfl) rfl ?_
  refine PW.iload_n 1 dX11_crowd_0 rfl rfl ?_
  refine PW.i2l dX11_crowd_1 ?_
  refine PW.lconst (x := 0) dX11_crowd_2 (by decide) ?_
  refine PW.ldc2 (x := 9) dX11_crowd_3 wd_1210 ?_
  refine PW.callSi (As := [.long (Int32.toInt64 a1), .long 0, .long 9]) (rest := []) cal_X11_in dX11_crowd_6 wd_986 rfl rfl (rmLe (by omega)) (Nat.le_of_ble_eq_true rfl) rm_0 (mf_X11_in (Int32.toInt64 a1) 0 9 _ rfl) ?_
  refine PW.if_eq (tgt := 24) dX11_crowd_9 (by decide) (fun c9 => ?_) (fun c9 => ?_)
  · rw [if_pos c9] at h
    refine PW.aload_n 0 dX11_crowd_24 rfl rfl ?_
    refine PW.bipush (x := (-2)) dX11_crowd_25 (by decide) ?_
    obtain ⟨q2, hq2, h⟩ := bind_some h
    obtain ⟨hkq2, hcq2, hq2⟩ := vC_spec hq2
    refine PW.callVi (As := [.int (-2)]) (rest := []) (k := a0) cal_X11_bad dX11_crowd_27 wd_1002 rfl rfl (rmLe (by omega)) (Nat.le_of_ble_eq_true rfl) rm_0 hkq2 hcq2 (mf_X11_bad a0 (-2) hp _ hq2) ?_
    have h := Option.some.inj h; subst h
    exact PW.ret dX11_crowd_30 trivial rfl
  · rw [if_neg c9] at h
    refine PW.iload_n 2 dX11_crowd_12 rfl rfl ?_
    refine PW.i2l dX11_crowd_13 ?_
    refine PW.lconst (x := 0) dX11_crowd_14 (by decide) ?_
    refine PW.ldc2 (x := 6) dX11_crowd_15 wd_1211 ?_
    refine PW.callSi (As := [.long (Int32.toInt64 a2), .long 0, .long 6]) (rest := []) cal_X11_in dX11_crowd_18 wd_986 rfl rfl (rmLe (by omega)) (Nat.le_of_ble_eq_true rfl) rm_0 (mf_X11_in (Int32.toInt64 a2) 0 6 _ rfl) ?_
    refine PW.if_ne (tgt := 31) dX11_crowd_21 (by decide) (fun c21 => ?_) (fun c21 => ?_)
    · rw [if_neg c21] at h
      refine PW.aload_n 0 dX11_crowd_31 rfl rfl ?_
      obtain ⟨x4, hx4, h⟩ := bind_some h
      refine PW.getR cls_X11 (j := 0) (by decide) dX11_crowd_32 wd_895 hx4 ?_
      refine PW.bipush (x := 37) dX11_crowd_35 (by decide) ?_
      refine PW.iload_n 1 dX11_crowd_37 rfl rfl ?_
      refine PW.iadd dX11_crowd_38 ?_
      obtain ⟨x5, hx5, h⟩ := bind_some h
      refine PW.iald dX11_crowd_39 hx5 ?_
      refine PW.istore_n (l' := [(3, .int x5), (0, .ref (ga K a0)), (1, .int a1), (2, .int a2)]) dX11_crowd_40 rfl (by decide) rfl ?_
      refine PW.aload_n 1 dX11_crowd_41 rfl rfl ?_
      obtain ⟨x6, hx6, h⟩ := bind_some h
      refine PW.getR cls_X11 (j := 0) (by decide) dX11_crowd_42 wd_895 hx6 ?_
      refine PW.bipush (x := 37) dX11_crowd_45 (by decide) ?_
      refine PW.iload_n 2 dX11_crowd_47 rfl rfl ?_
      refine PW.iadd dX11_crowd_48 ?_
      refine PW.iload_n 3 dX11_crowd_49 rfl rfl ?_
      obtain ⟨hp7, hhp7, h⟩ := bind_some h
      refine PW.iast dX11_crowd_50 hhp7 ?_
      refine PW.iload_n 0 dX11_crowd_51 rfl rfl ?_
      have h := Option.some.inj h; subst h
      exact PW.ret dX11_crowd_52 trivial rfl
    · rw [if_pos c21] at h
      refine PW.aload_n 0 dX11_crowd_24 rfl rfl ?_
      refine PW.bipush (x := (-2)) dX11_crowd_25 (by decide) ?_
      obtain ⟨q8, hq8, h⟩ := bind_some h
      obtain ⟨hkq8, hcq8, hq8⟩ := vC_spec hq8
      refine PW.callVi (As := [.int (-2)]) (rest := []) (k := a0) cal_X11_bad dX11_crowd_27 wd_1002 rfl rfl (rmLe (by omega)) (Nat.le_of_ble_eq_true rfl) rm_0 hkq8 hcq8 (mf_X11_bad a0 (-2) hp _ hq8) ?_
      have h := Option.some.inj h; subst h
      exact PW.ret dX11_crowd_30 trivial rfl
-- X11_choose
def f_X11_choose_L4 : Nat → Int32 → Int32 → Int32 → Int32 → Option Int32
  | 0, _, _, _, _ => none
  | n + 1, a0, a1, a2, a3 => (if a1 < a3 then (some a2) else (dvI (a2 * ((a0 - a3) + 1)) a3).bind fun x1 => ((f_X11_choose_L4 n) a0 a1 x1 (a3 + 1)))
def f_X11_choose (a0 : Int32) (a1 : Int32) : Option Int32 := (f_X11_choose_L4 NN a0 a1 1 1)
set_option maxRecDepth 100000 in
set_option maxHeartbeats 4000000 in
theorem mf_X11_choose_L4 {K : GK} {hp : PH} : ∀ (n : Nat) (a0 : Int32) (a1 : Int32) (a2 : Int32) (a3 : Int32) (r : Int32), f_X11_choose_L4 n a0 a1 a2 a3 = some r → PW K (rmD (0)) 0 0 M_X11_choose 4 [(0, .int a0), (1, .int a1), (2, .int a2), (3, .int a3)] [] hp (some (.int r)) hp := by
  intro n
  induction n with
  | zero =>
    intro a0 a1 a2 a3 r h
    rw [f_X11_choose_L4] at h
    cases h
  | succ n ih =>
    intro a0 a1 a2 a3 r h
    rw [f_X11_choose_L4] at h
    refine PW.iload_n 3 dX11_choose_4 rfl rfl ?_
    refine PW.iload_n 1 dX11_choose_5 rfl rfl ?_
    refine PW.icmp_gt (tgt := 25) dX11_choose_6 (by decide) (fun c6 => ?_) (fun c6 => ?_)
    · rw [if_pos c6] at h
      refine PW.iload_n 2 dX11_choose_25 rfl rfl ?_
      have h := Option.some.inj h; subst h
      exact PW.ret dX11_choose_26 trivial rfl
    · rw [if_neg c6] at h
      refine PW.iload_n 2 dX11_choose_9 rfl rfl ?_
      refine PW.iload_n 0 dX11_choose_10 rfl rfl ?_
      refine PW.iload_n 3 dX11_choose_11 rfl rfl ?_
      refine PW.isub dX11_choose_12 ?_
      refine PW.iconst (x := 1) dX11_choose_13 (by decide) ?_
      refine PW.iadd dX11_choose_14 ?_
      refine PW.imul dX11_choose_15 ?_
      refine PW.iload_n 3 dX11_choose_16 rfl rfl ?_
      obtain ⟨x1, hx1, h⟩ := bind_some h
      refine PW.idivQ dX11_choose_17 hx1 ?_
      refine PW.istore_n (l' := [(2, .int x1), (0, .int a0), (1, .int a1), (3, .int a3)]) dX11_choose_18 rfl (by decide) rfl ?_
      refine PW.iinc 3 (l' := [(3, .int (a3 + 1)), (2, .int x1), (0, .int a0), (1, .int a1)]) dX11_choose_19 rfl (x := a3) (y := (a3 + 1)) rfl (by decide) rfl ?_
      refine PW.goto (tgt := 4) dX11_choose_22 (by decide) ?_
      exact PW.sub (l' := [(0, .int a0), (1, .int a1), (2, .int x1), (3, .int (a3 + 1))]) [2, 3, 1, 0] rfl (ih a0 a1 x1 (a3 + 1) _ h)
set_option maxRecDepth 100000 in
set_option maxHeartbeats 4000000 in
theorem mf_X11_choose {K : GK} {hp : PH} : ∀ (a0 : Int32) (a1 : Int32) (r : Int32), f_X11_choose a0 a1 = some r → PM K (0) M_X11_choose [.int a0, .int a1] hp (some (.int r)) hp := by
  intro a0 a1 r h
  unfold f_X11_choose at h
  refine PM.enter (l0 := [(0, .int a0), (1, .int a1)]) (by decide +kernel) rfl (Nat.le_of_ble_eq_true rfl) rfl ?_
  refine PW.iconst (x := 1) dX11_choose_0 (by decide) ?_
  refine PW.istore_n (l' := [(2, .int 1), (0, .int a0), (1, .int a1)]) dX11_choose_1 rfl (by decide) rfl ?_
  refine PW.iconst (x := 1) dX11_choose_2 (by decide) ?_
  refine PW.istore_n (l' := [(3, .int 1), (2, .int 1), (0, .int a0), (1, .int a1)]) dX11_choose_3 rfl (by decide) rfl ?_
  exact PW.sub (l' := [(0, .int a0), (1, .int a1), (2, .int 1), (3, .int 1)]) [2, 3, 1, 0] rfl (mf_X11_choose_L4 NN a0 a1 1 1 _ h)
-- X11_layWays
def f_X11_layWays_L166 (k32 : Nat → Int32 → PH → Option PH) : Nat → Nat → Int32 → Int32 → PH → Option PH
  | 0, _, _, _, _ => none
  | n + 1, a0, a1, a2, hp => (if 610 ≤ a2 then (k32 a0 (a1 + 1) hp) else (gR hp a0 10 25).bind fun x3 => (gR hp a0 10 26).bind fun x4 => (aJ hp x4 a2).bind fun x5 => (uJ hp x3 a2 x5).bind fun hp6 => ((f_X11_layWays_L166 k32 n) a0 a1 (a2 + 1) hp6))
def f_X11_layWays_L88 (k32 : Nat → Int32 → PH → Option PH) (k62 : Nat → Int32 → Int32 → PH → Option PH) (k77 : Nat → Int32 → Int32 → Int32 → PH → Option PH) : Nat → Nat → Int32 → Int32 → Int32 → Int32 → PH → Option PH
  | 0, _, _, _, _, _, _ => none
  | n + 1, a0, a1, a2, a3, a4, hp => (if 10 ≤ a4 then (k77 a0 a1 a2 (a3 + 1) hp) else (gR hp a0 10 26).bind fun x7 => (aJ hp x7 ((10 * (a3 + a2)) + (iR (a4 + (a2 * a1)) 10))).bind fun x8 => (gR hp a0 10 25).bind fun x9 => (aJ hp x9 ((10 * a3) + a4)).bind fun x10 => (gR hp a0 10 0).bind fun x11 => (aI hp x11 0 (37 + a1)).bind fun x12 => (f_X11_choose x12 a2).bind fun q13 => (uJ hp x7 ((10 * (a3 + a2)) + (iR (a4 + (a2 * a1)) 10)) (x8 + (x10 * (Int32.toInt64 q13)))).bind fun hp14 => ((f_X11_layWays_L88 k32 k62 k77 n) a0 a1 a2 a3 (a4 + 1) hp14))
def f_X11_layWays_L77 (k32 : Nat → Int32 → PH → Option PH) (k62 : Nat → Int32 → Int32 → PH → Option PH) : Nat → Nat → Int32 → Int32 → Int32 → PH → Option PH
  | 0, _, _, _, _, _ => none
  | n + 1, a0, a1, a2, a3, hp => (if 60 < (a3 + a2) then (k62 a0 a1 (a2 + 1) hp) else (f_X11_layWays_L88 k32 k62 (f_X11_layWays_L77 k32 k62 n) NN a0 a1 a2 a3 0 hp))
def f_X11_layWays_L62 (k32 : Nat → Int32 → PH → Option PH) : Nat → Nat → Int32 → Int32 → PH → Option PH
  | 0, _, _, _, _ => none
  | n + 1, a0, a1, a2, hp => (gR hp a0 10 0).bind fun x1 => (aI hp x1 0 (37 + a1)).bind fun x2 => (if x2 < a2 then (f_X11_layWays_L166 k32 NN a0 a1 0 hp) else (f_X11_layWays_L77 k32 (f_X11_layWays_L62 k32 n) NN a0 a1 a2 0 hp))
def f_X11_layWays_L40 (k32 : Nat → Int32 → PH → Option PH) : Nat → Nat → Int32 → Int32 → PH → Option PH
  | 0, _, _, _, _ => none
  | n + 1, a0, a1, a2, hp => (if 610 ≤ a2 then (f_X11_layWays_L62 k32 NN a0 a1 0 hp) else (gR hp a0 10 26).bind fun x15 => (uJ hp x15 a2 0).bind fun hp16 => ((f_X11_layWays_L40 k32 n) a0 a1 (a2 + 1) hp16))
def f_X11_layWays_L32 : Nat → Nat → Int32 → PH → Option PH
  | 0, _, _, _ => none
  | n + 1, a0, a1, hp => (if 10 ≤ a1 then some hp else (f_X11_layWays_L40 (f_X11_layWays_L32 n) NN a0 a1 0 hp))
def f_X11_layWays_L2 : Nat → Nat → Int32 → PH → Option PH
  | 0, _, _, _ => none
  | n + 1, a0, a1, hp => (if 610 ≤ a1 then (f_X11_layWays_L32 NN a0 0 hp) else (gR hp a0 10 25).bind fun x17 => (if a1 = 0 then (uJ hp x17 a1 1).bind fun hp19 => ((f_X11_layWays_L2 n) a0 (a1 + 1) hp19) else (uJ hp x17 a1 0).bind fun hp18 => ((f_X11_layWays_L2 n) a0 (a1 + 1) hp18)))
def f_X11_layWays (a0 : Nat) (hp : PH) : Option PH := (f_X11_layWays_L2 NN a0 0 hp)
set_option maxRecDepth 100000 in
set_option maxHeartbeats 4000000 in
theorem mf_X11_layWays_L166 {K : GK} {k32 : Nat → Int32 → PH → Option PH} (hk32 : ∀ (a0 : Nat) (a1 : Int32) (hp : PH) (r : PH), k32 a0 a1 hp = some r → PW K (rmD (1)) 0 0 M_X11_layWays 32 [(0, .ref (ga K a0)), (1, .int a1)] [] hp none r) : ∀ (n : Nat) (a0 : Nat) (a1 : Int32) (a2 : Int32) (hp : PH) (r : PH), f_X11_layWays_L166 k32 n a0 a1 a2 hp = some r → PW K (rmD (1)) 0 0 M_X11_layWays 166 [(0, .ref (ga K a0)), (1, .int a1), (2, .int a2)] [] hp none r := by
  intro n
  induction n with
  | zero =>
    intro a0 a1 a2 hp r h
    rw [f_X11_layWays_L166] at h
    cases h
  | succ n ih =>
    intro a0 a1 a2 hp r h
    rw [f_X11_layWays_L166] at h
    refine PW.iload_n 2 dX11_layWays_166 rfl rfl ?_
    refine PW.sipush (x := 610) dX11_layWays_167 (by decide) ?_
    refine PW.icmp_ge (tgt := 191) dX11_layWays_170 (by decide) (fun c170 => ?_) (fun c170 => ?_)
    · rw [if_pos c170] at h
      refine PW.iinc 1 (l' := [(1, .int (a1 + 1)), (0, .ref (ga K a0)), (2, .int a2)]) dX11_layWays_191 rfl (x := a1) (y := (a1 + 1)) rfl (by decide) rfl ?_
      refine PW.goto (tgt := 32) dX11_layWays_194 (by decide) ?_
      exact PW.sub (l' := [(0, .ref (ga K a0)), (1, .int (a1 + 1))]) [1, 0] rfl (hk32 a0 (a1 + 1) hp _ h)
    · rw [if_neg c170] at h
      refine PW.aload_n 0 dX11_layWays_173 rfl rfl ?_
      obtain ⟨x3, hx3, h⟩ := bind_some h
      refine PW.getR cls_X11 (j := 25) (by decide) dX11_layWays_174 wd_920 hx3 ?_
      refine PW.iload_n 2 dX11_layWays_177 rfl rfl ?_
      refine PW.aload_n 0 dX11_layWays_178 rfl rfl ?_
      obtain ⟨x4, hx4, h⟩ := bind_some h
      refine PW.getR cls_X11 (j := 26) (by decide) dX11_layWays_179 wd_921 hx4 ?_
      refine PW.iload_n 2 dX11_layWays_182 rfl rfl ?_
      obtain ⟨x5, hx5, h⟩ := bind_some h
      refine PW.lald dX11_layWays_183 hx5 ?_
      obtain ⟨hp6, hhp6, h⟩ := bind_some h
      refine PW.last dX11_layWays_184 hhp6 ?_
      refine PW.iinc 2 (l' := [(2, .int (a2 + 1)), (0, .ref (ga K a0)), (1, .int a1)]) dX11_layWays_185 rfl (x := a2) (y := (a2 + 1)) rfl (by decide) rfl ?_
      refine PW.goto (tgt := 166) dX11_layWays_188 (by decide) ?_
      exact PW.sub (l' := [(0, .ref (ga K a0)), (1, .int a1), (2, .int (a2 + 1))]) [1, 2, 0] rfl (ih a0 a1 (a2 + 1) hp6 _ h)
set_option maxRecDepth 100000 in
set_option maxHeartbeats 4000000 in
theorem mf_X11_layWays_L88 {K : GK} {k32 : Nat → Int32 → PH → Option PH} {k62 : Nat → Int32 → Int32 → PH → Option PH} {k77 : Nat → Int32 → Int32 → Int32 → PH → Option PH} (hk32 : ∀ (a0 : Nat) (a1 : Int32) (hp : PH) (r : PH), k32 a0 a1 hp = some r → PW K (rmD (1)) 0 0 M_X11_layWays 32 [(0, .ref (ga K a0)), (1, .int a1)] [] hp none r) (hk62 : ∀ (a0 : Nat) (a1 : Int32) (a2 : Int32) (hp : PH) (r : PH), k62 a0 a1 a2 hp = some r → PW K (rmD (1)) 0 0 M_X11_layWays 62 [(0, .ref (ga K a0)), (1, .int a1), (2, .int a2)] [] hp none r) (hk77 : ∀ (a0 : Nat) (a1 : Int32) (a2 : Int32) (a3 : Int32) (hp : PH) (r : PH), k77 a0 a1 a2 a3 hp = some r → PW K (rmD (1)) 0 0 M_X11_layWays 77 [(0, .ref (ga K a0)), (1, .int a1), (2, .int a2), (3, .int a3)] [] hp none r) : ∀ (n : Nat) (a0 : Nat) (a1 : Int32) (a2 : Int32) (a3 : Int32) (a4 : Int32) (hp : PH) (r : PH), f_X11_layWays_L88 k32 k62 k77 n a0 a1 a2 a3 a4 hp = some r → PW K (rmD (1)) 0 0 M_X11_layWays 88 [(0, .ref (ga K a0)), (1, .int a1), (2, .int a2), (3, .int a3), (4, .int a4)] [] hp none r := by
  intro n
  induction n with
  | zero =>
    intro a0 a1 a2 a3 a4 hp r h
    rw [f_X11_layWays_L88] at h
    cases h
  | succ n ih =>
    intro a0 a1 a2 a3 a4 hp r h
    rw [f_X11_layWays_L88] at h
    refine PW.iload 4 dX11_layWays_88 rfl ?_
    refine PW.bipush (x := 10) dX11_layWays_90 (by decide) ?_
    refine PW.icmp_ge (tgt := 152) dX11_layWays_92 (by decide) (fun c92 => ?_) (fun c92 => ?_)
    · rw [if_pos c92] at h
      refine PW.iinc 3 (l' := [(3, .int (a3 + 1)), (0, .ref (ga K a0)), (1, .int a1), (2, .int a2), (4, .int a4)]) dX11_layWays_152 rfl (x := a3) (y := (a3 + 1)) rfl (by decide) rfl ?_
      refine PW.goto (tgt := 77) dX11_layWays_155 (by decide) ?_
      exact PW.sub (l' := [(0, .ref (ga K a0)), (1, .int a1), (2, .int a2), (3, .int (a3 + 1))]) [1, 2, 3, 0] rfl (hk77 a0 a1 a2 (a3 + 1) hp _ h)
    · rw [if_neg c92] at h
      refine PW.aload_n 0 dX11_layWays_95 rfl rfl ?_
      obtain ⟨x7, hx7, h⟩ := bind_some h
      refine PW.getR cls_X11 (j := 26) (by decide) dX11_layWays_96 wd_921 hx7 ?_
      refine PW.bipush (x := 10) dX11_layWays_99 (by decide) ?_
      refine PW.iload_n 3 dX11_layWays_101 rfl rfl ?_
      refine PW.iload_n 2 dX11_layWays_102 rfl rfl ?_
      refine PW.iadd dX11_layWays_103 ?_
      refine PW.imul dX11_layWays_104 ?_
      refine PW.iload 4 dX11_layWays_105 rfl ?_
      refine PW.iload_n 2 dX11_layWays_107 rfl rfl ?_
      refine PW.iload_n 1 dX11_layWays_108 rfl rfl ?_
      refine PW.imul dX11_layWays_109 ?_
      refine PW.iadd dX11_layWays_110 ?_
      refine PW.bipush (x := 10) dX11_layWays_111 (by decide) ?_
      refine PW.irem dX11_layWays_113 (by decide) ?_
      refine PW.iadd dX11_layWays_114 ?_
      refine PW.dup2 dX11_layWays_115 rfl rfl ?_
      obtain ⟨x8, hx8, h⟩ := bind_some h
      refine PW.lald dX11_layWays_116 hx8 ?_
      refine PW.aload_n 0 dX11_layWays_117 rfl rfl ?_
      obtain ⟨x9, hx9, h⟩ := bind_some h
      refine PW.getR cls_X11 (j := 25) (by decide) dX11_layWays_118 wd_920 hx9 ?_
      refine PW.bipush (x := 10) dX11_layWays_121 (by decide) ?_
      refine PW.iload_n 3 dX11_layWays_123 rfl rfl ?_
      refine PW.imul dX11_layWays_124 ?_
      refine PW.iload 4 dX11_layWays_125 rfl ?_
      refine PW.iadd dX11_layWays_127 ?_
      obtain ⟨x10, hx10, h⟩ := bind_some h
      refine PW.lald dX11_layWays_128 hx10 ?_
      refine PW.aload_n 0 dX11_layWays_129 rfl rfl ?_
      obtain ⟨x11, hx11, h⟩ := bind_some h
      refine PW.getR cls_X11 (j := 0) (by decide) dX11_layWays_130 wd_895 hx11 ?_
      refine PW.bipush (x := 37) dX11_layWays_133 (by decide) ?_
      refine PW.iload_n 1 dX11_layWays_135 rfl rfl ?_
      refine PW.iadd dX11_layWays_136 ?_
      obtain ⟨x12, hx12, h⟩ := bind_some h
      refine PW.iald dX11_layWays_137 hx12 ?_
      refine PW.iload_n 2 dX11_layWays_138 rfl rfl ?_
      obtain ⟨q13, hq13, h⟩ := bind_some h
      refine PW.callSi (As := [.int x12, .int a2]) (rest := [.long x10, .long x8, .int ((10 * (a3 + a2)) + (iR (a4 + (a2 * a1)) 10)), .ref (ga K x7)]) cal_X11_choose dX11_layWays_139 wd_1221 rfl rfl (rmLe (by omega)) (Nat.le_of_ble_eq_true rfl) rm_0 (mf_X11_choose x12 a2 _ hq13) ?_
      refine PW.i2l dX11_layWays_142 ?_
      refine PW.lmul dX11_layWays_143 ?_
      refine PW.ladd dX11_layWays_144 ?_
      obtain ⟨hp14, hhp14, h⟩ := bind_some h
      refine PW.last dX11_layWays_145 hhp14 ?_
      refine PW.iinc 4 (l' := [(4, .int (a4 + 1)), (0, .ref (ga K a0)), (1, .int a1), (2, .int a2), (3, .int a3)]) dX11_layWays_146 rfl (x := a4) (y := (a4 + 1)) rfl (by decide) rfl ?_
      refine PW.goto (tgt := 88) dX11_layWays_149 (by decide) ?_
      exact PW.sub (l' := [(0, .ref (ga K a0)), (1, .int a1), (2, .int a2), (3, .int a3), (4, .int (a4 + 1))]) [1, 2, 3, 4, 0] rfl (ih a0 a1 a2 a3 (a4 + 1) hp14 _ h)
set_option maxRecDepth 100000 in
set_option maxHeartbeats 4000000 in
theorem mf_X11_layWays_L77 {K : GK} {k32 : Nat → Int32 → PH → Option PH} {k62 : Nat → Int32 → Int32 → PH → Option PH} (hk32 : ∀ (a0 : Nat) (a1 : Int32) (hp : PH) (r : PH), k32 a0 a1 hp = some r → PW K (rmD (1)) 0 0 M_X11_layWays 32 [(0, .ref (ga K a0)), (1, .int a1)] [] hp none r) (hk62 : ∀ (a0 : Nat) (a1 : Int32) (a2 : Int32) (hp : PH) (r : PH), k62 a0 a1 a2 hp = some r → PW K (rmD (1)) 0 0 M_X11_layWays 62 [(0, .ref (ga K a0)), (1, .int a1), (2, .int a2)] [] hp none r) : ∀ (n : Nat) (a0 : Nat) (a1 : Int32) (a2 : Int32) (a3 : Int32) (hp : PH) (r : PH), f_X11_layWays_L77 k32 k62 n a0 a1 a2 a3 hp = some r → PW K (rmD (1)) 0 0 M_X11_layWays 77 [(0, .ref (ga K a0)), (1, .int a1), (2, .int a2), (3, .int a3)] [] hp none r := by
  intro n
  induction n with
  | zero =>
    intro a0 a1 a2 a3 hp r h
    rw [f_X11_layWays_L77] at h
    cases h
  | succ n ih =>
    intro a0 a1 a2 a3 hp r h
    rw [f_X11_layWays_L77] at h
    refine PW.iload_n 3 dX11_layWays_77 rfl rfl ?_
    refine PW.iload_n 2 dX11_layWays_78 rfl rfl ?_
    refine PW.iadd dX11_layWays_79 ?_
    refine PW.bipush (x := 60) dX11_layWays_80 (by decide) ?_
    refine PW.icmp_gt (tgt := 158) dX11_layWays_82 (by decide) (fun c82 => ?_) (fun c82 => ?_)
    · rw [if_pos c82] at h
      refine PW.iinc 2 (l' := [(2, .int (a2 + 1)), (0, .ref (ga K a0)), (1, .int a1), (3, .int a3)]) dX11_layWays_158 rfl (x := a2) (y := (a2 + 1)) rfl (by decide) rfl ?_
      refine PW.goto (tgt := 62) dX11_layWays_161 (by decide) ?_
      exact PW.sub (l' := [(0, .ref (ga K a0)), (1, .int a1), (2, .int (a2 + 1))]) [1, 2, 0] rfl (hk62 a0 a1 (a2 + 1) hp _ h)
    · rw [if_neg c82] at h
      refine PW.iconst (x := 0) dX11_layWays_85 (by decide) ?_
      refine PW.istore (l' := [(4, .int 0), (0, .ref (ga K a0)), (1, .int a1), (2, .int a2), (3, .int a3)]) dX11_layWays_86 (by decide) rfl ?_
      exact PW.sub (l' := [(0, .ref (ga K a0)), (1, .int a1), (2, .int a2), (3, .int a3), (4, .int 0)]) [1, 2, 3, 4, 0] rfl (mf_X11_layWays_L88 hk32 hk62 ih NN a0 a1 a2 a3 0 hp _ h)
set_option maxRecDepth 100000 in
set_option maxHeartbeats 4000000 in
theorem mf_X11_layWays_L62 {K : GK} {k32 : Nat → Int32 → PH → Option PH} (hk32 : ∀ (a0 : Nat) (a1 : Int32) (hp : PH) (r : PH), k32 a0 a1 hp = some r → PW K (rmD (1)) 0 0 M_X11_layWays 32 [(0, .ref (ga K a0)), (1, .int a1)] [] hp none r) : ∀ (n : Nat) (a0 : Nat) (a1 : Int32) (a2 : Int32) (hp : PH) (r : PH), f_X11_layWays_L62 k32 n a0 a1 a2 hp = some r → PW K (rmD (1)) 0 0 M_X11_layWays 62 [(0, .ref (ga K a0)), (1, .int a1), (2, .int a2)] [] hp none r := by
  intro n
  induction n with
  | zero =>
    intro a0 a1 a2 hp r h
    rw [f_X11_layWays_L62] at h
    cases h
  | succ n ih =>
    intro a0 a1 a2 hp r h
    rw [f_X11_layWays_L62] at h
    refine PW.iload_n 2 dX11_layWays_62 rfl rfl ?_
    refine PW.aload_n 0 dX11_layWays_63 rfl rfl ?_
    obtain ⟨x1, hx1, h⟩ := bind_some h
    refine PW.getR cls_X11 (j := 0) (by decide) dX11_layWays_64 wd_895 hx1 ?_
    refine PW.bipush (x := 37) dX11_layWays_67 (by decide) ?_
    refine PW.iload_n 1 dX11_layWays_69 rfl rfl ?_
    refine PW.iadd dX11_layWays_70 ?_
    obtain ⟨x2, hx2, h⟩ := bind_some h
    refine PW.iald dX11_layWays_71 hx2 ?_
    refine PW.icmp_gt (tgt := 164) dX11_layWays_72 (by decide) (fun c72 => ?_) (fun c72 => ?_)
    · rw [if_pos c72] at h
      refine PW.iconst (x := 0) dX11_layWays_164 (by decide) ?_
      refine PW.istore_n (l' := [(2, .int 0), (0, .ref (ga K a0)), (1, .int a1)]) dX11_layWays_165 rfl (by decide) rfl ?_
      exact PW.sub (l' := [(0, .ref (ga K a0)), (1, .int a1), (2, .int 0)]) [1, 2, 0] rfl (mf_X11_layWays_L166 hk32 NN a0 a1 0 hp _ h)
    · rw [if_neg c72] at h
      refine PW.iconst (x := 0) dX11_layWays_75 (by decide) ?_
      refine PW.istore_n (l' := [(3, .int 0), (0, .ref (ga K a0)), (1, .int a1), (2, .int a2)]) dX11_layWays_76 rfl (by decide) rfl ?_
      exact PW.sub (l' := [(0, .ref (ga K a0)), (1, .int a1), (2, .int a2), (3, .int 0)]) [1, 2, 3, 0] rfl (mf_X11_layWays_L77 hk32 ih NN a0 a1 a2 0 hp _ h)
set_option maxRecDepth 100000 in
set_option maxHeartbeats 4000000 in
theorem mf_X11_layWays_L40 {K : GK} {k32 : Nat → Int32 → PH → Option PH} (hk32 : ∀ (a0 : Nat) (a1 : Int32) (hp : PH) (r : PH), k32 a0 a1 hp = some r → PW K (rmD (1)) 0 0 M_X11_layWays 32 [(0, .ref (ga K a0)), (1, .int a1)] [] hp none r) : ∀ (n : Nat) (a0 : Nat) (a1 : Int32) (a2 : Int32) (hp : PH) (r : PH), f_X11_layWays_L40 k32 n a0 a1 a2 hp = some r → PW K (rmD (1)) 0 0 M_X11_layWays 40 [(0, .ref (ga K a0)), (1, .int a1), (2, .int a2)] [] hp none r := by
  intro n
  induction n with
  | zero =>
    intro a0 a1 a2 hp r h
    rw [f_X11_layWays_L40] at h
    cases h
  | succ n ih =>
    intro a0 a1 a2 hp r h
    rw [f_X11_layWays_L40] at h
    refine PW.iload_n 2 dX11_layWays_40 rfl rfl ?_
    refine PW.sipush (x := 610) dX11_layWays_41 (by decide) ?_
    refine PW.icmp_ge (tgt := 60) dX11_layWays_44 (by decide) (fun c44 => ?_) (fun c44 => ?_)
    · rw [if_pos c44] at h
      refine PW.iconst (x := 0) dX11_layWays_60 (by decide) ?_
      refine PW.istore_n (l' := [(2, .int 0), (0, .ref (ga K a0)), (1, .int a1)]) dX11_layWays_61 rfl (by decide) rfl ?_
      exact PW.sub (l' := [(0, .ref (ga K a0)), (1, .int a1), (2, .int 0)]) [1, 2, 0] rfl (mf_X11_layWays_L62 hk32 NN a0 a1 0 hp _ h)
    · rw [if_neg c44] at h
      refine PW.aload_n 0 dX11_layWays_47 rfl rfl ?_
      obtain ⟨x15, hx15, h⟩ := bind_some h
      refine PW.getR cls_X11 (j := 26) (by decide) dX11_layWays_48 wd_921 hx15 ?_
      refine PW.iload_n 2 dX11_layWays_51 rfl rfl ?_
      refine PW.lconst (x := 0) dX11_layWays_52 (by decide) ?_
      obtain ⟨hp16, hhp16, h⟩ := bind_some h
      refine PW.last dX11_layWays_53 hhp16 ?_
      refine PW.iinc 2 (l' := [(2, .int (a2 + 1)), (0, .ref (ga K a0)), (1, .int a1)]) dX11_layWays_54 rfl (x := a2) (y := (a2 + 1)) rfl (by decide) rfl ?_
      refine PW.goto (tgt := 40) dX11_layWays_57 (by decide) ?_
      exact PW.sub (l' := [(0, .ref (ga K a0)), (1, .int a1), (2, .int (a2 + 1))]) [1, 2, 0] rfl (ih a0 a1 (a2 + 1) hp16 _ h)
set_option maxRecDepth 100000 in
set_option maxHeartbeats 4000000 in
theorem mf_X11_layWays_L32 {K : GK} : ∀ (n : Nat) (a0 : Nat) (a1 : Int32) (hp : PH) (r : PH), f_X11_layWays_L32 n a0 a1 hp = some r → PW K (rmD (1)) 0 0 M_X11_layWays 32 [(0, .ref (ga K a0)), (1, .int a1)] [] hp none r := by
  intro n
  induction n with
  | zero =>
    intro a0 a1 hp r h
    rw [f_X11_layWays_L32] at h
    cases h
  | succ n ih =>
    intro a0 a1 hp r h
    rw [f_X11_layWays_L32] at h
    refine PW.iload_n 1 dX11_layWays_32 rfl rfl ?_
    refine PW.bipush (x := 10) dX11_layWays_33 (by decide) ?_
    refine PW.icmp_ge (tgt := 197) dX11_layWays_35 (by decide) (fun c35 => ?_) (fun c35 => ?_)
    · rw [if_pos c35] at h
      have h := Option.some.inj h
      subst h
      exact PW.ret dX11_layWays_197 trivial rfl
    · rw [if_neg c35] at h
      refine PW.iconst (x := 0) dX11_layWays_38 (by decide) ?_
      refine PW.istore_n (l' := [(2, .int 0), (0, .ref (ga K a0)), (1, .int a1)]) dX11_layWays_39 rfl (by decide) rfl ?_
      exact PW.sub (l' := [(0, .ref (ga K a0)), (1, .int a1), (2, .int 0)]) [1, 2, 0] rfl (mf_X11_layWays_L40 ih NN a0 a1 0 hp _ h)
set_option maxRecDepth 100000 in
set_option maxHeartbeats 4000000 in
theorem mf_X11_layWays_L2 {K : GK} : ∀ (n : Nat) (a0 : Nat) (a1 : Int32) (hp : PH) (r : PH), f_X11_layWays_L2 n a0 a1 hp = some r → PW K (rmD (1)) 0 0 M_X11_layWays 2 [(0, .ref (ga K a0)), (1, .int a1)] [] hp none r := by
  intro n
  induction n with
  | zero =>
    intro a0 a1 hp r h
    rw [f_X11_layWays_L2] at h
    cases h
  | succ n ih =>
    intro a0 a1 hp r h
    rw [f_X11_layWays_L2] at h
    refine PW.iload_n 1 dX11_layWays_2 rfl rfl ?_
    refine PW.sipush (x := 610) dX11_layWays_3 (by decide) ?_
    refine PW.icmp_ge (tgt := 30) dX11_layWays_6 (by decide) (fun c6 => ?_) (fun c6 => ?_)
    · rw [if_pos c6] at h
      refine PW.iconst (x := 0) dX11_layWays_30 (by decide) ?_
      refine PW.istore_n (l' := [(1, .int 0), (0, .ref (ga K a0))]) dX11_layWays_31 rfl (by decide) rfl ?_
      exact PW.sub (l' := [(0, .ref (ga K a0)), (1, .int 0)]) [1, 0] rfl (mf_X11_layWays_L32 NN a0 0 hp _ h)
    · rw [if_neg c6] at h
      refine PW.aload_n 0 dX11_layWays_9 rfl rfl ?_
      obtain ⟨x17, hx17, h⟩ := bind_some h
      refine PW.getR cls_X11 (j := 25) (by decide) dX11_layWays_10 wd_920 hx17 ?_
      refine PW.iload_n 1 dX11_layWays_13 rfl rfl ?_
      refine PW.iload_n 1 dX11_layWays_14 rfl rfl ?_
      refine PW.if_ne (tgt := 22) dX11_layWays_15 (by decide) (fun c15 => ?_) (fun c15 => ?_)
      · rw [if_neg c15] at h
        refine PW.lconst (x := 0) dX11_layWays_22 (by decide) ?_
        obtain ⟨hp18, hhp18, h⟩ := bind_some h
        refine PW.last dX11_layWays_23 hhp18 ?_
        refine PW.iinc 1 (l' := [(1, .int (a1 + 1)), (0, .ref (ga K a0))]) dX11_layWays_24 rfl (x := a1) (y := (a1 + 1)) rfl (by decide) rfl ?_
        refine PW.goto (tgt := 2) dX11_layWays_27 (by decide) ?_
        exact PW.sub (l' := [(0, .ref (ga K a0)), (1, .int (a1 + 1))]) [1, 0] rfl (ih a0 (a1 + 1) hp18 _ h)
      · rw [if_pos c15] at h
        refine PW.lconst (x := 1) dX11_layWays_18 (by decide) ?_
        refine PW.goto (tgt := 23) dX11_layWays_19 (by decide) ?_
        obtain ⟨hp19, hhp19, h⟩ := bind_some h
        refine PW.last dX11_layWays_23 hhp19 ?_
        refine PW.iinc 1 (l' := [(1, .int (a1 + 1)), (0, .ref (ga K a0))]) dX11_layWays_24 rfl (x := a1) (y := (a1 + 1)) rfl (by decide) rfl ?_
        refine PW.goto (tgt := 2) dX11_layWays_27 (by decide) ?_
        exact PW.sub (l' := [(0, .ref (ga K a0)), (1, .int (a1 + 1))]) [1, 0] rfl (ih a0 (a1 + 1) hp19 _ h)
set_option maxRecDepth 100000 in
set_option maxHeartbeats 4000000 in
theorem mf_X11_layWays {K : GK} : ∀ (a0 : Nat) (hp : PH) (r : PH), f_X11_layWays a0 hp = some r → PM K (1) M_X11_layWays [.ref (ga K a0)] hp none r := by
  intro a0 hp r h
  unfold f_X11_layWays at h
  refine PM.enter (l0 := [(0, .ref (ga K a0))]) (by decide +kernel) rfl (Nat.le_of_ble_eq_true rfl) rfl ?_
  refine PW.iconst (x := 0) dX11_layWays_0 (by decide) ?_
  refine PW.istore_n (l' := [(1, .int 0), (0, .ref (ga K a0))]) dX11_layWays_1 rfl (by decide) rfl ?_
  exact PW.sub (l' := [(0, .ref (ga K a0)), (1, .int 0)]) [1, 0] rfl (mf_X11_layWays_L2 NN a0 0 hp _ h)
