-- X11_least
def f_X11_least_L2 : Nat → Int32 → Int32 → Option Int32
  | 0, _, _ => none
  | n + 1, a0, a1 => (if (f_X11_has a0 a1) = 0 then ((f_X11_least_L2 n) a0 (a1 + 1)) else (some a1))
def f_X11_least (a0 : Int32) : Option Int32 := (f_X11_least_L2 NN a0 0)
set_option maxRecDepth 100000 in
set_option maxHeartbeats 4000000 in
theorem mf_X11_least_L2 {K : GK} {hp : PH} : ∀ (n : Nat) (a0 : Int32) (a1 : Int32) (r : Int32), f_X11_least_L2 n a0 a1 = some r → PW K (rmD (1)) 0 0 M_X11_least 2 [(0, .int a0), (1, .int a1)] [] hp (some (.int r)) hp := by
  intro n
  induction n with
  | zero =>
    intro a0 a1 r h
    rw [f_X11_least_L2] at h
    cases h
  | succ n ih =>
    intro a0 a1 r h
    rw [f_X11_least_L2] at h
    refine PW.iload_n 0 dX11_least_2 rfl rfl ?_
    refine PW.iload_n 1 dX11_least_3 rfl rfl ?_
    refine PW.callSi (As := [.int a0, .int a1]) (rest := []) cal_X11_has dX11_least_4 wd_1044 rfl rfl (rmLe (by omega)) (Nat.le_of_ble_eq_true rfl) rm_0 (mf_X11_has a0 a1 _ rfl) ?_
    refine PW.if_ne (tgt := 16) dX11_least_7 (by decide) (fun c7 => ?_) (fun c7 => ?_)
    · rw [if_neg c7] at h
      refine PW.iload_n 1 dX11_least_16 rfl rfl ?_
      have h := Option.some.inj h; subst h
      exact PW.ret dX11_least_17 trivial rfl
    · rw [if_pos c7] at h
      refine PW.iinc 1 (l' := [(1, .int (a1 + 1)), (0, .int a0)]) dX11_least_10 rfl (x := a1) (y := (a1 + 1)) rfl (by decide) rfl ?_
      refine PW.goto (tgt := 2) dX11_least_13 (by decide) ?_
      exact PW.sub (l' := [(0, .int a0), (1, .int (a1 + 1))]) [1, 0] rfl (ih a0 (a1 + 1) _ h)
set_option maxRecDepth 100000 in
set_option maxHeartbeats 4000000 in
theorem mf_X11_least {K : GK} {hp : PH} : ∀ (a0 : Int32) (r : Int32), f_X11_least a0 = some r → PM K (1) M_X11_least [.int a0] hp (some (.int r)) hp := by
  intro a0 r h
  unfold f_X11_least at h
  refine PM.enter (l0 := [(0, .int a0)]) (by decide +kernel) rfl (Nat.le_of_ble_eq_true rfl) rfl ?_
  refine PW.iconst (x := 0) dX11_least_0 (by decide) ?_
  refine PW.istore_n (l' := [(1, .int 0), (0, .int a0)]) dX11_least_1 rfl (by decide) rfl ?_
  exact PW.sub (l' := [(0, .int a0), (1, .int 0)]) [1, 0] rfl (mf_X11_least_L2 NN a0 0 _ h)
-- X11_isPart
def f_X11_isPart (a0 : Int32) (a1 : Int32) : Int32 := (if (a0 &&& (a1 ^^^ (-1))) = 0 then (1) else (0))
set_option maxRecDepth 100000 in
set_option maxHeartbeats 4000000 in
theorem mf_X11_isPart {K : GK} {hp : PH} : ∀ (a0 : Int32) (a1 : Int32) (r : Int32), f_X11_isPart a0 a1 = r → PM K (0) M_X11_isPart [.int a0, .int a1] hp (some (.int r)) hp := by
  intro a0 a1 r h
  unfold f_X11_isPart at h
  refine PM.enter (l0 := [(0, .int a0), (1, .int a1)]) (by decide +kernel) rfl (Nat.le_of_ble_eq_true rfl) rfl ?_
  refine PW.iload_n 0 dX11_isPart_0 rfl rfl ?_
  refine PW.iload_n 1 dX11_isPart_1 rfl rfl ?_
  refine PW.iconst (x := (-1)) dX11_isPart_2 (by decide) ?_
  refine PW.ixor dX11_isPart_3 ?_
  refine PW.iand dX11_isPart_4 ?_
  refine PW.if_ne (tgt := 12) dX11_isPart_5 (by decide) (fun c5 => ?_) (fun c5 => ?_)
  · rw [if_neg c5] at h
    refine PW.iconst (x := 0) dX11_isPart_12 (by decide) ?_
    subst h
    exact PW.ret dX11_isPart_13 (z_nar (Or.inl rfl)).1 rfl
  · rw [if_pos c5] at h
    refine PW.iconst (x := 1) dX11_isPart_8 (by decide) ?_
    refine PW.goto (tgt := 13) dX11_isPart_9 (by decide) ?_
    subst h
    exact PW.ret dX11_isPart_13 (z_nar (Or.inr rfl)).1 rfl
-- X11_layParts
def f_X11_layParts_L94 (k50 : Nat → Int32 → Int32 → PH → Option PH) : Nat → Nat → Int32 → Int32 → Int32 → Int32 → PH → Option PH
  | 0, _, _, _, _, _, _ => none
  | n + 1, a0, a1, a3, a4, a5, hp => (if a3 < a5 then (k50 a0 a1 (a3 + 1) hp) else (if (f_X11_isPart a5 a3) = 0 then ((f_X11_layParts_L94 k50 n) a0 a1 a3 a4 (a5 + 1) hp) else (if (f_X11_has a5 a4) = 0 then ((f_X11_layParts_L94 k50 n) a0 a1 a3 a4 (a5 + 1) hp) else (gR hp a0 10 19).bind fun x11 => (aI hp x11 1 a5).bind fun x12 => (if x12 = 0 then ((f_X11_layParts_L94 k50 n) a0 a1 a3 a4 (a5 + 1) hp) else (gR hp a0 10 20).bind fun x13 => (aI hp x13 0 (a3 &&& (a5 ^^^ (-1)))).bind fun x14 => (gR hp a0 10 20).bind fun x15 => (aI hp x15 0 a3).bind fun x16 => (if x16 ≤ (x14 + 1) then ((f_X11_layParts_L94 k50 n) a0 a1 a3 a4 (a5 + 1) hp) else (gR hp a0 10 20).bind fun x17 => (gR hp a0 10 20).bind fun x18 => (aI hp x18 0 (a3 &&& (a5 ^^^ (-1)))).bind fun x19 => (uI hp x17 a3 (x19 + 1)).bind fun hp20 => ((f_X11_layParts_L94 k50 n) a0 a1 a3 a4 (a5 + 1) hp20))))))
def f_X11_layParts_L50 : Nat → Nat → Int32 → Int32 → PH → Option PH
  | 0, _, _, _, _ => none
  | n + 1, a0, a1, a3, hp => (if a1 < a3 then some hp else (if (f_X11_isPart a3 a1) = 0 then ((f_X11_layParts_L50 n) a0 a1 (a3 + 1) hp) else (f_X11_least a3).bind fun q4 => (gR hp a0 10 20).bind fun x5 => (gR hp a0 10 20).bind fun x6 => (aI hp x6 0 (a3 &&& ((iL 1 q4) ^^^ (-1)))).bind fun x7 => (uI hp x5 a3 (x7 + 16)).bind fun hp8 => (f_X11_layParts_L94 (f_X11_layParts_L50 n) NN a0 a1 a3 q4 1 hp8)))
def f_X11_layParts_L2 : Nat → Nat → Int32 → Int32 → Int32 → PH → Option PH
  | 0, _, _, _, _, _ => none
  | n + 1, a0, a1, a2, a3, hp => (if a1 < a3 then (gR hp a0 10 20).bind fun x1 => (uI hp x1 0 0).bind fun hp2 => (f_X11_layParts_L50 NN a0 a1 1 hp2) else (gR hp a0 10 19).bind fun x21 => (if (f_X11_isPart a3 a1) = 0 then (uZ hp x21 a3 0).bind fun hp23 => ((f_X11_layParts_L2 n) a0 a1 a2 (a3 + 1) hp23) else (vC hp a0 10 (f_X11_whyNot a0 a3 a2 hp)).bind fun q24 => (if q24 = 0 then (uZ hp x21 a3 1).bind fun hp26 => ((f_X11_layParts_L2 n) a0 a1 a2 (a3 + 1) hp26) else (uZ hp x21 a3 0).bind fun hp25 => ((f_X11_layParts_L2 n) a0 a1 a2 (a3 + 1) hp25))))
def f_X11_layParts (a0 : Nat) (a1 : Int32) (a2 : Int32) (hp : PH) : Option PH := (f_X11_layParts_L2 NN a0 a1 a2 1 hp)
set_option maxRecDepth 100000 in
set_option maxHeartbeats 4000000 in
theorem mf_X11_layParts_L94 {K : GK} {k50 : Nat → Int32 → Int32 → PH → Option PH} (hk50 : ∀ (a0 : Nat) (a1 : Int32) (a3 : Int32) (hp : PH) (r : PH), k50 a0 a1 a3 hp = some r → PW K (rmD (3)) 0 0 M_X11_layParts 50 [(0, .ref (ga K a0)), (1, .int a1), (3, .int a3)] [] hp none r) : ∀ (n : Nat) (a0 : Nat) (a1 : Int32) (a3 : Int32) (a4 : Int32) (a5 : Int32) (hp : PH) (r : PH), f_X11_layParts_L94 k50 n a0 a1 a3 a4 a5 hp = some r → PW K (rmD (3)) 0 0 M_X11_layParts 94 [(0, .ref (ga K a0)), (1, .int a1), (3, .int a3), (4, .int a4), (5, .int a5)] [] hp none r := by
  intro n
  induction n with
  | zero =>
    intro a0 a1 a3 a4 a5 hp r h
    rw [f_X11_layParts_L94] at h
    cases h
  | succ n ih =>
    intro a0 a1 a3 a4 a5 hp r h
    rw [f_X11_layParts_L94] at h
    refine PW.iload 4 dX11_layParts_94 rfl ?_
    refine PW.iload_n 2 dX11_layParts_96 rfl rfl ?_
    refine PW.icmp_gt (tgt := 176) dX11_layParts_97 (by decide) (fun c97 => ?_) (fun c97 => ?_)
    · rw [if_pos c97] at h
      refine PW.iinc 2 (l' := [(3, .int (a3 + 1)), (0, .ref (ga K a0)), (1, .int a1), (4, .int a4), (5, .int a5)]) dX11_layParts_176 rfl (x := a3) (y := (a3 + 1)) rfl (by decide) rfl ?_
      refine PW.goto (tgt := 50) dX11_layParts_179 (by decide) ?_
      exact PW.sub (l' := [(0, .ref (ga K a0)), (1, .int a1), (3, .int (a3 + 1))]) [1, 2, 0] rfl (hk50 a0 a1 (a3 + 1) hp _ h)
    · rw [if_neg c97] at h
      refine PW.iload 4 dX11_layParts_100 rfl ?_
      refine PW.iload_n 2 dX11_layParts_102 rfl rfl ?_
      refine PW.callSi (As := [.int a5, .int a3]) (rest := []) cal_X11_isPart dX11_layParts_103 wd_1163 rfl rfl (rmLe (by omega)) (Nat.le_of_ble_eq_true rfl) rm_0 (mf_X11_isPart a5 a3 _ rfl) ?_
      refine PW.if_eq (tgt := 170) dX11_layParts_106 (by decide) (fun c106 => ?_) (fun c106 => ?_)
      · rw [if_pos c106] at h
        refine PW.iinc 4 (l' := [(5, .int (a5 + 1)), (0, .ref (ga K a0)), (1, .int a1), (3, .int a3), (4, .int a4)]) dX11_layParts_170 rfl (x := a5) (y := (a5 + 1)) rfl (by decide) rfl ?_
        refine PW.goto (tgt := 94) dX11_layParts_173 (by decide) ?_
        exact PW.sub (l' := [(0, .ref (ga K a0)), (1, .int a1), (3, .int a3), (4, .int a4), (5, .int (a5 + 1))]) [1, 2, 3, 4, 0] rfl (ih a0 a1 a3 a4 (a5 + 1) hp _ h)
      · rw [if_neg c106] at h
        refine PW.iload 4 dX11_layParts_109 rfl ?_
        refine PW.iload 3 dX11_layParts_111 rfl ?_
        refine PW.callSi (As := [.int a5, .int a4]) (rest := []) cal_X11_has dX11_layParts_113 wd_1044 rfl rfl (rmLe (by omega)) (Nat.le_of_ble_eq_true rfl) rm_0 (mf_X11_has a5 a4 _ rfl) ?_
        refine PW.if_eq (tgt := 170) dX11_layParts_116 (by decide) (fun c116 => ?_) (fun c116 => ?_)
        · rw [if_pos c116] at h
          refine PW.iinc 4 (l' := [(5, .int (a5 + 1)), (0, .ref (ga K a0)), (1, .int a1), (3, .int a3), (4, .int a4)]) dX11_layParts_170 rfl (x := a5) (y := (a5 + 1)) rfl (by decide) rfl ?_
          refine PW.goto (tgt := 94) dX11_layParts_173 (by decide) ?_
          exact PW.sub (l' := [(0, .ref (ga K a0)), (1, .int a1), (3, .int a3), (4, .int a4), (5, .int (a5 + 1))]) [1, 2, 3, 4, 0] rfl (ih a0 a1 a3 a4 (a5 + 1) hp _ h)
        · rw [if_neg c116] at h
          refine PW.aload_n 0 dX11_layParts_119 rfl rfl ?_
          obtain ⟨x11, hx11, h⟩ := bind_some h
          refine PW.getR cls_X11 (j := 19) (by decide) dX11_layParts_120 wd_914 hx11 ?_
          refine PW.iload 4 dX11_layParts_123 rfl ?_
          obtain ⟨x12, hx12, h⟩ := bind_some h
          refine PW.zald dX11_layParts_125 hx12 ?_
          refine PW.if_eq (tgt := 170) dX11_layParts_126 (by decide) (fun c126 => ?_) (fun c126 => ?_)
          · rw [if_pos c126] at h
            refine PW.iinc 4 (l' := [(5, .int (a5 + 1)), (0, .ref (ga K a0)), (1, .int a1), (3, .int a3), (4, .int a4)]) dX11_layParts_170 rfl (x := a5) (y := (a5 + 1)) rfl (by decide) rfl ?_
            refine PW.goto (tgt := 94) dX11_layParts_173 (by decide) ?_
            exact PW.sub (l' := [(0, .ref (ga K a0)), (1, .int a1), (3, .int a3), (4, .int a4), (5, .int (a5 + 1))]) [1, 2, 3, 4, 0] rfl (ih a0 a1 a3 a4 (a5 + 1) hp _ h)
          · rw [if_neg c126] at h
            refine PW.aload_n 0 dX11_layParts_129 rfl rfl ?_
            obtain ⟨x13, hx13, h⟩ := bind_some h
            refine PW.getR cls_X11 (j := 20) (by decide) dX11_layParts_130 wd_915 hx13 ?_
            refine PW.iload_n 2 dX11_layParts_133 rfl rfl ?_
            refine PW.iload 4 dX11_layParts_134 rfl ?_
            refine PW.iconst (x := (-1)) dX11_layParts_136 (by decide) ?_
            refine PW.ixor dX11_layParts_137 ?_
            refine PW.iand dX11_layParts_138 ?_
            obtain ⟨x14, hx14, h⟩ := bind_some h
            refine PW.iald dX11_layParts_139 hx14 ?_
            refine PW.iconst (x := 1) dX11_layParts_140 (by decide) ?_
            refine PW.iadd dX11_layParts_141 ?_
            refine PW.aload_n 0 dX11_layParts_142 rfl rfl ?_
            obtain ⟨x15, hx15, h⟩ := bind_some h
            refine PW.getR cls_X11 (j := 20) (by decide) dX11_layParts_143 wd_915 hx15 ?_
            refine PW.iload_n 2 dX11_layParts_146 rfl rfl ?_
            obtain ⟨x16, hx16, h⟩ := bind_some h
            refine PW.iald dX11_layParts_147 hx16 ?_
            refine PW.icmp_ge (tgt := 170) dX11_layParts_148 (by decide) (fun c148 => ?_) (fun c148 => ?_)
            · rw [if_pos c148] at h
              refine PW.iinc 4 (l' := [(5, .int (a5 + 1)), (0, .ref (ga K a0)), (1, .int a1), (3, .int a3), (4, .int a4)]) dX11_layParts_170 rfl (x := a5) (y := (a5 + 1)) rfl (by decide) rfl ?_
              refine PW.goto (tgt := 94) dX11_layParts_173 (by decide) ?_
              exact PW.sub (l' := [(0, .ref (ga K a0)), (1, .int a1), (3, .int a3), (4, .int a4), (5, .int (a5 + 1))]) [1, 2, 3, 4, 0] rfl (ih a0 a1 a3 a4 (a5 + 1) hp _ h)
            · rw [if_neg c148] at h
              refine PW.aload_n 0 dX11_layParts_151 rfl rfl ?_
              obtain ⟨x17, hx17, h⟩ := bind_some h
              refine PW.getR cls_X11 (j := 20) (by decide) dX11_layParts_152 wd_915 hx17 ?_
              refine PW.iload_n 2 dX11_layParts_155 rfl rfl ?_
              refine PW.aload_n 0 dX11_layParts_156 rfl rfl ?_
              obtain ⟨x18, hx18, h⟩ := bind_some h
              refine PW.getR cls_X11 (j := 20) (by decide) dX11_layParts_157 wd_915 hx18 ?_
              refine PW.iload_n 2 dX11_layParts_160 rfl rfl ?_
              refine PW.iload 4 dX11_layParts_161 rfl ?_
              refine PW.iconst (x := (-1)) dX11_layParts_163 (by decide) ?_
              refine PW.ixor dX11_layParts_164 ?_
              refine PW.iand dX11_layParts_165 ?_
              obtain ⟨x19, hx19, h⟩ := bind_some h
              refine PW.iald dX11_layParts_166 hx19 ?_
              refine PW.iconst (x := 1) dX11_layParts_167 (by decide) ?_
              refine PW.iadd dX11_layParts_168 ?_
              obtain ⟨hp20, hhp20, h⟩ := bind_some h
              refine PW.iast dX11_layParts_169 hhp20 ?_
              refine PW.iinc 4 (l' := [(5, .int (a5 + 1)), (0, .ref (ga K a0)), (1, .int a1), (3, .int a3), (4, .int a4)]) dX11_layParts_170 rfl (x := a5) (y := (a5 + 1)) rfl (by decide) rfl ?_
              refine PW.goto (tgt := 94) dX11_layParts_173 (by decide) ?_
              exact PW.sub (l' := [(0, .ref (ga K a0)), (1, .int a1), (3, .int a3), (4, .int a4), (5, .int (a5 + 1))]) [1, 2, 3, 4, 0] rfl (ih a0 a1 a3 a4 (a5 + 1) hp20 _ h)
set_option maxRecDepth 100000 in
set_option maxHeartbeats 4000000 in
theorem mf_X11_layParts_L50 {K : GK} : ∀ (n : Nat) (a0 : Nat) (a1 : Int32) (a3 : Int32) (hp : PH) (r : PH), f_X11_layParts_L50 n a0 a1 a3 hp = some r → PW K (rmD (3)) 0 0 M_X11_layParts 50 [(0, .ref (ga K a0)), (1, .int a1), (3, .int a3)] [] hp none r := by
  intro n
  induction n with
  | zero =>
    intro a0 a1 a3 hp r h
    rw [f_X11_layParts_L50] at h
    cases h
  | succ n ih =>
    intro a0 a1 a3 hp r h
    rw [f_X11_layParts_L50] at h
    refine PW.iload_n 2 dX11_layParts_50 rfl rfl ?_
    refine PW.iload_n 1 dX11_layParts_51 rfl rfl ?_
    refine PW.icmp_gt (tgt := 182) dX11_layParts_52 (by decide) (fun c52 => ?_) (fun c52 => ?_)
    · rw [if_pos c52] at h
      have h := Option.some.inj h
      subst h
      exact PW.ret dX11_layParts_182 trivial rfl
    · rw [if_neg c52] at h
      refine PW.iload_n 2 dX11_layParts_55 rfl rfl ?_
      refine PW.iload_n 1 dX11_layParts_56 rfl rfl ?_
      refine PW.callSi (As := [.int a3, .int a1]) (rest := []) cal_X11_isPart dX11_layParts_57 wd_1163 rfl rfl (rmLe (by omega)) (Nat.le_of_ble_eq_true rfl) rm_0 (mf_X11_isPart a3 a1 _ rfl) ?_
      refine PW.if_eq (tgt := 176) dX11_layParts_60 (by decide) (fun c60 => ?_) (fun c60 => ?_)
      · rw [if_pos c60] at h
        refine PW.iinc 2 (l' := [(3, .int (a3 + 1)), (0, .ref (ga K a0)), (1, .int a1)]) dX11_layParts_176 rfl (x := a3) (y := (a3 + 1)) rfl (by decide) rfl ?_
        refine PW.goto (tgt := 50) dX11_layParts_179 (by decide) ?_
        exact PW.sub (l' := [(0, .ref (ga K a0)), (1, .int a1), (3, .int (a3 + 1))]) [1, 2, 0] rfl (ih a0 a1 (a3 + 1) hp _ h)
      · rw [if_neg c60] at h
        refine PW.iload_n 2 dX11_layParts_63 rfl rfl ?_
        obtain ⟨q4, hq4, h⟩ := bind_some h
        refine PW.callSi (As := [.int a3]) (rest := []) cal_X11_least dX11_layParts_64 wd_1166 rfl rfl (rmLe (by omega)) (Nat.le_of_ble_eq_true rfl) rm_0 (mf_X11_least a3 _ hq4) ?_
        refine PW.istore (l' := [(4, .int q4), (0, .ref (ga K a0)), (1, .int a1), (3, .int a3)]) dX11_layParts_67 (by decide) rfl ?_
        refine PW.aload_n 1 dX11_layParts_69 rfl rfl ?_
        obtain ⟨x5, hx5, h⟩ := bind_some h
        refine PW.getR cls_X11 (j := 20) (by decide) dX11_layParts_70 wd_915 hx5 ?_
        refine PW.iload_n 3 dX11_layParts_73 rfl rfl ?_
        refine PW.aload_n 1 dX11_layParts_74 rfl rfl ?_
        obtain ⟨x6, hx6, h⟩ := bind_some h
        refine PW.getR cls_X11 (j := 20) (by decide) dX11_layParts_75 wd_915 hx6 ?_
        refine PW.iload_n 3 dX11_layParts_78 rfl rfl ?_
        refine PW.iconst (x := 1) dX11_layParts_79 (by decide) ?_
        refine PW.iload 0 dX11_layParts_80 rfl ?_
        refine PW.ishl dX11_layParts_82 ?_
        refine PW.iconst (x := (-1)) dX11_layParts_83 (by decide) ?_
        refine PW.ixor dX11_layParts_84 ?_
        refine PW.iand dX11_layParts_85 ?_
        obtain ⟨x7, hx7, h⟩ := bind_some h
        refine PW.iald dX11_layParts_86 hx7 ?_
        refine PW.bipush (x := 16) dX11_layParts_87 (by decide) ?_
        refine PW.iadd dX11_layParts_89 ?_
        obtain ⟨hp8, hhp8, h⟩ := bind_some h
        refine PW.iast dX11_layParts_90 hhp8 ?_
        refine PW.iconst (x := 1) dX11_layParts_91 (by decide) ?_
        refine PW.istore (l' := [(5, .int 1), (4, .int q4), (0, .ref (ga K a0)), (1, .int a1), (3, .int a3)]) dX11_layParts_92 (by decide) rfl ?_
        exact PW.sub (l' := [(0, .ref (ga K a0)), (1, .int a1), (3, .int a3), (4, .int q4), (5, .int 1)]) [2, 3, 4, 1, 0] rfl (mf_X11_layParts_L94 ih NN a0 a1 a3 q4 1 hp8 _ h)
set_option maxRecDepth 100000 in
set_option maxHeartbeats 4000000 in
theorem mf_X11_layParts_L2 {K : GK} : ∀ (n : Nat) (a0 : Nat) (a1 : Int32) (a2 : Int32) (a3 : Int32) (hp : PH) (r : PH), f_X11_layParts_L2 n a0 a1 a2 a3 hp = some r → PW K (rmD (3)) 0 0 M_X11_layParts 2 [(0, .ref (ga K a0)), (1, .int a1), (2, .int a2), (3, .int a3)] [] hp none r := by
  intro n
  induction n with
  | zero =>
    intro a0 a1 a2 a3 hp r h
    rw [f_X11_layParts_L2] at h
    cases h
  | succ n ih =>
    intro a0 a1 a2 a3 hp r h
    rw [f_X11_layParts_L2] at h
    refine PW.iload_n 3 dX11_layParts_2 rfl rfl ?_
    refine PW.iload_n 1 dX11_layParts_3 rfl rfl ?_
    refine PW.icmp_gt (tgt := 41) dX11_layParts_4 (by decide) (fun c4 => ?_) (fun c4 => ?_)
    · rw [if_pos c4] at h
      refine PW.aload_n 0 dX11_layParts_41 rfl rfl ?_
      obtain ⟨x1, hx1, h⟩ := bind_some h
      refine PW.getR cls_X11 (j := 20) (by decide) dX11_layParts_42 wd_915 hx1 ?_
      refine PW.iconst (x := 0) dX11_layParts_45 (by decide) ?_
      refine PW.iconst (x := 0) dX11_layParts_46 (by decide) ?_
      obtain ⟨hp2, hhp2, h⟩ := bind_some h
      refine PW.iast dX11_layParts_47 hhp2 ?_
      refine PW.iconst (x := 1) dX11_layParts_48 (by decide) ?_
      refine PW.istore_n (l' := [(3, .int 1), (0, .ref (ga K a0)), (1, .int a1), (2, .int a2)]) dX11_layParts_49 rfl (by decide) rfl ?_
      exact PW.sub (l' := [(0, .ref (ga K a0)), (1, .int a1), (3, .int 1)]) [1, 2, 0] rfl (mf_X11_layParts_L50 NN a0 a1 1 hp2 _ h)
    · rw [if_neg c4] at h
      refine PW.aload_n 0 dX11_layParts_7 rfl rfl ?_
      obtain ⟨x21, hx21, h⟩ := bind_some h
      refine PW.getR cls_X11 (j := 19) (by decide) dX11_layParts_8 wd_914 hx21 ?_
      refine PW.iload_n 3 dX11_layParts_11 rfl rfl ?_
      refine PW.iload_n 3 dX11_layParts_12 rfl rfl ?_
      refine PW.iload_n 1 dX11_layParts_13 rfl rfl ?_
      refine PW.callSi (As := [.int a3, .int a1]) (rest := [.int a3, .ref (ga K x21)]) cal_X11_isPart dX11_layParts_14 wd_1163 rfl rfl (rmLe (by omega)) (Nat.le_of_ble_eq_true rfl) rm_0 (mf_X11_isPart a3 a1 _ rfl) ?_
      refine PW.if_eq (tgt := 33) dX11_layParts_17 (by decide) (fun c17 => ?_) (fun c17 => ?_)
      · rw [if_pos c17] at h
        refine PW.iconst (x := 0) dX11_layParts_33 (by decide) ?_
        obtain ⟨hp23, hhp23, h⟩ := bind_some h
        refine PW.zast dX11_layParts_34 hhp23 ?_
        refine PW.iinc 3 (l' := [(3, .int (a3 + 1)), (0, .ref (ga K a0)), (1, .int a1), (2, .int a2)]) dX11_layParts_35 rfl (x := a3) (y := (a3 + 1)) rfl (by decide) rfl ?_
        refine PW.goto (tgt := 2) dX11_layParts_38 (by decide) ?_
        exact PW.sub (l' := [(0, .ref (ga K a0)), (1, .int a1), (2, .int a2), (3, .int (a3 + 1))]) [1, 2, 3, 0] rfl (ih a0 a1 a2 (a3 + 1) hp23 _ h)
      · rw [if_neg c17] at h
        refine PW.aload_n 0 dX11_layParts_20 rfl rfl ?_
        refine PW.iload_n 3 dX11_layParts_21 rfl rfl ?_
        refine PW.iload_n 2 dX11_layParts_22 rfl rfl ?_
        obtain ⟨q24, hq24, h⟩ := bind_some h
        obtain ⟨hkq24, hcq24, hq24⟩ := vC_spec hq24
        refine PW.callVi (As := [.int a3, .int a2]) (rest := [.int a3, .ref (ga K x21)]) (k := a0) cal_X11_whyNot dX11_layParts_23 wd_1079 rfl rfl (rmLe (by omega)) (Nat.le_of_ble_eq_true rfl) rm_0 hkq24 hcq24 (mf_X11_whyNot a0 a3 a2 hp _ hq24) ?_
        refine PW.if_ne (tgt := 33) dX11_layParts_26 (by decide) (fun c26 => ?_) (fun c26 => ?_)
        · rw [if_neg c26] at h
          refine PW.iconst (x := 0) dX11_layParts_33 (by decide) ?_
          obtain ⟨hp25, hhp25, h⟩ := bind_some h
          refine PW.zast dX11_layParts_34 hhp25 ?_
          refine PW.iinc 3 (l' := [(3, .int (a3 + 1)), (0, .ref (ga K a0)), (1, .int a1), (2, .int a2)]) dX11_layParts_35 rfl (x := a3) (y := (a3 + 1)) rfl (by decide) rfl ?_
          refine PW.goto (tgt := 2) dX11_layParts_38 (by decide) ?_
          exact PW.sub (l' := [(0, .ref (ga K a0)), (1, .int a1), (2, .int a2), (3, .int (a3 + 1))]) [1, 2, 3, 0] rfl (ih a0 a1 a2 (a3 + 1) hp25 _ h)
        · rw [if_pos c26] at h
          refine PW.iconst (x := 1) dX11_layParts_29 (by decide) ?_
          refine PW.goto (tgt := 34) dX11_layParts_30 (by decide) ?_
          obtain ⟨hp26, hhp26, h⟩ := bind_some h
          refine PW.zast dX11_layParts_34 hhp26 ?_
          refine PW.iinc 3 (l' := [(3, .int (a3 + 1)), (0, .ref (ga K a0)), (1, .int a1), (2, .int a2)]) dX11_layParts_35 rfl (x := a3) (y := (a3 + 1)) rfl (by decide) rfl ?_
          refine PW.goto (tgt := 2) dX11_layParts_38 (by decide) ?_
          exact PW.sub (l' := [(0, .ref (ga K a0)), (1, .int a1), (2, .int a2), (3, .int (a3 + 1))]) [1, 2, 3, 0] rfl (ih a0 a1 a2 (a3 + 1) hp26 _ h)
set_option maxRecDepth 100000 in
set_option maxHeartbeats 4000000 in
theorem mf_X11_layParts {K : GK} : ∀ (a0 : Nat) (a1 : Int32) (a2 : Int32) (hp : PH) (r : PH), f_X11_layParts a0 a1 a2 hp = some r → PM K (3) M_X11_layParts [.ref (ga K a0), .int a1, .int a2] hp none r := by
  intro a0 a1 a2 hp r h
  unfold f_X11_layParts at h
  refine PM.enter (l0 := [(0, .ref (ga K a0)), (1, .int a1), (2, .int a2)]) (by decide +kernel) rfl (Nat.le_of_ble_eq_true rfl) rfl ?_
  refine PW.iconst (x := 1) dX11_layParts_0 (by decide) ?_
  refine PW.istore_n (l' := [(3, .int 1), (0, .ref (ga K a0)), (1, .int a1), (2, .int a2)]) dX11_layParts_1 rfl (by decide) rfl ?_
  exact PW.sub (l' := [(0, .ref (ga K a0)), (1, .int a1), (2, .int a2), (3, .int 1)]) [1, 2, 3, 0] rfl (mf_X11_layParts_L2 NN a0 a1 a2 1 hp _ h)
-- X11_takeParts
def f_X11_takeParts_L27 (k12 : Nat → Int32 → PH → Option PH) : Nat → Nat → Int32 → Int32 → Int32 → Int32 → PH → Option PH
  | 0, _, _, _, _, _, _ => none
  | n + 1, a0, a2, a3, a4, a5, hp => (if a5 < 1 then (if a4 = 0 then (gI hp a0 10 21).bind fun x9 => (pI hp a0 10 21 (x9 ||| (iL 1 a3))).bind fun hp10 => (k12 a0 (a2 &&& ((iL 1 a3) ^^^ (-1))) hp10) else (gR hp a0 10 23).bind fun x4 => (gI hp a0 10 22).bind fun x5 => (uI hp x4 x5 a4).bind fun hp6 => (gI hp6 a0 10 22).bind fun x7 => (pI hp6 a0 10 22 (x7 + 1)).bind fun hp8 => (k12 a0 (a2 &&& (a4 ^^^ (-1))) hp8)) else (if (f_X11_isPart a5 a2) = 0 then ((f_X11_takeParts_L27 k12 n) a0 a2 a3 a4 (a5 + (-1)) hp) else (if (f_X11_has a5 a3) = 0 then ((f_X11_takeParts_L27 k12 n) a0 a2 a3 a4 (a5 + (-1)) hp) else (gR hp a0 10 19).bind fun x13 => (aI hp x13 1 a5).bind fun x14 => (if x14 = 0 then ((f_X11_takeParts_L27 k12 n) a0 a2 a3 a4 (a5 + (-1)) hp) else (gR hp a0 10 20).bind fun x15 => (aI hp x15 0 (a2 &&& (a5 ^^^ (-1)))).bind fun x16 => (gR hp a0 10 20).bind fun x17 => (aI hp x17 0 a2).bind fun x18 => (if (x16 + 1) = x18 then ((f_X11_takeParts_L27 k12 n) a0 a2 a3 a5 (a5 + (-1)) hp) else ((f_X11_takeParts_L27 k12 n) a0 a2 a3 a4 (a5 + (-1)) hp))))))
def f_X11_takeParts_L12 : Nat → Nat → Int32 → PH → Option PH
  | 0, _, _, _ => none
  | n + 1, a0, a2, hp => (if a2 = 0 then some hp else (f_X11_least a2).bind fun q3 => (f_X11_takeParts_L27 (f_X11_takeParts_L12 n) NN a0 a2 q3 0 a2 hp))
def f_X11_takeParts (a0 : Nat) (a1 : Int32) (hp : PH) : Option PH := (pI hp a0 10 21 0).bind fun hp1 => (pI hp1 a0 10 22 0).bind fun hp2 => (f_X11_takeParts_L12 NN a0 a1 hp2)
set_option maxRecDepth 100000 in
set_option maxHeartbeats 4000000 in
theorem mf_X11_takeParts_L27 {K : GK} {k12 : Nat → Int32 → PH → Option PH} (hk12 : ∀ (a0 : Nat) (a2 : Int32) (hp : PH) (r : PH), k12 a0 a2 hp = some r → PW K (rmD (2)) 0 0 M_X11_takeParts 12 [(0, .ref (ga K a0)), (2, .int a2)] [] hp none r) : ∀ (n : Nat) (a0 : Nat) (a2 : Int32) (a3 : Int32) (a4 : Int32) (a5 : Int32) (hp : PH) (r : PH), f_X11_takeParts_L27 k12 n a0 a2 a3 a4 a5 hp = some r → PW K (rmD (2)) 0 0 M_X11_takeParts 27 [(0, .ref (ga K a0)), (2, .int a2), (3, .int a3), (4, .int a4), (5, .int a5)] [] hp none r := by
  intro n
  induction n with
  | zero =>
    intro a0 a2 a3 a4 a5 hp r h
    rw [f_X11_takeParts_L27] at h
    cases h
  | succ n ih =>
    intro a0 a2 a3 a4 a5 hp r h
    rw [f_X11_takeParts_L27] at h
    refine PW.iload 4 dX11_takeParts_27 rfl ?_
    refine PW.iconst (x := 1) dX11_takeParts_29 (by decide) ?_
    refine PW.icmp_lt (tgt := 98) dX11_takeParts_30 (by decide) (fun c30 => ?_) (fun c30 => ?_)
    · rw [if_pos c30] at h
      refine PW.iload 3 dX11_takeParts_98 rfl ?_
      refine PW.if_ne (tgt := 126) dX11_takeParts_100 (by decide) (fun c100 => ?_) (fun c100 => ?_)
      · rw [if_neg c100] at h
        refine PW.aload_n 0 dX11_takeParts_126 rfl rfl ?_
        obtain ⟨x4, hx4, h⟩ := bind_some h
        refine PW.getR cls_X11 (j := 23) (by decide) dX11_takeParts_127 wd_918 hx4 ?_
        refine PW.aload_n 0 dX11_takeParts_130 rfl rfl ?_
        obtain ⟨x5, hx5, h⟩ := bind_some h
        refine PW.getI cls_X11 (j := 22) (by decide) dX11_takeParts_131 wd_917 hx5 ?_
        refine PW.iload 3 dX11_takeParts_134 rfl ?_
        obtain ⟨hp6, hhp6, h⟩ := bind_some h
        refine PW.iast dX11_takeParts_136 hhp6 ?_
        refine PW.aload_n 0 dX11_takeParts_137 rfl rfl ?_
        refine PW.dup dX11_takeParts_138 rfl ?_
        obtain ⟨x7, hx7, h⟩ := bind_some h
        refine PW.getI cls_X11 (j := 22) (by decide) dX11_takeParts_139 wd_917 hx7 ?_
        refine PW.iconst (x := 1) dX11_takeParts_142 (by decide) ?_
        refine PW.iadd dX11_takeParts_143 ?_
        obtain ⟨hp8, hhp8, h⟩ := bind_some h
        refine PW.putI cls_X11 clw_X11 (j := 22) (by decide) dX11_takeParts_144 wd_917 rfl rfl hhp8 ?_
        refine PW.iload_n 1 dX11_takeParts_147 rfl rfl ?_
        refine PW.iload 3 dX11_takeParts_148 rfl ?_
        refine PW.iconst (x := (-1)) dX11_takeParts_150 (by decide) ?_
        refine PW.ixor dX11_takeParts_151 ?_
        refine PW.iand dX11_takeParts_152 ?_
        refine PW.istore_n (l' := [(2, .int (a2 &&& (a4 ^^^ (-1)))), (0, .ref (ga K a0)), (3, .int a3), (4, .int a4), (5, .int a5)]) dX11_takeParts_153 rfl (by decide) rfl ?_
        refine PW.goto (tgt := 12) dX11_takeParts_154 (by decide) ?_
        exact PW.sub (l' := [(0, .ref (ga K a0)), (2, .int (a2 &&& (a4 ^^^ (-1))))]) [1, 0] rfl (hk12 a0 (a2 &&& (a4 ^^^ (-1))) hp8 _ h)
      · rw [if_pos c100] at h
        refine PW.aload_n 0 dX11_takeParts_103 rfl rfl ?_
        refine PW.dup dX11_takeParts_104 rfl ?_
        obtain ⟨x9, hx9, h⟩ := bind_some h
        refine PW.getI cls_X11 (j := 21) (by decide) dX11_takeParts_105 wd_916 hx9 ?_
        refine PW.iconst (x := 1) dX11_takeParts_108 (by decide) ?_
        refine PW.iload_n 2 dX11_takeParts_109 rfl rfl ?_
        refine PW.ishl dX11_takeParts_110 ?_
        refine PW.ior dX11_takeParts_111 ?_
        obtain ⟨hp10, hhp10, h⟩ := bind_some h
        refine PW.putI cls_X11 clw_X11 (j := 21) (by decide) dX11_takeParts_112 wd_916 rfl rfl hhp10 ?_
        refine PW.iload_n 1 dX11_takeParts_115 rfl rfl ?_
        refine PW.iconst (x := 1) dX11_takeParts_116 (by decide) ?_
        refine PW.iload_n 2 dX11_takeParts_117 rfl rfl ?_
        refine PW.ishl dX11_takeParts_118 ?_
        refine PW.iconst (x := (-1)) dX11_takeParts_119 (by decide) ?_
        refine PW.ixor dX11_takeParts_120 ?_
        refine PW.iand dX11_takeParts_121 ?_
        refine PW.istore_n (l' := [(2, .int (a2 &&& ((iL 1 a3) ^^^ (-1)))), (0, .ref (ga K a0)), (3, .int a3), (4, .int a4), (5, .int a5)]) dX11_takeParts_122 rfl (by decide) rfl ?_
        refine PW.goto (tgt := 154) dX11_takeParts_123 (by decide) ?_
        refine PW.goto (tgt := 12) dX11_takeParts_154 (by decide) ?_
        exact PW.sub (l' := [(0, .ref (ga K a0)), (2, .int (a2 &&& ((iL 1 a3) ^^^ (-1))))]) [1, 0] rfl (hk12 a0 (a2 &&& ((iL 1 a3) ^^^ (-1))) hp10 _ h)
    · rw [if_neg c30] at h
      refine PW.iload 4 dX11_takeParts_33 rfl ?_
      refine PW.iload_n 1 dX11_takeParts_35 rfl rfl ?_
      refine PW.callSi (As := [.int a5, .int a2]) (rest := []) cal_X11_isPart dX11_takeParts_36 wd_1163 rfl rfl (rmLe (by omega)) (Nat.le_of_ble_eq_true rfl) rm_0 (mf_X11_isPart a5 a2 _ rfl) ?_
      refine PW.if_eq (tgt := 88) dX11_takeParts_39 (by decide) (fun c39 => ?_) (fun c39 => ?_)
      · rw [if_pos c39] at h
        refine PW.iload 3 dX11_takeParts_88 rfl ?_
        refine PW.istore (l' := [(4, .int a4), (0, .ref (ga K a0)), (2, .int a2), (3, .int a3), (5, .int a5)]) dX11_takeParts_90 (by decide) rfl ?_
        refine PW.iinc 4 (l' := [(5, .int (a5 + (-1))), (4, .int a4), (0, .ref (ga K a0)), (2, .int a2), (3, .int a3)]) dX11_takeParts_92 rfl (x := a5) (y := (a5 + (-1))) rfl (by decide) rfl ?_
        refine PW.goto (tgt := 27) dX11_takeParts_95 (by decide) ?_
        exact PW.sub (l' := [(0, .ref (ga K a0)), (2, .int a2), (3, .int a3), (4, .int a4), (5, .int (a5 + (-1)))]) [2, 3, 4, 1, 0] rfl (ih a0 a2 a3 a4 (a5 + (-1)) hp _ h)
      · rw [if_neg c39] at h
        refine PW.iload 4 dX11_takeParts_42 rfl ?_
        refine PW.iload_n 2 dX11_takeParts_44 rfl rfl ?_
        refine PW.callSi (As := [.int a5, .int a3]) (rest := []) cal_X11_has dX11_takeParts_45 wd_1044 rfl rfl (rmLe (by omega)) (Nat.le_of_ble_eq_true rfl) rm_0 (mf_X11_has a5 a3 _ rfl) ?_
        refine PW.if_eq (tgt := 88) dX11_takeParts_48 (by decide) (fun c48 => ?_) (fun c48 => ?_)
        · rw [if_pos c48] at h
          refine PW.iload 3 dX11_takeParts_88 rfl ?_
          refine PW.istore (l' := [(4, .int a4), (0, .ref (ga K a0)), (2, .int a2), (3, .int a3), (5, .int a5)]) dX11_takeParts_90 (by decide) rfl ?_
          refine PW.iinc 4 (l' := [(5, .int (a5 + (-1))), (4, .int a4), (0, .ref (ga K a0)), (2, .int a2), (3, .int a3)]) dX11_takeParts_92 rfl (x := a5) (y := (a5 + (-1))) rfl (by decide) rfl ?_
          refine PW.goto (tgt := 27) dX11_takeParts_95 (by decide) ?_
          exact PW.sub (l' := [(0, .ref (ga K a0)), (2, .int a2), (3, .int a3), (4, .int a4), (5, .int (a5 + (-1)))]) [2, 3, 4, 1, 0] rfl (ih a0 a2 a3 a4 (a5 + (-1)) hp _ h)
        · rw [if_neg c48] at h
          refine PW.aload_n 0 dX11_takeParts_51 rfl rfl ?_
          obtain ⟨x13, hx13, h⟩ := bind_some h
          refine PW.getR cls_X11 (j := 19) (by decide) dX11_takeParts_52 wd_914 hx13 ?_
          refine PW.iload 4 dX11_takeParts_55 rfl ?_
          obtain ⟨x14, hx14, h⟩ := bind_some h
          refine PW.zald dX11_takeParts_57 hx14 ?_
          refine PW.if_eq (tgt := 88) dX11_takeParts_58 (by decide) (fun c58 => ?_) (fun c58 => ?_)
          · rw [if_pos c58] at h
            refine PW.iload 3 dX11_takeParts_88 rfl ?_
            refine PW.istore (l' := [(4, .int a4), (0, .ref (ga K a0)), (2, .int a2), (3, .int a3), (5, .int a5)]) dX11_takeParts_90 (by decide) rfl ?_
            refine PW.iinc 4 (l' := [(5, .int (a5 + (-1))), (4, .int a4), (0, .ref (ga K a0)), (2, .int a2), (3, .int a3)]) dX11_takeParts_92 rfl (x := a5) (y := (a5 + (-1))) rfl (by decide) rfl ?_
            refine PW.goto (tgt := 27) dX11_takeParts_95 (by decide) ?_
            exact PW.sub (l' := [(0, .ref (ga K a0)), (2, .int a2), (3, .int a3), (4, .int a4), (5, .int (a5 + (-1)))]) [2, 3, 4, 1, 0] rfl (ih a0 a2 a3 a4 (a5 + (-1)) hp _ h)
          · rw [if_neg c58] at h
            refine PW.aload_n 0 dX11_takeParts_61 rfl rfl ?_
            obtain ⟨x15, hx15, h⟩ := bind_some h
            refine PW.getR cls_X11 (j := 20) (by decide) dX11_takeParts_62 wd_915 hx15 ?_
            refine PW.iload_n 1 dX11_takeParts_65 rfl rfl ?_
            refine PW.iload 4 dX11_takeParts_66 rfl ?_
            refine PW.iconst (x := (-1)) dX11_takeParts_68 (by decide) ?_
            refine PW.ixor dX11_takeParts_69 ?_
            refine PW.iand dX11_takeParts_70 ?_
            obtain ⟨x16, hx16, h⟩ := bind_some h
            refine PW.iald dX11_takeParts_71 hx16 ?_
            refine PW.iconst (x := 1) dX11_takeParts_72 (by decide) ?_
            refine PW.iadd dX11_takeParts_73 ?_
            refine PW.aload_n 0 dX11_takeParts_74 rfl rfl ?_
            obtain ⟨x17, hx17, h⟩ := bind_some h
            refine PW.getR cls_X11 (j := 20) (by decide) dX11_takeParts_75 wd_915 hx17 ?_
            refine PW.iload_n 1 dX11_takeParts_78 rfl rfl ?_
            obtain ⟨x18, hx18, h⟩ := bind_some h
            refine PW.iald dX11_takeParts_79 hx18 ?_
            refine PW.icmp_ne (tgt := 88) dX11_takeParts_80 (by decide) (fun c80 => ?_) (fun c80 => ?_)
            · rw [if_neg c80] at h
              refine PW.iload 3 dX11_takeParts_88 rfl ?_
              refine PW.istore (l' := [(4, .int a4), (0, .ref (ga K a0)), (2, .int a2), (3, .int a3), (5, .int a5)]) dX11_takeParts_90 (by decide) rfl ?_
              refine PW.iinc 4 (l' := [(5, .int (a5 + (-1))), (4, .int a4), (0, .ref (ga K a0)), (2, .int a2), (3, .int a3)]) dX11_takeParts_92 rfl (x := a5) (y := (a5 + (-1))) rfl (by decide) rfl ?_
              refine PW.goto (tgt := 27) dX11_takeParts_95 (by decide) ?_
              exact PW.sub (l' := [(0, .ref (ga K a0)), (2, .int a2), (3, .int a3), (4, .int a4), (5, .int (a5 + (-1)))]) [2, 3, 4, 1, 0] rfl (ih a0 a2 a3 a4 (a5 + (-1)) hp _ h)
            · rw [if_pos c80] at h
              refine PW.iload 4 dX11_takeParts_83 rfl ?_
              refine PW.goto (tgt := 90) dX11_takeParts_85 (by decide) ?_
              refine PW.istore (l' := [(4, .int a5), (0, .ref (ga K a0)), (2, .int a2), (3, .int a3), (5, .int a5)]) dX11_takeParts_90 (by decide) rfl ?_
              refine PW.iinc 4 (l' := [(5, .int (a5 + (-1))), (4, .int a5), (0, .ref (ga K a0)), (2, .int a2), (3, .int a3)]) dX11_takeParts_92 rfl (x := a5) (y := (a5 + (-1))) rfl (by decide) rfl ?_
              refine PW.goto (tgt := 27) dX11_takeParts_95 (by decide) ?_
              exact PW.sub (l' := [(0, .ref (ga K a0)), (2, .int a2), (3, .int a3), (4, .int a5), (5, .int (a5 + (-1)))]) [2, 3, 4, 1, 0] rfl (ih a0 a2 a3 a5 (a5 + (-1)) hp _ h)
set_option maxRecDepth 100000 in
set_option maxHeartbeats 4000000 in
theorem mf_X11_takeParts_L12 {K : GK} : ∀ (n : Nat) (a0 : Nat) (a2 : Int32) (hp : PH) (r : PH), f_X11_takeParts_L12 n a0 a2 hp = some r → PW K (rmD (2)) 0 0 M_X11_takeParts 12 [(0, .ref (ga K a0)), (2, .int a2)] [] hp none r := by
  intro n
  induction n with
  | zero =>
    intro a0 a2 hp r h
    rw [f_X11_takeParts_L12] at h
    cases h
  | succ n ih =>
    intro a0 a2 hp r h
    rw [f_X11_takeParts_L12] at h
    refine PW.iload_n 1 dX11_takeParts_12 rfl rfl ?_
    refine PW.if_eq (tgt := 157) dX11_takeParts_13 (by decide) (fun c13 => ?_) (fun c13 => ?_)
    · rw [if_pos c13] at h
      have h := Option.some.inj h
      subst h
      exact PW.ret dX11_takeParts_157 trivial rfl
    · rw [if_neg c13] at h
      refine PW.iload_n 1 dX11_takeParts_16 rfl rfl ?_
      obtain ⟨q3, hq3, h⟩ := bind_some h
      refine PW.callSi (As := [.int a2]) (rest := []) cal_X11_least dX11_takeParts_17 wd_1166 rfl rfl (rmLe (by omega)) (Nat.le_of_ble_eq_true rfl) rm_0 (mf_X11_least a2 _ hq3) ?_
      refine PW.istore_n (l' := [(3, .int q3), (0, .ref (ga K a0)), (2, .int a2)]) dX11_takeParts_20 rfl (by decide) rfl ?_
      refine PW.iconst (x := 0) dX11_takeParts_21 (by decide) ?_
      refine PW.istore (l' := [(4, .int 0), (3, .int q3), (0, .ref (ga K a0)), (2, .int a2)]) dX11_takeParts_22 (by decide) rfl ?_
      refine PW.iload_n 3 dX11_takeParts_24 rfl rfl ?_
      refine PW.istore (l' := [(5, .int a2), (4, .int 0), (3, .int q3), (0, .ref (ga K a0)), (2, .int a2)]) dX11_takeParts_25 (by decide) rfl ?_
      exact PW.sub (l' := [(0, .ref (ga K a0)), (2, .int a2), (3, .int q3), (4, .int 0), (5, .int a2)]) [3, 4, 2, 1, 0] rfl (mf_X11_takeParts_L27 ih NN a0 a2 q3 0 a2 hp _ h)
set_option maxRecDepth 100000 in
set_option maxHeartbeats 4000000 in
theorem mf_X11_takeParts {K : GK} : ∀ (a0 : Nat) (a1 : Int32) (hp : PH) (r : PH), f_X11_takeParts a0 a1 hp = some r → PM K (2) M_X11_takeParts [.ref (ga K a0), .int a1] hp none r := by
  intro a0 a1 hp r h
  unfold f_X11_takeParts at h
  refine PM.enter (l0 := [(0, .ref (ga K a0)), (1, .int a1)]) (by decide +kernel) rfl (Nat.le_of_ble_eq_true rfl) rfl ?_
  refine PW.iload_n 1 dX11_takeParts_0 rfl rfl ?_
  refine PW.istore_n (l' := [(2, .int a1), (0, .ref (ga K a0)), (1, .int a1)]) dX11_takeParts_1 rfl (by decide) rfl ?_
  refine PW.aload_n 1 dX11_takeParts_2 rfl rfl ?_
  refine PW.iconst (x := 0) dX11_takeParts_3 (by decide) ?_
  obtain ⟨hp1, hhp1, h⟩ := bind_some h
  refine PW.putI cls_X11 clw_X11 (j := 21) (by decide) dX11_takeParts_4 wd_916 rfl rfl hhp1 ?_
  refine PW.aload_n 1 dX11_takeParts_7 rfl rfl ?_
  refine PW.iconst (x := 0) dX11_takeParts_8 (by decide) ?_
  obtain ⟨hp2, hhp2, h⟩ := bind_some h
  refine PW.putI cls_X11 clw_X11 (j := 22) (by decide) dX11_takeParts_9 wd_917 rfl rfl hhp2 ?_
  exact PW.sub (l' := [(0, .ref (ga K a0)), (2, .int a1)]) [1, 0] rfl (mf_X11_takeParts_L12 NN a0 a1 hp2 _ h)
-- X11_isSet
def f_X11_isSet (a0 : Nat) (a1 : Int32) (hp : PH) : Option Int32 := (if a1 = 0 then (some 1) else (vC hp a0 10 (f_X11_isCompany a0 a1 hp)).bind fun q1 => (if q1 = 0 then (some 0) else (some 1)))
set_option maxRecDepth 100000 in
set_option maxHeartbeats 4000000 in
theorem mf_X11_isSet {K : GK} : ∀ (a0 : Nat) (a1 : Int32) (hp : PH) (r : Int32), f_X11_isSet a0 a1 hp = some r → PM K (2) M_X11_isSet [.ref (ga K a0), .int a1] hp (some (.int r)) hp := by
  intro a0 a1 hp r h
  unfold f_X11_isSet at h
  refine PM.enter (l0 := [(0, .ref (ga K a0)), (1, .int a1)]) (by decide +kernel) rfl (Nat.le_of_ble_eq_true rfl) rfl ?_
  refine PW.iload_n 1 dX11_isSet_0 rfl rfl ?_
  refine PW.if_eq (tgt := 12) dX11_isSet_1 (by decide) (fun c1 => ?_) (fun c1 => ?_)
  · rw [if_pos c1] at h
    refine PW.iconst (x := 1) dX11_isSet_12 (by decide) ?_
    refine PW.goto (tgt := 17) dX11_isSet_13 (by decide) ?_
    have h := Option.some.inj h; subst h
    exact PW.ret dX11_isSet_17 (z_nar (Or.inr rfl)).1 rfl
  · rw [if_neg c1] at h
    refine PW.aload_n 0 dX11_isSet_4 rfl rfl ?_
    refine PW.iload_n 1 dX11_isSet_5 rfl rfl ?_
    obtain ⟨q1, hq1, h⟩ := bind_some h
    obtain ⟨hkq1, hcq1, hq1⟩ := vC_spec hq1
    refine PW.callVi (As := [.int a1]) (rest := []) (k := a0) cal_X11_isCompany dX11_isSet_6 wd_1071 rfl rfl (rmLe (by omega)) (Nat.le_of_ble_eq_true rfl) rm_0 hkq1 hcq1 (mf_X11_isCompany a0 a1 hp _ hq1) ?_
    refine PW.if_eq (tgt := 16) dX11_isSet_9 (by decide) (fun c9 => ?_) (fun c9 => ?_)
    · rw [if_pos c9] at h
      refine PW.iconst (x := 0) dX11_isSet_16 (by decide) ?_
      have h := Option.some.inj h; subst h
      exact PW.ret dX11_isSet_17 (z_nar (Or.inl rfl)).1 rfl
    · rw [if_neg c9] at h
      refine PW.iconst (x := 1) dX11_isSet_12 (by decide) ?_
      refine PW.goto (tgt := 17) dX11_isSet_13 (by decide) ?_
      have h := Option.some.inj h; subst h
      exact PW.ret dX11_isSet_17 (z_nar (Or.inr rfl)).1 rfl
-- X11_isLook
def f_X11_isLook (a0 : Nat) (a1 : Int32) (a2 : Int32) (a3 : Int32) (hp : PH) : Option Int32 := (vC hp a0 10 (f_X11_isSet a0 a1 hp)).bind fun q1 => (if q1 = 0 then (some 0) else (vC hp a0 10 (f_X11_isGate a0 a2 hp)).bind fun q2 => (if q2 = 0 then (some 0) else (f_X11_isDay a3).bind fun q3 => (if q3 = 0 then (some 0) else (some 1))))
set_option maxRecDepth 100000 in
set_option maxHeartbeats 4000000 in
theorem mf_X11_isLook {K : GK} : ∀ (a0 : Nat) (a1 : Int32) (a2 : Int32) (a3 : Int32) (hp : PH) (r : Int32), f_X11_isLook a0 a1 a2 a3 hp = some r → PM K (3) M_X11_isLook [.ref (ga K a0), .int a1, .int a2, .int a3] hp (some (.int r)) hp := by
  intro a0 a1 a2 a3 hp r h
  unfold f_X11_isLook at h
  refine PM.enter (l0 := [(0, .ref (ga K a0)), (1, .int a1), (2, .int a2), (3, .int a3)]) (by decide +kernel) rfl (Nat.le_of_ble_eq_true rfl) rfl ?_
  refine PW.aload_n 0 dX11_isLook_0 rfl rfl ?_
  refine PW.iload_n 1 dX11_isLook_1 rfl rfl ?_
  obtain ⟨q1, hq1, h⟩ := bind_some h
  obtain ⟨hkq1, hcq1, hq1⟩ := vC_spec hq1
  refine PW.callVi (As := [.int a1]) (rest := []) (k := a0) cal_X11_isSet dX11_isLook_2 wd_1155 rfl rfl (rmLe (by omega)) (Nat.le_of_ble_eq_true rfl) rm_0 hkq1 hcq1 (mf_X11_isSet a0 a1 hp _ hq1) ?_
  refine PW.if_eq (tgt := 27) dX11_isLook_5 (by decide) (fun c5 => ?_) (fun c5 => ?_)
  · rw [if_pos c5] at h
    refine PW.iconst (x := 0) dX11_isLook_27 (by decide) ?_
    have h := Option.some.inj h; subst h
    exact PW.ret dX11_isLook_28 (z_nar (Or.inl rfl)).1 rfl
  · rw [if_neg c5] at h
    refine PW.aload_n 0 dX11_isLook_8 rfl rfl ?_
    refine PW.iload_n 2 dX11_isLook_9 rfl rfl ?_
    obtain ⟨q2, hq2, h⟩ := bind_some h
    obtain ⟨hkq2, hcq2, hq2⟩ := vC_spec hq2
    refine PW.callVi (As := [.int a2]) (rest := []) (k := a0) cal_X11_isGate dX11_isLook_10 wd_1075 rfl rfl (rmLe (by omega)) (Nat.le_of_ble_eq_true rfl) rm_0 hkq2 hcq2 (mf_X11_isGate a0 a2 hp _ hq2) ?_
    refine PW.if_eq (tgt := 27) dX11_isLook_13 (by decide) (fun c13 => ?_) (fun c13 => ?_)
    · rw [if_pos c13] at h
      refine PW.iconst (x := 0) dX11_isLook_27 (by decide) ?_
      have h := Option.some.inj h; subst h
      exact PW.ret dX11_isLook_28 (z_nar (Or.inl rfl)).1 rfl
    · rw [if_neg c13] at h
      refine PW.iload_n 3 dX11_isLook_16 rfl rfl ?_
      obtain ⟨q3, hq3, h⟩ := bind_some h
      refine PW.callSi (As := [.int a3]) (rest := []) cal_X11_isDay dX11_isLook_17 wd_1010 rfl rfl (rmLe (by omega)) (Nat.le_of_ble_eq_true rfl) rm_0 (mf_X11_isDay a3 _ hq3) ?_
      refine PW.if_eq (tgt := 27) dX11_isLook_20 (by decide) (fun c20 => ?_) (fun c20 => ?_)
      · rw [if_pos c20] at h
        refine PW.iconst (x := 0) dX11_isLook_27 (by decide) ?_
        have h := Option.some.inj h; subst h
        exact PW.ret dX11_isLook_28 (z_nar (Or.inl rfl)).1 rfl
      · rw [if_neg c20] at h
        refine PW.iconst (x := 1) dX11_isLook_23 (by decide) ?_
        refine PW.goto (tgt := 28) dX11_isLook_24 (by decide) ?_
        have h := Option.some.inj h; subst h
        exact PW.ret dX11_isLook_28 (z_nar (Or.inr rfl)).1 rfl
-- X11_over
def f_X11_over (a0 : Nat) (a1 : Int32) (a2 : Int32) (a3 : Int32) (a4 : Int32) (hp : PH) : Option (Int32 × PH) := (vC hp a0 10 (f_X11_isLook a0 a1 a2 a3 hp)).bind fun q1 => (if q1 = 0 then (vC hp a0 10 (f_X11_bad a0 (-2) hp)).bind fun q2 => (some (q2.1, q2.2)) else (if (f_X11_in (Int32.toInt64 a4) 0 2) = 0 then (vC hp a0 10 (f_X11_bad a0 (-2) hp)).bind fun q12 => (some (q12.1, q12.2)) else (vC hp a0 10 (f_X11_look a0 a3 hp)).bind fun q4 => (vC q4 a0 10 (f_X11_layParts a0 a1 a2 q4)).bind fun q5 => (vC q5 a0 10 (f_X11_takeParts a0 a1 q5)).bind fun q6 => (if a4 = 0 then (gR q6 a0 10 20).bind fun x10 => (aI q6 x10 0 a1).bind fun x11 => (some ((x11 / 16), q6)) else (if a4 = 1 then (gR q6 a0 10 20).bind fun x8 => (aI q6 x8 0 a1).bind fun x9 => (some ((iR x9 16), q6)) else (gI q6 a0 10 21).bind fun x7 => (some (x7, q6))))))
set_option maxRecDepth 100000 in
set_option maxHeartbeats 4000000 in
theorem mf_X11_over {K : GK} : ∀ (a0 : Nat) (a1 : Int32) (a2 : Int32) (a3 : Int32) (a4 : Int32) (hp : PH) (r : (Int32 × PH)), f_X11_over a0 a1 a2 a3 a4 hp = some r → PM K (5) M_X11_over [.ref (ga K a0), .int a1, .int a2, .int a3, .int a4] hp (some (.int r.1)) r.2 := by
  intro a0 a1 a2 a3 a4 hp r h
  unfold f_X11_over at h
  refine PM.enter (l0 := [(0, .ref (ga K a0)), (1, .int a1), (2, .int a2), (3, .int a3), (4, .int a4)]) (by decide +kernel) rfl (Nat.le_of_ble_eq_true rfl) rfl ?_
  refine PW.aload_n 0 dX11_over_0 rfl rfl ?_
  refine PW.iload_n 1 dX11_over_1 rfl rfl ?_
  refine PW.iload_n 2 dX11_over_2 rfl rfl ?_
  refine PW.iload_n 3 dX11_over_3 rfl rfl ?_
  obtain ⟨q1, hq1, h⟩ := bind_some h
  obtain ⟨hkq1, hcq1, hq1⟩ := vC_spec hq1
  refine PW.callVi (As := [.int a1, .int a2, .int a3]) (rest := []) (k := a0) cal_X11_isLook dX11_over_4 wd_1151 rfl rfl (rmLe (by omega)) (Nat.le_of_ble_eq_true rfl) rm_0 hkq1 hcq1 (mf_X11_isLook a0 a1 a2 a3 hp _ hq1) ?_
  refine PW.if_eq (tgt := 23) dX11_over_7 (by decide) (fun c7 => ?_) (fun c7 => ?_)
  · rw [if_pos c7] at h
    refine PW.aload_n 0 dX11_over_23 rfl rfl ?_
    refine PW.bipush (x := (-2)) dX11_over_24 (by decide) ?_
    obtain ⟨q2, hq2, h⟩ := bind_some h
    obtain ⟨hkq2, hcq2, hq2⟩ := vC_spec hq2
    refine PW.callVi (As := [.int (-2)]) (rest := []) (k := a0) cal_X11_bad dX11_over_26 wd_1002 rfl rfl (rmLe (by omega)) (Nat.le_of_ble_eq_true rfl) rm_0 hkq2 hcq2 (mf_X11_bad a0 (-2) hp _ hq2) ?_
    have h := Option.some.inj h; subst h
    exact PW.ret dX11_over_29 trivial rfl
  · rw [if_neg c7] at h
    refine PW.iload 4 dX11_over_10 rfl ?_
    refine PW.i2l dX11_over_12 ?_
    refine PW.lconst (x := 0) dX11_over_13 (by decide) ?_
    refine PW.ldc2 (x := 2) dX11_over_14 wd_1014 ?_
    refine PW.callSi (As := [.long (Int32.toInt64 a4), .long 0, .long 2]) (rest := []) cal_X11_in dX11_over_17 wd_986 rfl rfl (rmLe (by omega)) (Nat.le_of_ble_eq_true rfl) rm_0 (mf_X11_in (Int32.toInt64 a4) 0 2 _ rfl) ?_
    refine PW.if_ne (tgt := 30) dX11_over_20 (by decide) (fun c20 => ?_) (fun c20 => ?_)
    · rw [if_neg c20] at h
      refine PW.aload_n 0 dX11_over_30 rfl rfl ?_
      refine PW.iload_n 3 dX11_over_31 rfl rfl ?_
      obtain ⟨q4, hq4, h⟩ := bind_some h
      obtain ⟨hkq4, hcq4, hq4⟩ := vC_spec hq4
      refine PW.callVv (As := [.int a3]) (rest := []) (k := a0) cal_X11_look dX11_over_32 wd_1055 rfl rfl (rmLe (by omega)) (Nat.le_of_ble_eq_true rfl) rm_0 hkq4 hcq4 (mf_X11_look a0 a3 hp _ hq4) ?_
      refine PW.aload_n 0 dX11_over_35 rfl rfl ?_
      refine PW.iload_n 1 dX11_over_36 rfl rfl ?_
      refine PW.iload_n 2 dX11_over_37 rfl rfl ?_
      obtain ⟨q5, hq5, h⟩ := bind_some h
      obtain ⟨hkq5, hcq5, hq5⟩ := vC_spec hq5
      refine PW.callVv (As := [.int a1, .int a2]) (rest := []) (k := a0) cal_X11_layParts dX11_over_38 wd_1159 rfl rfl (rmLe (by omega)) (Nat.le_of_ble_eq_true rfl) rm_0 hkq5 hcq5 (mf_X11_layParts a0 a1 a2 q4 _ hq5) ?_
      refine PW.aload_n 0 dX11_over_41 rfl rfl ?_
      refine PW.iload_n 1 dX11_over_42 rfl rfl ?_
      obtain ⟨q6, hq6, h⟩ := bind_some h
      obtain ⟨hkq6, hcq6, hq6⟩ := vC_spec hq6
      refine PW.callVv (As := [.int a1]) (rest := []) (k := a0) cal_X11_takeParts dX11_over_43 wd_1169 rfl rfl (rmLe (by omega)) (Nat.le_of_ble_eq_true rfl) rm_0 hkq6 hcq6 (mf_X11_takeParts a0 a1 q5 _ hq6) ?_
      refine PW.iload 4 dX11_over_46 rfl ?_
      refine PW.if_ne (tgt := 63) dX11_over_48 (by decide) (fun c48 => ?_) (fun c48 => ?_)
      · rw [if_neg c48] at h
        refine PW.iload 4 dX11_over_63 rfl ?_
        refine PW.iconst (x := 1) dX11_over_65 (by decide) ?_
        refine PW.icmp_ne (tgt := 81) dX11_over_66 (by decide) (fun c66 => ?_) (fun c66 => ?_)
        · rw [if_neg c66] at h
          refine PW.aload_n 0 dX11_over_81 rfl rfl ?_
          obtain ⟨x7, hx7, h⟩ := bind_some h
          refine PW.getI cls_X11 (j := 21) (by decide) dX11_over_82 wd_916 hx7 ?_
          have h := Option.some.inj h; subst h
          exact PW.ret dX11_over_85 trivial rfl
        · rw [if_pos c66] at h
          refine PW.aload_n 0 dX11_over_69 rfl rfl ?_
          obtain ⟨x8, hx8, h⟩ := bind_some h
          refine PW.getR cls_X11 (j := 20) (by decide) dX11_over_70 wd_915 hx8 ?_
          refine PW.iload_n 1 dX11_over_73 rfl rfl ?_
          obtain ⟨x9, hx9, h⟩ := bind_some h
          refine PW.iald dX11_over_74 hx9 ?_
          refine PW.bipush (x := 16) dX11_over_75 (by decide) ?_
          refine PW.irem dX11_over_77 (by decide) ?_
          refine PW.goto (tgt := 85) dX11_over_78 (by decide) ?_
          have h := Option.some.inj h; subst h
          exact PW.ret dX11_over_85 trivial rfl
      · rw [if_pos c48] at h
        refine PW.aload_n 0 dX11_over_51 rfl rfl ?_
        obtain ⟨x10, hx10, h⟩ := bind_some h
        refine PW.getR cls_X11 (j := 20) (by decide) dX11_over_52 wd_915 hx10 ?_
        refine PW.iload_n 1 dX11_over_55 rfl rfl ?_
        obtain ⟨x11, hx11, h⟩ := bind_some h
        refine PW.iald dX11_over_56 hx11 ?_
        refine PW.bipush (x := 16) dX11_over_57 (by decide) ?_
        refine PW.idiv dX11_over_59 (by decide) ?_
        refine PW.goto (tgt := 85) dX11_over_60 (by decide) ?_
        have h := Option.some.inj h; subst h
        exact PW.ret dX11_over_85 trivial rfl
    · rw [if_pos c20] at h
      refine PW.aload_n 0 dX11_over_23 rfl rfl ?_
      refine PW.bipush (x := (-2)) dX11_over_24 (by decide) ?_
      obtain ⟨q12, hq12, h⟩ := bind_some h
      obtain ⟨hkq12, hcq12, hq12⟩ := vC_spec hq12
      refine PW.callVi (As := [.int (-2)]) (rest := []) (k := a0) cal_X11_bad dX11_over_26 wd_1002 rfl rfl (rmLe (by omega)) (Nat.le_of_ble_eq_true rfl) rm_0 hkq12 hcq12 (mf_X11_bad a0 (-2) hp _ hq12) ?_
      have h := Option.some.inj h; subst h
      exact PW.ret dX11_over_29 trivial rfl
-- X11_parts
def f_X11_parts (a0 : Nat) (a1 : Int32) (a2 : Int32) (a3 : Int32) (a4 : Int32) (hp : PH) : Option (Int32 × PH) := (vC hp a0 10 (f_X11_isLook a0 a1 a2 a3 hp)).bind fun q1 => (if q1 = 0 then (vC hp a0 10 (f_X11_bad a0 (-10) hp)).bind fun q2 => (some (q2.1, q2.2)) else (if 0 ≤ a4 then (vC hp a0 10 (f_X11_look a0 a3 hp)).bind fun q3 => (vC q3 a0 10 (f_X11_layParts a0 a1 a2 q3)).bind fun q4 => (vC q4 a0 10 (f_X11_takeParts a0 a1 q4)).bind fun q5 => (gI q5 a0 10 22).bind fun x6 => (if x6 ≤ a4 then (some ((-5), q5)) else (gR q5 a0 10 23).bind fun x7 => (aI q5 x7 0 a4).bind fun x8 => (some (x8, q5))) else (vC hp a0 10 (f_X11_bad a0 (-10) hp)).bind fun q9 => (some (q9.1, q9.2))))
set_option maxRecDepth 100000 in
set_option maxHeartbeats 4000000 in
theorem mf_X11_parts {K : GK} : ∀ (a0 : Nat) (a1 : Int32) (a2 : Int32) (a3 : Int32) (a4 : Int32) (hp : PH) (r : (Int32 × PH)), f_X11_parts a0 a1 a2 a3 a4 hp = some r → PM K (5) M_X11_parts [.ref (ga K a0), .int a1, .int a2, .int a3, .int a4] hp (some (.int r.1)) r.2 := by
  intro a0 a1 a2 a3 a4 hp r h
  unfold f_X11_parts at h
  refine PM.enter (l0 := [(0, .ref (ga K a0)), (1, .int a1), (2, .int a2), (3, .int a3), (4, .int a4)]) (by decide +kernel) rfl (Nat.le_of_ble_eq_true rfl) rfl ?_
  refine PW.aload_n 0 dX11_parts_0 rfl rfl ?_
  refine PW.iload_n 1 dX11_parts_1 rfl rfl ?_
  refine PW.iload_n 2 dX11_parts_2 rfl rfl ?_
  refine PW.iload_n 3 dX11_parts_3 rfl rfl ?_
  obtain ⟨q1, hq1, h⟩ := bind_some h
  obtain ⟨hkq1, hcq1, hq1⟩ := vC_spec hq1
  refine PW.callVi (As := [.int a1, .int a2, .int a3]) (rest := []) (k := a0) cal_X11_isLook dX11_parts_4 wd_1151 rfl rfl (rmLe (by omega)) (Nat.le_of_ble_eq_true rfl) rm_0 hkq1 hcq1 (mf_X11_isLook a0 a1 a2 a3 hp _ hq1) ?_
  refine PW.if_eq (tgt := 15) dX11_parts_7 (by decide) (fun c7 => ?_) (fun c7 => ?_)
  · rw [if_pos c7] at h
    refine PW.aload_n 0 dX11_parts_15 rfl rfl ?_
    refine PW.bipush (x := (-10)) dX11_parts_16 (by decide) ?_
    obtain ⟨q2, hq2, h⟩ := bind_some h
    obtain ⟨hkq2, hcq2, hq2⟩ := vC_spec hq2
    refine PW.callVi (As := [.int (-10)]) (rest := []) (k := a0) cal_X11_bad dX11_parts_18 wd_1002 rfl rfl (rmLe (by omega)) (Nat.le_of_ble_eq_true rfl) rm_0 hkq2 hcq2 (mf_X11_bad a0 (-10) hp _ hq2) ?_
    have h := Option.some.inj h; subst h
    exact PW.ret dX11_parts_21 trivial rfl
  · rw [if_neg c7] at h
    refine PW.iload 4 dX11_parts_10 rfl ?_
    refine PW.if_ge (tgt := 22) dX11_parts_12 (by decide) (fun c12 => ?_) (fun c12 => ?_)
    · rw [if_pos c12] at h
      refine PW.aload_n 0 dX11_parts_22 rfl rfl ?_
      refine PW.iload_n 3 dX11_parts_23 rfl rfl ?_
      obtain ⟨q3, hq3, h⟩ := bind_some h
      obtain ⟨hkq3, hcq3, hq3⟩ := vC_spec hq3
      refine PW.callVv (As := [.int a3]) (rest := []) (k := a0) cal_X11_look dX11_parts_24 wd_1055 rfl rfl (rmLe (by omega)) (Nat.le_of_ble_eq_true rfl) rm_0 hkq3 hcq3 (mf_X11_look a0 a3 hp _ hq3) ?_
      refine PW.aload_n 0 dX11_parts_27 rfl rfl ?_
      refine PW.iload_n 1 dX11_parts_28 rfl rfl ?_
      refine PW.iload_n 2 dX11_parts_29 rfl rfl ?_
      obtain ⟨q4, hq4, h⟩ := bind_some h
      obtain ⟨hkq4, hcq4, hq4⟩ := vC_spec hq4
      refine PW.callVv (As := [.int a1, .int a2]) (rest := []) (k := a0) cal_X11_layParts dX11_parts_30 wd_1159 rfl rfl (rmLe (by omega)) (Nat.le_of_ble_eq_true rfl) rm_0 hkq4 hcq4 (mf_X11_layParts a0 a1 a2 q3 _ hq4) ?_
      refine PW.aload_n 0 dX11_parts_33 rfl rfl ?_
      refine PW.iload_n 1 dX11_parts_34 rfl rfl ?_
      obtain ⟨q5, hq5, h⟩ := bind_some h
      obtain ⟨hkq5, hcq5, hq5⟩ := vC_spec hq5
      refine PW.callVv (As := [.int a1]) (rest := []) (k := a0) cal_X11_takeParts dX11_parts_35 wd_1169 rfl rfl (rmLe (by omega)) (Nat.le_of_ble_eq_true rfl) rm_0 hkq5 hcq5 (mf_X11_takeParts a0 a1 q4 _ hq5) ?_
      refine PW.iload 4 dX11_parts_38 rfl ?_
      refine PW.aload_n 0 dX11_parts_40 rfl rfl ?_
      obtain ⟨x6, hx6, h⟩ := bind_some h
      refine PW.getI cls_X11 (j := 22) (by decide) dX11_parts_41 wd_917 hx6 ?_
      refine PW.icmp_ge (tgt := 57) dX11_parts_44 (by decide) (fun c44 => ?_) (fun c44 => ?_)
      · rw [if_pos c44] at h
        refine PW.bipush (x := (-5)) dX11_parts_57 (by decide) ?_
        have h := Option.some.inj h; subst h
        exact PW.ret dX11_parts_59 trivial rfl
      · rw [if_neg c44] at h
        refine PW.aload_n 0 dX11_parts_47 rfl rfl ?_
        obtain ⟨x7, hx7, h⟩ := bind_some h
        refine PW.getR cls_X11 (j := 23) (by decide) dX11_parts_48 wd_918 hx7 ?_
        refine PW.iload 4 dX11_parts_51 rfl ?_
        obtain ⟨x8, hx8, h⟩ := bind_some h
        refine PW.iald dX11_parts_53 hx8 ?_
        refine PW.goto (tgt := 59) dX11_parts_54 (by decide) ?_
        have h := Option.some.inj h; subst h
        exact PW.ret dX11_parts_59 trivial rfl
    · rw [if_neg c12] at h
      refine PW.aload_n 0 dX11_parts_15 rfl rfl ?_
      refine PW.bipush (x := (-10)) dX11_parts_16 (by decide) ?_
      obtain ⟨q9, hq9, h⟩ := bind_some h
      obtain ⟨hkq9, hcq9, hq9⟩ := vC_spec hq9
      refine PW.callVi (As := [.int (-10)]) (rest := []) (k := a0) cal_X11_bad dX11_parts_18 wd_1002 rfl rfl (rmLe (by omega)) (Nat.le_of_ble_eq_true rfl) rm_0 hkq9 hcq9 (mf_X11_bad a0 (-10) hp _ hq9) ?_
      have h := Option.some.inj h; subst h
      exact PW.ret dX11_parts_21 trivial rfl
-- X11_lent
def f_X11_lent_J90 (k28 : Nat → Int32 → Int32 → Int32 → Int32 → PH → Option (Int32 × PH)) (a0 : Nat) (a1 : Int32) (a2 : Int32) (a4 : Int32) (a5 : Int32) (s0 : Int32) (hp : PH) : Option (Int32 × PH) := (if s0 = 0 then (k28 a0 a1 a2 a4 (a5 + 1) hp) else (k28 a0 a1 a2 a5 (a5 + 1) hp))
def f_X11_lent_J73 (k28 : Nat → Int32 → Int32 → Int32 → Int32 → PH → Option (Int32 × PH)) (a0 : Nat) (a1 : Int32) (a2 : Int32) (a4 : Int32) (a5 : Int32) (hp : PH) : Option (Int32 × PH) := (vC hp a0 10 (f_X11_whyNot a0 (a1 ||| a5) a2 hp)).bind fun q5 => (if q5 = 0 then (f_X11_lent_J90 k28 a0 a1 a2 a4 a5 1 hp) else (f_X11_lent_J90 k28 a0 a1 a2 a4 a5 0 hp))
def f_X11_lent_L28 : Nat → Nat → Int32 → Int32 → Int32 → Int32 → PH → Option (Int32 × PH)
  | 0, _, _, _, _, _, _ => none
  | n + 1, a0, a1, a2, a4, a5, hp => (gR hp a0 10 0).bind fun x3 => (aI hp x3 0 0).bind fun x4 => (if (iL 1 x4) ≤ a5 then (some (a4, hp)) else (if (a5 &&& a1) = 0 then (if (a5 ||| a1) = 0 then (f_X11_lent_J90 (f_X11_lent_L28 n) a0 a1 a2 a4 a5 0 hp) else (if a4 < 0 then (f_X11_lent_J73 (f_X11_lent_L28 n) a0 a1 a2 a4 a5 hp) else (f_X11_bits a5).bind fun q6 => (f_X11_bits a4).bind fun q7 => (if q7 ≤ q6 then (f_X11_lent_J90 (f_X11_lent_L28 n) a0 a1 a2 a4 a5 0 hp) else (f_X11_lent_J73 (f_X11_lent_L28 n) a0 a1 a2 a4 a5 hp)))) else (f_X11_lent_J90 (f_X11_lent_L28 n) a0 a1 a2 a4 a5 0 hp)))
def f_X11_lent (a0 : Nat) (a1 : Int32) (a2 : Int32) (a3 : Int32) (hp : PH) : Option (Int32 × PH) := (vC hp a0 10 (f_X11_isLook a0 a1 a2 a3 hp)).bind fun q1 => (if q1 = 0 then (vC hp a0 10 (f_X11_bad a0 (-2) hp)).bind fun q8 => (some (q8.1, q8.2)) else (vC hp a0 10 (f_X11_look a0 a3 hp)).bind fun q2 => (f_X11_lent_L28 NN a0 a1 a2 (-1) 0 q2))
set_option maxRecDepth 100000 in
set_option maxHeartbeats 4000000 in
theorem mf_X11_lent_J90 {K : GK} {k28 : Nat → Int32 → Int32 → Int32 → Int32 → PH → Option (Int32 × PH)} (hk28 : ∀ (a0 : Nat) (a1 : Int32) (a2 : Int32) (a4 : Int32) (a5 : Int32) (hp : PH) (r : (Int32 × PH)), k28 a0 a1 a2 a4 a5 hp = some r → PW K (rmD (5)) 0 0 M_X11_lent 28 [(0, .ref (ga K a0)), (1, .int a1), (2, .int a2), (4, .int a4), (5, .int a5)] [] hp (some (.int r.1)) r.2) : ∀ (a0 : Nat) (a1 : Int32) (a2 : Int32) (a4 : Int32) (a5 : Int32) (s0 : Int32) (hp : PH) (r : (Int32 × PH)), f_X11_lent_J90 k28 a0 a1 a2 a4 a5 s0 hp = some r → PW K (rmD (5)) 0 0 M_X11_lent 90 [(0, .ref (ga K a0)), (1, .int a1), (2, .int a2), (4, .int a4), (5, .int a5)] [.int s0] hp (some (.int r.1)) r.2 := by
  intro a0 a1 a2 a4 a5 s0 hp r h
  unfold f_X11_lent_J90 at h
  refine PW.istore (l' := [(6, .int s0), (0, .ref (ga K a0)), (1, .int a1), (2, .int a2), (4, .int a4), (5, .int a5)]) dX11_lent_90 (by decide) rfl ?_
  refine PW.iload 0 dX11_lent_92 rfl ?_
  refine PW.if_eq (tgt := 102) dX11_lent_94 (by decide) (fun c94 => ?_) (fun c94 => ?_)
  · rw [if_pos c94] at h
    refine PW.iload 4 dX11_lent_102 rfl ?_
    refine PW.istore (l' := [(4, .int a4), (6, .int s0), (0, .ref (ga K a0)), (1, .int a1), (2, .int a2), (5, .int a5)]) dX11_lent_104 (by decide) rfl ?_
    refine PW.iinc 5 (l' := [(5, .int (a5 + 1)), (4, .int a4), (6, .int s0), (0, .ref (ga K a0)), (1, .int a1), (2, .int a2)]) dX11_lent_106 rfl (x := a5) (y := (a5 + 1)) rfl (by decide) rfl ?_
    refine PW.goto (tgt := 28) dX11_lent_109 (by decide) ?_
    exact PW.sub (l' := [(0, .ref (ga K a0)), (1, .int a1), (2, .int a2), (4, .int a4), (5, .int (a5 + 1))]) [3, 4, 5, 1, 0] rfl (hk28 a0 a1 a2 a4 (a5 + 1) hp _ h)
  · rw [if_neg c94] at h
    refine PW.iload 5 dX11_lent_97 rfl ?_
    refine PW.goto (tgt := 104) dX11_lent_99 (by decide) ?_
    refine PW.istore (l' := [(4, .int a5), (6, .int s0), (0, .ref (ga K a0)), (1, .int a1), (2, .int a2), (5, .int a5)]) dX11_lent_104 (by decide) rfl ?_
    refine PW.iinc 5 (l' := [(5, .int (a5 + 1)), (4, .int a5), (6, .int s0), (0, .ref (ga K a0)), (1, .int a1), (2, .int a2)]) dX11_lent_106 rfl (x := a5) (y := (a5 + 1)) rfl (by decide) rfl ?_
    refine PW.goto (tgt := 28) dX11_lent_109 (by decide) ?_
    exact PW.sub (l' := [(0, .ref (ga K a0)), (1, .int a1), (2, .int a2), (4, .int a5), (5, .int (a5 + 1))]) [3, 4, 5, 1, 0] rfl (hk28 a0 a1 a2 a5 (a5 + 1) hp _ h)
set_option maxRecDepth 100000 in
set_option maxHeartbeats 4000000 in
theorem mf_X11_lent_J73 {K : GK} {k28 : Nat → Int32 → Int32 → Int32 → Int32 → PH → Option (Int32 × PH)} (hk28 : ∀ (a0 : Nat) (a1 : Int32) (a2 : Int32) (a4 : Int32) (a5 : Int32) (hp : PH) (r : (Int32 × PH)), k28 a0 a1 a2 a4 a5 hp = some r → PW K (rmD (5)) 0 0 M_X11_lent 28 [(0, .ref (ga K a0)), (1, .int a1), (2, .int a2), (4, .int a4), (5, .int a5)] [] hp (some (.int r.1)) r.2) : ∀ (a0 : Nat) (a1 : Int32) (a2 : Int32) (a4 : Int32) (a5 : Int32) (hp : PH) (r : (Int32 × PH)), f_X11_lent_J73 k28 a0 a1 a2 a4 a5 hp = some r → PW K (rmD (5)) 0 0 M_X11_lent 73 [(0, .ref (ga K a0)), (1, .int a1), (2, .int a2), (4, .int a4), (5, .int a5)] [] hp (some (.int r.1)) r.2 := by
  intro a0 a1 a2 a4 a5 hp r h
  unfold f_X11_lent_J73 at h
  refine PW.aload_n 0 dX11_lent_73 rfl rfl ?_
  refine PW.iload_n 1 dX11_lent_74 rfl rfl ?_
  refine PW.iload 4 dX11_lent_75 rfl ?_
  refine PW.ior dX11_lent_77 ?_
  refine PW.iload_n 2 dX11_lent_78 rfl rfl ?_
  obtain ⟨q5, hq5, h⟩ := bind_some h
  obtain ⟨hkq5, hcq5, hq5⟩ := vC_spec hq5
  refine PW.callVi (As := [.int (a1 ||| a5), .int a2]) (rest := []) (k := a0) cal_X11_whyNot dX11_lent_79 wd_1079 rfl rfl (rmLe (by omega)) (Nat.le_of_ble_eq_true rfl) rm_0 hkq5 hcq5 (mf_X11_whyNot a0 (a1 ||| a5) a2 hp _ hq5) ?_
  refine PW.if_ne (tgt := 89) dX11_lent_82 (by decide) (fun c82 => ?_) (fun c82 => ?_)
  · rw [if_neg c82] at h
    refine PW.iconst (x := 0) dX11_lent_89 (by decide) ?_
    exact PW.sub (l' := [(0, .ref (ga K a0)), (1, .int a1), (2, .int a2), (4, .int a4), (5, .int a5)]) [0, 1, 2, 3, 4] rfl (mf_X11_lent_J90 hk28 a0 a1 a2 a4 a5 0 hp _ h)
  · rw [if_pos c82] at h
    refine PW.iconst (x := 1) dX11_lent_85 (by decide) ?_
    refine PW.goto (tgt := 90) dX11_lent_86 (by decide) ?_
    exact PW.sub (l' := [(0, .ref (ga K a0)), (1, .int a1), (2, .int a2), (4, .int a4), (5, .int a5)]) [0, 1, 2, 3, 4] rfl (mf_X11_lent_J90 hk28 a0 a1 a2 a4 a5 1 hp _ h)
set_option maxRecDepth 100000 in
set_option maxHeartbeats 4000000 in
theorem mf_X11_lent_L28 {K : GK} : ∀ (n : Nat) (a0 : Nat) (a1 : Int32) (a2 : Int32) (a4 : Int32) (a5 : Int32) (hp : PH) (r : (Int32 × PH)), f_X11_lent_L28 n a0 a1 a2 a4 a5 hp = some r → PW K (rmD (5)) 0 0 M_X11_lent 28 [(0, .ref (ga K a0)), (1, .int a1), (2, .int a2), (4, .int a4), (5, .int a5)] [] hp (some (.int r.1)) r.2 := by
  intro n
  induction n with
  | zero =>
    intro a0 a1 a2 a4 a5 hp r h
    rw [f_X11_lent_L28] at h
    cases h
  | succ n ih =>
    intro a0 a1 a2 a4 a5 hp r h
    rw [f_X11_lent_L28] at h
    refine PW.iload 4 dX11_lent_28 rfl ?_
    refine PW.iconst (x := 1) dX11_lent_30 (by decide) ?_
    refine PW.aload_n 0 dX11_lent_31 rfl rfl ?_
    obtain ⟨x3, hx3, h⟩ := bind_some h
    refine PW.getR cls_X11 (j := 0) (by decide) dX11_lent_32 wd_895 hx3 ?_
    refine PW.iconst (x := 0) dX11_lent_35 (by decide) ?_
    obtain ⟨x4, hx4, h⟩ := bind_some h
    refine PW.iald dX11_lent_36 hx4 ?_
    refine PW.ishl dX11_lent_37 ?_
    refine PW.icmp_ge (tgt := 112) dX11_lent_38 (by decide) (fun c38 => ?_) (fun c38 => ?_)
    · rw [if_pos c38] at h
      refine PW.iload 3 dX11_lent_112 rfl ?_
      have h := Option.some.inj h; subst h
      exact PW.ret dX11_lent_114 trivial rfl
    · rw [if_neg c38] at h
      refine PW.iload 4 dX11_lent_41 rfl ?_
      refine PW.iload_n 1 dX11_lent_43 rfl rfl ?_
      refine PW.iand dX11_lent_44 ?_
      refine PW.if_ne (tgt := 89) dX11_lent_45 (by decide) (fun c45 => ?_) (fun c45 => ?_)
      · rw [if_neg c45] at h
        refine PW.iconst (x := 0) dX11_lent_89 (by decide) ?_
        exact PW.sub (l' := [(0, .ref (ga K a0)), (1, .int a1), (2, .int a2), (4, .int a4), (5, .int a5)]) [0, 1, 2, 3, 4] rfl (mf_X11_lent_J90 ih a0 a1 a2 a4 a5 0 hp _ h)
      · rw [if_pos c45] at h
        refine PW.iload 4 dX11_lent_48 rfl ?_
        refine PW.iload_n 1 dX11_lent_50 rfl rfl ?_
        refine PW.ior dX11_lent_51 ?_
        refine PW.if_eq (tgt := 89) dX11_lent_52 (by decide) (fun c52 => ?_) (fun c52 => ?_)
        · rw [if_pos c52] at h
          refine PW.iconst (x := 0) dX11_lent_89 (by decide) ?_
          exact PW.sub (l' := [(0, .ref (ga K a0)), (1, .int a1), (2, .int a2), (4, .int a4), (5, .int a5)]) [0, 1, 2, 3, 4] rfl (mf_X11_lent_J90 ih a0 a1 a2 a4 a5 0 hp _ h)
        · rw [if_neg c52] at h
          refine PW.iload 3 dX11_lent_55 rfl ?_
          refine PW.if_lt (tgt := 73) dX11_lent_57 (by decide) (fun c57 => ?_) (fun c57 => ?_)
          · rw [if_pos c57] at h
            exact PW.sub (l' := [(0, .ref (ga K a0)), (1, .int a1), (2, .int a2), (4, .int a4), (5, .int a5)]) [0, 1, 2, 3, 4] rfl (mf_X11_lent_J73 ih a0 a1 a2 a4 a5 hp _ h)
          · rw [if_neg c57] at h
            refine PW.iload 4 dX11_lent_60 rfl ?_
            obtain ⟨q6, hq6, h⟩ := bind_some h
            refine PW.callSi (As := [.int a5]) (rest := []) cal_X11_bits dX11_lent_62 wd_1083 rfl rfl (rmLe (by omega)) (Nat.le_of_ble_eq_true rfl) rm_0 (mf_X11_bits a5 _ hq6) ?_
            refine PW.iload 3 dX11_lent_65 rfl ?_
            obtain ⟨q7, hq7, h⟩ := bind_some h
            refine PW.callSi (As := [.int a4]) (rest := [.int q6]) cal_X11_bits dX11_lent_67 wd_1083 rfl rfl (rmLe (by omega)) (Nat.le_of_ble_eq_true rfl) rm_0 (mf_X11_bits a4 _ hq7) ?_
            refine PW.icmp_ge (tgt := 89) dX11_lent_70 (by decide) (fun c70 => ?_) (fun c70 => ?_)
            · rw [if_pos c70] at h
              refine PW.iconst (x := 0) dX11_lent_89 (by decide) ?_
              exact PW.sub (l' := [(0, .ref (ga K a0)), (1, .int a1), (2, .int a2), (4, .int a4), (5, .int a5)]) [0, 1, 2, 3, 4] rfl (mf_X11_lent_J90 ih a0 a1 a2 a4 a5 0 hp _ h)
            · rw [if_neg c70] at h
              exact PW.sub (l' := [(0, .ref (ga K a0)), (1, .int a1), (2, .int a2), (4, .int a4), (5, .int a5)]) [0, 1, 2, 3, 4] rfl (mf_X11_lent_J73 ih a0 a1 a2 a4 a5 hp _ h)
set_option maxRecDepth 100000 in
set_option maxHeartbeats 4000000 in
theorem mf_X11_lent {K : GK} : ∀ (a0 : Nat) (a1 : Int32) (a2 : Int32) (a3 : Int32) (hp : PH) (r : (Int32 × PH)), f_X11_lent a0 a1 a2 a3 hp = some r → PM K (5) M_X11_lent [.ref (ga K a0), .int a1, .int a2, .int a3] hp (some (.int r.1)) r.2 := by
  intro a0 a1 a2 a3 hp r h
  unfold f_X11_lent at h
  refine PM.enter (l0 := [(0, .ref (ga K a0)), (1, .int a1), (2, .int a2), (3, .int a3)]) (by decide +kernel) rfl (Nat.le_of_ble_eq_true rfl) rfl ?_
  refine PW.aload_n 0 dX11_lent_0 rfl rfl ?_
  refine PW.iload_n 1 dX11_lent_1 rfl rfl ?_
  refine PW.iload_n 2 dX11_lent_2 rfl rfl ?_
  refine PW.iload_n 3 dX11_lent_3 rfl rfl ?_
  obtain ⟨q1, hq1, h⟩ := bind_some h
  obtain ⟨hkq1, hcq1, hq1⟩ := vC_spec hq1
  refine PW.callVi (As := [.int a1, .int a2, .int a3]) (rest := []) (k := a0) cal_X11_isLook dX11_lent_4 wd_1151 rfl rfl (rmLe (by omega)) (Nat.le_of_ble_eq_true rfl) rm_0 hkq1 hcq1 (mf_X11_isLook a0 a1 a2 a3 hp _ hq1) ?_
  refine PW.if_ne (tgt := 17) dX11_lent_7 (by decide) (fun c7 => ?_) (fun c7 => ?_)
  · rw [if_neg c7] at h
    refine PW.aload_n 0 dX11_lent_17 rfl rfl ?_
    refine PW.iload_n 3 dX11_lent_18 rfl rfl ?_
    obtain ⟨q2, hq2, h⟩ := bind_some h
    obtain ⟨hkq2, hcq2, hq2⟩ := vC_spec hq2
    refine PW.callVv (As := [.int a3]) (rest := []) (k := a0) cal_X11_look dX11_lent_19 wd_1055 rfl rfl (rmLe (by omega)) (Nat.le_of_ble_eq_true rfl) rm_0 hkq2 hcq2 (mf_X11_look a0 a3 hp _ hq2) ?_
    refine PW.iconst (x := (-1)) dX11_lent_22 (by decide) ?_
    refine PW.istore (l' := [(4, .int (-1)), (0, .ref (ga K a0)), (1, .int a1), (2, .int a2), (3, .int a3)]) dX11_lent_23 (by decide) rfl ?_
    refine PW.iconst (x := 0) dX11_lent_25 (by decide) ?_
    refine PW.istore (l' := [(5, .int 0), (4, .int (-1)), (0, .ref (ga K a0)), (1, .int a1), (2, .int a2), (3, .int a3)]) dX11_lent_26 (by decide) rfl ?_
    exact PW.sub (l' := [(0, .ref (ga K a0)), (1, .int a1), (2, .int a2), (4, .int (-1)), (5, .int 0)]) [2, 3, 4, 1, 0] rfl (mf_X11_lent_L28 NN a0 a1 a2 (-1) 0 q2 _ h)
  · rw [if_pos c7] at h
    refine PW.aload_n 0 dX11_lent_10 rfl rfl ?_
    refine PW.bipush (x := (-2)) dX11_lent_11 (by decide) ?_
    obtain ⟨q8, hq8, h⟩ := bind_some h
    obtain ⟨hkq8, hcq8, hq8⟩ := vC_spec hq8
    refine PW.callVi (As := [.int (-2)]) (rest := []) (k := a0) cal_X11_bad dX11_lent_13 wd_1002 rfl rfl (rmLe (by omega)) (Nat.le_of_ble_eq_true rfl) rm_0 hkq8 hcq8 (mf_X11_bad a0 (-2) hp _ hq8) ?_
    have h := Option.some.inj h; subst h
    exact PW.ret dX11_lent_16 trivial rfl
