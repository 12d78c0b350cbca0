-- X11_whyNot
def f_X11_whyNot_J78 (k11 : Nat → Int32 → Int32 → Int32 → Int32 → Int32 → Int32 → PH → Option Int32) (a0 : Nat) (a1 : Int32) (a2 : Int32) (a3 : Int32) (a5 : Int32) (a6 : Int32) (s0 : Int32) (hp : PH) : Option Int32 := (if a5 = 0 then (gR hp a0 10 0).bind fun x10 => (aI hp x10 0 (21 + a6)).bind fun x11 => (if (x11 &&& a1) = 0 then (k11 a0 a1 a2 a3 s0 0 (a6 + 1) hp) else (k11 a0 a1 a2 a3 s0 1 (a6 + 1) hp)) else (k11 a0 a1 a2 a3 s0 1 (a6 + 1) hp))
def f_X11_whyNot_J50 (k11 : Nat → Int32 → Int32 → Int32 → Int32 → Int32 → Int32 → PH → Option Int32) (a0 : Nat) (a1 : Int32) (a2 : Int32) (a4 : Int32) (a5 : Int32) (a6 : Int32) (s0 : Int32) (hp : PH) : Option Int32 := (if a4 = 0 then (gR hp a0 10 0).bind fun x12 => (aI hp x12 0 (13 + a6)).bind fun x13 => (if (x13 &&& (a1 ^^^ (-1))) = 0 then (f_X11_whyNot_J78 k11 a0 a1 a2 s0 a5 a6 0 hp) else (f_X11_whyNot_J78 k11 a0 a1 a2 s0 a5 a6 1 hp)) else (f_X11_whyNot_J78 k11 a0 a1 a2 s0 a5 a6 1 hp))
def f_X11_whyNot_L11 : Nat → Nat → Int32 → Int32 → Int32 → Int32 → Int32 → Int32 → PH → Option Int32
  | 0, _, _, _, _, _, _, _, _ => none
  | n + 1, a0, a1, a2, a3, a4, a5, a6, hp => (gR hp a0 10 0).bind fun x1 => (aI hp x1 0 0).bind fun x2 => (if x2 ≤ a6 then (if a3 = 0 then (some 1) else (f_X11_bits a1).bind fun q3 => (gR hp a0 10 0).bind fun x4 => (aI hp x4 0 (33 + a2)).bind fun x5 => (if q3 ≤ x5 then (if a4 = 0 then (if a5 = 0 then (gR hp a0 10 0).bind fun x6 => (aI hp x6 0 (29 + a2)).bind fun x7 => (vC hp a0 10 (f_X11_isByLaw a0 a1 x7 hp)).bind fun q8 => (if q8 = 0 then (some 5) else (some 0)) else (some 4)) else (some 3)) else (some 2))) else (if (f_X11_has a1 a6) = 0 then ((f_X11_whyNot_L11 n) a0 a1 a2 a3 a4 a5 (a6 + 1) hp) else (if a3 = 0 then (f_X11_whyNot_J50 (f_X11_whyNot_L11 n) a0 a1 a2 a4 a5 a6 0 hp) else (gR hp a0 10 13).bind fun x14 => (aI hp x14 0 a6).bind fun x15 => (if x15 < 0 then (f_X11_whyNot_J50 (f_X11_whyNot_L11 n) a0 a1 a2 a4 a5 a6 0 hp) else (f_X11_whyNot_J50 (f_X11_whyNot_L11 n) a0 a1 a2 a4 a5 a6 1 hp)))))
def f_X11_whyNot (a0 : Nat) (a1 : Int32) (a2 : Int32) (hp : PH) : Option Int32 := (f_X11_whyNot_L11 NN a0 a1 a2 1 0 0 0 hp)
set_option maxRecDepth 100000 in
set_option maxHeartbeats 4000000 in
theorem mf_X11_whyNot_J78 {K : GK} {k11 : Nat → Int32 → Int32 → Int32 → Int32 → Int32 → Int32 → PH → Option Int32} (hk11 : ∀ (a0 : Nat) (a1 : Int32) (a2 : Int32) (a3 : Int32) (a4 : Int32) (a5 : Int32) (a6 : Int32) (hp : PH) (r : Int32), k11 a0 a1 a2 a3 a4 a5 a6 hp = some r → PW K (rmD (2)) 0 0 M_X11_whyNot 11 [(0, .ref (ga K a0)), (1, .int a1), (2, .int a2), (3, .int a3), (4, .int a4), (5, .int a5), (6, .int a6)] [] hp (some (.int r)) hp) : ∀ (a0 : Nat) (a1 : Int32) (a2 : Int32) (a3 : Int32) (a5 : Int32) (a6 : Int32) (s0 : Int32) (hp : PH) (r : Int32), f_X11_whyNot_J78 k11 a0 a1 a2 a3 a5 a6 s0 hp = some r → PW K (rmD (2)) 0 0 M_X11_whyNot 78 [(0, .ref (ga K a0)), (1, .int a1), (2, .int a2), (3, .int a3), (5, .int a5), (6, .int a6)] [.int s0] hp (some (.int r)) hp := by
  intro a0 a1 a2 a3 a5 a6 s0 hp r h
  unfold f_X11_whyNot_J78 at h
  refine PW.istore (l' := [(4, .int s0), (0, .ref (ga K a0)), (1, .int a1), (2, .int a2), (3, .int a3), (5, .int a5), (6, .int a6)]) dX11_whyNot_78 (by decide) rfl ?_
  refine PW.iload 5 dX11_whyNot_80 rfl ?_
  refine PW.if_ne (tgt := 100) dX11_whyNot_82 (by decide) (fun c82 => ?_) (fun c82 => ?_)
  · rw [if_neg c82] at h
    refine PW.iconst (x := 1) dX11_whyNot_100 (by decide) ?_
    refine PW.goto (tgt := 105) dX11_whyNot_101 (by decide) ?_
    refine PW.istore (l' := [(5, .int 1), (4, .int s0), (0, .ref (ga K a0)), (1, .int a1), (2, .int a2), (3, .int a3), (6, .int a6)]) dX11_whyNot_105 (by decide) rfl ?_
    refine PW.iinc 6 (l' := [(6, .int (a6 + 1)), (5, .int 1), (4, .int s0), (0, .ref (ga K a0)), (1, .int a1), (2, .int a2), (3, .int a3)]) dX11_whyNot_107 rfl (x := a6) (y := (a6 + 1)) rfl (by decide) rfl ?_
    refine PW.goto (tgt := 11) dX11_whyNot_110 (by decide) ?_
    exact PW.sub (l' := [(0, .ref (ga K a0)), (1, .int a1), (2, .int a2), (3, .int a3), (4, .int s0), (5, .int 1), (6, .int (a6 + 1))]) [3, 4, 5, 6, 2, 1, 0] rfl (hk11 a0 a1 a2 a3 s0 1 (a6 + 1) hp _ h)
  · rw [if_pos c82] at h
    refine PW.aload_n 1 dX11_whyNot_85 rfl rfl ?_
    obtain ⟨x10, hx10, h⟩ := bind_some h
    refine PW.getR cls_X11 (j := 0) (by decide) dX11_whyNot_86 wd_895 hx10 ?_
    refine PW.bipush (x := 21) dX11_whyNot_89 (by decide) ?_
    refine PW.iload 6 dX11_whyNot_91 rfl ?_
    refine PW.iadd dX11_whyNot_93 ?_
    obtain ⟨x11, hx11, h⟩ := bind_some h
    refine PW.iald dX11_whyNot_94 hx11 ?_
    refine PW.iload_n 2 dX11_whyNot_95 rfl rfl ?_
    refine PW.iand dX11_whyNot_96 ?_
    refine PW.if_eq (tgt := 104) dX11_whyNot_97 (by decide) (fun c97 => ?_) (fun c97 => ?_)
    · rw [if_pos c97] at h
      refine PW.iconst (x := 0) dX11_whyNot_104 (by decide) ?_
      refine PW.istore (l' := [(5, .int 0), (4, .int s0), (0, .ref (ga K a0)), (1, .int a1), (2, .int a2), (3, .int a3), (6, .int a6)]) dX11_whyNot_105 (by decide) rfl ?_
      refine PW.iinc 6 (l' := [(6, .int (a6 + 1)), (5, .int 0), (4, .int s0), (0, .ref (ga K a0)), (1, .int a1), (2, .int a2), (3, .int a3)]) dX11_whyNot_107 rfl (x := a6) (y := (a6 + 1)) rfl (by decide) rfl ?_
      refine PW.goto (tgt := 11) dX11_whyNot_110 (by decide) ?_
      exact PW.sub (l' := [(0, .ref (ga K a0)), (1, .int a1), (2, .int a2), (3, .int a3), (4, .int s0), (5, .int 0), (6, .int (a6 + 1))]) [3, 4, 5, 6, 2, 1, 0] rfl (hk11 a0 a1 a2 a3 s0 0 (a6 + 1) hp _ h)
    · rw [if_neg c97] at h
      refine PW.iconst (x := 1) dX11_whyNot_100 (by decide) ?_
      refine PW.goto (tgt := 105) dX11_whyNot_101 (by decide) ?_
      refine PW.istore (l' := [(5, .int 1), (4, .int s0), (0, .ref (ga K a0)), (1, .int a1), (2, .int a2), (3, .int a3), (6, .int a6)]) dX11_whyNot_105 (by decide) rfl ?_
      refine PW.iinc 6 (l' := [(6, .int (a6 + 1)), (5, .int 1), (4, .int s0), (0, .ref (ga K a0)), (1, .int a1), (2, .int a2), (3, .int a3)]) dX11_whyNot_107 rfl (x := a6) (y := (a6 + 1)) rfl (by decide) rfl ?_
      refine PW.goto (tgt := 11) dX11_whyNot_110 (by decide) ?_
      exact PW.sub (l' := [(0, .ref (ga K a0)), (1, .int a1), (2, .int a2), (3, .int a3), (4, .int s0), (5, .int 1), (6, .int (a6 + 1))]) [3, 4, 5, 6, 2, 1, 0] rfl (hk11 a0 a1 a2 a3 s0 1 (a6 + 1) hp _ h)
set_option maxRecDepth 100000 in
set_option maxHeartbeats 4000000 in
theorem mf_X11_whyNot_J50 {K : GK} {k11 : Nat → Int32 → Int32 → Int32 → Int32 → Int32 → Int32 → PH → Option Int32} (hk11 : ∀ (a0 : Nat) (a1 : Int32) (a2 : Int32) (a3 : Int32) (a4 : Int32) (a5 : Int32) (a6 : Int32) (hp : PH) (r : Int32), k11 a0 a1 a2 a3 a4 a5 a6 hp = some r → PW K (rmD (2)) 0 0 M_X11_whyNot 11 [(0, .ref (ga K a0)), (1, .int a1), (2, .int a2), (3, .int a3), (4, .int a4), (5, .int a5), (6, .int a6)] [] hp (some (.int r)) hp) : ∀ (a0 : Nat) (a1 : Int32) (a2 : Int32) (a4 : Int32) (a5 : Int32) (a6 : Int32) (s0 : Int32) (hp : PH) (r : Int32), f_X11_whyNot_J50 k11 a0 a1 a2 a4 a5 a6 s0 hp = some r → PW K (rmD (2)) 0 0 M_X11_whyNot 50 [(0, .ref (ga K a0)), (1, .int a1), (2, .int a2), (4, .int a4), (5, .int a5), (6, .int a6)] [.int s0] hp (some (.int r)) hp := by
  intro a0 a1 a2 a4 a5 a6 s0 hp r h
  unfold f_X11_whyNot_J50 at h
  refine PW.istore_n (l' := [(3, .int s0), (0, .ref (ga K a0)), (1, .int a1), (2, .int a2), (4, .int a4), (5, .int a5), (6, .int a6)]) dX11_whyNot_50 rfl (by decide) rfl ?_
  refine PW.iload 4 dX11_whyNot_51 rfl ?_
  refine PW.if_ne (tgt := 73) dX11_whyNot_53 (by decide) (fun c53 => ?_) (fun c53 => ?_)
  · rw [if_neg c53] at h
    refine PW.iconst (x := 1) dX11_whyNot_73 (by decide) ?_
    refine PW.goto (tgt := 78) dX11_whyNot_74 (by decide) ?_
    exact PW.sub (l' := [(0, .ref (ga K a0)), (1, .int a1), (2, .int a2), (3, .int s0), (5, .int a5), (6, .int a6)]) [1, 2, 3, 0, 5, 6] rfl (mf_X11_whyNot_J78 hk11 a0 a1 a2 s0 a5 a6 1 hp _ h)
  · rw [if_pos c53] at h
    refine PW.aload_n 1 dX11_whyNot_56 rfl rfl ?_
    obtain ⟨x12, hx12, h⟩ := bind_some h
    refine PW.getR cls_X11 (j := 0) (by decide) dX11_whyNot_57 wd_895 hx12 ?_
    refine PW.bipush (x := 13) dX11_whyNot_60 (by decide) ?_
    refine PW.iload 6 dX11_whyNot_62 rfl ?_
    refine PW.iadd dX11_whyNot_64 ?_
    obtain ⟨x13, hx13, h⟩ := bind_some h
    refine PW.iald dX11_whyNot_65 hx13 ?_
    refine PW.iload_n 2 dX11_whyNot_66 rfl rfl ?_
    refine PW.iconst (x := (-1)) dX11_whyNot_67 (by decide) ?_
    refine PW.ixor dX11_whyNot_68 ?_
    refine PW.iand dX11_whyNot_69 ?_
    refine PW.if_eq (tgt := 77) dX11_whyNot_70 (by decide) (fun c70 => ?_) (fun c70 => ?_)
    · rw [if_pos c70] at h
      refine PW.iconst (x := 0) dX11_whyNot_77 (by decide) ?_
      exact PW.sub (l' := [(0, .ref (ga K a0)), (1, .int a1), (2, .int a2), (3, .int s0), (5, .int a5), (6, .int a6)]) [1, 2, 3, 0, 5, 6] rfl (mf_X11_whyNot_J78 hk11 a0 a1 a2 s0 a5 a6 0 hp _ h)
    · rw [if_neg c70] at h
      refine PW.iconst (x := 1) dX11_whyNot_73 (by decide) ?_
      refine PW.goto (tgt := 78) dX11_whyNot_74 (by decide) ?_
      exact PW.sub (l' := [(0, .ref (ga K a0)), (1, .int a1), (2, .int a2), (3, .int s0), (5, .int a5), (6, .int a6)]) [1, 2, 3, 0, 5, 6] rfl (mf_X11_whyNot_J78 hk11 a0 a1 a2 s0 a5 a6 1 hp _ h)
set_option maxRecDepth 100000 in
set_option maxHeartbeats 4000000 in
theorem mf_X11_whyNot_L11 {K : GK} : ∀ (n : Nat) (a0 : Nat) (a1 : Int32) (a2 : Int32) (a3 : Int32) (a4 : Int32) (a5 : Int32) (a6 : Int32) (hp : PH) (r : Int32), f_X11_whyNot_L11 n a0 a1 a2 a3 a4 a5 a6 hp = some r → PW K (rmD (2)) 0 0 M_X11_whyNot 11 [(0, .ref (ga K a0)), (1, .int a1), (2, .int a2), (3, .int a3), (4, .int a4), (5, .int a5), (6, .int a6)] [] hp (some (.int r)) hp := by
  intro n
  induction n with
  | zero =>
    intro a0 a1 a2 a3 a4 a5 a6 hp r h
    rw [f_X11_whyNot_L11] at h
    cases h
  | succ n ih =>
    intro a0 a1 a2 a3 a4 a5 a6 hp r h
    rw [f_X11_whyNot_L11] at h
    refine PW.iload 6 dX11_whyNot_11 rfl ?_
    refine PW.aload_n 0 dX11_whyNot_13 rfl rfl ?_
    obtain ⟨x1, hx1, h⟩ := bind_some h
    refine PW.getR cls_X11 (j := 0) (by decide) dX11_whyNot_14 wd_895 hx1 ?_
    refine PW.iconst (x := 0) dX11_whyNot_17 (by decide) ?_
    obtain ⟨x2, hx2, h⟩ := bind_some h
    refine PW.iald dX11_whyNot_18 hx2 ?_
    refine PW.icmp_ge (tgt := 113) dX11_whyNot_19 (by decide) (fun c19 => ?_) (fun c19 => ?_)
    · rw [if_pos c19] at h
      refine PW.iload_n 3 dX11_whyNot_113 rfl rfl ?_
      refine PW.if_ne (tgt := 121) dX11_whyNot_114 (by decide) (fun c114 => ?_) (fun c114 => ?_)
      · rw [if_neg c114] at h
        refine PW.iload_n 1 dX11_whyNot_121 rfl rfl ?_
        obtain ⟨q3, hq3, h⟩ := bind_some h
        refine PW.callSi (As := [.int a1]) (rest := []) cal_X11_bits dX11_whyNot_122 wd_1083 rfl rfl (rmLe (by omega)) (Nat.le_of_ble_eq_true rfl) rm_0 (mf_X11_bits a1 _ hq3) ?_
        refine PW.aload_n 0 dX11_whyNot_125 rfl rfl ?_
        obtain ⟨x4, hx4, h⟩ := bind_some h
        refine PW.getR cls_X11 (j := 0) (by decide) dX11_whyNot_126 wd_895 hx4 ?_
        refine PW.bipush (x := 33) dX11_whyNot_129 (by decide) ?_
        refine PW.iload_n 2 dX11_whyNot_131 rfl rfl ?_
        refine PW.iadd dX11_whyNot_132 ?_
        obtain ⟨x5, hx5, h⟩ := bind_some h
        refine PW.iald dX11_whyNot_133 hx5 ?_
        refine PW.icmp_le (tgt := 141) dX11_whyNot_134 (by decide) (fun c134 => ?_) (fun c134 => ?_)
        · rw [if_pos c134] at h
          refine PW.iload 4 dX11_whyNot_141 rfl ?_
          refine PW.if_eq (tgt := 150) dX11_whyNot_143 (by decide) (fun c143 => ?_) (fun c143 => ?_)
          · rw [if_pos c143] at h
            refine PW.iload 5 dX11_whyNot_150 rfl ?_
            refine PW.if_eq (tgt := 159) dX11_whyNot_152 (by decide) (fun c152 => ?_) (fun c152 => ?_)
            · rw [if_pos c152] at h
              refine PW.aload_n 0 dX11_whyNot_159 rfl rfl ?_
              refine PW.iload_n 1 dX11_whyNot_160 rfl rfl ?_
              refine PW.aload_n 0 dX11_whyNot_161 rfl rfl ?_
              obtain ⟨x6, hx6, h⟩ := bind_some h
              refine PW.getR cls_X11 (j := 0) (by decide) dX11_whyNot_162 wd_895 hx6 ?_
              refine PW.bipush (x := 29) dX11_whyNot_165 (by decide) ?_
              refine PW.iload_n 2 dX11_whyNot_167 rfl rfl ?_
              refine PW.iadd dX11_whyNot_168 ?_
              obtain ⟨x7, hx7, h⟩ := bind_some h
              refine PW.iald dX11_whyNot_169 hx7 ?_
              obtain ⟨q8, hq8, h⟩ := bind_some h
              obtain ⟨hkq8, hcq8, hq8⟩ := vC_spec hq8
              refine PW.callVi (As := [.int a1, .int x7]) (rest := []) (k := a0) cal_X11_isByLaw dX11_whyNot_170 wd_1086 rfl rfl (rmLe (by omega)) (Nat.le_of_ble_eq_true rfl) rm_0 hkq8 hcq8 (mf_X11_isByLaw a0 a1 x7 hp _ hq8) ?_
              refine PW.if_eq (tgt := 180) dX11_whyNot_173 (by decide) (fun c173 => ?_) (fun c173 => ?_)
              · rw [if_pos c173] at h
                refine PW.iconst (x := 5) dX11_whyNot_180 (by decide) ?_
                have h := Option.some.inj h; subst h
                exact PW.ret dX11_whyNot_181 trivial rfl
              · rw [if_neg c173] at h
                refine PW.iconst (x := 0) dX11_whyNot_176 (by decide) ?_
                refine PW.goto (tgt := 181) dX11_whyNot_177 (by decide) ?_
                have h := Option.some.inj h; subst h
                exact PW.ret dX11_whyNot_181 trivial rfl
            · rw [if_neg c152] at h
              refine PW.iconst (x := 4) dX11_whyNot_155 (by decide) ?_
              refine PW.goto (tgt := 181) dX11_whyNot_156 (by decide) ?_
              have h := Option.some.inj h; subst h
              exact PW.ret dX11_whyNot_181 trivial rfl
          · rw [if_neg c143] at h
            refine PW.iconst (x := 3) dX11_whyNot_146 (by decide) ?_
            refine PW.goto (tgt := 181) dX11_whyNot_147 (by decide) ?_
            have h := Option.some.inj h; subst h
            exact PW.ret dX11_whyNot_181 trivial rfl
        · rw [if_neg c134] at h
          refine PW.iconst (x := 2) dX11_whyNot_137 (by decide) ?_
          refine PW.goto (tgt := 181) dX11_whyNot_138 (by decide) ?_
          have h := Option.some.inj h; subst h
          exact PW.ret dX11_whyNot_181 trivial rfl
      · rw [if_pos c114] at h
        refine PW.iconst (x := 1) dX11_whyNot_117 (by decide) ?_
        refine PW.goto (tgt := 181) dX11_whyNot_118 (by decide) ?_
        have h := Option.some.inj h; subst h
        exact PW.ret dX11_whyNot_181 trivial rfl
    · rw [if_neg c19] at h
      refine PW.iload_n 1 dX11_whyNot_22 rfl rfl ?_
      refine PW.iload 6 dX11_whyNot_23 rfl ?_
      refine PW.callSi (As := [.int a1, .int a6]) (rest := []) cal_X11_has dX11_whyNot_25 wd_1044 rfl rfl (rmLe (by omega)) (Nat.le_of_ble_eq_true rfl) rm_0 (mf_X11_has a1 a6 _ rfl) ?_
      refine PW.if_eq (tgt := 107) dX11_whyNot_28 (by decide) (fun c28 => ?_) (fun c28 => ?_)
      · rw [if_pos c28] at h
        refine PW.iinc 6 (l' := [(6, .int (a6 + 1)), (0, .ref (ga K a0)), (1, .int a1), (2, .int a2), (3, .int a3), (4, .int a4), (5, .int a5)]) dX11_whyNot_107 rfl (x := a6) (y := (a6 + 1)) rfl (by decide) rfl ?_
        refine PW.goto (tgt := 11) dX11_whyNot_110 (by decide) ?_
        exact PW.sub (l' := [(0, .ref (ga K a0)), (1, .int a1), (2, .int a2), (3, .int a3), (4, .int a4), (5, .int a5), (6, .int (a6 + 1))]) [1, 2, 3, 4, 5, 6, 0] rfl (ih a0 a1 a2 a3 a4 a5 (a6 + 1) hp _ h)
      · rw [if_neg c28] at h
        refine PW.iload_n 3 dX11_whyNot_31 rfl rfl ?_
        refine PW.if_eq (tgt := 49) dX11_whyNot_32 (by decide) (fun c32 => ?_) (fun c32 => ?_)
        · rw [if_pos c32] at h
          refine PW.iconst (x := 0) dX11_whyNot_49 (by decide) ?_
          exact PW.sub (l' := [(0, .ref (ga K a0)), (1, .int a1), (2, .int a2), (4, .int a4), (5, .int a5), (6, .int a6)]) [0, 1, 2, 4, 5, 6] rfl (mf_X11_whyNot_J50 ih a0 a1 a2 a4 a5 a6 0 hp _ h)
        · rw [if_neg c32] at h
          refine PW.aload_n 0 dX11_whyNot_35 rfl rfl ?_
          obtain ⟨x14, hx14, h⟩ := bind_some h
          refine PW.getR cls_X11 (j := 13) (by decide) dX11_whyNot_36 wd_908 hx14 ?_
          refine PW.iload 6 dX11_whyNot_39 rfl ?_
          obtain ⟨x15, hx15, h⟩ := bind_some h
          refine PW.iald dX11_whyNot_41 hx15 ?_
          refine PW.if_lt (tgt := 49) dX11_whyNot_42 (by decide) (fun c42 => ?_) (fun c42 => ?_)
          · rw [if_pos c42] at h
            refine PW.iconst (x := 0) dX11_whyNot_49 (by decide) ?_
            exact PW.sub (l' := [(0, .ref (ga K a0)), (1, .int a1), (2, .int a2), (4, .int a4), (5, .int a5), (6, .int a6)]) [0, 1, 2, 4, 5, 6] rfl (mf_X11_whyNot_J50 ih a0 a1 a2 a4 a5 a6 0 hp _ h)
          · rw [if_neg c42] at h
            refine PW.iconst (x := 1) dX11_whyNot_45 (by decide) ?_
            refine PW.goto (tgt := 50) dX11_whyNot_46 (by decide) ?_
            exact PW.sub (l' := [(0, .ref (ga K a0)), (1, .int a1), (2, .int a2), (4, .int a4), (5, .int a5), (6, .int a6)]) [0, 1, 2, 4, 5, 6] rfl (mf_X11_whyNot_J50 ih a0 a1 a2 a4 a5 a6 1 hp _ h)
set_option maxRecDepth 100000 in
set_option maxHeartbeats 4000000 in
theorem mf_X11_whyNot {K : GK} : ∀ (a0 : Nat) (a1 : Int32) (a2 : Int32) (hp : PH) (r : Int32), f_X11_whyNot a0 a1 a2 hp = some r → PM K (2) M_X11_whyNot [.ref (ga K a0), .int a1, .int a2] hp (some (.int r)) hp := by
  intro a0 a1 a2 hp r h
  unfold f_X11_whyNot at h
  refine PM.enter (l0 := [(0, .ref (ga K a0)), (1, .int a1), (2, .int a2)]) (by decide +kernel) rfl (Nat.le_of_ble_eq_true rfl) rfl ?_
  refine PW.iconst (x := 1) dX11_whyNot_0 (by decide) ?_
  refine PW.istore_n (l' := [(3, .int 1), (0, .ref (ga K a0)), (1, .int a1), (2, .int a2)]) dX11_whyNot_1 rfl (by decide) rfl ?_
  refine PW.iconst (x := 0) dX11_whyNot_2 (by decide) ?_
  refine PW.istore (l' := [(4, .int 0), (3, .int 1), (0, .ref (ga K a0)), (1, .int a1), (2, .int a2)]) dX11_whyNot_3 (by decide) rfl ?_
  refine PW.iconst (x := 0) dX11_whyNot_5 (by decide) ?_
  refine PW.istore (l' := [(5, .int 0), (4, .int 0), (3, .int 1), (0, .ref (ga K a0)), (1, .int a1), (2, .int a2)]) dX11_whyNot_6 (by decide) rfl ?_
  refine PW.iconst (x := 0) dX11_whyNot_8 (by decide) ?_
  refine PW.istore (l' := [(6, .int 0), (5, .int 0), (4, .int 0), (3, .int 1), (0, .ref (ga K a0)), (1, .int a1), (2, .int a2)]) dX11_whyNot_9 (by decide) rfl ?_
  exact PW.sub (l' := [(0, .ref (ga K a0)), (1, .int a1), (2, .int a2), (3, .int 1), (4, .int 0), (5, .int 0), (6, .int 0)]) [4, 5, 6, 3, 2, 1, 0] rfl (mf_X11_whyNot_L11 NN a0 a1 a2 1 0 0 0 hp _ h)
-- X11_isCompany
def f_X11_isCompany (a0 : Nat) (a1 : Int32) (hp : PH) : Option Int32 := (gR hp a0 10 0).bind fun x1 => (aI hp x1 0 0).bind fun x2 => (zR (f_X11_in (Int32.toInt64 a1) 1 (Int32.toInt64 ((iL 1 x2) - 1))))
set_option maxRecDepth 100000 in
set_option maxHeartbeats 4000000 in
theorem mf_X11_isCompany {K : GK} : ∀ (a0 : Nat) (a1 : Int32) (hp : PH) (r : Int32), f_X11_isCompany a0 a1 hp = some r → PM K (1) M_X11_isCompany [.ref (ga K a0), .int a1] hp (some (.int r)) hp := by
  intro a0 a1 hp r h
  unfold f_X11_isCompany at h
  refine PM.enter (l0 := [(0, .ref (ga K a0)), (1, .int a1)]) (by decide +kernel) rfl (Nat.le_of_ble_eq_true rfl) rfl ?_
  refine PW.iload_n 1 dX11_isCompany_0 rfl rfl ?_
  refine PW.i2l dX11_isCompany_1 ?_
  refine PW.lconst (x := 1) dX11_isCompany_2 (by decide) ?_
  refine PW.iconst (x := 1) dX11_isCompany_3 (by decide) ?_
  refine PW.aload_n 0 dX11_isCompany_4 rfl rfl ?_
  obtain ⟨x1, hx1, h⟩ := bind_some h
  refine PW.getR cls_X11 (j := 0) (by decide) dX11_isCompany_5 wd_895 hx1 ?_
  refine PW.iconst (x := 0) dX11_isCompany_8 (by decide) ?_
  obtain ⟨x2, hx2, h⟩ := bind_some h
  refine PW.iald dX11_isCompany_9 hx2 ?_
  refine PW.ishl dX11_isCompany_10 ?_
  refine PW.iconst (x := 1) dX11_isCompany_11 (by decide) ?_
  refine PW.isub dX11_isCompany_12 ?_
  refine PW.i2l dX11_isCompany_13 ?_
  refine PW.callSi (As := [.long (Int32.toInt64 a1), .long 1, .long (Int32.toInt64 ((iL 1 x2) - 1))]) (rest := []) cal_X11_in dX11_isCompany_14 wd_986 rfl rfl (rmLe (by omega)) (Nat.le_of_ble_eq_true rfl) rm_0 (mf_X11_in (Int32.toInt64 a1) 1 (Int32.toInt64 ((iL 1 x2) - 1)) _ rfl) ?_
  obtain ⟨hz, h⟩ := zR_spec h
  subst h
  exact PW.ret dX11_isCompany_17 (z_nar hz).1 rfl
-- X11_why
def f_X11_why (a0 : Nat) (a1 : Int32) (a2 : Int32) (a3 : Int32) (hp : PH) : Option (Int32 × PH) := (vC hp a0 10 (f_X11_isCompany a0 a1 hp)).bind fun q1 => (if q1 = 0 then (vC hp a0 10 (f_X11_bad a0 (-10) hp)).bind fun q2 => (some (q2.1, q2.2)) else (vC hp a0 10 (f_X11_isGate a0 a2 hp)).bind fun q3 => (if q3 = 0 then (vC hp a0 10 (f_X11_bad a0 (-10) hp)).bind fun q4 => (some (q4.1, q4.2)) else (f_X11_isDay a3).bind fun q5 => (if q5 = 0 then (vC hp a0 10 (f_X11_bad a0 (-10) hp)).bind fun q8 => (some (q8.1, q8.2)) else (vC hp a0 10 (f_X11_look a0 a3 hp)).bind fun q6 => (vC q6 a0 10 (f_X11_whyNot a0 a1 a2 q6)).bind fun q7 => (some (q7, q6)))))
set_option maxRecDepth 100000 in
set_option maxHeartbeats 4000000 in
theorem mf_X11_why {K : GK} : ∀ (a0 : Nat) (a1 : Int32) (a2 : Int32) (a3 : Int32) (hp : PH) (r : (Int32 × PH)), f_X11_why a0 a1 a2 a3 hp = some r → PM K (5) M_X11_why [.ref (ga K a0), .int a1, .int a2, .int a3] hp (some (.int r.1)) r.2 := by
  intro a0 a1 a2 a3 hp r h
  unfold f_X11_why at h
  refine PM.enter (l0 := [(0, .ref (ga K a0)), (1, .int a1), (2, .int a2), (3, .int a3)]) (by decide +kernel) rfl (Nat.le_of_ble_eq_true rfl) rfl ?_
  refine PW.aload_n 0 dX11_why_0 rfl rfl ?_
  refine PW.iload_n 1 dX11_why_1 rfl rfl ?_
  obtain ⟨q1, hq1, h⟩ := bind_some h
  obtain ⟨hkq1, hcq1, hq1⟩ := vC_spec hq1
  refine PW.callVi (As := [.int a1]) (rest := []) (k := a0) cal_X11_isCompany dX11_why_2 wd_1071 rfl rfl (rmLe (by omega)) (Nat.le_of_ble_eq_true rfl) rm_0 hkq1 hcq1 (mf_X11_isCompany a0 a1 hp _ hq1) ?_
  refine PW.if_eq (tgt := 23) dX11_why_5 (by decide) (fun c5 => ?_) (fun c5 => ?_)
  · rw [if_pos c5] at h
    refine PW.aload_n 0 dX11_why_23 rfl rfl ?_
    refine PW.bipush (x := (-10)) dX11_why_24 (by decide) ?_
    obtain ⟨q2, hq2, h⟩ := bind_some h
    obtain ⟨hkq2, hcq2, hq2⟩ := vC_spec hq2
    refine PW.callVi (As := [.int (-10)]) (rest := []) (k := a0) cal_X11_bad dX11_why_26 wd_1002 rfl rfl (rmLe (by omega)) (Nat.le_of_ble_eq_true rfl) rm_0 hkq2 hcq2 (mf_X11_bad a0 (-10) hp _ hq2) ?_
    have h := Option.some.inj h; subst h
    exact PW.ret dX11_why_29 trivial rfl
  · rw [if_neg c5] at h
    refine PW.aload_n 0 dX11_why_8 rfl rfl ?_
    refine PW.iload_n 2 dX11_why_9 rfl rfl ?_
    obtain ⟨q3, hq3, h⟩ := bind_some h
    obtain ⟨hkq3, hcq3, hq3⟩ := vC_spec hq3
    refine PW.callVi (As := [.int a2]) (rest := []) (k := a0) cal_X11_isGate dX11_why_10 wd_1075 rfl rfl (rmLe (by omega)) (Nat.le_of_ble_eq_true rfl) rm_0 hkq3 hcq3 (mf_X11_isGate a0 a2 hp _ hq3) ?_
    refine PW.if_eq (tgt := 23) dX11_why_13 (by decide) (fun c13 => ?_) (fun c13 => ?_)
    · rw [if_pos c13] at h
      refine PW.aload_n 0 dX11_why_23 rfl rfl ?_
      refine PW.bipush (x := (-10)) dX11_why_24 (by decide) ?_
      obtain ⟨q4, hq4, h⟩ := bind_some h
      obtain ⟨hkq4, hcq4, hq4⟩ := vC_spec hq4
      refine PW.callVi (As := [.int (-10)]) (rest := []) (k := a0) cal_X11_bad dX11_why_26 wd_1002 rfl rfl (rmLe (by omega)) (Nat.le_of_ble_eq_true rfl) rm_0 hkq4 hcq4 (mf_X11_bad a0 (-10) hp _ hq4) ?_
      have h := Option.some.inj h; subst h
      exact PW.ret dX11_why_29 trivial rfl
    · rw [if_neg c13] at h
      refine PW.iload_n 3 dX11_why_16 rfl rfl ?_
      obtain ⟨q5, hq5, h⟩ := bind_some h
      refine PW.callSi (As := [.int a3]) (rest := []) cal_X11_isDay dX11_why_17 wd_1010 rfl rfl (rmLe (by omega)) (Nat.le_of_ble_eq_true rfl) rm_0 (mf_X11_isDay a3 _ hq5) ?_
      refine PW.if_ne (tgt := 30) dX11_why_20 (by decide) (fun c20 => ?_) (fun c20 => ?_)
      · rw [if_neg c20] at h
        refine PW.aload_n 0 dX11_why_30 rfl rfl ?_
        refine PW.iload_n 3 dX11_why_31 rfl rfl ?_
        obtain ⟨q6, hq6, h⟩ := bind_some h
        obtain ⟨hkq6, hcq6, hq6⟩ := vC_spec hq6
        refine PW.callVv (As := [.int a3]) (rest := []) (k := a0) cal_X11_look dX11_why_32 wd_1055 rfl rfl (rmLe (by omega)) (Nat.le_of_ble_eq_true rfl) rm_0 hkq6 hcq6 (mf_X11_look a0 a3 hp _ hq6) ?_
        refine PW.aload_n 0 dX11_why_35 rfl rfl ?_
        refine PW.iload_n 1 dX11_why_36 rfl rfl ?_
        refine PW.iload_n 2 dX11_why_37 rfl rfl ?_
        obtain ⟨q7, hq7, h⟩ := bind_some h
        obtain ⟨hkq7, hcq7, hq7⟩ := vC_spec hq7
        refine PW.callVi (As := [.int a1, .int a2]) (rest := []) (k := a0) cal_X11_whyNot dX11_why_38 wd_1079 rfl rfl (rmLe (by omega)) (Nat.le_of_ble_eq_true rfl) rm_0 hkq7 hcq7 (mf_X11_whyNot a0 a1 a2 q6 _ hq7) ?_
        have h := Option.some.inj h; subst h
        exact PW.ret dX11_why_41 trivial rfl
      · rw [if_pos c20] at h
        refine PW.aload_n 0 dX11_why_23 rfl rfl ?_
        refine PW.bipush (x := (-10)) dX11_why_24 (by decide) ?_
        obtain ⟨q8, hq8, h⟩ := bind_some h
        obtain ⟨hkq8, hcq8, hq8⟩ := vC_spec hq8
        refine PW.callVi (As := [.int (-10)]) (rest := []) (k := a0) cal_X11_bad dX11_why_26 wd_1002 rfl rfl (rmLe (by omega)) (Nat.le_of_ble_eq_true rfl) rm_0 hkq8 hcq8 (mf_X11_bad a0 (-10) hp _ hq8) ?_
        have h := Option.some.inj h; subst h
        exact PW.ret dX11_why_29 trivial rfl
-- X11_type
def f_X11_type_L43 : Nat → Nat → Int64 → Int32 → PH → Option (Int32 × PH)
  | 0, _, _, _, _ => none
  | n + 1, a0, a1, a4, hp => (if a4 < 0 then (gR hp a0 10 0).bind fun x4 => (aI hp x4 0 2).bind fun x5 => (some (x5, hp)) else (gR hp a0 10 0).bind fun x6 => (gR hp a0 10 0).bind fun x7 => (aI hp x7 0 2).bind fun x8 => (uI hp x6 (77 + x8) (Int64.toInt32 ((jR a1 (8 * a4)) &&& 255))).bind fun hp9 => (gR hp9 a0 10 0).bind fun x10 => (aI hp9 x10 0 2).bind fun x11 => (uI hp9 x10 2 (x11 + 1)).bind fun hp12 => ((f_X11_type_L43 n) a0 a1 (a4 + (-1)) hp12))
def f_X11_type (a0 : Nat) (a1 : Int64) (a3 : Int32) (hp : PH) : Option (Int32 × PH) := (if (f_X11_in (Int32.toInt64 a3) 1 8) = 0 then (vC hp a0 10 (f_X11_bad a0 (-2) hp)).bind fun q14 => (some (q14.1, q14.2)) else (gR hp a0 10 0).bind fun x2 => (aI hp x2 0 2).bind fun x3 => (if (x3 + a3) ≤ 200 then (f_X11_type_L43 NN a0 a1 (a3 - 1) hp) else (vC hp a0 10 (f_X11_full a0 hp)).bind fun q13 => (some (q13.1, q13.2))))
set_option maxRecDepth 100000 in
set_option maxHeartbeats 4000000 in
theorem mf_X11_type_L43 {K : GK} : ∀ (n : Nat) (a0 : Nat) (a1 : Int64) (a4 : Int32) (hp : PH) (r : (Int32 × PH)), f_X11_type_L43 n a0 a1 a4 hp = some r → PW K (rmD (1)) 0 0 M_X11_type 43 [(0, .ref (ga K a0)), (1, .long a1), (4, .int a4)] [] hp (some (.int r.1)) r.2 := by
  intro n
  induction n with
  | zero =>
    intro a0 a1 a4 hp r h
    rw [f_X11_type_L43] at h
    cases h
  | succ n ih =>
    intro a0 a1 a4 hp r h
    rw [f_X11_type_L43] at h
    refine PW.iload 2 dX11_type_43 rfl ?_
    refine PW.if_lt (tgt := 90) dX11_type_45 (by decide) (fun c45 => ?_) (fun c45 => ?_)
    · rw [if_pos c45] at h
      refine PW.aload_n 0 dX11_type_90 rfl rfl ?_
      obtain ⟨x4, hx4, h⟩ := bind_some h
      refine PW.getR cls_X11 (j := 0) (by decide) dX11_type_91 wd_895 hx4 ?_
      refine PW.iconst (x := 2) dX11_type_94 (by decide) ?_
      obtain ⟨x5, hx5, h⟩ := bind_some h
      refine PW.iald dX11_type_95 hx5 ?_
      have h := Option.some.inj h; subst h
      exact PW.ret dX11_type_96 trivial rfl
    · rw [if_neg c45] at h
      refine PW.aload_n 0 dX11_type_48 rfl rfl ?_
      obtain ⟨x6, hx6, h⟩ := bind_some h
      refine PW.getR cls_X11 (j := 0) (by decide) dX11_type_49 wd_895 hx6 ?_
      refine PW.bipush (x := 77) dX11_type_52 (by decide) ?_
      refine PW.aload_n 0 dX11_type_54 rfl rfl ?_
      obtain ⟨x7, hx7, h⟩ := bind_some h
      refine PW.getR cls_X11 (j := 0) (by decide) dX11_type_55 wd_895 hx7 ?_
      refine PW.iconst (x := 2) dX11_type_58 (by decide) ?_
      obtain ⟨x8, hx8, h⟩ := bind_some h
      refine PW.iald dX11_type_59 hx8 ?_
      refine PW.iadd dX11_type_60 ?_
      refine PW.lload_n 1 dX11_type_61 rfl rfl ?_
      refine PW.bipush (x := 8) dX11_type_62 (by decide) ?_
      refine PW.iload 2 dX11_type_64 rfl ?_
      refine PW.imul dX11_type_66 ?_
      refine PW.lshr dX11_type_67 ?_
      refine PW.ldc2 (x := 255) dX11_type_68 wd_1094 ?_
      refine PW.land dX11_type_71 ?_
      refine PW.l2i dX11_type_72 ?_
      obtain ⟨hp9, hhp9, h⟩ := bind_some h
      refine PW.iast dX11_type_73 hhp9 ?_
      refine PW.aload_n 0 dX11_type_74 rfl rfl ?_
      obtain ⟨x10, hx10, h⟩ := bind_some h
      refine PW.getR cls_X11 (j := 0) (by decide) dX11_type_75 wd_895 hx10 ?_
      refine PW.iconst (x := 2) dX11_type_78 (by decide) ?_
      refine PW.dup2 dX11_type_79 rfl rfl ?_
      obtain ⟨x11, hx11, h⟩ := bind_some h
      refine PW.iald dX11_type_80 hx11 ?_
      refine PW.iconst (x := 1) dX11_type_81 (by decide) ?_
      refine PW.iadd dX11_type_82 ?_
      obtain ⟨hp12, hhp12, h⟩ := bind_some h
      refine PW.iast dX11_type_83 hhp12 ?_
      refine PW.iinc 2 (l' := [(4, .int (a4 + (-1))), (0, .ref (ga K a0)), (1, .long a1)]) dX11_type_84 rfl (x := a4) (y := (a4 + (-1))) rfl (by decide) rfl ?_
      refine PW.goto (tgt := 43) dX11_type_87 (by decide) ?_
      exact PW.sub (l' := [(0, .ref (ga K a0)), (1, .long a1), (4, .int (a4 + (-1)))]) [1, 2, 0] rfl (ih a0 a1 (a4 + (-1)) hp12 _ h)
set_option maxRecDepth 100000 in
set_option maxHeartbeats 4000000 in
theorem mf_X11_type {K : GK} : ∀ (a0 : Nat) (a1 : Int64) (a3 : Int32) (hp : PH) (r : (Int32 × PH)), f_X11_type a0 a1 a3 hp = some r → PM K (1) M_X11_type [.ref (ga K a0), .long a1, .int a3] hp (some (.int r.1)) r.2 := by
  intro a0 a1 a3 hp r h
  unfold f_X11_type at h
  refine PM.enter (l0 := [(0, .ref (ga K a0)), (1, .long a1), (3, .int a3)]) (by decide +kernel) rfl (Nat.le_of_ble_eq_true rfl) rfl ?_
  refine PW.iload_n 2 dX11_type_0 rfl rfl ?_
  refine PW.i2l dX11_type_1 ?_
  refine PW.lconst (x := 1) dX11_type_2 (by decide) ?_
  refine PW.ldc2 (x := 8) dX11_type_3 wd_1035 ?_
  refine PW.callSi (As := [.long (Int32.toInt64 a3), .long 1, .long 8]) (rest := []) cal_X11_in dX11_type_6 wd_986 rfl rfl (rmLe (by omega)) (Nat.le_of_ble_eq_true rfl) rm_0 (mf_X11_in (Int32.toInt64 a3) 1 8 _ rfl) ?_
  refine PW.if_ne (tgt := 19) dX11_type_9 (by decide) (fun c9 => ?_) (fun c9 => ?_)
  · rw [if_neg c9] at h
    refine PW.aload_n 0 dX11_type_19 rfl rfl ?_
    obtain ⟨x2, hx2, h⟩ := bind_some h
    refine PW.getR cls_X11 (j := 0) (by decide) dX11_type_20 wd_895 hx2 ?_
    refine PW.iconst (x := 2) dX11_type_23 (by decide) ?_
    obtain ⟨x3, hx3, h⟩ := bind_some h
    refine PW.iald dX11_type_24 hx3 ?_
    refine PW.iload_n 2 dX11_type_25 rfl rfl ?_
    refine PW.iadd dX11_type_26 ?_
    refine PW.sipush (x := 200) dX11_type_27 (by decide) ?_
    refine PW.icmp_le (tgt := 38) dX11_type_30 (by decide) (fun c30 => ?_) (fun c30 => ?_)
    · rw [if_pos c30] at h
      refine PW.iload_n 2 dX11_type_38 rfl rfl ?_
      refine PW.iconst (x := 1) dX11_type_39 (by decide) ?_
      refine PW.isub dX11_type_40 ?_
      refine PW.istore (l' := [(4, .int (a3 - 1)), (0, .ref (ga K a0)), (1, .long a1), (3, .int a3)]) dX11_type_41 (by decide) rfl ?_
      exact PW.sub (l' := [(0, .ref (ga K a0)), (1, .long a1), (4, .int (a3 - 1))]) [1, 2, 0] rfl (mf_X11_type_L43 NN a0 a1 (a3 - 1) hp _ h)
    · rw [if_neg c30] at h
      refine PW.aload_n 0 dX11_type_33 rfl rfl ?_
      obtain ⟨q13, hq13, h⟩ := bind_some h
      obtain ⟨hkq13, hcq13, hq13⟩ := vC_spec hq13
      refine PW.callVi (As := []) (rest := []) (k := a0) cal_X11_full dX11_type_34 wd_1026 rfl rfl (rmLe (by omega)) (Nat.le_of_ble_eq_true rfl) rm_0 hkq13 hcq13 (mf_X11_full a0 hp _ hq13) ?_
      have h := Option.some.inj h; subst h
      exact PW.ret dX11_type_37 trivial rfl
  · rw [if_pos c9] at h
    refine PW.aload_n 0 dX11_type_12 rfl rfl ?_
    refine PW.bipush (x := (-2)) dX11_type_13 (by decide) ?_
    obtain ⟨q14, hq14, h⟩ := bind_some h
    obtain ⟨hkq14, hcq14, hq14⟩ := vC_spec hq14
    refine PW.callVi (As := [.int (-2)]) (rest := []) (k := a0) cal_X11_bad dX11_type_15 wd_1002 rfl rfl (rmLe (by omega)) (Nat.le_of_ble_eq_true rfl) rm_0 hkq14 hcq14 (mf_X11_bad a0 (-2) hp _ hq14) ?_
    have h := Option.some.inj h; subst h
    exact PW.ret dX11_type_18 trivial rfl
-- X11_clear
def f_X11_clear (a0 : Nat) (hp : PH) : Option (Int32 × PH) := (gR hp a0 10 0).bind fun x1 => (aI hp x1 0 2).bind fun x2 => (gR hp a0 10 0).bind fun x3 => (uI hp x3 2 0).bind fun hp4 => (some (x2, hp4))
set_option maxRecDepth 100000 in
set_option maxHeartbeats 4000000 in
theorem mf_X11_clear {K : GK} : ∀ (a0 : Nat) (hp : PH) (r : (Int32 × PH)), f_X11_clear a0 hp = some r → PM K (0) M_X11_clear [.ref (ga K a0)] hp (some (.int r.1)) r.2 := by
  intro a0 hp r h
  unfold f_X11_clear at h
  refine PM.enter (l0 := [(0, .ref (ga K a0))]) (by decide +kernel) rfl (Nat.le_of_ble_eq_true rfl) rfl ?_
  refine PW.aload_n 0 dX11_clear_0 rfl rfl ?_
  obtain ⟨x1, hx1, h⟩ := bind_some h
  refine PW.getR cls_X11 (j := 0) (by decide) dX11_clear_1 wd_895 hx1 ?_
  refine PW.iconst (x := 2) dX11_clear_4 (by decide) ?_
  obtain ⟨x2, hx2, h⟩ := bind_some h
  refine PW.iald dX11_clear_5 hx2 ?_
  refine PW.istore_n (l' := [(1, .int x2), (0, .ref (ga K a0))]) dX11_clear_6 rfl (by decide) rfl ?_
  refine PW.aload_n 1 dX11_clear_7 rfl rfl ?_
  obtain ⟨x3, hx3, h⟩ := bind_some h
  refine PW.getR cls_X11 (j := 0) (by decide) dX11_clear_8 wd_895 hx3 ?_
  refine PW.iconst (x := 2) dX11_clear_11 (by decide) ?_
  refine PW.iconst (x := 0) dX11_clear_12 (by decide) ?_
  obtain ⟨hp4, hhp4, h⟩ := bind_some h
  refine PW.iast dX11_clear_13 hhp4 ?_
  refine PW.iload_n 0 dX11_clear_14 rfl rfl ?_
  have h := Option.some.inj h; subst h
  exact PW.ret dX11_clear_15 trivial rfl
-- X11_byteAt
def f_X11_byteAt (a0 : Nat) (a1 : Int32) (hp : PH) : Option Int32 := (gR hp a0 10 0).bind fun x1 => (aI hp x1 0 2).bind fun x2 => (if x2 ≤ a1 then (some 0) else (gR hp a0 10 0).bind fun x3 => (aI hp x3 0 (77 + a1)).bind fun x4 => (some x4))
set_option maxRecDepth 100000 in
set_option maxHeartbeats 4000000 in
theorem mf_X11_byteAt {K : GK} : ∀ (a0 : Nat) (a1 : Int32) (hp : PH) (r : Int32), f_X11_byteAt a0 a1 hp = some r → PM K (0) M_X11_byteAt [.ref (ga K a0), .int a1] hp (some (.int r)) hp := by
  intro a0 a1 hp r h
  unfold f_X11_byteAt at h
  refine PM.enter (l0 := [(0, .ref (ga K a0)), (1, .int a1)]) (by decide +kernel) rfl (Nat.le_of_ble_eq_true rfl) rfl ?_
  refine PW.iload_n 1 dX11_byteAt_0 rfl rfl ?_
  refine PW.aload_n 0 dX11_byteAt_1 rfl rfl ?_
  obtain ⟨x1, hx1, h⟩ := bind_some h
  refine PW.getR cls_X11 (j := 0) (by decide) dX11_byteAt_2 wd_895 hx1 ?_
  refine PW.iconst (x := 2) dX11_byteAt_5 (by decide) ?_
  obtain ⟨x2, hx2, h⟩ := bind_some h
  refine PW.iald dX11_byteAt_6 hx2 ?_
  refine PW.icmp_ge (tgt := 22) dX11_byteAt_7 (by decide) (fun c7 => ?_) (fun c7 => ?_)
  · rw [if_pos c7] at h
    refine PW.iconst (x := 0) dX11_byteAt_22 (by decide) ?_
    have h := Option.some.inj h; subst h
    exact PW.ret dX11_byteAt_23 trivial rfl
  · rw [if_neg c7] at h
    refine PW.aload_n 0 dX11_byteAt_10 rfl rfl ?_
    obtain ⟨x3, hx3, h⟩ := bind_some h
    refine PW.getR cls_X11 (j := 0) (by decide) dX11_byteAt_11 wd_895 hx3 ?_
    refine PW.bipush (x := 77) dX11_byteAt_14 (by decide) ?_
    refine PW.iload_n 1 dX11_byteAt_16 rfl rfl ?_
    refine PW.iadd dX11_byteAt_17 ?_
    obtain ⟨x4, hx4, h⟩ := bind_some h
    refine PW.iald dX11_byteAt_18 hx4 ?_
    refine PW.goto (tgt := 23) dX11_byteAt_19 (by decide) ?_
    have h := Option.some.inj h; subst h
    exact PW.ret dX11_byteAt_23 trivial rfl
-- X11_nextToken
def f_X11_nextToken_L213 : Nat → Nat → PH → Option PH
  | 0, _, _ => none
  | n + 1, a0, hp => (gI hp a0 10 15).bind fun x27 => (vC hp a0 10 (f_X11_byteAt a0 x27 hp)).bind fun q28 => (if (f_X11_in (Int32.toInt64 q28) 48 57) = 0 then (gI hp a0 10 15).bind fun x30 => (gI hp a0 10 14).bind fun x31 => (if (x30 - x31) ≤ 4 then (pI hp a0 10 16 2).bind fun hp32 => some hp32 else (pI hp a0 10 16 4).bind fun hp33 => some hp33) else (gI hp a0 10 15).bind fun x34 => (gI hp a0 10 14).bind fun x35 => (if 4 ≤ (x34 - x35) then (pJ hp a0 10 17 0).bind fun hp36 => (gI hp36 a0 10 15).bind fun x37 => (pI hp36 a0 10 15 (x37 + 1)).bind fun hp38 => ((f_X11_nextToken_L213 n) a0 hp38) else (gJ hp a0 10 17).bind fun x39 => (gI hp a0 10 15).bind fun x40 => (vC hp a0 10 (f_X11_byteAt a0 x40 hp)).bind fun q41 => (pJ hp a0 10 17 (((10 * x39) + (Int32.toInt64 q41)) - 48)).bind fun hp42 => (gI hp42 a0 10 15).bind fun x43 => (pI hp42 a0 10 15 (x43 + 1)).bind fun hp44 => ((f_X11_nextToken_L213 n) a0 hp44)))
def f_X11_nextToken_L107 : Nat → Nat → PH → Option PH
  | 0, _, _ => none
  | n + 1, a0, hp => (gI hp a0 10 15).bind fun x46 => (vC hp a0 10 (f_X11_byteAt a0 x46 hp)).bind fun q47 => (if (f_X11_in (Int32.toInt64 q47) 97 122) = 0 then some hp else (gI hp a0 10 15).bind fun x49 => (gI hp a0 10 14).bind fun x50 => (if 8 ≤ (x49 - x50) then (pJ hp a0 10 17 (-1)).bind fun hp51 => (gI hp51 a0 10 15).bind fun x52 => (pI hp51 a0 10 15 (x52 + 1)).bind fun hp53 => ((f_X11_nextToken_L107 n) a0 hp53) else (gJ hp a0 10 17).bind fun x54 => (gI hp a0 10 15).bind fun x55 => (vC hp a0 10 (f_X11_byteAt a0 x55 hp)).bind fun q56 => (pJ hp a0 10 17 (((27 * x54) + (Int32.toInt64 q56)) - 96)).bind fun hp57 => (gI hp57 a0 10 15).bind fun x58 => (pI hp57 a0 10 15 (x58 + 1)).bind fun hp59 => ((f_X11_nextToken_L107 n) a0 hp59)))
def f_X11_nextToken_J47 (a0 : Nat) (hp : PH) : Option PH := (gI hp a0 10 14).bind fun x6 => (pI hp a0 10 15 x6).bind fun hp7 => (pJ hp7 a0 10 17 0).bind fun hp8 => (gI hp8 a0 10 14).bind fun x9 => (gR hp8 a0 10 0).bind fun x10 => (aI hp8 x10 0 2).bind fun x11 => (if x9 < x11 then (gI hp8 a0 10 14).bind fun x12 => (vC hp8 a0 10 (f_X11_byteAt a0 x12 hp8)).bind fun q13 => (if (f_X11_in (Int32.toInt64 q13) 97 122) = 0 then (gI hp8 a0 10 14).bind fun x15 => (vC hp8 a0 10 (f_X11_byteAt a0 x15 hp8)).bind fun q16 => (if (f_X11_in (Int32.toInt64 q16) 48 57) = 0 then (gI hp8 a0 10 14).bind fun x18 => (vC hp8 a0 10 (f_X11_byteAt a0 x18 hp8)).bind fun q19 => (if q19 = 59 then (pI hp8 a0 10 16 3).bind fun hp23 => (gI hp23 a0 10 15).bind fun x24 => (pI hp23 a0 10 15 (x24 + 1)).bind fun hp25 => some hp25 else (pI hp8 a0 10 16 4).bind fun hp20 => (gI hp20 a0 10 15).bind fun x21 => (pI hp20 a0 10 15 (x21 + 1)).bind fun hp22 => some hp22) else (pI hp8 a0 10 16 2).bind fun hp26 => (f_X11_nextToken_L213 NN a0 hp26)) else (pI hp8 a0 10 16 1).bind fun hp45 => (f_X11_nextToken_L107 NN a0 hp45)) else (pI hp8 a0 10 16 0).bind fun hp60 => some hp60)
def f_X11_nextToken_L8 : Nat → Nat → PH → Option PH
  | 0, _, _ => none
  | n + 1, a0, hp => (gI hp a0 10 14).bind fun x3 => (gR hp a0 10 0).bind fun x4 => (aI hp x4 0 2).bind fun x5 => (if x5 ≤ x3 then (f_X11_nextToken_J47 a0 hp) else (gI hp a0 10 14).bind fun x61 => (vC hp a0 10 (f_X11_byteAt a0 x61 hp)).bind fun q62 => (if q62 = 32 then (gI hp a0 10 14).bind fun x63 => (pI hp a0 10 14 (x63 + 1)).bind fun hp64 => ((f_X11_nextToken_L8 n) a0 hp64) else (f_X11_nextToken_J47 a0 hp)))
def f_X11_nextToken (a0 : Nat) (hp : PH) : Option PH := (gI hp a0 10 15).bind fun x1 => (pI hp a0 10 14 x1).bind fun hp2 => (f_X11_nextToken_L8 NN a0 hp2)
set_option maxRecDepth 100000 in
set_option maxHeartbeats 4000000 in
theorem mf_X11_nextToken_L213 {K : GK} : ∀ (n : Nat) (a0 : Nat) (hp : PH) (r : PH), f_X11_nextToken_L213 n a0 hp = some r → PW K (rmD (1)) 0 0 M_X11_nextToken 213 [(0, .ref (ga K a0))] [] hp none r := by
  intro n
  induction n with
  | zero =>
    intro a0 hp r h
    rw [f_X11_nextToken_L213] at h
    cases h
  | succ n ih =>
    intro a0 hp r h
    rw [f_X11_nextToken_L213] at h
    refine PW.aload_n 0 dX11_nextToken_213 rfl rfl ?_
    refine PW.aload_n 0 dX11_nextToken_214 rfl rfl ?_
    obtain ⟨x27, hx27, h⟩ := bind_some h
    refine PW.getI cls_X11 (j := 15) (by decide) dX11_nextToken_215 wd_910 hx27 ?_
    obtain ⟨q28, hq28, h⟩ := bind_some h
    obtain ⟨hkq28, hcq28, hq28⟩ := vC_spec hq28
    refine PW.callVi (As := [.int x27]) (rest := []) (k := a0) cal_X11_byteAt dX11_nextToken_218 wd_1107 rfl rfl (rmLe (by omega)) (Nat.le_of_ble_eq_true rfl) rm_0 hkq28 hcq28 (mf_X11_byteAt a0 x27 hp _ hq28) ?_
    refine PW.i2l dX11_nextToken_221 ?_
    refine PW.ldc2 (x := 48) dX11_nextToken_222 wd_1116 ?_
    refine PW.ldc2 (x := 57) dX11_nextToken_225 wd_1117 ?_
    refine PW.callSi (As := [.long (Int32.toInt64 q28), .long 48, .long 57]) (rest := []) cal_X11_in dX11_nextToken_228 wd_986 rfl rfl (rmLe (by omega)) (Nat.le_of_ble_eq_true rfl) rm_0 (mf_X11_in (Int32.toInt64 q28) 48 57 _ rfl) ?_
    refine PW.if_eq (tgt := 290) dX11_nextToken_231 (by decide) (fun c231 => ?_) (fun c231 => ?_)
    · rw [if_pos c231] at h
      refine PW.aload_n 0 dX11_nextToken_290 rfl rfl ?_
      refine PW.aload_n 0 dX11_nextToken_291 rfl rfl ?_
      obtain ⟨x30, hx30, h⟩ := bind_some h
      refine PW.getI cls_X11 (j := 15) (by decide) dX11_nextToken_292 wd_910 hx30 ?_
      refine PW.aload_n 0 dX11_nextToken_295 rfl rfl ?_
      obtain ⟨x31, hx31, h⟩ := bind_some h
      refine PW.getI cls_X11 (j := 14) (by decide) dX11_nextToken_296 wd_909 hx31 ?_
      refine PW.isub dX11_nextToken_299 ?_
      refine PW.iconst (x := 4) dX11_nextToken_300 (by decide) ?_
      refine PW.icmp_le (tgt := 308) dX11_nextToken_301 (by decide) (fun c301 => ?_) (fun c301 => ?_)
      · rw [if_pos c301] at h
        refine PW.iconst (x := 2) dX11_nextToken_308 (by decide) ?_
        obtain ⟨hp32, hhp32, h⟩ := bind_some h
        refine PW.putI cls_X11 clw_X11 (j := 16) (by decide) dX11_nextToken_309 wd_911 rfl rfl hhp32 ?_
        refine PW.goto (tgt := 347) dX11_nextToken_312 (by decide) ?_
        have h := Option.some.inj h
        subst h
        exact PW.ret dX11_nextToken_347 trivial rfl
      · rw [if_neg c301] at h
        refine PW.iconst (x := 4) dX11_nextToken_304 (by decide) ?_
        refine PW.goto (tgt := 309) dX11_nextToken_305 (by decide) ?_
        obtain ⟨hp33, hhp33, h⟩ := bind_some h
        refine PW.putI cls_X11 clw_X11 (j := 16) (by decide) dX11_nextToken_309 wd_911 rfl rfl hhp33 ?_
        refine PW.goto (tgt := 347) dX11_nextToken_312 (by decide) ?_
        have h := Option.some.inj h
        subst h
        exact PW.ret dX11_nextToken_347 trivial rfl
    · rw [if_neg c231] at h
      refine PW.aload_n 0 dX11_nextToken_234 rfl rfl ?_
      refine PW.aload_n 0 dX11_nextToken_235 rfl rfl ?_
      obtain ⟨x34, hx34, h⟩ := bind_some h
      refine PW.getI cls_X11 (j := 15) (by decide) dX11_nextToken_236 wd_910 hx34 ?_
      refine PW.aload_n 0 dX11_nextToken_239 rfl rfl ?_
      obtain ⟨x35, hx35, h⟩ := bind_some h
      refine PW.getI cls_X11 (j := 14) (by decide) dX11_nextToken_240 wd_909 hx35 ?_
      refine PW.isub dX11_nextToken_243 ?_
      refine PW.iconst (x := 4) dX11_nextToken_244 (by decide) ?_
      refine PW.icmp_ge (tgt := 273) dX11_nextToken_245 (by decide) (fun c245 => ?_) (fun c245 => ?_)
      · rw [if_pos c245] at h
        refine PW.lconst (x := 0) dX11_nextToken_273 (by decide) ?_
        obtain ⟨hp36, hhp36, h⟩ := bind_some h
        refine PW.putJ cls_X11 clw_X11 (j := 17) (by decide) dX11_nextToken_274 wd_912 rfl rfl hhp36 ?_
        refine PW.aload_n 0 dX11_nextToken_277 rfl rfl ?_
        refine PW.dup dX11_nextToken_278 rfl ?_
        obtain ⟨x37, hx37, h⟩ := bind_some h
        refine PW.getI cls_X11 (j := 15) (by decide) dX11_nextToken_279 wd_910 hx37 ?_
        refine PW.iconst (x := 1) dX11_nextToken_282 (by decide) ?_
        refine PW.iadd dX11_nextToken_283 ?_
        obtain ⟨hp38, hhp38, h⟩ := bind_some h
        refine PW.putI cls_X11 clw_X11 (j := 15) (by decide) dX11_nextToken_284 wd_910 rfl rfl hhp38 ?_
        refine PW.goto (tgt := 213) dX11_nextToken_287 (by decide) ?_
        exact PW.sub (l' := [(0, .ref (ga K a0))]) [0] rfl (ih a0 hp38 _ h)
      · rw [if_neg c245] at h
        refine PW.ldc2 (x := 10) dX11_nextToken_248 wd_1118 ?_
        refine PW.aload_n 0 dX11_nextToken_251 rfl rfl ?_
        obtain ⟨x39, hx39, h⟩ := bind_some h
        refine PW.getJ cls_X11 (j := 17) (by decide) dX11_nextToken_252 wd_912 hx39 ?_
        refine PW.lmul dX11_nextToken_255 ?_
        refine PW.aload_n 0 dX11_nextToken_256 rfl rfl ?_
        refine PW.aload_n 0 dX11_nextToken_257 rfl rfl ?_
        obtain ⟨x40, hx40, h⟩ := bind_some h
        refine PW.getI cls_X11 (j := 15) (by decide) dX11_nextToken_258 wd_910 hx40 ?_
        obtain ⟨q41, hq41, h⟩ := bind_some h
        obtain ⟨hkq41, hcq41, hq41⟩ := vC_spec hq41
        refine PW.callVi (As := [.int x40]) (rest := [.long (10 * x39), .ref (ga K a0)]) (k := a0) cal_X11_byteAt dX11_nextToken_261 wd_1107 rfl rfl (rmLe (by omega)) (Nat.le_of_ble_eq_true rfl) rm_0 hkq41 hcq41 (mf_X11_byteAt a0 x40 hp _ hq41) ?_
        refine PW.i2l dX11_nextToken_264 ?_
        refine PW.ladd dX11_nextToken_265 ?_
        refine PW.ldc2 (x := 48) dX11_nextToken_266 wd_1116 ?_
        refine PW.lsub dX11_nextToken_269 ?_
        refine PW.goto (tgt := 274) dX11_nextToken_270 (by decide) ?_
        obtain ⟨hp42, hhp42, h⟩ := bind_some h
        refine PW.putJ cls_X11 clw_X11 (j := 17) (by decide) dX11_nextToken_274 wd_912 rfl rfl hhp42 ?_
        refine PW.aload_n 0 dX11_nextToken_277 rfl rfl ?_
        refine PW.dup dX11_nextToken_278 rfl ?_
        obtain ⟨x43, hx43, h⟩ := bind_some h
        refine PW.getI cls_X11 (j := 15) (by decide) dX11_nextToken_279 wd_910 hx43 ?_
        refine PW.iconst (x := 1) dX11_nextToken_282 (by decide) ?_
        refine PW.iadd dX11_nextToken_283 ?_
        obtain ⟨hp44, hhp44, h⟩ := bind_some h
        refine PW.putI cls_X11 clw_X11 (j := 15) (by decide) dX11_nextToken_284 wd_910 rfl rfl hhp44 ?_
        refine PW.goto (tgt := 213) dX11_nextToken_287 (by decide) ?_
        exact PW.sub (l' := [(0, .ref (ga K a0))]) [0] rfl (ih a0 hp44 _ h)
set_option maxRecDepth 100000 in
set_option maxHeartbeats 4000000 in
theorem mf_X11_nextToken_L107 {K : GK} : ∀ (n : Nat) (a0 : Nat) (hp : PH) (r : PH), f_X11_nextToken_L107 n a0 hp = some r → PW K (rmD (1)) 0 0 M_X11_nextToken 107 [(0, .ref (ga K a0))] [] hp none r := by
  intro n
  induction n with
  | zero =>
    intro a0 hp r h
    rw [f_X11_nextToken_L107] at h
    cases h
  | succ n ih =>
    intro a0 hp r h
    rw [f_X11_nextToken_L107] at h
    refine PW.aload_n 0 dX11_nextToken_107 rfl rfl ?_
    refine PW.aload_n 0 dX11_nextToken_108 rfl rfl ?_
    obtain ⟨x46, hx46, h⟩ := bind_some h
    refine PW.getI cls_X11 (j := 15) (by decide) dX11_nextToken_109 wd_910 hx46 ?_
    obtain ⟨q47, hq47, h⟩ := bind_some h
    obtain ⟨hkq47, hcq47, hq47⟩ := vC_spec hq47
    refine PW.callVi (As := [.int x46]) (rest := []) (k := a0) cal_X11_byteAt dX11_nextToken_112 wd_1107 rfl rfl (rmLe (by omega)) (Nat.le_of_ble_eq_true rfl) rm_0 hkq47 hcq47 (mf_X11_byteAt a0 x46 hp _ hq47) ?_
    refine PW.i2l dX11_nextToken_115 ?_
    refine PW.ldc2 (x := 97) dX11_nextToken_116 wd_1111 ?_
    refine PW.ldc2 (x := 122) dX11_nextToken_119 wd_1112 ?_
    refine PW.callSi (As := [.long (Int32.toInt64 q47), .long 97, .long 122]) (rest := []) cal_X11_in dX11_nextToken_122 wd_986 rfl rfl (rmLe (by omega)) (Nat.le_of_ble_eq_true rfl) rm_0 (mf_X11_in (Int32.toInt64 q47) 97 122 _ rfl) ?_
    refine PW.if_eq (tgt := 347) dX11_nextToken_125 (by decide) (fun c125 => ?_) (fun c125 => ?_)
    · rw [if_pos c125] at h
      have h := Option.some.inj h
      subst h
      exact PW.ret dX11_nextToken_347 trivial rfl
    · rw [if_neg c125] at h
      refine PW.aload_n 0 dX11_nextToken_128 rfl rfl ?_
      refine PW.aload_n 0 dX11_nextToken_129 rfl rfl ?_
      obtain ⟨x49, hx49, h⟩ := bind_some h
      refine PW.getI cls_X11 (j := 15) (by decide) dX11_nextToken_130 wd_910 hx49 ?_
      refine PW.aload_n 0 dX11_nextToken_133 rfl rfl ?_
      obtain ⟨x50, hx50, h⟩ := bind_some h
      refine PW.getI cls_X11 (j := 14) (by decide) dX11_nextToken_134 wd_909 hx50 ?_
      refine PW.isub dX11_nextToken_137 ?_
      refine PW.bipush (x := 8) dX11_nextToken_138 (by decide) ?_
      refine PW.icmp_ge (tgt := 168) dX11_nextToken_140 (by decide) (fun c140 => ?_) (fun c140 => ?_)
      · rw [if_pos c140] at h
        refine PW.ldc2 (x := (-1)) dX11_nextToken_168 wd_1115 ?_
        obtain ⟨hp51, hhp51, h⟩ := bind_some h
        refine PW.putJ cls_X11 clw_X11 (j := 17) (by decide) dX11_nextToken_171 wd_912 rfl rfl hhp51 ?_
        refine PW.aload_n 0 dX11_nextToken_174 rfl rfl ?_
        refine PW.dup dX11_nextToken_175 rfl ?_
        obtain ⟨x52, hx52, h⟩ := bind_some h
        refine PW.getI cls_X11 (j := 15) (by decide) dX11_nextToken_176 wd_910 hx52 ?_
        refine PW.iconst (x := 1) dX11_nextToken_179 (by decide) ?_
        refine PW.iadd dX11_nextToken_180 ?_
        obtain ⟨hp53, hhp53, h⟩ := bind_some h
        refine PW.putI cls_X11 clw_X11 (j := 15) (by decide) dX11_nextToken_181 wd_910 rfl rfl hhp53 ?_
        refine PW.goto (tgt := 107) dX11_nextToken_184 (by decide) ?_
        exact PW.sub (l' := [(0, .ref (ga K a0))]) [0] rfl (ih a0 hp53 _ h)
      · rw [if_neg c140] at h
        refine PW.ldc2 (x := 27) dX11_nextToken_143 wd_1113 ?_
        refine PW.aload_n 0 dX11_nextToken_146 rfl rfl ?_
        obtain ⟨x54, hx54, h⟩ := bind_some h
        refine PW.getJ cls_X11 (j := 17) (by decide) dX11_nextToken_147 wd_912 hx54 ?_
        refine PW.lmul dX11_nextToken_150 ?_
        refine PW.aload_n 0 dX11_nextToken_151 rfl rfl ?_
        refine PW.aload_n 0 dX11_nextToken_152 rfl rfl ?_
        obtain ⟨x55, hx55, h⟩ := bind_some h
        refine PW.getI cls_X11 (j := 15) (by decide) dX11_nextToken_153 wd_910 hx55 ?_
        obtain ⟨q56, hq56, h⟩ := bind_some h
        obtain ⟨hkq56, hcq56, hq56⟩ := vC_spec hq56
        refine PW.callVi (As := [.int x55]) (rest := [.long (27 * x54), .ref (ga K a0)]) (k := a0) cal_X11_byteAt dX11_nextToken_156 wd_1107 rfl rfl (rmLe (by omega)) (Nat.le_of_ble_eq_true rfl) rm_0 hkq56 hcq56 (mf_X11_byteAt a0 x55 hp _ hq56) ?_
        refine PW.i2l dX11_nextToken_159 ?_
        refine PW.ladd dX11_nextToken_160 ?_
        refine PW.ldc2 (x := 96) dX11_nextToken_161 wd_1114 ?_
        refine PW.lsub dX11_nextToken_164 ?_
        refine PW.goto (tgt := 171) dX11_nextToken_165 (by decide) ?_
        obtain ⟨hp57, hhp57, h⟩ := bind_some h
        refine PW.putJ cls_X11 clw_X11 (j := 17) (by decide) dX11_nextToken_171 wd_912 rfl rfl hhp57 ?_
        refine PW.aload_n 0 dX11_nextToken_174 rfl rfl ?_
        refine PW.dup dX11_nextToken_175 rfl ?_
        obtain ⟨x58, hx58, h⟩ := bind_some h
        refine PW.getI cls_X11 (j := 15) (by decide) dX11_nextToken_176 wd_910 hx58 ?_
        refine PW.iconst (x := 1) dX11_nextToken_179 (by decide) ?_
        refine PW.iadd dX11_nextToken_180 ?_
        obtain ⟨hp59, hhp59, h⟩ := bind_some h
        refine PW.putI cls_X11 clw_X11 (j := 15) (by decide) dX11_nextToken_181 wd_910 rfl rfl hhp59 ?_
        refine PW.goto (tgt := 107) dX11_nextToken_184 (by decide) ?_
        exact PW.sub (l' := [(0, .ref (ga K a0))]) [0] rfl (ih a0 hp59 _ h)
set_option maxRecDepth 100000 in
set_option maxHeartbeats 4000000 in
theorem mf_X11_nextToken_J47 {K : GK} : ∀ (a0 : Nat) (hp : PH) (r : PH), f_X11_nextToken_J47 a0 hp = some r → PW K (rmD (1)) 0 0 M_X11_nextToken 47 [(0, .ref (ga K a0))] [] hp none r := by
  intro a0 hp r h
  unfold f_X11_nextToken_J47 at h
  refine PW.aload_n 0 dX11_nextToken_47 rfl rfl ?_
  refine PW.aload_n 0 dX11_nextToken_48 rfl rfl ?_
  obtain ⟨x6, hx6, h⟩ := bind_some h
  refine PW.getI cls_X11 (j := 14) (by decide) dX11_nextToken_49 wd_909 hx6 ?_
  obtain ⟨hp7, hhp7, h⟩ := bind_some h
  refine PW.putI cls_X11 clw_X11 (j := 15) (by decide) dX11_nextToken_52 wd_910 rfl rfl hhp7 ?_
  refine PW.aload_n 0 dX11_nextToken_55 rfl rfl ?_
  refine PW.lconst (x := 0) dX11_nextToken_56 (by decide) ?_
  obtain ⟨hp8, hhp8, h⟩ := bind_some h
  refine PW.putJ cls_X11 clw_X11 (j := 17) (by decide) dX11_nextToken_57 wd_912 rfl rfl hhp8 ?_
  refine PW.aload_n 0 dX11_nextToken_60 rfl rfl ?_
  obtain ⟨x9, hx9, h⟩ := bind_some h
  refine PW.getI cls_X11 (j := 14) (by decide) dX11_nextToken_61 wd_909 hx9 ?_
  refine PW.aload_n 0 dX11_nextToken_64 rfl rfl ?_
  obtain ⟨x10, hx10, h⟩ := bind_some h
  refine PW.getR cls_X11 (j := 0) (by decide) dX11_nextToken_65 wd_895 hx10 ?_
  refine PW.iconst (x := 2) dX11_nextToken_68 (by decide) ?_
  obtain ⟨x11, hx11, h⟩ := bind_some h
  refine PW.iald dX11_nextToken_69 hx11 ?_
  refine PW.icmp_lt (tgt := 81) dX11_nextToken_70 (by decide) (fun c70 => ?_) (fun c70 => ?_)
  · rw [if_pos c70] at h
    refine PW.aload_n 0 dX11_nextToken_81 rfl rfl ?_
    refine PW.aload_n 0 dX11_nextToken_82 rfl rfl ?_
    obtain ⟨x12, hx12, h⟩ := bind_some h
    refine PW.getI cls_X11 (j := 14) (by decide) dX11_nextToken_83 wd_909 hx12 ?_
    obtain ⟨q13, hq13, h⟩ := bind_some h
    obtain ⟨hkq13, hcq13, hq13⟩ := vC_spec hq13
    refine PW.callVi (As := [.int x12]) (rest := []) (k := a0) cal_X11_byteAt dX11_nextToken_86 wd_1107 rfl rfl (rmLe (by omega)) (Nat.le_of_ble_eq_true rfl) rm_0 hkq13 hcq13 (mf_X11_byteAt a0 x12 hp8 _ hq13) ?_
    refine PW.i2l dX11_nextToken_89 ?_
    refine PW.ldc2 (x := 97) dX11_nextToken_90 wd_1111 ?_
    refine PW.ldc2 (x := 122) dX11_nextToken_93 wd_1112 ?_
    refine PW.callSi (As := [.long (Int32.toInt64 q13), .long 97, .long 122]) (rest := []) cal_X11_in dX11_nextToken_96 wd_986 rfl rfl (rmLe (by omega)) (Nat.le_of_ble_eq_true rfl) rm_0 (mf_X11_in (Int32.toInt64 q13) 97 122 _ rfl) ?_
    refine PW.if_eq (tgt := 187) dX11_nextToken_99 (by decide) (fun c99 => ?_) (fun c99 => ?_)
    · rw [if_pos c99] at h
      refine PW.aload_n 0 dX11_nextToken_187 rfl rfl ?_
      refine PW.aload_n 0 dX11_nextToken_188 rfl rfl ?_
      obtain ⟨x15, hx15, h⟩ := bind_some h
      refine PW.getI cls_X11 (j := 14) (by decide) dX11_nextToken_189 wd_909 hx15 ?_
      obtain ⟨q16, hq16, h⟩ := bind_some h
      obtain ⟨hkq16, hcq16, hq16⟩ := vC_spec hq16
      refine PW.callVi (As := [.int x15]) (rest := []) (k := a0) cal_X11_byteAt dX11_nextToken_192 wd_1107 rfl rfl (rmLe (by omega)) (Nat.le_of_ble_eq_true rfl) rm_0 hkq16 hcq16 (mf_X11_byteAt a0 x15 hp8 _ hq16) ?_
      refine PW.i2l dX11_nextToken_195 ?_
      refine PW.ldc2 (x := 48) dX11_nextToken_196 wd_1116 ?_
      refine PW.ldc2 (x := 57) dX11_nextToken_199 wd_1117 ?_
      refine PW.callSi (As := [.long (Int32.toInt64 q16), .long 48, .long 57]) (rest := []) cal_X11_in dX11_nextToken_202 wd_986 rfl rfl (rmLe (by omega)) (Nat.le_of_ble_eq_true rfl) rm_0 (mf_X11_in (Int32.toInt64 q16) 48 57 _ rfl) ?_
      refine PW.if_eq (tgt := 315) dX11_nextToken_205 (by decide) (fun c205 => ?_) (fun c205 => ?_)
      · rw [if_pos c205] at h
        refine PW.aload_n 0 dX11_nextToken_315 rfl rfl ?_
        refine PW.aload_n 0 dX11_nextToken_316 rfl rfl ?_
        refine PW.aload_n 0 dX11_nextToken_317 rfl rfl ?_
        obtain ⟨x18, hx18, h⟩ := bind_some h
        refine PW.getI cls_X11 (j := 14) (by decide) dX11_nextToken_318 wd_909 hx18 ?_
        obtain ⟨q19, hq19, h⟩ := bind_some h
        obtain ⟨hkq19, hcq19, hq19⟩ := vC_spec hq19
        refine PW.callVi (As := [.int x18]) (rest := [.ref (ga K a0)]) (k := a0) cal_X11_byteAt dX11_nextToken_321 wd_1107 rfl rfl (rmLe (by omega)) (Nat.le_of_ble_eq_true rfl) rm_0 hkq19 hcq19 (mf_X11_byteAt a0 x18 hp8 _ hq19) ?_
        refine PW.bipush (x := 59) dX11_nextToken_324 (by decide) ?_
        refine PW.icmp_ne (tgt := 333) dX11_nextToken_326 (by decide) (fun c326 => ?_) (fun c326 => ?_)
        · rw [if_neg c326] at h
          refine PW.iconst (x := 4) dX11_nextToken_333 (by decide) ?_
          obtain ⟨hp20, hhp20, h⟩ := bind_some h
          refine PW.putI cls_X11 clw_X11 (j := 16) (by decide) dX11_nextToken_334 wd_911 rfl rfl hhp20 ?_
          refine PW.aload_n 0 dX11_nextToken_337 rfl rfl ?_
          refine PW.dup dX11_nextToken_338 rfl ?_
          obtain ⟨x21, hx21, h⟩ := bind_some h
          refine PW.getI cls_X11 (j := 15) (by decide) dX11_nextToken_339 wd_910 hx21 ?_
          refine PW.iconst (x := 1) dX11_nextToken_342 (by decide) ?_
          refine PW.iadd dX11_nextToken_343 ?_
          obtain ⟨hp22, hhp22, h⟩ := bind_some h
          refine PW.putI cls_X11 clw_X11 (j := 15) (by decide) dX11_nextToken_344 wd_910 rfl rfl hhp22 ?_
          have h := Option.some.inj h
          subst h
          exact PW.ret dX11_nextToken_347 trivial rfl
        · rw [if_pos c326] at h
          refine PW.iconst (x := 3) dX11_nextToken_329 (by decide) ?_
          refine PW.goto (tgt := 334) dX11_nextToken_330 (by decide) ?_
          obtain ⟨hp23, hhp23, h⟩ := bind_some h
          refine PW.putI cls_X11 clw_X11 (j := 16) (by decide) dX11_nextToken_334 wd_911 rfl rfl hhp23 ?_
          refine PW.aload_n 0 dX11_nextToken_337 rfl rfl ?_
          refine PW.dup dX11_nextToken_338 rfl ?_
          obtain ⟨x24, hx24, h⟩ := bind_some h
          refine PW.getI cls_X11 (j := 15) (by decide) dX11_nextToken_339 wd_910 hx24 ?_
          refine PW.iconst (x := 1) dX11_nextToken_342 (by decide) ?_
          refine PW.iadd dX11_nextToken_343 ?_
          obtain ⟨hp25, hhp25, h⟩ := bind_some h
          refine PW.putI cls_X11 clw_X11 (j := 15) (by decide) dX11_nextToken_344 wd_910 rfl rfl hhp25 ?_
          have h := Option.some.inj h
          subst h
          exact PW.ret dX11_nextToken_347 trivial rfl
      · rw [if_neg c205] at h
        refine PW.aload_n 0 dX11_nextToken_208 rfl rfl ?_
        refine PW.iconst (x := 2) dX11_nextToken_209 (by decide) ?_
        obtain ⟨hp26, hhp26, h⟩ := bind_some h
        refine PW.putI cls_X11 clw_X11 (j := 16) (by decide) dX11_nextToken_210 wd_911 rfl rfl hhp26 ?_
        exact PW.sub (l' := [(0, .ref (ga K a0))]) [0] rfl (mf_X11_nextToken_L213 NN a0 hp26 _ h)
    · rw [if_neg c99] at h
      refine PW.aload_n 0 dX11_nextToken_102 rfl rfl ?_
      refine PW.iconst (x := 1) dX11_nextToken_103 (by decide) ?_
      obtain ⟨hp45, hhp45, h⟩ := bind_some h
      refine PW.putI cls_X11 clw_X11 (j := 16) (by decide) dX11_nextToken_104 wd_911 rfl rfl hhp45 ?_
      exact PW.sub (l' := [(0, .ref (ga K a0))]) [0] rfl (mf_X11_nextToken_L107 NN a0 hp45 _ h)
  · rw [if_neg c70] at h
    refine PW.aload_n 0 dX11_nextToken_73 rfl rfl ?_
    refine PW.iconst (x := 0) dX11_nextToken_74 (by decide) ?_
    obtain ⟨hp60, hhp60, h⟩ := bind_some h
    refine PW.putI cls_X11 clw_X11 (j := 16) (by decide) dX11_nextToken_75 wd_911 rfl rfl hhp60 ?_
    refine PW.goto (tgt := 347) dX11_nextToken_78 (by decide) ?_
    have h := Option.some.inj h
    subst h
    exact PW.ret dX11_nextToken_347 trivial rfl
set_option maxRecDepth 100000 in
set_option maxHeartbeats 4000000 in
theorem mf_X11_nextToken_L8 {K : GK} : ∀ (n : Nat) (a0 : Nat) (hp : PH) (r : PH), f_X11_nextToken_L8 n a0 hp = some r → PW K (rmD (1)) 0 0 M_X11_nextToken 8 [(0, .ref (ga K a0))] [] hp none r := by
  intro n
  induction n with
  | zero =>
    intro a0 hp r h
    rw [f_X11_nextToken_L8] at h
    cases h
  | succ n ih =>
    intro a0 hp r h
    rw [f_X11_nextToken_L8] at h
    refine PW.aload_n 0 dX11_nextToken_8 rfl rfl ?_
    obtain ⟨x3, hx3, h⟩ := bind_some h
    refine PW.getI cls_X11 (j := 14) (by decide) dX11_nextToken_9 wd_909 hx3 ?_
    refine PW.aload_n 0 dX11_nextToken_12 rfl rfl ?_
    obtain ⟨x4, hx4, h⟩ := bind_some h
    refine PW.getR cls_X11 (j := 0) (by decide) dX11_nextToken_13 wd_895 hx4 ?_
    refine PW.iconst (x := 2) dX11_nextToken_16 (by decide) ?_
    obtain ⟨x5, hx5, h⟩ := bind_some h
    refine PW.iald dX11_nextToken_17 hx5 ?_
    refine PW.icmp_ge (tgt := 47) dX11_nextToken_18 (by decide) (fun c18 => ?_) (fun c18 => ?_)
    · rw [if_pos c18] at h
      exact PW.sub (l' := [(0, .ref (ga K a0))]) [0] rfl (mf_X11_nextToken_J47 a0 hp _ h)
    · rw [if_neg c18] at h
      refine PW.aload_n 0 dX11_nextToken_21 rfl rfl ?_
      refine PW.aload_n 0 dX11_nextToken_22 rfl rfl ?_
      obtain ⟨x61, hx61, h⟩ := bind_some h
      refine PW.getI cls_X11 (j := 14) (by decide) dX11_nextToken_23 wd_909 hx61 ?_
      obtain ⟨q62, hq62, h⟩ := bind_some h
      obtain ⟨hkq62, hcq62, hq62⟩ := vC_spec hq62
      refine PW.callVi (As := [.int x61]) (rest := []) (k := a0) cal_X11_byteAt dX11_nextToken_26 wd_1107 rfl rfl (rmLe (by omega)) (Nat.le_of_ble_eq_true rfl) rm_0 hkq62 hcq62 (mf_X11_byteAt a0 x61 hp _ hq62) ?_
      refine PW.bipush (x := 32) dX11_nextToken_29 (by decide) ?_
      refine PW.icmp_ne (tgt := 47) dX11_nextToken_31 (by decide) (fun c31 => ?_) (fun c31 => ?_)
      · rw [if_neg c31] at h
        exact PW.sub (l' := [(0, .ref (ga K a0))]) [0] rfl (mf_X11_nextToken_J47 a0 hp _ h)
      · rw [if_pos c31] at h
        refine PW.aload_n 0 dX11_nextToken_34 rfl rfl ?_
        refine PW.dup dX11_nextToken_35 rfl ?_
        obtain ⟨x63, hx63, h⟩ := bind_some h
        refine PW.getI cls_X11 (j := 14) (by decide) dX11_nextToken_36 wd_909 hx63 ?_
        refine PW.iconst (x := 1) dX11_nextToken_39 (by decide) ?_
        refine PW.iadd dX11_nextToken_40 ?_
        obtain ⟨hp64, hhp64, h⟩ := bind_some h
        refine PW.putI cls_X11 clw_X11 (j := 14) (by decide) dX11_nextToken_41 wd_909 rfl rfl hhp64 ?_
        refine PW.goto (tgt := 8) dX11_nextToken_44 (by decide) ?_
        exact PW.sub (l' := [(0, .ref (ga K a0))]) [0] rfl (ih a0 hp64 _ h)
set_option maxRecDepth 100000 in
set_option maxHeartbeats 4000000 in
theorem mf_X11_nextToken {K : GK} : ∀ (a0 : Nat) (hp : PH) (r : PH), f_X11_nextToken a0 hp = some r → PM K (1) M_X11_nextToken [.ref (ga K a0)] hp none r := by
  intro a0 hp r h
  unfold f_X11_nextToken at h
  refine PM.enter (l0 := [(0, .ref (ga K a0))]) (by decide +kernel) rfl (Nat.le_of_ble_eq_true rfl) rfl ?_
  refine PW.aload_n 0 dX11_nextToken_0 rfl rfl ?_
  refine PW.aload_n 0 dX11_nextToken_1 rfl rfl ?_
  obtain ⟨x1, hx1, h⟩ := bind_some h
  refine PW.getI cls_X11 (j := 15) (by decide) dX11_nextToken_2 wd_910 hx1 ?_
  obtain ⟨hp2, hhp2, h⟩ := bind_some h
  refine PW.putI cls_X11 clw_X11 (j := 14) (by decide) dX11_nextToken_5 wd_909 rfl rfl hhp2 ?_
  exact PW.sub (l' := [(0, .ref (ga K a0))]) [0] rfl (mf_X11_nextToken_L8 NN a0 hp2 _ h)
