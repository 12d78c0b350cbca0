theorem wa_i : Cond.arrayClass .int ∈ TB := tb_of 142 (by decide +kernel) rfl
theorem wa_z : Cond.arrayClass .boolean ∈ TB := tb_of 196 (by decide +kernel) rfl
theorem wa_j : Cond.arrayClass .long ∈ TB := tb_of 299 (by decide +kernel) rfl
abbrev zI (n : Nat) : va_E := .inl (0, n, .inl (fun _ => 0))
abbrev zZ (n : Nat) : va_E := .inl (1, n, .inl (fun _ => 0))
abbrev zJ (n : Nat) : va_E := .inl (2, n, .inr (.inl (fun _ => 0)))
section TK
variable {T L : List va_E} {k N : Nat} {o o' a : va_E}
theorem tk_start (h : T[k]? = some o) : T = T.set k o ++ [] := by
  rw [List.append_nil]
  apply List.ext_getElem?
  intro j
  rw [List.getElem?_set]
  by_cases hj : k = j
  · subst hj
    rw [if_pos rfl, h]
    simp [(List.getElem?_eq_some_iff.mp h).1]
  · rw [if_neg hj]
theorem tk_get (hk : k < T.length) : (T.set k o ++ L)[k]? = some o := by
  rw [List.getElem?_append_left (by simpa using hk), List.getElem?_set_self hk]
theorem tk_set (hk : k < T.length) : (T.set k o ++ L).set k o' = T.set k o' ++ L := by
  rw [List.set_append_left _ _ (by simpa using hk), List.set_set]
theorem tk_push : (T.set k o ++ L) ++ [a] = T.set k o ++ (L ++ [a]) := List.append_assoc _ _ _
theorem tk_app {L2 : List va_E} : (T.set k o ++ L) ++ L2 = T.set k o ++ (L ++ L2) := List.append_assoc _ _ _
theorem tk_len (hN : T.length = N) : (T.set k o ++ L).length = N + L.length := by simp [hN]
theorem tk_getR (hN : T.length = N) (i : Nat) : (T.set k o ++ L)[N + i]? = L[i]? := by
  rw [List.getElem?_append_right (by simp [hN])]; simp [hN]
theorem tk_setR (hN : T.length = N) (i : Nat) : (T.set k o ++ L).set (N + i) a = T.set k o ++ L.set i a := by
  rw [List.set_append_right _ _ (by simp [hN])]; simp [hN]
end TK
abbrev M_L_law : MK := (RL, code, 4, (some .boolean), yL_law)
abbrev M_X7_init : MK := (RX7, cX7_init, 1, none, yX7_init)
theorem cal_X7_init : CalB M_X7_init 0 := ⟨wd_92, wd_57, ⟨by decide +kernel, by decide +kernel, by decide +kernel⟩, Nat.le_of_ble_eq_true rfl⟩
abbrev M_X0_init : MK := (RX0, cX0_init, 1, none, yX0_init)
theorem cal_X0_init : CalB M_X0_init 0 := ⟨wd_147, wd_58, ⟨by decide +kernel, by decide +kernel, by decide +kernel⟩, Nat.le_of_ble_eq_true rfl⟩
abbrev M_X5_init : MK := (RX5, cX5_init, 1, none, yX5_init)
theorem cal_X5_init : CalB M_X5_init 0 := ⟨wd_163, wd_59, ⟨by decide +kernel, by decide +kernel, by decide +kernel⟩, Nat.le_of_ble_eq_true rfl⟩
abbrev M_X6_init : MK := (RX6, cX6_init, 3, none, yX6_init)
theorem cal_X6_init : CalB M_X6_init 2 := ⟨wd_221, wd_60, ⟨by decide +kernel, by decide +kernel, by decide +kernel⟩, Nat.le_of_ble_eq_true rfl⟩
abbrev M_X3_init : MK := (RX3, cX3_init, 2, none, yX3_init)
theorem cal_X3_init : CalB M_X3_init 1 := ⟨wd_246, wd_61, ⟨by decide +kernel, by decide +kernel, by decide +kernel⟩, Nat.le_of_ble_eq_true rfl⟩
abbrev M_X4_init : MK := (RX4, cX4_init, 2, none, yX4_init)
theorem cal_X4_init : CalB M_X4_init 1 := ⟨wd_262, wd_62, ⟨by decide +kernel, by decide +kernel, by decide +kernel⟩, Nat.le_of_ble_eq_true rfl⟩
abbrev M_X9_init : MK := (RX9, cX9_init, 2, none, yX9_init)
theorem cal_X9_init : CalB M_X9_init 1 := ⟨wd_290, wd_63, ⟨by decide +kernel, by decide +kernel, by decide +kernel⟩, Nat.le_of_ble_eq_true rfl⟩
abbrev M_X2_init : MK := (RX2, cX2_init, 2, none, yX2_init)
theorem cal_X2_init : CalB M_X2_init 1 := ⟨wd_304, wd_64, ⟨by decide +kernel, by decide +kernel, by decide +kernel⟩, Nat.le_of_ble_eq_true rfl⟩
abbrev M_X11_init : MK := (RX11, cX11_init, 1, none, yX11_init)
theorem cal_X11_init : CalB M_X11_init 0 := ⟨wd_893, wd_65, ⟨by decide +kernel, by decide +kernel, by decide +kernel⟩, Nat.le_of_ble_eq_true rfl⟩
abbrev M_X8_init : MK := (RX8, cX8_init, 1, none, yX8_init)
theorem cal_X8_init : CalB M_X8_init 0 := ⟨wd_86, wd_56, ⟨by decide +kernel, by decide +kernel, by decide +kernel⟩, Nat.le_of_ble_eq_true rfl⟩
abbrev M_X10_init : MK := (RX10, cX10_init, 2, none, yX10_init)
theorem cal_X10_init : CalB M_X10_init 0 := ⟨wd_78, wd_55, ⟨by decide +kernel, by decide +kernel, by decide +kernel⟩, Nat.le_of_ble_eq_true rfl⟩
theorem lt_cases2 {j : Nat} (h : j < 2) : j = 0 ∨ j = 1 := by omega
theorem lt_cases3 {j : Nat} (h : j < 3) : j = 0 ∨ j = 1 ∨ j = 2 := by omega
theorem lt_cases4 {j : Nat} (h : j < 4) : j = 0 ∨ j = 1 ∨ j = 2 ∨ j = 3 := by omega
theorem lt_cases6 {j : Nat} (h : j < 6) : j = 0 ∨ j = 1 ∨ j = 2 ∨ j = 3 ∨ j = 4 ∨ j = 5 := by omega
theorem lt_cases9 {j : Nat} (h : j < 9) : j = 0 ∨ j = 1 ∨ j = 2 ∨ j = 3 ∨ j = 4 ∨ j = 5 ∨ j = 6 ∨ j = 7 ∨ j = 8 := by omega
theorem lt_cases14 {j : Nat} (h : j < 14) : j = 0 ∨ j = 1 ∨ j = 2 ∨ j = 3 ∨ j = 4 ∨ j = 5 ∨ j = 6 ∨ j = 7 ∨ j = 8 ∨ j = 9 ∨ j = 10 ∨ j = 11 ∨ j = 12 ∨ j = 13 := by omega
theorem lt_cases27 {j : Nat} (h : j < 27) : j = 0 ∨ j = 1 ∨ j = 2 ∨ j = 3 ∨ j = 4 ∨ j = 5 ∨ j = 6 ∨ j = 7 ∨ j = 8 ∨ j = 9 ∨ j = 10 ∨ j = 11 ∨ j = 12 ∨ j = 13 ∨ j = 14 ∨ j = 15 ∨ j = 16 ∨ j = 17 ∨ j = 18 ∨ j = 19 ∨ j = 20 ∨ j = 21 ∨ j = 22 ∨ j = 23 ∨ j = 24 ∨ j = 25 ∨ j = 26 := by omega
set_option maxRecDepth 100000 in
set_option maxHeartbeats 4000000 in
theorem cR_X7_init {K : GK} {B : Nat} {T : List va_E} {k N : Nat} (hN : T.length = N) (hk : T[k]? = some (.inr (6, [.int 0, .int 0, .null, .null, .null, .null, .null, .null, .null]))) : PMA K B 1 M_X7_init [.ref (B + k)] T (T.set k (.inr (6, [.int 0, .int 0, .ref (N + 0), .ref (N + 1), .ref (N + 2), .ref (N + 3), .ref (N + 4), .ref (N + 5), .ref (N + 6)])) ++ [zI 8, zI 8, zI 8, zI 8, zI 8, zI 4, zI 4]) 7 48 := by
  have hkl : k < T.length := (List.getElem?_eq_some_iff.mp hk).1
  refine PMA.enter (l0 := [(0, .ref (B + k))]) (l' := [(0, .ref (B + k))]) (pc' := 58) (by decide +kernel) rfl rfl rfl (Nat.le_of_ble_eq_true rfl) rfl dX7_init_58 ?_
  refine SG.eqT (T2 := T.set k (.inr (6, [.int 0, .int 0, .null, .null, .null, .null, .null, .null, .null])) ++ []) (tk_start hk) ?_
  refine SG.aload_n 0 dX7_init_0 rfl rfl ?_
  refine SG.objInit dX7_init_1 wd_93 wd_80 wd_81 (Nat.le_of_ble_eq_true rfl) (Nat.le_of_ble_eq_true rfl) ?_
  refine SG.aload_n 0 dX7_init_4 rfl rfl ?_
  refine SG.bipush (x := 8) dX7_init_5 (by decide) ?_
  refine SG.newI (nn := 8) (N := N + 0) dX7_init_7 wa_i (by decide +kernel) (by decide) (tk_len hN) (Nat.le_of_ble_eq_true rfl) (Nat.le_of_ble_eq_true rfl) ?_
  refine SG.eqT (T2 := T.set k (.inr (6, [.int 0, .int 0, .null, .null, .null, .null, .null, .null, .null])) ++ [zI 8]) tk_push ?_
  refine SG.putR cls_X7 clw_X7 (j := 2) (by decide) dX7_init_9 wd_103 (Or.inr ⟨rfl, rfl, rfl⟩) rfl rfl (tk_get hkl) (Nat.le_of_ble_eq_true rfl) ?_
  refine SG.eqT (T2 := T.set k (.inr (6, [.int 0, .int 0, .ref (N + 0), .null, .null, .null, .null, .null, .null])) ++ [zI 8]) (tk_set hkl) ?_
  refine SG.aload_n 0 dX7_init_12 rfl rfl ?_
  refine SG.bipush (x := 8) dX7_init_13 (by decide) ?_
  refine SG.newI (nn := 8) (N := N + 1) dX7_init_15 wa_i (by decide +kernel) (by decide) (tk_len hN) (Nat.le_of_ble_eq_true rfl) (Nat.le_of_ble_eq_true rfl) ?_
  refine SG.eqT (T2 := T.set k (.inr (6, [.int 0, .int 0, .ref (N + 0), .null, .null, .null, .null, .null, .null])) ++ [zI 8, zI 8]) tk_push ?_
  refine SG.putR cls_X7 clw_X7 (j := 3) (by decide) dX7_init_17 wd_105 (Or.inr ⟨rfl, rfl, rfl⟩) rfl rfl (tk_get hkl) (Nat.le_of_ble_eq_true rfl) ?_
  refine SG.eqT (T2 := T.set k (.inr (6, [.int 0, .int 0, .ref (N + 0), .ref (N + 1), .null, .null, .null, .null, .null])) ++ [zI 8, zI 8]) (tk_set hkl) ?_
  refine SG.aload_n 0 dX7_init_20 rfl rfl ?_
  refine SG.bipush (x := 8) dX7_init_21 (by decide) ?_
  refine SG.newI (nn := 8) (N := N + 2) dX7_init_23 wa_i (by decide +kernel) (by decide) (tk_len hN) (Nat.le_of_ble_eq_true rfl) (Nat.le_of_ble_eq_true rfl) ?_
  refine SG.eqT (T2 := T.set k (.inr (6, [.int 0, .int 0, .ref (N + 0), .ref (N + 1), .null, .null, .null, .null, .null])) ++ [zI 8, zI 8, zI 8]) tk_push ?_
  refine SG.putR cls_X7 clw_X7 (j := 4) (by decide) dX7_init_25 wd_106 (Or.inr ⟨rfl, rfl, rfl⟩) rfl rfl (tk_get hkl) (Nat.le_of_ble_eq_true rfl) ?_
  refine SG.eqT (T2 := T.set k (.inr (6, [.int 0, .int 0, .ref (N + 0), .ref (N + 1), .ref (N + 2), .null, .null, .null, .null])) ++ [zI 8, zI 8, zI 8]) (tk_set hkl) ?_
  refine SG.aload_n 0 dX7_init_28 rfl rfl ?_
  refine SG.bipush (x := 8) dX7_init_29 (by decide) ?_
  refine SG.newI (nn := 8) (N := N + 3) dX7_init_31 wa_i (by decide +kernel) (by decide) (tk_len hN) (Nat.le_of_ble_eq_true rfl) (Nat.le_of_ble_eq_true rfl) ?_
  refine SG.eqT (T2 := T.set k (.inr (6, [.int 0, .int 0, .ref (N + 0), .ref (N + 1), .ref (N + 2), .null, .null, .null, .null])) ++ [zI 8, zI 8, zI 8, zI 8]) tk_push ?_
  refine SG.putR cls_X7 clw_X7 (j := 5) (by decide) dX7_init_33 wd_107 (Or.inr ⟨rfl, rfl, rfl⟩) rfl rfl (tk_get hkl) (Nat.le_of_ble_eq_true rfl) ?_
  refine SG.eqT (T2 := T.set k (.inr (6, [.int 0, .int 0, .ref (N + 0), .ref (N + 1), .ref (N + 2), .ref (N + 3), .null, .null, .null])) ++ [zI 8, zI 8, zI 8, zI 8]) (tk_set hkl) ?_
  refine SG.aload_n 0 dX7_init_36 rfl rfl ?_
  refine SG.bipush (x := 8) dX7_init_37 (by decide) ?_
  refine SG.newI (nn := 8) (N := N + 4) dX7_init_39 wa_i (by decide +kernel) (by decide) (tk_len hN) (Nat.le_of_ble_eq_true rfl) (Nat.le_of_ble_eq_true rfl) ?_
  refine SG.eqT (T2 := T.set k (.inr (6, [.int 0, .int 0, .ref (N + 0), .ref (N + 1), .ref (N + 2), .ref (N + 3), .null, .null, .null])) ++ [zI 8, zI 8, zI 8, zI 8, zI 8]) tk_push ?_
  refine SG.putR cls_X7 clw_X7 (j := 6) (by decide) dX7_init_41 wd_112 (Or.inr ⟨rfl, rfl, rfl⟩) rfl rfl (tk_get hkl) (Nat.le_of_ble_eq_true rfl) ?_
  refine SG.eqT (T2 := T.set k (.inr (6, [.int 0, .int 0, .ref (N + 0), .ref (N + 1), .ref (N + 2), .ref (N + 3), .ref (N + 4), .null, .null])) ++ [zI 8, zI 8, zI 8, zI 8, zI 8]) (tk_set hkl) ?_
  refine SG.aload_n 0 dX7_init_44 rfl rfl ?_
  refine SG.iconst (x := 4) dX7_init_45 (by decide) ?_
  refine SG.newI (nn := 4) (N := N + 5) dX7_init_46 wa_i (by decide +kernel) (by decide) (tk_len hN) (Nat.le_of_ble_eq_true rfl) (Nat.le_of_ble_eq_true rfl) ?_
  refine SG.eqT (T2 := T.set k (.inr (6, [.int 0, .int 0, .ref (N + 0), .ref (N + 1), .ref (N + 2), .ref (N + 3), .ref (N + 4), .null, .null])) ++ [zI 8, zI 8, zI 8, zI 8, zI 8, zI 4]) tk_push ?_
  refine SG.putR cls_X7 clw_X7 (j := 7) (by decide) dX7_init_48 wd_117 (Or.inr ⟨rfl, rfl, rfl⟩) rfl rfl (tk_get hkl) (Nat.le_of_ble_eq_true rfl) ?_
  refine SG.eqT (T2 := T.set k (.inr (6, [.int 0, .int 0, .ref (N + 0), .ref (N + 1), .ref (N + 2), .ref (N + 3), .ref (N + 4), .ref (N + 5), .null])) ++ [zI 8, zI 8, zI 8, zI 8, zI 8, zI 4]) (tk_set hkl) ?_
  refine SG.aload_n 0 dX7_init_51 rfl rfl ?_
  refine SG.iconst (x := 4) dX7_init_52 (by decide) ?_
  refine SG.newI (nn := 4) (N := N + 6) dX7_init_53 wa_i (by decide +kernel) (by decide) (tk_len hN) (Nat.le_of_ble_eq_true rfl) (Nat.le_of_ble_eq_true rfl) ?_
  refine SG.eqT (T2 := T.set k (.inr (6, [.int 0, .int 0, .ref (N + 0), .ref (N + 1), .ref (N + 2), .ref (N + 3), .ref (N + 4), .ref (N + 5), .null])) ++ [zI 8, zI 8, zI 8, zI 8, zI 8, zI 4, zI 4]) tk_push ?_
  refine SG.putR cls_X7 clw_X7 (j := 8) (by decide) dX7_init_55 wd_120 (Or.inr ⟨rfl, rfl, rfl⟩) rfl rfl (tk_get hkl) (Nat.le_of_ble_eq_true rfl) ?_
  refine SG.eqT (T2 := T.set k (.inr (6, [.int 0, .int 0, .ref (N + 0), .ref (N + 1), .ref (N + 2), .ref (N + 3), .ref (N + 4), .ref (N + 5), .ref (N + 6)])) ++ [zI 8, zI 8, zI 8, zI 8, zI 8, zI 4, zI 4]) (tk_set hkl) ?_
  exact SG.done rfl rfl rfl rfl rfl rfl
set_option maxRecDepth 100000 in
set_option maxHeartbeats 4000000 in
theorem cR_X0_init {K : GK} {B : Nat} {T : List va_E} {k N : Nat} (hN : T.length = N) (hk : T[k]? = some (.inr (0, [.int 0, .null]))) : PMA K B 1 M_X0_init [.ref (B + k)] T (T.set k (.inr (0, [.int 0, .ref (N + 0)])) ++ [zI 200]) 1 200 := by
  have hkl : k < T.length := (List.getElem?_eq_some_iff.mp hk).1
  refine PMA.enter (l0 := [(0, .ref (B + k))]) (l' := [(0, .ref (B + k))]) (pc' := 13) (by decide +kernel) rfl rfl rfl (Nat.le_of_ble_eq_true rfl) rfl dX0_init_13 ?_
  refine SG.eqT (T2 := T.set k (.inr (0, [.int 0, .null])) ++ []) (tk_start hk) ?_
  refine SG.aload_n 0 dX0_init_0 rfl rfl ?_
  refine SG.objInit dX0_init_1 wd_148 wd_80 wd_81 (Nat.le_of_ble_eq_true rfl) (Nat.le_of_ble_eq_true rfl) ?_
  refine SG.aload_n 0 dX0_init_4 rfl rfl ?_
  refine SG.sipush (x := 200) dX0_init_5 (by decide) ?_
  refine SG.newI (nn := 200) (N := N + 0) dX0_init_8 wa_i (by decide +kernel) (by decide) (tk_len hN) (Nat.le_of_ble_eq_true rfl) (Nat.le_of_ble_eq_true rfl) ?_
  refine SG.eqT (T2 := T.set k (.inr (0, [.int 0, .null])) ++ [zI 200]) tk_push ?_
  refine SG.putR cls_X0 clw_X0 (j := 1) (by decide) dX0_init_10 wd_153 (Or.inr ⟨rfl, rfl, rfl⟩) rfl rfl (tk_get hkl) (Nat.le_of_ble_eq_true rfl) ?_
  refine SG.eqT (T2 := T.set k (.inr (0, [.int 0, .ref (N + 0)])) ++ [zI 200]) (tk_set hkl) ?_
  exact SG.done rfl rfl rfl rfl rfl rfl
set_option maxRecDepth 100000 in
set_option maxHeartbeats 4000000 in
theorem cR_X5_init {K : GK} {B : Nat} {T : List va_E} {k N : Nat} (hN : T.length = N) (hk : T[k]? = some (.inr (4, [.int 0, .int 0, .int 0, .null, .null, .null]))) : PMA K B 1 M_X5_init [.ref (B + k)] T (T.set k (.inr (4, [.int 0, .int 0, .int (-1), .ref (N + 0), .ref (N + 1), .ref (N + 2)])) ++ [zI 10, zI 10, zZ 10]) 3 30 := by
  have hkl : k < T.length := (List.getElem?_eq_some_iff.mp hk).1
  refine PMA.enter (l0 := [(0, .ref (B + k))]) (l' := [(0, .ref (B + k))]) (pc' := 33) (by decide +kernel) rfl rfl rfl (Nat.le_of_ble_eq_true rfl) rfl dX5_init_33 ?_
  refine SG.eqT (T2 := T.set k (.inr (4, [.int 0, .int 0, .int 0, .null, .null, .null])) ++ []) (tk_start hk) ?_
  refine SG.aload_n 0 dX5_init_0 rfl rfl ?_
  refine SG.objInit dX5_init_1 wd_164 wd_80 wd_81 (Nat.le_of_ble_eq_true rfl) (Nat.le_of_ble_eq_true rfl) ?_
  refine SG.aload_n 0 dX5_init_4 rfl rfl ?_
  refine SG.iconst (x := (-1)) dX5_init_5 (by decide) ?_
  refine SG.putI (x := (-1)) cls_X5 clw_X5 (j := 2) (by decide) dX5_init_6 wd_172 rfl rfl (tk_get hkl) (Nat.le_of_ble_eq_true rfl) ?_
  refine SG.eqT (T2 := T.set k (.inr (4, [.int 0, .int 0, .int (-1), .null, .null, .null])) ++ []) (tk_set hkl) ?_
  refine SG.aload_n 0 dX5_init_9 rfl rfl ?_
  refine SG.bipush (x := 10) dX5_init_10 (by decide) ?_
  refine SG.newI (nn := 10) (N := N + 0) dX5_init_12 wa_i (by decide +kernel) (by decide) (tk_len hN) (Nat.le_of_ble_eq_true rfl) (Nat.le_of_ble_eq_true rfl) ?_
  refine SG.eqT (T2 := T.set k (.inr (4, [.int 0, .int 0, .int (-1), .null, .null, .null])) ++ [zI 10]) tk_push ?_
  refine SG.putR cls_X5 clw_X5 (j := 3) (by decide) dX5_init_14 wd_174 (Or.inr ⟨rfl, rfl, rfl⟩) rfl rfl (tk_get hkl) (Nat.le_of_ble_eq_true rfl) ?_
  refine SG.eqT (T2 := T.set k (.inr (4, [.int 0, .int 0, .int (-1), .ref (N + 0), .null, .null])) ++ [zI 10]) (tk_set hkl) ?_
  refine SG.aload_n 0 dX5_init_17 rfl rfl ?_
  refine SG.bipush (x := 10) dX5_init_18 (by decide) ?_
  refine SG.newI (nn := 10) (N := N + 1) dX5_init_20 wa_i (by decide +kernel) (by decide) (tk_len hN) (Nat.le_of_ble_eq_true rfl) (Nat.le_of_ble_eq_true rfl) ?_
  refine SG.eqT (T2 := T.set k (.inr (4, [.int 0, .int 0, .int (-1), .ref (N + 0), .null, .null])) ++ [zI 10, zI 10]) tk_push ?_
  refine SG.putR cls_X5 clw_X5 (j := 4) (by decide) dX5_init_22 wd_177 (Or.inr ⟨rfl, rfl, rfl⟩) rfl rfl (tk_get hkl) (Nat.le_of_ble_eq_true rfl) ?_
  refine SG.eqT (T2 := T.set k (.inr (4, [.int 0, .int 0, .int (-1), .ref (N + 0), .ref (N + 1), .null])) ++ [zI 10, zI 10]) (tk_set hkl) ?_
  refine SG.aload_n 0 dX5_init_25 rfl rfl ?_
  refine SG.bipush (x := 10) dX5_init_26 (by decide) ?_
  refine SG.newZ (nn := 10) (N := N + 2) dX5_init_28 wa_z (by decide +kernel) (by decide) (tk_len hN) (Nat.le_of_ble_eq_true rfl) (Nat.le_of_ble_eq_true rfl) ?_
  refine SG.eqT (T2 := T.set k (.inr (4, [.int 0, .int 0, .int (-1), .ref (N + 0), .ref (N + 1), .null])) ++ [zI 10, zI 10, zZ 10]) tk_push ?_
  refine SG.putR cls_X5 clw_X5 (j := 5) (by decide) dX5_init_30 wd_180 (Or.inr ⟨rfl, rfl, rfl⟩) rfl rfl (tk_get hkl) (Nat.le_of_ble_eq_true rfl) ?_
  refine SG.eqT (T2 := T.set k (.inr (4, [.int 0, .int 0, .int (-1), .ref (N + 0), .ref (N + 1), .ref (N + 2)])) ++ [zI 10, zI 10, zZ 10]) (tk_set hkl) ?_
  exact SG.done rfl rfl rfl rfl rfl rfl
set_option maxRecDepth 100000 in
set_option maxHeartbeats 4000000 in
theorem cR_X6_init {K : GK} {B : Nat} {T : List va_E} {k N : Nat} {p0 : Nat} {p1 : Nat} (hN : T.length = N) (hk : T[k]? = some (.inr (5, [.null, .null, .int 0, .int 0, .int 0, .int 0]))) : PMA K B 1 M_X6_init [.ref (B + k), .ref (B + p0), .ref (B + p1)] T (T.set k (.inr (5, [.ref p0, .ref p1, .int 0, .int 0, .int 0, .int 0])) ++ []) 0 0 := by
  have hkl : k < T.length := (List.getElem?_eq_some_iff.mp hk).1
  refine PMA.enter (l0 := [(0, .ref (B + k)), (1, .ref (B + p0)), (2, .ref (B + p1))]) (l' := [(0, .ref (B + k)), (1, .ref (B + p0)), (2, .ref (B + p1))]) (pc' := 14) (by decide +kernel) rfl rfl rfl (Nat.le_of_ble_eq_true rfl) rfl dX6_init_14 ?_
  refine SG.eqT (T2 := T.set k (.inr (5, [.null, .null, .int 0, .int 0, .int 0, .int 0])) ++ []) (tk_start hk) ?_
  refine SG.aload_n 0 dX6_init_0 rfl rfl ?_
  refine SG.objInit dX6_init_1 wd_222 wd_80 wd_81 (Nat.le_of_ble_eq_true rfl) (Nat.le_of_ble_eq_true rfl) ?_
  refine SG.aload_n 0 dX6_init_4 rfl rfl ?_
  refine SG.aload_n 1 dX6_init_5 rfl rfl ?_
  refine SG.putR cls_X6 clw_X6 (j := 0) (by decide) dX6_init_6 wd_223 (Or.inr ⟨rfl, rfl, rfl⟩) rfl rfl (tk_get hkl) (Nat.le_of_ble_eq_true rfl) ?_
  refine SG.eqT (T2 := T.set k (.inr (5, [.ref p0, .null, .int 0, .int 0, .int 0, .int 0])) ++ []) (tk_set hkl) ?_
  refine SG.aload_n 0 dX6_init_9 rfl rfl ?_
  refine SG.aload_n 2 dX6_init_10 rfl rfl ?_
  refine SG.putR cls_X6 clw_X6 (j := 1) (by decide) dX6_init_11 wd_224 (Or.inr ⟨rfl, rfl, rfl⟩) rfl rfl (tk_get hkl) (Nat.le_of_ble_eq_true rfl) ?_
  refine SG.eqT (T2 := T.set k (.inr (5, [.ref p0, .ref p1, .int 0, .int 0, .int 0, .int 0])) ++ []) (tk_set hkl) ?_
  exact SG.done rfl rfl rfl rfl rfl rfl
set_option maxRecDepth 100000 in
set_option maxHeartbeats 4000000 in
theorem cR_X3_init {K : GK} {B : Nat} {T : List va_E} {k N : Nat} {p0 : Nat} (hN : T.length = N) (hk : T[k]? = some (.inr (2, [.null, .null, .int 0]))) : PMA K B 1 M_X3_init [.ref (B + k), .ref (B + p0)] T (T.set k (.inr (2, [.ref p0, .ref (N + 0), .int 0])) ++ [zI 8]) 1 8 := by
  have hkl : k < T.length := (List.getElem?_eq_some_iff.mp hk).1
  refine PMA.enter (l0 := [(0, .ref (B + k)), (1, .ref (B + p0))]) (l' := [(0, .ref (B + k)), (1, .ref (B + p0))]) (pc' := 17) (by decide +kernel) rfl rfl rfl (Nat.le_of_ble_eq_true rfl) rfl dX3_init_17 ?_
  refine SG.eqT (T2 := T.set k (.inr (2, [.null, .null, .int 0])) ++ []) (tk_start hk) ?_
  refine SG.aload_n 0 dX3_init_0 rfl rfl ?_
  refine SG.objInit dX3_init_1 wd_247 wd_80 wd_81 (Nat.le_of_ble_eq_true rfl) (Nat.le_of_ble_eq_true rfl) ?_
  refine SG.aload_n 0 dX3_init_4 rfl rfl ?_
  refine SG.bipush (x := 8) dX3_init_5 (by decide) ?_
  refine SG.newI (nn := 8) (N := N + 0) dX3_init_7 wa_i (by decide +kernel) (by decide) (tk_len hN) (Nat.le_of_ble_eq_true rfl) (Nat.le_of_ble_eq_true rfl) ?_
  refine SG.eqT (T2 := T.set k (.inr (2, [.null, .null, .int 0])) ++ [zI 8]) tk_push ?_
  refine SG.putR cls_X3 clw_X3 (j := 1) (by decide) dX3_init_9 wd_249 (Or.inr ⟨rfl, rfl, rfl⟩) rfl rfl (tk_get hkl) (Nat.le_of_ble_eq_true rfl) ?_
  refine SG.eqT (T2 := T.set k (.inr (2, [.null, .ref (N + 0), .int 0])) ++ [zI 8]) (tk_set hkl) ?_
  refine SG.aload_n 0 dX3_init_12 rfl rfl ?_
  refine SG.aload_n 1 dX3_init_13 rfl rfl ?_
  refine SG.putR cls_X3 clw_X3 (j := 0) (by decide) dX3_init_14 wd_248 (Or.inr ⟨rfl, rfl, rfl⟩) rfl rfl (tk_get hkl) (Nat.le_of_ble_eq_true rfl) ?_
  refine SG.eqT (T2 := T.set k (.inr (2, [.ref p0, .ref (N + 0), .int 0])) ++ [zI 8]) (tk_set hkl) ?_
  exact SG.done rfl rfl rfl rfl rfl rfl
set_option maxRecDepth 100000 in
set_option maxHeartbeats 4000000 in
theorem cR_X4_init {K : GK} {B : Nat} {T : List va_E} {k N : Nat} {p0 : Nat} (hN : T.length = N) (hk : T[k]? = some (.inr (3, [.null, .null, .null, .null, .int 0, .int 0]))) : PMA K B 1 M_X4_init [.ref (B + k), .ref (B + p0)] T (T.set k (.inr (3, [.ref p0, .ref (N + 0), .ref (N + 1), .ref (N + 2), .int 0, .int 0])) ++ [zZ 256, zI 256, zI 8]) 3 520 := by
  have hkl : k < T.length := (List.getElem?_eq_some_iff.mp hk).1
  refine PMA.enter (l0 := [(0, .ref (B + k)), (1, .ref (B + p0))]) (l' := [(0, .ref (B + k)), (1, .ref (B + p0))]) (pc' := 35) (by decide +kernel) rfl rfl rfl (Nat.le_of_ble_eq_true rfl) rfl dX4_init_35 ?_
  refine SG.eqT (T2 := T.set k (.inr (3, [.null, .null, .null, .null, .int 0, .int 0])) ++ []) (tk_start hk) ?_
  refine SG.aload_n 0 dX4_init_0 rfl rfl ?_
  refine SG.objInit dX4_init_1 wd_263 wd_80 wd_81 (Nat.le_of_ble_eq_true rfl) (Nat.le_of_ble_eq_true rfl) ?_
  refine SG.aload_n 0 dX4_init_4 rfl rfl ?_
  refine SG.sipush (x := 256) dX4_init_5 (by decide) ?_
  refine SG.newZ (nn := 256) (N := N + 0) dX4_init_8 wa_z (by decide +kernel) (by decide) (tk_len hN) (Nat.le_of_ble_eq_true rfl) (Nat.le_of_ble_eq_true rfl) ?_
  refine SG.eqT (T2 := T.set k (.inr (3, [.null, .null, .null, .null, .int 0, .int 0])) ++ [zZ 256]) tk_push ?_
  refine SG.putR cls_X4 clw_X4 (j := 1) (by decide) dX4_init_10 wd_265 (Or.inr ⟨rfl, rfl, rfl⟩) rfl rfl (tk_get hkl) (Nat.le_of_ble_eq_true rfl) ?_
  refine SG.eqT (T2 := T.set k (.inr (3, [.null, .ref (N + 0), .null, .null, .int 0, .int 0])) ++ [zZ 256]) (tk_set hkl) ?_
  refine SG.aload_n 0 dX4_init_13 rfl rfl ?_
  refine SG.sipush (x := 256) dX4_init_14 (by decide) ?_
  refine SG.newI (nn := 256) (N := N + 1) dX4_init_17 wa_i (by decide +kernel) (by decide) (tk_len hN) (Nat.le_of_ble_eq_true rfl) (Nat.le_of_ble_eq_true rfl) ?_
  refine SG.eqT (T2 := T.set k (.inr (3, [.null, .ref (N + 0), .null, .null, .int 0, .int 0])) ++ [zZ 256, zI 256]) tk_push ?_
  refine SG.putR cls_X4 clw_X4 (j := 2) (by decide) dX4_init_19 wd_266 (Or.inr ⟨rfl, rfl, rfl⟩) rfl rfl (tk_get hkl) (Nat.le_of_ble_eq_true rfl) ?_
  refine SG.eqT (T2 := T.set k (.inr (3, [.null, .ref (N + 0), .ref (N + 1), .null, .int 0, .int 0])) ++ [zZ 256, zI 256]) (tk_set hkl) ?_
  refine SG.aload_n 0 dX4_init_22 rfl rfl ?_
  refine SG.bipush (x := 8) dX4_init_23 (by decide) ?_
  refine SG.newI (nn := 8) (N := N + 2) dX4_init_25 wa_i (by decide +kernel) (by decide) (tk_len hN) (Nat.le_of_ble_eq_true rfl) (Nat.le_of_ble_eq_true rfl) ?_
  refine SG.eqT (T2 := T.set k (.inr (3, [.null, .ref (N + 0), .ref (N + 1), .null, .int 0, .int 0])) ++ [zZ 256, zI 256, zI 8]) tk_push ?_
  refine SG.putR cls_X4 clw_X4 (j := 3) (by decide) dX4_init_27 wd_267 (Or.inr ⟨rfl, rfl, rfl⟩) rfl rfl (tk_get hkl) (Nat.le_of_ble_eq_true rfl) ?_
  refine SG.eqT (T2 := T.set k (.inr (3, [.null, .ref (N + 0), .ref (N + 1), .ref (N + 2), .int 0, .int 0])) ++ [zZ 256, zI 256, zI 8]) (tk_set hkl) ?_
  refine SG.aload_n 0 dX4_init_30 rfl rfl ?_
  refine SG.aload_n 1 dX4_init_31 rfl rfl ?_
  refine SG.putR cls_X4 clw_X4 (j := 0) (by decide) dX4_init_32 wd_264 (Or.inr ⟨rfl, rfl, rfl⟩) rfl rfl (tk_get hkl) (Nat.le_of_ble_eq_true rfl) ?_
  refine SG.eqT (T2 := T.set k (.inr (3, [.ref p0, .ref (N + 0), .ref (N + 1), .ref (N + 2), .int 0, .int 0])) ++ [zZ 256, zI 256, zI 8]) (tk_set hkl) ?_
  exact SG.done rfl rfl rfl rfl rfl rfl
set_option maxRecDepth 100000 in
set_option maxHeartbeats 4000000 in
theorem cR_X9_init {K : GK} {B : Nat} {T : List va_E} {k N : Nat} {p0 : Nat} (hN : T.length = N) (hk : T[k]? = some (.inr (8, [.null, .null]))) : PMA K B 1 M_X9_init [.ref (B + k), .ref (B + p0)] T (T.set k (.inr (8, [.ref p0, .ref (N + 0)])) ++ [zJ 610]) 1 610 := by
  have hkl : k < T.length := (List.getElem?_eq_some_iff.mp hk).1
  refine PMA.enter (l0 := [(0, .ref (B + k)), (1, .ref (B + p0))]) (l' := [(0, .ref (B + k)), (1, .ref (B + p0))]) (pc' := 18) (by decide +kernel) rfl rfl rfl (Nat.le_of_ble_eq_true rfl) rfl dX9_init_18 ?_
  refine SG.eqT (T2 := T.set k (.inr (8, [.null, .null])) ++ []) (tk_start hk) ?_
  refine SG.aload_n 0 dX9_init_0 rfl rfl ?_
  refine SG.objInit dX9_init_1 wd_291 wd_80 wd_81 (Nat.le_of_ble_eq_true rfl) (Nat.le_of_ble_eq_true rfl) ?_
  refine SG.aload_n 0 dX9_init_4 rfl rfl ?_
  refine SG.sipush (x := 610) dX9_init_5 (by decide) ?_
  refine SG.newJ (nn := 610) (N := N + 0) dX9_init_8 wa_j (by decide +kernel) (by decide) (tk_len hN) (Nat.le_of_ble_eq_true rfl) (Nat.le_of_ble_eq_true rfl) ?_
  refine SG.eqT (T2 := T.set k (.inr (8, [.null, .null])) ++ [zJ 610]) tk_push ?_
  refine SG.putR cls_X9 clw_X9 (j := 1) (by decide) dX9_init_10 wd_293 (Or.inr ⟨rfl, rfl, rfl⟩) rfl rfl (tk_get hkl) (Nat.le_of_ble_eq_true rfl) ?_
  refine SG.eqT (T2 := T.set k (.inr (8, [.null, .ref (N + 0)])) ++ [zJ 610]) (tk_set hkl) ?_
  refine SG.aload_n 0 dX9_init_13 rfl rfl ?_
  refine SG.aload_n 1 dX9_init_14 rfl rfl ?_
  refine SG.putR cls_X9 clw_X9 (j := 0) (by decide) dX9_init_15 wd_292 (Or.inr ⟨rfl, rfl, rfl⟩) rfl rfl (tk_get hkl) (Nat.le_of_ble_eq_true rfl) ?_
  refine SG.eqT (T2 := T.set k (.inr (8, [.ref p0, .ref (N + 0)])) ++ [zJ 610]) (tk_set hkl) ?_
  exact SG.done rfl rfl rfl rfl rfl rfl
set_option maxRecDepth 100000 in
set_option maxHeartbeats 4000000 in
theorem cR_X2_init {K : GK} {B : Nat} {T : List va_E} {k N : Nat} {p0 : Nat} (hN : T.length = N) (hk : T[k]? = some (.inr (1, [.null, .null, .null, .null, .int 0, .int 0]))) : PMA K B 1 M_X2_init [.ref (B + k), .ref (B + p0)] T (T.set k (.inr (1, [.ref p0, .ref (N + 0), .ref (N + 1), .ref (N + 2), .int 0, .int 0])) ++ [zI 5, zI 5, zI 50]) 3 60 := by
  have hkl : k < T.length := (List.getElem?_eq_some_iff.mp hk).1
  refine PMA.enter (l0 := [(0, .ref (B + k)), (1, .ref (B + p0))]) (l' := [(0, .ref (B + k)), (1, .ref (B + p0))]) (pc' := 31) (by decide +kernel) rfl rfl rfl (Nat.le_of_ble_eq_true rfl) rfl dX2_init_31 ?_
  refine SG.eqT (T2 := T.set k (.inr (1, [.null, .null, .null, .null, .int 0, .int 0])) ++ []) (tk_start hk) ?_
  refine SG.aload_n 0 dX2_init_0 rfl rfl ?_
  refine SG.objInit dX2_init_1 wd_305 wd_80 wd_81 (Nat.le_of_ble_eq_true rfl) (Nat.le_of_ble_eq_true rfl) ?_
  refine SG.aload_n 0 dX2_init_4 rfl rfl ?_
  refine SG.iconst (x := 5) dX2_init_5 (by decide) ?_
  refine SG.newI (nn := 5) (N := N + 0) dX2_init_6 wa_i (by decide +kernel) (by decide) (tk_len hN) (Nat.le_of_ble_eq_true rfl) (Nat.le_of_ble_eq_true rfl) ?_
  refine SG.eqT (T2 := T.set k (.inr (1, [.null, .null, .null, .null, .int 0, .int 0])) ++ [zI 5]) tk_push ?_
  refine SG.putR cls_X2 clw_X2 (j := 1) (by decide) dX2_init_8 wd_307 (Or.inr ⟨rfl, rfl, rfl⟩) rfl rfl (tk_get hkl) (Nat.le_of_ble_eq_true rfl) ?_
  refine SG.eqT (T2 := T.set k (.inr (1, [.null, .ref (N + 0), .null, .null, .int 0, .int 0])) ++ [zI 5]) (tk_set hkl) ?_
  refine SG.aload_n 0 dX2_init_11 rfl rfl ?_
  refine SG.iconst (x := 5) dX2_init_12 (by decide) ?_
  refine SG.newI (nn := 5) (N := N + 1) dX2_init_13 wa_i (by decide +kernel) (by decide) (tk_len hN) (Nat.le_of_ble_eq_true rfl) (Nat.le_of_ble_eq_true rfl) ?_
  refine SG.eqT (T2 := T.set k (.inr (1, [.null, .ref (N + 0), .null, .null, .int 0, .int 0])) ++ [zI 5, zI 5]) tk_push ?_
  refine SG.putR cls_X2 clw_X2 (j := 2) (by decide) dX2_init_15 wd_308 (Or.inr ⟨rfl, rfl, rfl⟩) rfl rfl (tk_get hkl) (Nat.le_of_ble_eq_true rfl) ?_
  refine SG.eqT (T2 := T.set k (.inr (1, [.null, .ref (N + 0), .ref (N + 1), .null, .int 0, .int 0])) ++ [zI 5, zI 5]) (tk_set hkl) ?_
  refine SG.aload_n 0 dX2_init_18 rfl rfl ?_
  refine SG.bipush (x := 50) dX2_init_19 (by decide) ?_
  refine SG.newI (nn := 50) (N := N + 2) dX2_init_21 wa_i (by decide +kernel) (by decide) (tk_len hN) (Nat.le_of_ble_eq_true rfl) (Nat.le_of_ble_eq_true rfl) ?_
  refine SG.eqT (T2 := T.set k (.inr (1, [.null, .ref (N + 0), .ref (N + 1), .null, .int 0, .int 0])) ++ [zI 5, zI 5, zI 50]) tk_push ?_
  refine SG.putR cls_X2 clw_X2 (j := 3) (by decide) dX2_init_23 wd_309 (Or.inr ⟨rfl, rfl, rfl⟩) rfl rfl (tk_get hkl) (Nat.le_of_ble_eq_true rfl) ?_
  refine SG.eqT (T2 := T.set k (.inr (1, [.null, .ref (N + 0), .ref (N + 1), .ref (N + 2), .int 0, .int 0])) ++ [zI 5, zI 5, zI 50]) (tk_set hkl) ?_
  refine SG.aload_n 0 dX2_init_26 rfl rfl ?_
  refine SG.aload_n 1 dX2_init_27 rfl rfl ?_
  refine SG.putR cls_X2 clw_X2 (j := 0) (by decide) dX2_init_28 wd_306 (Or.inr ⟨rfl, rfl, rfl⟩) rfl rfl (tk_get hkl) (Nat.le_of_ble_eq_true rfl) ?_
  refine SG.eqT (T2 := T.set k (.inr (1, [.ref p0, .ref (N + 0), .ref (N + 1), .ref (N + 2), .int 0, .int 0])) ++ [zI 5, zI 5, zI 50]) (tk_set hkl) ?_
  exact SG.done rfl rfl rfl rfl rfl rfl
set_option maxRecDepth 100000 in
set_option maxHeartbeats 4000000 in
theorem cR_X11_init {K : GK} {B : Nat} {T : List va_E} {k N : Nat} (hN : T.length = N) (hk : T[k]? = some (.inr (10, [.null, .null, .null, .int 0, .int 0, .long 0, .long 0, .null, .int 0, .int 0, .int 0, .null, .null, .null, .int 0, .int 0, .int 0, .long 0, .null, .null, .null, .int 0, .int 0, .null, .null, .null, .null]))) : PMA K B 1 M_X11_init [.ref (B + k)] T (T.set k (.inr (10, [.ref (N + 0), .ref (N + 1), .ref (N + 2), .int 0, .int 0, .long 0, .long 1, .ref (N + 3), .int 0, .int 0, .int 0, .ref (N + 4), .ref (N + 5), .ref (N + 6), .int 0, .int 0, .int 0, .long 0, .ref (N + 7), .ref (N + 8), .ref (N + 9), .int 0, .int 0, .ref (N + 10), .ref (N + 11), .ref (N + 12), .ref (N + 13)])) ++ [zI 277, zI 277, zI 277, zI 3, zI 8, zI 8, zI 8, zI 37, zZ 256, zI 256, zI 8, zI 8, zJ 610, zJ 610]) 14 2643 := by
  have hkl : k < T.length := (List.getElem?_eq_some_iff.mp hk).1
  refine PMA.enter (l0 := [(0, .ref (B + k))]) (l' := [(0, .ref (B + k))]) (pc' := 127) (by decide +kernel) rfl rfl rfl (Nat.le_of_ble_eq_true rfl) rfl dX11_init_127 ?_
  refine SG.eqT (T2 := T.set k (.inr (10, [.null, .null, .null, .int 0, .int 0, .long 0, .long 0, .null, .int 0, .int 0, .int 0, .null, .null, .null, .int 0, .int 0, .int 0, .long 0, .null, .null, .null, .int 0, .int 0, .null, .null, .null, .null])) ++ []) (tk_start hk) ?_
  refine SG.aload_n 0 dX11_init_0 rfl rfl ?_
  refine SG.objInit dX11_init_1 wd_894 wd_80 wd_81 (Nat.le_of_ble_eq_true rfl) (Nat.le_of_ble_eq_true rfl) ?_
  refine SG.aload_n 0 dX11_init_4 rfl rfl ?_
  refine SG.sipush (x := 277) dX11_init_5 (by decide) ?_
  refine SG.newI (nn := 277) (N := N + 0) dX11_init_8 wa_i (by decide +kernel) (by decide) (tk_len hN) (Nat.le_of_ble_eq_true rfl) (Nat.le_of_ble_eq_true rfl) ?_
  refine SG.eqT (T2 := T.set k (.inr (10, [.null, .null, .null, .int 0, .int 0, .long 0, .long 0, .null, .int 0, .int 0, .int 0, .null, .null, .null, .int 0, .int 0, .int 0, .long 0, .null, .null, .null, .int 0, .int 0, .null, .null, .null, .null])) ++ [zI 277]) tk_push ?_
  refine SG.putR cls_X11 clw_X11 (j := 0) (by decide) dX11_init_10 wd_895 (Or.inr ⟨rfl, rfl, rfl⟩) rfl rfl (tk_get hkl) (Nat.le_of_ble_eq_true rfl) ?_
  refine SG.eqT (T2 := T.set k (.inr (10, [.ref (N + 0), .null, .null, .int 0, .int 0, .long 0, .long 0, .null, .int 0, .int 0, .int 0, .null, .null, .null, .int 0, .int 0, .int 0, .long 0, .null, .null, .null, .int 0, .int 0, .null, .null, .null, .null])) ++ [zI 277]) (tk_set hkl) ?_
  refine SG.aload_n 0 dX11_init_13 rfl rfl ?_
  refine SG.sipush (x := 277) dX11_init_14 (by decide) ?_
  refine SG.newI (nn := 277) (N := N + 1) dX11_init_17 wa_i (by decide +kernel) (by decide) (tk_len hN) (Nat.le_of_ble_eq_true rfl) (Nat.le_of_ble_eq_true rfl) ?_
  refine SG.eqT (T2 := T.set k (.inr (10, [.ref (N + 0), .null, .null, .int 0, .int 0, .long 0, .long 0, .null, .int 0, .int 0, .int 0, .null, .null, .null, .int 0, .int 0, .int 0, .long 0, .null, .null, .null, .int 0, .int 0, .null, .null, .null, .null])) ++ [zI 277, zI 277]) tk_push ?_
  refine SG.putR cls_X11 clw_X11 (j := 1) (by decide) dX11_init_19 wd_896 (Or.inr ⟨rfl, rfl, rfl⟩) rfl rfl (tk_get hkl) (Nat.le_of_ble_eq_true rfl) ?_
  refine SG.eqT (T2 := T.set k (.inr (10, [.ref (N + 0), .ref (N + 1), .null, .int 0, .int 0, .long 0, .long 0, .null, .int 0, .int 0, .int 0, .null, .null, .null, .int 0, .int 0, .int 0, .long 0, .null, .null, .null, .int 0, .int 0, .null, .null, .null, .null])) ++ [zI 277, zI 277]) (tk_set hkl) ?_
  refine SG.aload_n 0 dX11_init_22 rfl rfl ?_
  refine SG.sipush (x := 277) dX11_init_23 (by decide) ?_
  refine SG.newI (nn := 277) (N := N + 2) dX11_init_26 wa_i (by decide +kernel) (by decide) (tk_len hN) (Nat.le_of_ble_eq_true rfl) (Nat.le_of_ble_eq_true rfl) ?_
  refine SG.eqT (T2 := T.set k (.inr (10, [.ref (N + 0), .ref (N + 1), .null, .int 0, .int 0, .long 0, .long 0, .null, .int 0, .int 0, .int 0, .null, .null, .null, .int 0, .int 0, .int 0, .long 0, .null, .null, .null, .int 0, .int 0, .null, .null, .null, .null])) ++ [zI 277, zI 277, zI 277]) tk_push ?_
  refine SG.putR cls_X11 clw_X11 (j := 2) (by decide) dX11_init_28 wd_897 (Or.inr ⟨rfl, rfl, rfl⟩) rfl rfl (tk_get hkl) (Nat.le_of_ble_eq_true rfl) ?_
  refine SG.eqT (T2 := T.set k (.inr (10, [.ref (N + 0), .ref (N + 1), .ref (N + 2), .int 0, .int 0, .long 0, .long 0, .null, .int 0, .int 0, .int 0, .null, .null, .null, .int 0, .int 0, .int 0, .long 0, .null, .null, .null, .int 0, .int 0, .null, .null, .null, .null])) ++ [zI 277, zI 277, zI 277]) (tk_set hkl) ?_
  refine SG.aload_n 0 dX11_init_31 rfl rfl ?_
  refine SG.lconst (x := 1) dX11_init_32 (by decide) ?_
  refine SG.putJ (x := 1) cls_X11 clw_X11 (j := 6) (by decide) dX11_init_33 wd_901 rfl rfl (tk_get hkl) (Nat.le_of_ble_eq_true rfl) ?_
  refine SG.eqT (T2 := T.set k (.inr (10, [.ref (N + 0), .ref (N + 1), .ref (N + 2), .int 0, .int 0, .long 0, .long 1, .null, .int 0, .int 0, .int 0, .null, .null, .null, .int 0, .int 0, .int 0, .long 0, .null, .null, .null, .int 0, .int 0, .null, .null, .null, .null])) ++ [zI 277, zI 277, zI 277]) (tk_set hkl) ?_
  refine SG.aload_n 0 dX11_init_36 rfl rfl ?_
  refine SG.iconst (x := 3) dX11_init_37 (by decide) ?_
  refine SG.newI (nn := 3) (N := N + 3) dX11_init_38 wa_i (by decide +kernel) (by decide) (tk_len hN) (Nat.le_of_ble_eq_true rfl) (Nat.le_of_ble_eq_true rfl) ?_
  refine SG.eqT (T2 := T.set k (.inr (10, [.ref (N + 0), .ref (N + 1), .ref (N + 2), .int 0, .int 0, .long 0, .long 1, .null, .int 0, .int 0, .int 0, .null, .null, .null, .int 0, .int 0, .int 0, .long 0, .null, .null, .null, .int 0, .int 0, .null, .null, .null, .null])) ++ [zI 277, zI 277, zI 277, zI 3]) tk_push ?_
  refine SG.putR cls_X11 clw_X11 (j := 7) (by decide) dX11_init_40 wd_902 (Or.inr ⟨rfl, rfl, rfl⟩) rfl rfl (tk_get hkl) (Nat.le_of_ble_eq_true rfl) ?_
  refine SG.eqT (T2 := T.set k (.inr (10, [.ref (N + 0), .ref (N + 1), .ref (N + 2), .int 0, .int 0, .long 0, .long 1, .ref (N + 3), .int 0, .int 0, .int 0, .null, .null, .null, .int 0, .int 0, .int 0, .long 0, .null, .null, .null, .int 0, .int 0, .null, .null, .null, .null])) ++ [zI 277, zI 277, zI 277, zI 3]) (tk_set hkl) ?_
  refine SG.aload_n 0 dX11_init_43 rfl rfl ?_
  refine SG.bipush (x := 8) dX11_init_44 (by decide) ?_
  refine SG.newI (nn := 8) (N := N + 4) dX11_init_46 wa_i (by decide +kernel) (by decide) (tk_len hN) (Nat.le_of_ble_eq_true rfl) (Nat.le_of_ble_eq_true rfl) ?_
  refine SG.eqT (T2 := T.set k (.inr (10, [.ref (N + 0), .ref (N + 1), .ref (N + 2), .int 0, .int 0, .long 0, .long 1, .ref (N + 3), .int 0, .int 0, .int 0, .null, .null, .null, .int 0, .int 0, .int 0, .long 0, .null, .null, .null, .int 0, .int 0, .null, .null, .null, .null])) ++ [zI 277, zI 277, zI 277, zI 3, zI 8]) tk_push ?_
  refine SG.putR cls_X11 clw_X11 (j := 11) (by decide) dX11_init_48 wd_906 (Or.inr ⟨rfl, rfl, rfl⟩) rfl rfl (tk_get hkl) (Nat.le_of_ble_eq_true rfl) ?_
  refine SG.eqT (T2 := T.set k (.inr (10, [.ref (N + 0), .ref (N + 1), .ref (N + 2), .int 0, .int 0, .long 0, .long 1, .ref (N + 3), .int 0, .int 0, .int 0, .ref (N + 4), .null, .null, .int 0, .int 0, .int 0, .long 0, .null, .null, .null, .int 0, .int 0, .null, .null, .null, .null])) ++ [zI 277, zI 277, zI 277, zI 3, zI 8]) (tk_set hkl) ?_
  refine SG.aload_n 0 dX11_init_51 rfl rfl ?_
  refine SG.bipush (x := 8) dX11_init_52 (by decide) ?_
  refine SG.newI (nn := 8) (N := N + 5) dX11_init_54 wa_i (by decide +kernel) (by decide) (tk_len hN) (Nat.le_of_ble_eq_true rfl) (Nat.le_of_ble_eq_true rfl) ?_
  refine SG.eqT (T2 := T.set k (.inr (10, [.ref (N + 0), .ref (N + 1), .ref (N + 2), .int 0, .int 0, .long 0, .long 1, .ref (N + 3), .int 0, .int 0, .int 0, .ref (N + 4), .null, .null, .int 0, .int 0, .int 0, .long 0, .null, .null, .null, .int 0, .int 0, .null, .null, .null, .null])) ++ [zI 277, zI 277, zI 277, zI 3, zI 8, zI 8]) tk_push ?_
  refine SG.putR cls_X11 clw_X11 (j := 12) (by decide) dX11_init_56 wd_907 (Or.inr ⟨rfl, rfl, rfl⟩) rfl rfl (tk_get hkl) (Nat.le_of_ble_eq_true rfl) ?_
  refine SG.eqT (T2 := T.set k (.inr (10, [.ref (N + 0), .ref (N + 1), .ref (N + 2), .int 0, .int 0, .long 0, .long 1, .ref (N + 3), .int 0, .int 0, .int 0, .ref (N + 4), .ref (N + 5), .null, .int 0, .int 0, .int 0, .long 0, .null, .null, .null, .int 0, .int 0, .null, .null, .null, .null])) ++ [zI 277, zI 277, zI 277, zI 3, zI 8, zI 8]) (tk_set hkl) ?_
  refine SG.aload_n 0 dX11_init_59 rfl rfl ?_
  refine SG.bipush (x := 8) dX11_init_60 (by decide) ?_
  refine SG.newI (nn := 8) (N := N + 6) dX11_init_62 wa_i (by decide +kernel) (by decide) (tk_len hN) (Nat.le_of_ble_eq_true rfl) (Nat.le_of_ble_eq_true rfl) ?_
  refine SG.eqT (T2 := T.set k (.inr (10, [.ref (N + 0), .ref (N + 1), .ref (N + 2), .int 0, .int 0, .long 0, .long 1, .ref (N + 3), .int 0, .int 0, .int 0, .ref (N + 4), .ref (N + 5), .null, .int 0, .int 0, .int 0, .long 0, .null, .null, .null, .int 0, .int 0, .null, .null, .null, .null])) ++ [zI 277, zI 277, zI 277, zI 3, zI 8, zI 8, zI 8]) tk_push ?_
  refine SG.putR cls_X11 clw_X11 (j := 13) (by decide) dX11_init_64 wd_908 (Or.inr ⟨rfl, rfl, rfl⟩) rfl rfl (tk_get hkl) (Nat.le_of_ble_eq_true rfl) ?_
  refine SG.eqT (T2 := T.set k (.inr (10, [.ref (N + 0), .ref (N + 1), .ref (N + 2), .int 0, .int 0, .long 0, .long 1, .ref (N + 3), .int 0, .int 0, .int 0, .ref (N + 4), .ref (N + 5), .ref (N + 6), .int 0, .int 0, .int 0, .long 0, .null, .null, .null, .int 0, .int 0, .null, .null, .null, .null])) ++ [zI 277, zI 277, zI 277, zI 3, zI 8, zI 8, zI 8]) (tk_set hkl) ?_
  refine SG.aload_n 0 dX11_init_67 rfl rfl ?_
  refine SG.bipush (x := 37) dX11_init_68 (by decide) ?_
  refine SG.newI (nn := 37) (N := N + 7) dX11_init_70 wa_i (by decide +kernel) (by decide) (tk_len hN) (Nat.le_of_ble_eq_true rfl) (Nat.le_of_ble_eq_true rfl) ?_
  refine SG.eqT (T2 := T.set k (.inr (10, [.ref (N + 0), .ref (N + 1), .ref (N + 2), .int 0, .int 0, .long 0, .long 1, .ref (N + 3), .int 0, .int 0, .int 0, .ref (N + 4), .ref (N + 5), .ref (N + 6), .int 0, .int 0, .int 0, .long 0, .null, .null, .null, .int 0, .int 0, .null, .null, .null, .null])) ++ [zI 277, zI 277, zI 277, zI 3, zI 8, zI 8, zI 8, zI 37]) tk_push ?_
  refine SG.putR cls_X11 clw_X11 (j := 18) (by decide) dX11_init_72 wd_913 (Or.inr ⟨rfl, rfl, rfl⟩) rfl rfl (tk_get hkl) (Nat.le_of_ble_eq_true rfl) ?_
  refine SG.eqT (T2 := T.set k (.inr (10, [.ref (N + 0), .ref (N + 1), .ref (N + 2), .int 0, .int 0, .long 0, .long 1, .ref (N + 3), .int 0, .int 0, .int 0, .ref (N + 4), .ref (N + 5), .ref (N + 6), .int 0, .int 0, .int 0, .long 0, .ref (N + 7), .null, .null, .int 0, .int 0, .null, .null, .null, .null])) ++ [zI 277, zI 277, zI 277, zI 3, zI 8, zI 8, zI 8, zI 37]) (tk_set hkl) ?_
  refine SG.aload_n 0 dX11_init_75 rfl rfl ?_
  refine SG.sipush (x := 256) dX11_init_76 (by decide) ?_
  refine SG.newZ (nn := 256) (N := N + 8) dX11_init_79 wa_z (by decide +kernel) (by decide) (tk_len hN) (Nat.le_of_ble_eq_true rfl) (Nat.le_of_ble_eq_true rfl) ?_
  refine SG.eqT (T2 := T.set k (.inr (10, [.ref (N + 0), .ref (N + 1), .ref (N + 2), .int 0, .int 0, .long 0, .long 1, .ref (N + 3), .int 0, .int 0, .int 0, .ref (N + 4), .ref (N + 5), .ref (N + 6), .int 0, .int 0, .int 0, .long 0, .ref (N + 7), .null, .null, .int 0, .int 0, .null, .null, .null, .null])) ++ [zI 277, zI 277, zI 277, zI 3, zI 8, zI 8, zI 8, zI 37, zZ 256]) tk_push ?_
  refine SG.putR cls_X11 clw_X11 (j := 19) (by decide) dX11_init_81 wd_914 (Or.inr ⟨rfl, rfl, rfl⟩) rfl rfl (tk_get hkl) (Nat.le_of_ble_eq_true rfl) ?_
  refine SG.eqT (T2 := T.set k (.inr (10, [.ref (N + 0), .ref (N + 1), .ref (N + 2), .int 0, .int 0, .long 0, .long 1, .ref (N + 3), .int 0, .int 0, .int 0, .ref (N + 4), .ref (N + 5), .ref (N + 6), .int 0, .int 0, .int 0, .long 0, .ref (N + 7), .ref (N + 8), .null, .int 0, .int 0, .null, .null, .null, .null])) ++ [zI 277, zI 277, zI 277, zI 3, zI 8, zI 8, zI 8, zI 37, zZ 256]) (tk_set hkl) ?_
  refine SG.aload_n 0 dX11_init_84 rfl rfl ?_
  refine SG.sipush (x := 256) dX11_init_85 (by decide) ?_
  refine SG.newI (nn := 256) (N := N + 9) dX11_init_88 wa_i (by decide +kernel) (by decide) (tk_len hN) (Nat.le_of_ble_eq_true rfl) (Nat.le_of_ble_eq_true rfl) ?_
  refine SG.eqT (T2 := T.set k (.inr (10, [.ref (N + 0), .ref (N + 1), .ref (N + 2), .int 0, .int 0, .long 0, .long 1, .ref (N + 3), .int 0, .int 0, .int 0, .ref (N + 4), .ref (N + 5), .ref (N + 6), .int 0, .int 0, .int 0, .long 0, .ref (N + 7), .ref (N + 8), .null, .int 0, .int 0, .null, .null, .null, .null])) ++ [zI 277, zI 277, zI 277, zI 3, zI 8, zI 8, zI 8, zI 37, zZ 256, zI 256]) tk_push ?_
  refine SG.putR cls_X11 clw_X11 (j := 20) (by decide) dX11_init_90 wd_915 (Or.inr ⟨rfl, rfl, rfl⟩) rfl rfl (tk_get hkl) (Nat.le_of_ble_eq_true rfl) ?_
  refine SG.eqT (T2 := T.set k (.inr (10, [.ref (N + 0), .ref (N + 1), .ref (N + 2), .int 0, .int 0, .long 0, .long 1, .ref (N + 3), .int 0, .int 0, .int 0, .ref (N + 4), .ref (N + 5), .ref (N + 6), .int 0, .int 0, .int 0, .long 0, .ref (N + 7), .ref (N + 8), .ref (N + 9), .int 0, .int 0, .null, .null, .null, .null])) ++ [zI 277, zI 277, zI 277, zI 3, zI 8, zI 8, zI 8, zI 37, zZ 256, zI 256]) (tk_set hkl) ?_
  refine SG.aload_n 0 dX11_init_93 rfl rfl ?_
  refine SG.bipush (x := 8) dX11_init_94 (by decide) ?_
  refine SG.newI (nn := 8) (N := N + 10) dX11_init_96 wa_i (by decide +kernel) (by decide) (tk_len hN) (Nat.le_of_ble_eq_true rfl) (Nat.le_of_ble_eq_true rfl) ?_
  refine SG.eqT (T2 := T.set k (.inr (10, [.ref (N + 0), .ref (N + 1), .ref (N + 2), .int 0, .int 0, .long 0, .long 1, .ref (N + 3), .int 0, .int 0, .int 0, .ref (N + 4), .ref (N + 5), .ref (N + 6), .int 0, .int 0, .int 0, .long 0, .ref (N + 7), .ref (N + 8), .ref (N + 9), .int 0, .int 0, .null, .null, .null, .null])) ++ [zI 277, zI 277, zI 277, zI 3, zI 8, zI 8, zI 8, zI 37, zZ 256, zI 256, zI 8]) tk_push ?_
  refine SG.putR cls_X11 clw_X11 (j := 23) (by decide) dX11_init_98 wd_918 (Or.inr ⟨rfl, rfl, rfl⟩) rfl rfl (tk_get hkl) (Nat.le_of_ble_eq_true rfl) ?_
  refine SG.eqT (T2 := T.set k (.inr (10, [.ref (N + 0), .ref (N + 1), .ref (N + 2), .int 0, .int 0, .long 0, .long 1, .ref (N + 3), .int 0, .int 0, .int 0, .ref (N + 4), .ref (N + 5), .ref (N + 6), .int 0, .int 0, .int 0, .long 0, .ref (N + 7), .ref (N + 8), .ref (N + 9), .int 0, .int 0, .ref (N + 10), .null, .null, .null])) ++ [zI 277, zI 277, zI 277, zI 3, zI 8, zI 8, zI 8, zI 37, zZ 256, zI 256, zI 8]) (tk_set hkl) ?_
  refine SG.aload_n 0 dX11_init_101 rfl rfl ?_
  refine SG.bipush (x := 8) dX11_init_102 (by decide) ?_
  refine SG.newI (nn := 8) (N := N + 11) dX11_init_104 wa_i (by decide +kernel) (by decide) (tk_len hN) (Nat.le_of_ble_eq_true rfl) (Nat.le_of_ble_eq_true rfl) ?_
  refine SG.eqT (T2 := T.set k (.inr (10, [.ref (N + 0), .ref (N + 1), .ref (N + 2), .int 0, .int 0, .long 0, .long 1, .ref (N + 3), .int 0, .int 0, .int 0, .ref (N + 4), .ref (N + 5), .ref (N + 6), .int 0, .int 0, .int 0, .long 0, .ref (N + 7), .ref (N + 8), .ref (N + 9), .int 0, .int 0, .ref (N + 10), .null, .null, .null])) ++ [zI 277, zI 277, zI 277, zI 3, zI 8, zI 8, zI 8, zI 37, zZ 256, zI 256, zI 8, zI 8]) tk_push ?_
  refine SG.putR cls_X11 clw_X11 (j := 24) (by decide) dX11_init_106 wd_919 (Or.inr ⟨rfl, rfl, rfl⟩) rfl rfl (tk_get hkl) (Nat.le_of_ble_eq_true rfl) ?_
  refine SG.eqT (T2 := T.set k (.inr (10, [.ref (N + 0), .ref (N + 1), .ref (N + 2), .int 0, .int 0, .long 0, .long 1, .ref (N + 3), .int 0, .int 0, .int 0, .ref (N + 4), .ref (N + 5), .ref (N + 6), .int 0, .int 0, .int 0, .long 0, .ref (N + 7), .ref (N + 8), .ref (N + 9), .int 0, .int 0, .ref (N + 10), .ref (N + 11), .null, .null])) ++ [zI 277, zI 277, zI 277, zI 3, zI 8, zI 8, zI 8, zI 37, zZ 256, zI 256, zI 8, zI 8]) (tk_set hkl) ?_
  refine SG.aload_n 0 dX11_init_109 rfl rfl ?_
  refine SG.sipush (x := 610) dX11_init_110 (by decide) ?_
  refine SG.newJ (nn := 610) (N := N + 12) dX11_init_113 wa_j (by decide +kernel) (by decide) (tk_len hN) (Nat.le_of_ble_eq_true rfl) (Nat.le_of_ble_eq_true rfl) ?_
  refine SG.eqT (T2 := T.set k (.inr (10, [.ref (N + 0), .ref (N + 1), .ref (N + 2), .int 0, .int 0, .long 0, .long 1, .ref (N + 3), .int 0, .int 0, .int 0, .ref (N + 4), .ref (N + 5), .ref (N + 6), .int 0, .int 0, .int 0, .long 0, .ref (N + 7), .ref (N + 8), .ref (N + 9), .int 0, .int 0, .ref (N + 10), .ref (N + 11), .null, .null])) ++ [zI 277, zI 277, zI 277, zI 3, zI 8, zI 8, zI 8, zI 37, zZ 256, zI 256, zI 8, zI 8, zJ 610]) tk_push ?_
  refine SG.putR cls_X11 clw_X11 (j := 25) (by decide) dX11_init_115 wd_920 (Or.inr ⟨rfl, rfl, rfl⟩) rfl rfl (tk_get hkl) (Nat.le_of_ble_eq_true rfl) ?_
  refine SG.eqT (T2 := T.set k (.inr (10, [.ref (N + 0), .ref (N + 1), .ref (N + 2), .int 0, .int 0, .long 0, .long 1, .ref (N + 3), .int 0, .int 0, .int 0, .ref (N + 4), .ref (N + 5), .ref (N + 6), .int 0, .int 0, .int 0, .long 0, .ref (N + 7), .ref (N + 8), .ref (N + 9), .int 0, .int 0, .ref (N + 10), .ref (N + 11), .ref (N + 12), .null])) ++ [zI 277, zI 277, zI 277, zI 3, zI 8, zI 8, zI 8, zI 37, zZ 256, zI 256, zI 8, zI 8, zJ 610]) (tk_set hkl) ?_
  refine SG.aload_n 0 dX11_init_118 rfl rfl ?_
  refine SG.sipush (x := 610) dX11_init_119 (by decide) ?_
  refine SG.newJ (nn := 610) (N := N + 13) dX11_init_122 wa_j (by decide +kernel) (by decide) (tk_len hN) (Nat.le_of_ble_eq_true rfl) (Nat.le_of_ble_eq_true rfl) ?_
  refine SG.eqT (T2 := T.set k (.inr (10, [.ref (N + 0), .ref (N + 1), .ref (N + 2), .int 0, .int 0, .long 0, .long 1, .ref (N + 3), .int 0, .int 0, .int 0, .ref (N + 4), .ref (N + 5), .ref (N + 6), .int 0, .int 0, .int 0, .long 0, .ref (N + 7), .ref (N + 8), .ref (N + 9), .int 0, .int 0, .ref (N + 10), .ref (N + 11), .ref (N + 12), .null])) ++ [zI 277, zI 277, zI 277, zI 3, zI 8, zI 8, zI 8, zI 37, zZ 256, zI 256, zI 8, zI 8, zJ 610, zJ 610]) tk_push ?_
  refine SG.putR cls_X11 clw_X11 (j := 26) (by decide) dX11_init_124 wd_921 (Or.inr ⟨rfl, rfl, rfl⟩) rfl rfl (tk_get hkl) (Nat.le_of_ble_eq_true rfl) ?_
  refine SG.eqT (T2 := T.set k (.inr (10, [.ref (N + 0), .ref (N + 1), .ref (N + 2), .int 0, .int 0, .long 0, .long 1, .ref (N + 3), .int 0, .int 0, .int 0, .ref (N + 4), .ref (N + 5), .ref (N + 6), .int 0, .int 0, .int 0, .long 0, .ref (N + 7), .ref (N + 8), .ref (N + 9), .int 0, .int 0, .ref (N + 10), .ref (N + 11), .ref (N + 12), .ref (N + 13)])) ++ [zI 277, zI 277, zI 277, zI 3, zI 8, zI 8, zI 8, zI 37, zZ 256, zI 256, zI 8, zI 8, zJ 610, zJ 610]) (tk_set hkl) ?_
  exact SG.done rfl rfl rfl rfl rfl rfl
set_option maxRecDepth 100000 in
set_option maxHeartbeats 4000000 in
theorem cR_X8_init {K : GK} {B : Nat} {T : List va_E} {k N : Nat} (hN : T.length = N) (hk : T[k]? = some (.inr (7, [.null, .null, .null, .null]))) : PMA K B 2 M_X8_init [.ref (B + k)] T (T.set k (.inr (7, [.ref (N + 0), .ref (N + 8), .ref (N + 10), .ref (N + 11)])) ++ [.inr (6, [.int 0, .int 0, .ref (N + 1), .ref (N + 2), .ref (N + 3), .ref (N + 4), .ref (N + 5), .ref (N + 6), .ref (N + 7)]), zI 8, zI 8, zI 8, zI 8, zI 8, zI 4, zI 4, .inr (0, [.int 0, .ref (N + 9)]), zI 200, zI 10, .inr (4, [.int 0, .int 0, .int (-1), .ref (N + 12), .ref (N + 13), .ref (N + 14)]), zI 10, zI 10, zZ 10]) 15 305 := by
  have hkl : k < T.length := (List.getElem?_eq_some_iff.mp hk).1
  refine PMA.enter (l0 := [(0, .ref (B + k))]) (l' := [(0, .ref (B + k))]) (pc' := 45) (by decide +kernel) rfl rfl rfl (Nat.le_of_ble_eq_true rfl) rfl dX8_init_45 ?_
  refine SG.eqT (T2 := T.set k (.inr (7, [.null, .null, .null, .null])) ++ []) (tk_start hk) ?_
  refine SG.aload_n 0 dX8_init_0 rfl rfl ?_
  refine SG.objInit dX8_init_1 wd_87 wd_80 wd_81 (Nat.le_of_ble_eq_true rfl) (Nat.le_of_ble_eq_true rfl) ?_
  refine SG.aload_n 0 dX8_init_4 rfl rfl ?_
  refine SG.newO (N := N + 0) (fs := [.int 0, .int 0, .null, .null, .null, .null, .null, .null, .null]) cls_X7 clw_X7 dX8_init_5 wd_88 wd_89 wd_57 (by intro j hj; rcases lt_cases9 hj with rfl | rfl | rfl | rfl | rfl | rfl | rfl | rfl | rfl <;> rfl) (tk_len hN) (Nat.le_of_ble_eq_true rfl) (Nat.le_of_ble_eq_true rfl) ?_
  refine SG.eqT (T2 := T.set k (.inr (7, [.null, .null, .null, .null])) ++ [.inr (6, [.int 0, .int 0, .null, .null, .null, .null, .null, .null, .null])]) tk_push ?_
  refine SG.dup dX8_init_8 rfl ?_
  refine SG.callN (As := []) (rest := [.ref (B + (N + 0)), .ref (B + k)]) (b := B + (N + 0)) cal_X7_init wd_91 rfl rfl dX8_init_9 (List.mem_of_getElem? (i := 1) rfl) rfl rfl (rmALe (by omega)) (Nat.le_of_ble_eq_true rfl) ⟨Nat.le_of_ble_eq_true rfl, Nat.le_of_ble_eq_true rfl⟩ (cR_X7_init (k := N + 0) (N := N + 1) (tk_len hN) (tk_getR hN 0)) ?_
  refine SG.eqT (T2 := T.set k (.inr (7, [.null, .null, .null, .null])) ++ [.inr (6, [.int 0, .int 0, .ref (N + 1), .ref (N + 2), .ref (N + 3), .ref (N + 4), .ref (N + 5), .ref (N + 6), .ref (N + 7)]), zI 8, zI 8, zI 8, zI 8, zI 8, zI 4, zI 4]) (by rw [tk_setR hN, tk_app]; rfl) ?_
  refine SG.putR cls_X8 clw_X8 (j := 0) (by decide) dX8_init_12 wd_197 (Or.inr ⟨rfl, rfl, rfl⟩) rfl rfl (tk_get hkl) (Nat.le_of_ble_eq_true rfl) ?_
  refine SG.eqT (T2 := T.set k (.inr (7, [.ref (N + 0), .null, .null, .null])) ++ [.inr (6, [.int 0, .int 0, .ref (N + 1), .ref (N + 2), .ref (N + 3), .ref (N + 4), .ref (N + 5), .ref (N + 6), .ref (N + 7)]), zI 8, zI 8, zI 8, zI 8, zI 8, zI 4, zI 4]) (tk_set hkl) ?_
  refine SG.aload_n 0 dX8_init_15 rfl rfl ?_
  refine SG.newO (N := N + 8) (fs := [.int 0, .null]) cls_X0 clw_X0 dX8_init_16 wd_143 wd_144 wd_58 (by intro j hj; rcases lt_cases2 hj with rfl | rfl <;> rfl) (tk_len hN) (Nat.le_of_ble_eq_true rfl) (Nat.le_of_ble_eq_true rfl) ?_
  refine SG.eqT (T2 := T.set k (.inr (7, [.ref (N + 0), .null, .null, .null])) ++ [.inr (6, [.int 0, .int 0, .ref (N + 1), .ref (N + 2), .ref (N + 3), .ref (N + 4), .ref (N + 5), .ref (N + 6), .ref (N + 7)]), zI 8, zI 8, zI 8, zI 8, zI 8, zI 4, zI 4, .inr (0, [.int 0, .null])]) tk_push ?_
  refine SG.dup dX8_init_19 rfl ?_
  refine SG.callN (As := []) (rest := [.ref (B + (N + 8)), .ref (B + k)]) (b := B + (N + 8)) cal_X0_init wd_146 rfl rfl dX8_init_20 (List.mem_of_getElem? (i := 2) rfl) rfl rfl (rmALe (by omega)) (Nat.le_of_ble_eq_true rfl) ⟨Nat.le_of_ble_eq_true rfl, Nat.le_of_ble_eq_true rfl⟩ (cR_X0_init (k := N + 8) (N := N + 9) (tk_len hN) (tk_getR hN 8)) ?_
  refine SG.eqT (T2 := T.set k (.inr (7, [.ref (N + 0), .null, .null, .null])) ++ [.inr (6, [.int 0, .int 0, .ref (N + 1), .ref (N + 2), .ref (N + 3), .ref (N + 4), .ref (N + 5), .ref (N + 6), .ref (N + 7)]), zI 8, zI 8, zI 8, zI 8, zI 8, zI 4, zI 4, .inr (0, [.int 0, .ref (N + 9)]), zI 200]) (by rw [tk_setR hN, tk_app]; rfl) ?_
  refine SG.putR cls_X8 clw_X8 (j := 1) (by decide) dX8_init_23 wd_199 (Or.inr ⟨rfl, rfl, rfl⟩) rfl rfl (tk_get hkl) (Nat.le_of_ble_eq_true rfl) ?_
  refine SG.eqT (T2 := T.set k (.inr (7, [.ref (N + 0), .ref (N + 8), .null, .null])) ++ [.inr (6, [.int 0, .int 0, .ref (N + 1), .ref (N + 2), .ref (N + 3), .ref (N + 4), .ref (N + 5), .ref (N + 6), .ref (N + 7)]), zI 8, zI 8, zI 8, zI 8, zI 8, zI 4, zI 4, .inr (0, [.int 0, .ref (N + 9)]), zI 200]) (tk_set hkl) ?_
  refine SG.aload_n 0 dX8_init_26 rfl rfl ?_
  refine SG.bipush (x := 10) dX8_init_27 (by decide) ?_
  refine SG.newI (nn := 10) (N := N + 10) dX8_init_29 wa_i (by decide +kernel) (by decide) (tk_len hN) (Nat.le_of_ble_eq_true rfl) (Nat.le_of_ble_eq_true rfl) ?_
  refine SG.eqT (T2 := T.set k (.inr (7, [.ref (N + 0), .ref (N + 8), .null, .null])) ++ [.inr (6, [.int 0, .int 0, .ref (N + 1), .ref (N + 2), .ref (N + 3), .ref (N + 4), .ref (N + 5), .ref (N + 6), .ref (N + 7)]), zI 8, zI 8, zI 8, zI 8, zI 8, zI 4, zI 4, .inr (0, [.int 0, .ref (N + 9)]), zI 200, zI 10]) tk_push ?_
  refine SG.putR cls_X8 clw_X8 (j := 2) (by decide) dX8_init_31 wd_201 (Or.inr ⟨rfl, rfl, rfl⟩) rfl rfl (tk_get hkl) (Nat.le_of_ble_eq_true rfl) ?_
  refine SG.eqT (T2 := T.set k (.inr (7, [.ref (N + 0), .ref (N + 8), .ref (N + 10), .null])) ++ [.inr (6, [.int 0, .int 0, .ref (N + 1), .ref (N + 2), .ref (N + 3), .ref (N + 4), .ref (N + 5), .ref (N + 6), .ref (N + 7)]), zI 8, zI 8, zI 8, zI 8, zI 8, zI 4, zI 4, .inr (0, [.int 0, .ref (N + 9)]), zI 200, zI 10]) (tk_set hkl) ?_
  refine SG.aload_n 0 dX8_init_34 rfl rfl ?_
  refine SG.newO (N := N + 11) (fs := [.int 0, .int 0, .int 0, .null, .null, .null]) cls_X5 clw_X5 dX8_init_35 wd_159 wd_160 wd_59 (by intro j hj; rcases lt_cases6 hj with rfl | rfl | rfl | rfl | rfl | rfl <;> rfl) (tk_len hN) (Nat.le_of_ble_eq_true rfl) (Nat.le_of_ble_eq_true rfl) ?_
  refine SG.eqT (T2 := T.set k (.inr (7, [.ref (N + 0), .ref (N + 8), .ref (N + 10), .null])) ++ [.inr (6, [.int 0, .int 0, .ref (N + 1), .ref (N + 2), .ref (N + 3), .ref (N + 4), .ref (N + 5), .ref (N + 6), .ref (N + 7)]), zI 8, zI 8, zI 8, zI 8, zI 8, zI 4, zI 4, .inr (0, [.int 0, .ref (N + 9)]), zI 200, zI 10, .inr (4, [.int 0, .int 0, .int 0, .null, .null, .null])]) tk_push ?_
  refine SG.dup dX8_init_38 rfl ?_
  refine SG.callN (As := []) (rest := [.ref (B + (N + 11)), .ref (B + k)]) (b := B + (N + 11)) cal_X5_init wd_162 rfl rfl dX8_init_39 (List.mem_of_getElem? (i := 3) rfl) rfl rfl (rmALe (by omega)) (Nat.le_of_ble_eq_true rfl) ⟨Nat.le_of_ble_eq_true rfl, Nat.le_of_ble_eq_true rfl⟩ (cR_X5_init (k := N + 11) (N := N + 12) (tk_len hN) (tk_getR hN 11)) ?_
  refine SG.eqT (T2 := T.set k (.inr (7, [.ref (N + 0), .ref (N + 8), .ref (N + 10), .null])) ++ [.inr (6, [.int 0, .int 0, .ref (N + 1), .ref (N + 2), .ref (N + 3), .ref (N + 4), .ref (N + 5), .ref (N + 6), .ref (N + 7)]), zI 8, zI 8, zI 8, zI 8, zI 8, zI 4, zI 4, .inr (0, [.int 0, .ref (N + 9)]), zI 200, zI 10, .inr (4, [.int 0, .int 0, .int (-1), .ref (N + 12), .ref (N + 13), .ref (N + 14)]), zI 10, zI 10, zZ 10]) (by rw [tk_setR hN, tk_app]; rfl) ?_
  refine SG.putR cls_X8 clw_X8 (j := 3) (by decide) dX8_init_42 wd_203 (Or.inr ⟨rfl, rfl, rfl⟩) rfl rfl (tk_get hkl) (Nat.le_of_ble_eq_true rfl) ?_
  refine SG.eqT (T2 := T.set k (.inr (7, [.ref (N + 0), .ref (N + 8), .ref (N + 10), .ref (N + 11)])) ++ [.inr (6, [.int 0, .int 0, .ref (N + 1), .ref (N + 2), .ref (N + 3), .ref (N + 4), .ref (N + 5), .ref (N + 6), .ref (N + 7)]), zI 8, zI 8, zI 8, zI 8, zI 8, zI 4, zI 4, .inr (0, [.int 0, .ref (N + 9)]), zI 200, zI 10, .inr (4, [.int 0, .int 0, .int (-1), .ref (N + 12), .ref (N + 13), .ref (N + 14)]), zI 10, zI 10, zZ 10]) (tk_set hkl) ?_
  exact SG.done rfl rfl rfl rfl rfl rfl
def TX : List va_E := [.inr (9, [.ref 1, .ref 17, .ref 50, .ref 51, .ref 59, .ref 60, .ref 62, .ref 66, .ref 68, .int 0, .int 1, .int 0, .int 0, .int 0]), .inr (7, [.ref 2, .ref 10, .ref 12, .ref 13]), .inr (6, [.int 0, .int 0, .ref 3, .ref 4, .ref 5, .ref 6, .ref 7, .ref 8, .ref 9]), zI 8, zI 8, zI 8, zI 8, zI 8, zI 4, zI 4, .inr (0, [.int 0, .ref 11]), zI 200, zI 10, .inr (4, [.int 0, .int 0, .int (-1), .ref 14, .ref 15, .ref 16]), zI 10, zI 10, zZ 10, .inl (3, 2, .inr (.inr (.inr (.inr (va_up (va_up (fun _ => none) (Int32.toNatClampNeg 0) (some 18)) (Int32.toNatClampNeg 1) (some 34)))))), .inr (7, [.ref 19, .ref 27, .ref 29, .ref 30]), .inr (6, [.int 0, .int 0, .ref 20, .ref 21, .ref 22, .ref 23, .ref 24, .ref 25, .ref 26]), zI 8, zI 8, zI 8, zI 8, zI 8, zI 4, zI 4, .inr (0, [.int 0, .ref 28]), zI 200, zI 10, .inr (4, [.int 0, .int 0, .int (-1), .ref 31, .ref 32, .ref 33]), zI 10, zI 10, zZ 10, .inr (7, [.ref 35, .ref 43, .ref 45, .ref 46]), .inr (6, [.int 0, .int 0, .ref 36, .ref 37, .ref 38, .ref 39, .ref 40, .ref 41, .ref 42]), zI 8, zI 8, zI 8, zI 8, zI 8, zI 4, zI 4, .inr (0, [.int 0, .ref 44]), zI 200, zI 10, .inr (4, [.int 0, .int 0, .int (-1), .ref 47, .ref 48, .ref 49]), zI 10, zI 10, zZ 10, zZ 2, .inr (6, [.int 0, .int 0, .ref 52, .ref 53, .ref 54, .ref 55, .ref 56, .ref 57, .ref 58]), zI 8, zI 8, zI 8, zI 8, zI 8, zI 4, zI 4, .inr (5, [.ref 10, .ref 51, .int 0, .int 0, .int 0, .int 0]), .inr (2, [.ref 2, .ref 61, .int 0]), zI 8, .inr (3, [.ref 60, .ref 63, .ref 64, .ref 65, .int 0, .int 0]), zZ 256, zI 256, zI 8, .inr (8, [.ref 12, .ref 67]), zJ 610, .inr (1, [.ref 13, .ref 69, .ref 70, .ref 71, .int 0, .int 0]), zI 5, zI 5, zI 50]
set_option maxRecDepth 100000 in
set_option maxHeartbeats 40000000 in
theorem cR_X10_init {K : GK} {B : Nat} : PMA K B 3 M_X10_init [.ref (B + 0)] [.inr (9, [.null, .null, .null, .null, .null, .null, .null, .null, .null, .int 0, .int 0, .int 0, .int 0, .int 0])] TX 71 2209 := by
  refine PMA.enter (l0 := [(0, .ref (B + 0))]) (l' := [(1, .int 2), (0, .ref (B + 0))]) (pc' := 168) (by decide +kernel) rfl rfl rfl (Nat.le_of_ble_eq_true rfl) rfl dX10_init_168 ?_
  refine SG.aload_n 0 dX10_init_0 rfl rfl ?_
  refine SG.objInit dX10_init_1 wd_79 wd_80 wd_81 (Nat.le_of_ble_eq_true rfl) (Nat.le_of_ble_eq_true rfl) ?_
  refine SG.aload_n 0 dX10_init_4 rfl rfl ?_
  refine SG.newO (N := 1) (fs := [.null, .null, .null, .null]) cls_X8 clw_X8 dX10_init_5 wd_82 wd_83 wd_56 (by intro j hj; rcases lt_cases4 hj with rfl | rfl | rfl | rfl <;> rfl) rfl (Nat.le_of_ble_eq_true rfl) (Nat.le_of_ble_eq_true rfl) ?_
  refine SG.eqT (T2 := [.inr (9, [.null, .null, .null, .null, .null, .null, .null, .null, .null, .int 0, .int 0, .int 0, .int 0, .int 0]), .inr (7, [.null, .null, .null, .null])]) rfl ?_
  refine SG.dup dX10_init_8 rfl ?_
  refine SG.callN (As := []) (rest := [.ref (B + 1), .ref (B + 0)]) (b := B + 1) cal_X8_init wd_85 rfl rfl dX10_init_9 (List.mem_of_getElem? (i := 0) rfl) rfl rfl (rmALe (by omega)) (Nat.le_of_ble_eq_true rfl) ⟨Nat.le_of_ble_eq_true rfl, Nat.le_of_ble_eq_true rfl⟩ (cR_X8_init (k := 1) (N := 2) rfl rfl) ?_
  refine SG.eqT (T2 := [.inr (9, [.null, .null, .null, .null, .null, .null, .null, .null, .null, .int 0, .int 0, .int 0, .int 0, .int 0]), .inr (7, [.ref 2, .ref 10, .ref 12, .ref 13]), .inr (6, [.int 0, .int 0, .ref 3, .ref 4, .ref 5, .ref 6, .ref 7, .ref 8, .ref 9]), zI 8, zI 8, zI 8, zI 8, zI 8, zI 4, zI 4, .inr (0, [.int 0, .ref 11]), zI 200, zI 10, .inr (4, [.int 0, .int 0, .int (-1), .ref 14, .ref 15, .ref 16]), zI 10, zI 10, zZ 10]) rfl ?_
  refine SG.putR (k := 0) (x := 1) cls_X10 clw_X10 (j := 0) (by decide) dX10_init_12 wd_325 (Or.inr ⟨rfl, rfl, rfl⟩) rfl rfl rfl (Nat.le_of_ble_eq_true rfl) ?_
  refine SG.eqT (T2 := [.inr (9, [.ref 1, .null, .null, .null, .null, .null, .null, .null, .null, .int 0, .int 0, .int 0, .int 0, .int 0]), .inr (7, [.ref 2, .ref 10, .ref 12, .ref 13]), .inr (6, [.int 0, .int 0, .ref 3, .ref 4, .ref 5, .ref 6, .ref 7, .ref 8, .ref 9]), zI 8, zI 8, zI 8, zI 8, zI 8, zI 4, zI 4, .inr (0, [.int 0, .ref 11]), zI 200, zI 10, .inr (4, [.int 0, .int 0, .int (-1), .ref 14, .ref 15, .ref 16]), zI 10, zI 10, zZ 10]) rfl ?_
  refine SG.aload_n 0 dX10_init_15 rfl rfl ?_
  refine SG.iconst (x := 2) dX10_init_16 (by decide) ?_
  refine SG.newQ (nn := 2) (N := 17) dX10_init_17 wd_82 (by decide +kernel) (by decide) rfl (Nat.le_of_ble_eq_true rfl) (Nat.le_of_ble_eq_true rfl) ?_
  refine SG.eqT (T2 := [.inr (9, [.ref 1, .null, .null, .null, .null, .null, .null, .null, .null, .int 0, .int 0, .int 0, .int 0, .int 0]), .inr (7, [.ref 2, .ref 10, .ref 12, .ref 13]), .inr (6, [.int 0, .int 0, .ref 3, .ref 4, .ref 5, .ref 6, .ref 7, .ref 8, .ref 9]), zI 8, zI 8, zI 8, zI 8, zI 8, zI 4, zI 4, .inr (0, [.int 0, .ref 11]), zI 200, zI 10, .inr (4, [.int 0, .int 0, .int (-1), .ref 14, .ref 15, .ref 16]), zI 10, zI 10, zZ 10, .inl (3, 2, .inr (.inr (.inr (.inr (fun _ => none)))))]) rfl ?_
  refine SG.putR (k := 0) (x := 17) cls_X10 clw_X10 (j := 1) (by decide) dX10_init_20 wd_326 (Or.inr ⟨rfl, rfl, rfl⟩) rfl rfl rfl (Nat.le_of_ble_eq_true rfl) ?_
  refine SG.eqT (T2 := [.inr (9, [.ref 1, .ref 17, .null, .null, .null, .null, .null, .null, .null, .int 0, .int 0, .int 0, .int 0, .int 0]), .inr (7, [.ref 2, .ref 10, .ref 12, .ref 13]), .inr (6, [.int 0, .int 0, .ref 3, .ref 4, .ref 5, .ref 6, .ref 7, .ref 8, .ref 9]), zI 8, zI 8, zI 8, zI 8, zI 8, zI 4, zI 4, .inr (0, [.int 0, .ref 11]), zI 200, zI 10, .inr (4, [.int 0, .int 0, .int (-1), .ref 14, .ref 15, .ref 16]), zI 10, zI 10, zZ 10, .inl (3, 2, .inr (.inr (.inr (.inr (fun _ => none)))))]) rfl ?_
  refine SG.iconst (x := 0) dX10_init_23 (by decide) ?_
  refine SG.istore_n (l' := [(1, .int 0), (0, .ref (B + 0))]) dX10_init_24 rfl (by decide) rfl ?_
  refine SG.iload_n 0 dX10_init_25 rfl rfl ?_
  refine SG.iconst (x := 2) dX10_init_26 (by decide) ?_
  refine SG.icmp_ge (tgt := 49) dX10_init_27 (by decide) (fun c => absurd c (by decide)) (fun c => ?_)
  refine SG.aload_n 1 dX10_init_30 rfl rfl ?_
  refine SG.getR (k := 0) (x := 17) cls_X10 (j := 1) (by decide) dX10_init_31 wd_326 rfl rfl ?_
  refine SG.iload_n 0 dX10_init_34 rfl rfl ?_
  refine SG.newO (N := 18) (fs := [.null, .null, .null, .null]) cls_X8 clw_X8 dX10_init_35 wd_82 wd_83 wd_56 (by intro j hj; rcases lt_cases4 hj with rfl | rfl | rfl | rfl <;> rfl) rfl (Nat.le_of_ble_eq_true rfl) (Nat.le_of_ble_eq_true rfl) ?_
  refine SG.eqT (T2 := [.inr (9, [.ref 1, .ref 17, .null, .null, .null, .null, .null, .null, .null, .int 0, .int 0, .int 0, .int 0, .int 0]), .inr (7, [.ref 2, .ref 10, .ref 12, .ref 13]), .inr (6, [.int 0, .int 0, .ref 3, .ref 4, .ref 5, .ref 6, .ref 7, .ref 8, .ref 9]), zI 8, zI 8, zI 8, zI 8, zI 8, zI 4, zI 4, .inr (0, [.int 0, .ref 11]), zI 200, zI 10, .inr (4, [.int 0, .int 0, .int (-1), .ref 14, .ref 15, .ref 16]), zI 10, zI 10, zZ 10, .inl (3, 2, .inr (.inr (.inr (.inr (fun _ => none))))), .inr (7, [.null, .null, .null, .null])]) rfl ?_
  refine SG.dup dX10_init_38 rfl ?_
  refine SG.callN (As := []) (rest := [.ref (B + 18), .int 0, .ref (B + 17)]) (b := B + 18) cal_X8_init wd_85 rfl rfl dX10_init_39 (List.mem_of_getElem? (i := 0) rfl) rfl rfl (rmALe (by omega)) (Nat.le_of_ble_eq_true rfl) ⟨Nat.le_of_ble_eq_true rfl, Nat.le_of_ble_eq_true rfl⟩ (cR_X8_init (k := 18) (N := 19) rfl rfl) ?_
  refine SG.eqT (T2 := [.inr (9, [.ref 1, .ref 17, .null, .null, .null, .null, .null, .null, .null, .int 0, .int 0, .int 0, .int 0, .int 0]), .inr (7, [.ref 2, .ref 10, .ref 12, .ref 13]), .inr (6, [.int 0, .int 0, .ref 3, .ref 4, .ref 5, .ref 6, .ref 7, .ref 8, .ref 9]), zI 8, zI 8, zI 8, zI 8, zI 8, zI 4, zI 4, .inr (0, [.int 0, .ref 11]), zI 200, zI 10, .inr (4, [.int 0, .int 0, .int (-1), .ref 14, .ref 15, .ref 16]), zI 10, zI 10, zZ 10, .inl (3, 2, .inr (.inr (.inr (.inr (fun _ => none))))), .inr (7, [.ref 19, .ref 27, .ref 29, .ref 30]), .inr (6, [.int 0, .int 0, .ref 20, .ref 21, .ref 22, .ref 23, .ref 24, .ref 25, .ref 26]), zI 8, zI 8, zI 8, zI 8, zI 8, zI 4, zI 4, .inr (0, [.int 0, .ref 28]), zI 200, zI 10, .inr (4, [.int 0, .int 0, .int (-1), .ref 31, .ref 32, .ref 33]), zI 10, zI 10, zZ 10]) rfl ?_
  refine SG.aast (k := 17) (x := 18) dX10_init_42 rfl rfl (in_of (by decide +kernel)) ?_
  refine SG.eqT (T2 := [.inr (9, [.ref 1, .ref 17, .null, .null, .null, .null, .null, .null, .null, .int 0, .int 0, .int 0, .int 0, .int 0]), .inr (7, [.ref 2, .ref 10, .ref 12, .ref 13]), .inr (6, [.int 0, .int 0, .ref 3, .ref 4, .ref 5, .ref 6, .ref 7, .ref 8, .ref 9]), zI 8, zI 8, zI 8, zI 8, zI 8, zI 4, zI 4, .inr (0, [.int 0, .ref 11]), zI 200, zI 10, .inr (4, [.int 0, .int 0, .int (-1), .ref 14, .ref 15, .ref 16]), zI 10, zI 10, zZ 10, .inl (3, 2, .inr (.inr (.inr (.inr (va_up (fun _ => none) (Int32.toNatClampNeg 0) (some 18)))))), .inr (7, [.ref 19, .ref 27, .ref 29, .ref 30]), .inr (6, [.int 0, .int 0, .ref 20, .ref 21, .ref 22, .ref 23, .ref 24, .ref 25, .ref 26]), zI 8, zI 8, zI 8, zI 8, zI 8, zI 4, zI 4, .inr (0, [.int 0, .ref 28]), zI 200, zI 10, .inr (4, [.int 0, .int 0, .int (-1), .ref 31, .ref 32, .ref 33]), zI 10, zI 10, zZ 10]) rfl ?_
  refine SG.iinc 0 (l' := [(1, .int 1), (0, .ref (B + 0))]) (x := 0) (y := 1) dX10_init_43 rfl (by decide) (by decide) rfl ?_
  refine SG.goto (tgt := 25) dX10_init_46 (by decide) ?_
  refine SG.iload_n 0 dX10_init_25 rfl rfl ?_
  refine SG.iconst (x := 2) dX10_init_26 (by decide) ?_
  refine SG.icmp_ge (tgt := 49) dX10_init_27 (by decide) (fun c => absurd c (by decide)) (fun c => ?_)
  refine SG.aload_n 1 dX10_init_30 rfl rfl ?_
  refine SG.getR (k := 0) (x := 17) cls_X10 (j := 1) (by decide) dX10_init_31 wd_326 rfl rfl ?_
  refine SG.iload_n 0 dX10_init_34 rfl rfl ?_
  refine SG.newO (N := 34) (fs := [.null, .null, .null, .null]) cls_X8 clw_X8 dX10_init_35 wd_82 wd_83 wd_56 (by intro j hj; rcases lt_cases4 hj with rfl | rfl | rfl | rfl <;> rfl) rfl (Nat.le_of_ble_eq_true rfl) (Nat.le_of_ble_eq_true rfl) ?_
  refine SG.eqT (T2 := [.inr (9, [.ref 1, .ref 17, .null, .null, .null, .null, .null, .null, .null, .int 0, .int 0, .int 0, .int 0, .int 0]), .inr (7, [.ref 2, .ref 10, .ref 12, .ref 13]), .inr (6, [.int 0, .int 0, .ref 3, .ref 4, .ref 5, .ref 6, .ref 7, .ref 8, .ref 9]), zI 8, zI 8, zI 8, zI 8, zI 8, zI 4, zI 4, .inr (0, [.int 0, .ref 11]), zI 200, zI 10, .inr (4, [.int 0, .int 0, .int (-1), .ref 14, .ref 15, .ref 16]), zI 10, zI 10, zZ 10, .inl (3, 2, .inr (.inr (.inr (.inr (va_up (fun _ => none) (Int32.toNatClampNeg 0) (some 18)))))), .inr (7, [.ref 19, .ref 27, .ref 29, .ref 30]), .inr (6, [.int 0, .int 0, .ref 20, .ref 21, .ref 22, .ref 23, .ref 24, .ref 25, .ref 26]), zI 8, zI 8, zI 8, zI 8, zI 8, zI 4, zI 4, .inr (0, [.int 0, .ref 28]), zI 200, zI 10, .inr (4, [.int 0, .int 0, .int (-1), .ref 31, .ref 32, .ref 33]), zI 10, zI 10, zZ 10, .inr (7, [.null, .null, .null, .null])]) rfl ?_
  refine SG.dup dX10_init_38 rfl ?_
  refine SG.callN (As := []) (rest := [.ref (B + 34), .int 1, .ref (B + 17)]) (b := B + 34) cal_X8_init wd_85 rfl rfl dX10_init_39 (List.mem_of_getElem? (i := 0) rfl) rfl rfl (rmALe (by omega)) (Nat.le_of_ble_eq_true rfl) ⟨Nat.le_of_ble_eq_true rfl, Nat.le_of_ble_eq_true rfl⟩ (cR_X8_init (k := 34) (N := 35) rfl rfl) ?_
  refine SG.eqT (T2 := [.inr (9, [.ref 1, .ref 17, .null, .null, .null, .null, .null, .null, .null, .int 0, .int 0, .int 0, .int 0, .int 0]), .inr (7, [.ref 2, .ref 10, .ref 12, .ref 13]), .inr (6, [.int 0, .int 0, .ref 3, .ref 4, .ref 5, .ref 6, .ref 7, .ref 8, .ref 9]), zI 8, zI 8, zI 8, zI 8, zI 8, zI 4, zI 4, .inr (0, [.int 0, .ref 11]), zI 200, zI 10, .inr (4, [.int 0, .int 0, .int (-1), .ref 14, .ref 15, .ref 16]), zI 10, zI 10, zZ 10, .inl (3, 2, .inr (.inr (.inr (.inr (va_up (fun _ => none) (Int32.toNatClampNeg 0) (some 18)))))), .inr (7, [.ref 19, .ref 27, .ref 29, .ref 30]), .inr (6, [.int 0, .int 0, .ref 20, .ref 21, .ref 22, .ref 23, .ref 24, .ref 25, .ref 26]), zI 8, zI 8, zI 8, zI 8, zI 8, zI 4, zI 4, .inr (0, [.int 0, .ref 28]), zI 200, zI 10, .inr (4, [.int 0, .int 0, .int (-1), .ref 31, .ref 32, .ref 33]), zI 10, zI 10, zZ 10, .inr (7, [.ref 35, .ref 43, .ref 45, .ref 46]), .inr (6, [.int 0, .int 0, .ref 36, .ref 37, .ref 38, .ref 39, .ref 40, .ref 41, .ref 42]), zI 8, zI 8, zI 8, zI 8, zI 8, zI 4, zI 4, .inr (0, [.int 0, .ref 44]), zI 200, zI 10, .inr (4, [.int 0, .int 0, .int (-1), .ref 47, .ref 48, .ref 49]), zI 10, zI 10, zZ 10]) rfl ?_
  refine SG.aast (k := 17) (x := 34) dX10_init_42 rfl rfl (in_of (by decide +kernel)) ?_
  refine SG.eqT (T2 := [.inr (9, [.ref 1, .ref 17, .null, .null, .null, .null, .null, .null, .null, .int 0, .int 0, .int 0, .int 0, .int 0]), .inr (7, [.ref 2, .ref 10, .ref 12, .ref 13]), .inr (6, [.int 0, .int 0, .ref 3, .ref 4, .ref 5, .ref 6, .ref 7, .ref 8, .ref 9]), zI 8, zI 8, zI 8, zI 8, zI 8, zI 4, zI 4, .inr (0, [.int 0, .ref 11]), zI 200, zI 10, .inr (4, [.int 0, .int 0, .int (-1), .ref 14, .ref 15, .ref 16]), zI 10, zI 10, zZ 10, .inl (3, 2, .inr (.inr (.inr (.inr (va_up (va_up (fun _ => none) (Int32.toNatClampNeg 0) (some 18)) (Int32.toNatClampNeg 1) (some 34)))))), .inr (7, [.ref 19, .ref 27, .ref 29, .ref 30]), .inr (6, [.int 0, .int 0, .ref 20, .ref 21, .ref 22, .ref 23, .ref 24, .ref 25, .ref 26]), zI 8, zI 8, zI 8, zI 8, zI 8, zI 4, zI 4, .inr (0, [.int 0, .ref 28]), zI 200, zI 10, .inr (4, [.int 0, .int 0, .int (-1), .ref 31, .ref 32, .ref 33]), zI 10, zI 10, zZ 10, .inr (7, [.ref 35, .ref 43, .ref 45, .ref 46]), .inr (6, [.int 0, .int 0, .ref 36, .ref 37, .ref 38, .ref 39, .ref 40, .ref 41, .ref 42]), zI 8, zI 8, zI 8, zI 8, zI 8, zI 4, zI 4, .inr (0, [.int 0, .ref 44]), zI 200, zI 10, .inr (4, [.int 0, .int 0, .int (-1), .ref 47, .ref 48, .ref 49]), zI 10, zI 10, zZ 10]) rfl ?_
  refine SG.iinc 0 (l' := [(1, .int 2), (0, .ref (B + 0))]) (x := 1) (y := 2) dX10_init_43 rfl (by decide) (by decide) rfl ?_
  refine SG.goto (tgt := 25) dX10_init_46 (by decide) ?_
  refine SG.iload_n 0 dX10_init_25 rfl rfl ?_
  refine SG.iconst (x := 2) dX10_init_26 (by decide) ?_
  refine SG.icmp_ge (tgt := 49) dX10_init_27 (by decide) (fun c => ?_) (fun c => absurd (by decide) c)
  refine SG.aload_n 1 dX10_init_49 rfl rfl ?_
  refine SG.iconst (x := 2) dX10_init_50 (by decide) ?_
  refine SG.newZ (nn := 2) (N := 50) dX10_init_51 wa_z (by decide +kernel) (by decide) rfl (Nat.le_of_ble_eq_true rfl) (Nat.le_of_ble_eq_true rfl) ?_
  refine SG.eqT (T2 := [.inr (9, [.ref 1, .ref 17, .null, .null, .null, .null, .null, .null, .null, .int 0, .int 0, .int 0, .int 0, .int 0]), .inr (7, [.ref 2, .ref 10, .ref 12, .ref 13]), .inr (6, [.int 0, .int 0, .ref 3, .ref 4, .ref 5, .ref 6, .ref 7, .ref 8, .ref 9]), zI 8, zI 8, zI 8, zI 8, zI 8, zI 4, zI 4, .inr (0, [.int 0, .ref 11]), zI 200, zI 10, .inr (4, [.int 0, .int 0, .int (-1), .ref 14, .ref 15, .ref 16]), zI 10, zI 10, zZ 10, .inl (3, 2, .inr (.inr (.inr (.inr (va_up (va_up (fun _ => none) (Int32.toNatClampNeg 0) (some 18)) (Int32.toNatClampNeg 1) (some 34)))))), .inr (7, [.ref 19, .ref 27, .ref 29, .ref 30]), .inr (6, [.int 0, .int 0, .ref 20, .ref 21, .ref 22, .ref 23, .ref 24, .ref 25, .ref 26]), zI 8, zI 8, zI 8, zI 8, zI 8, zI 4, zI 4, .inr (0, [.int 0, .ref 28]), zI 200, zI 10, .inr (4, [.int 0, .int 0, .int (-1), .ref 31, .ref 32, .ref 33]), zI 10, zI 10, zZ 10, .inr (7, [.ref 35, .ref 43, .ref 45, .ref 46]), .inr (6, [.int 0, .int 0, .ref 36, .ref 37, .ref 38, .ref 39, .ref 40, .ref 41, .ref 42]), zI 8, zI 8, zI 8, zI 8, zI 8, zI 4, zI 4, .inr (0, [.int 0, .ref 44]), zI 200, zI 10, .inr (4, [.int 0, .int 0, .int (-1), .ref 47, .ref 48, .ref 49]), zI 10, zI 10, zZ 10, zZ 2]) rfl ?_
  refine SG.putR (k := 0) (x := 50) cls_X10 clw_X10 (j := 2) (by decide) dX10_init_53 wd_327 (Or.inr ⟨rfl, rfl, rfl⟩) rfl rfl rfl (Nat.le_of_ble_eq_true rfl) ?_
  refine SG.eqT (T2 := [.inr (9, [.ref 1, .ref 17, .ref 50, .null, .null, .null, .null, .null, .null, .int 0, .int 0, .int 0, .int 0, .int 0]), .inr (7, [.ref 2, .ref 10, .ref 12, .ref 13]), .inr (6, [.int 0, .int 0, .ref 3, .ref 4, .ref 5, .ref 6, .ref 7, .ref 8, .ref 9]), zI 8, zI 8, zI 8, zI 8, zI 8, zI 4, zI 4, .inr (0, [.int 0, .ref 11]), zI 200, zI 10, .inr (4, [.int 0, .int 0, .int (-1), .ref 14, .ref 15, .ref 16]), zI 10, zI 10, zZ 10, .inl (3, 2, .inr (.inr (.inr (.inr (va_up (va_up (fun _ => none) (Int32.toNatClampNeg 0) (some 18)) (Int32.toNatClampNeg 1) (some 34)))))), .inr (7, [.ref 19, .ref 27, .ref 29, .ref 30]), .inr (6, [.int 0, .int 0, .ref 20, .ref 21, .ref 22, .ref 23, .ref 24, .ref 25, .ref 26]), zI 8, zI 8, zI 8, zI 8, zI 8, zI 4, zI 4, .inr (0, [.int 0, .ref 28]), zI 200, zI 10, .inr (4, [.int 0, .int 0, .int (-1), .ref 31, .ref 32, .ref 33]), zI 10, zI 10, zZ 10, .inr (7, [.ref 35, .ref 43, .ref 45, .ref 46]), .inr (6, [.int 0, .int 0, .ref 36, .ref 37, .ref 38, .ref 39, .ref 40, .ref 41, .ref 42]), zI 8, zI 8, zI 8, zI 8, zI 8, zI 4, zI 4, .inr (0, [.int 0, .ref 44]), zI 200, zI 10, .inr (4, [.int 0, .int 0, .int (-1), .ref 47, .ref 48, .ref 49]), zI 10, zI 10, zZ 10, zZ 2]) rfl ?_
  refine SG.aload_n 1 dX10_init_56 rfl rfl ?_
  refine SG.newO (N := 51) (fs := [.int 0, .int 0, .null, .null, .null, .null, .null, .null, .null]) cls_X7 clw_X7 dX10_init_57 wd_215 wd_89 wd_57 (by intro j hj; rcases lt_cases9 hj with rfl | rfl | rfl | rfl | rfl | rfl | rfl | rfl | rfl <;> rfl) rfl (Nat.le_of_ble_eq_true rfl) (Nat.le_of_ble_eq_true rfl) ?_
  refine SG.eqT (T2 := [.inr (9, [.ref 1, .ref 17, .ref 50, .null, .null, .null, .null, .null, .null, .int 0, .int 0, .int 0, .int 0, .int 0]), .inr (7, [.ref 2, .ref 10, .ref 12, .ref 13]), .inr (6, [.int 0, .int 0, .ref 3, .ref 4, .ref 5, .ref 6, .ref 7, .ref 8, .ref 9]), zI 8, zI 8, zI 8, zI 8, zI 8, zI 4, zI 4, .inr (0, [.int 0, .ref 11]), zI 200, zI 10, .inr (4, [.int 0, .int 0, .int (-1), .ref 14, .ref 15, .ref 16]), zI 10, zI 10, zZ 10, .inl (3, 2, .inr (.inr (.inr (.inr (va_up (va_up (fun _ => none) (Int32.toNatClampNeg 0) (some 18)) (Int32.toNatClampNeg 1) (some 34)))))), .inr (7, [.ref 19, .ref 27, .ref 29, .ref 30]), .inr (6, [.int 0, .int 0, .ref 20, .ref 21, .ref 22, .ref 23, .ref 24, .ref 25, .ref 26]), zI 8, zI 8, zI 8, zI 8, zI 8, zI 4, zI 4, .inr (0, [.int 0, .ref 28]), zI 200, zI 10, .inr (4, [.int 0, .int 0, .int (-1), .ref 31, .ref 32, .ref 33]), zI 10, zI 10, zZ 10, .inr (7, [.ref 35, .ref 43, .ref 45, .ref 46]), .inr (6, [.int 0, .int 0, .ref 36, .ref 37, .ref 38, .ref 39, .ref 40, .ref 41, .ref 42]), zI 8, zI 8, zI 8, zI 8, zI 8, zI 4, zI 4, .inr (0, [.int 0, .ref 44]), zI 200, zI 10, .inr (4, [.int 0, .int 0, .int (-1), .ref 47, .ref 48, .ref 49]), zI 10, zI 10, zZ 10, zZ 2, .inr (6, [.int 0, .int 0, .null, .null, .null, .null, .null, .null, .null])]) rfl ?_
  refine SG.dup dX10_init_60 rfl ?_
  refine SG.callN (As := []) (rest := [.ref (B + 51), .ref (B + 0)]) (b := B + 51) cal_X7_init wd_91 rfl rfl dX10_init_61 (List.mem_of_getElem? (i := 4) rfl) rfl rfl (rmALe (by omega)) (Nat.le_of_ble_eq_true rfl) ⟨Nat.le_of_ble_eq_true rfl, Nat.le_of_ble_eq_true rfl⟩ (cR_X7_init (k := 51) (N := 52) rfl rfl) ?_
  refine SG.eqT (T2 := [.inr (9, [.ref 1, .ref 17, .ref 50, .null, .null, .null, .null, .null, .null, .int 0, .int 0, .int 0, .int 0, .int 0]), .inr (7, [.ref 2, .ref 10, .ref 12, .ref 13]), .inr (6, [.int 0, .int 0, .ref 3, .ref 4, .ref 5, .ref 6, .ref 7, .ref 8, .ref 9]), zI 8, zI 8, zI 8, zI 8, zI 8, zI 4, zI 4, .inr (0, [.int 0, .ref 11]), zI 200, zI 10, .inr (4, [.int 0, .int 0, .int (-1), .ref 14, .ref 15, .ref 16]), zI 10, zI 10, zZ 10, .inl (3, 2, .inr (.inr (.inr (.inr (va_up (va_up (fun _ => none) (Int32.toNatClampNeg 0) (some 18)) (Int32.toNatClampNeg 1) (some 34)))))), .inr (7, [.ref 19, .ref 27, .ref 29, .ref 30]), .inr (6, [.int 0, .int 0, .ref 20, .ref 21, .ref 22, .ref 23, .ref 24, .ref 25, .ref 26]), zI 8, zI 8, zI 8, zI 8, zI 8, zI 4, zI 4, .inr (0, [.int 0, .ref 28]), zI 200, zI 10, .inr (4, [.int 0, .int 0, .int (-1), .ref 31, .ref 32, .ref 33]), zI 10, zI 10, zZ 10, .inr (7, [.ref 35, .ref 43, .ref 45, .ref 46]), .inr (6, [.int 0, .int 0, .ref 36, .ref 37, .ref 38, .ref 39, .ref 40, .ref 41, .ref 42]), zI 8, zI 8, zI 8, zI 8, zI 8, zI 4, zI 4, .inr (0, [.int 0, .ref 44]), zI 200, zI 10, .inr (4, [.int 0, .int 0, .int (-1), .ref 47, .ref 48, .ref 49]), zI 10, zI 10, zZ 10, zZ 2, .inr (6, [.int 0, .int 0, .ref 52, .ref 53, .ref 54, .ref 55, .ref 56, .ref 57, .ref 58]), zI 8, zI 8, zI 8, zI 8, zI 8, zI 4, zI 4]) rfl ?_
  refine SG.putR (k := 0) (x := 51) cls_X10 clw_X10 (j := 3) (by decide) dX10_init_64 wd_328 (Or.inr ⟨rfl, rfl, rfl⟩) rfl rfl rfl (Nat.le_of_ble_eq_true rfl) ?_
  refine SG.eqT (T2 := [.inr (9, [.ref 1, .ref 17, .ref 50, .ref 51, .null, .null, .null, .null, .null, .int 0, .int 0, .int 0, .int 0, .int 0]), .inr (7, [.ref 2, .ref 10, .ref 12, .ref 13]), .inr (6, [.int 0, .int 0, .ref 3, .ref 4, .ref 5, .ref 6, .ref 7, .ref 8, .ref 9]), zI 8, zI 8, zI 8, zI 8, zI 8, zI 4, zI 4, .inr (0, [.int 0, .ref 11]), zI 200, zI 10, .inr (4, [.int 0, .int 0, .int (-1), .ref 14, .ref 15, .ref 16]), zI 10, zI 10, zZ 10, .inl (3, 2, .inr (.inr (.inr (.inr (va_up (va_up (fun _ => none) (Int32.toNatClampNeg 0) (some 18)) (Int32.toNatClampNeg 1) (some 34)))))), .inr (7, [.ref 19, .ref 27, .ref 29, .ref 30]), .inr (6, [.int 0, .int 0, .ref 20, .ref 21, .ref 22, .ref 23, .ref 24, .ref 25, .ref 26]), zI 8, zI 8, zI 8, zI 8, zI 8, zI 4, zI 4, .inr (0, [.int 0, .ref 28]), zI 200, zI 10, .inr (4, [.int 0, .int 0, .int (-1), .ref 31, .ref 32, .ref 33]), zI 10, zI 10, zZ 10, .inr (7, [.ref 35, .ref 43, .ref 45, .ref 46]), .inr (6, [.int 0, .int 0, .ref 36, .ref 37, .ref 38, .ref 39, .ref 40, .ref 41, .ref 42]), zI 8, zI 8, zI 8, zI 8, zI 8, zI 4, zI 4, .inr (0, [.int 0, .ref 44]), zI 200, zI 10, .inr (4, [.int 0, .int 0, .int (-1), .ref 47, .ref 48, .ref 49]), zI 10, zI 10, zZ 10, zZ 2, .inr (6, [.int 0, .int 0, .ref 52, .ref 53, .ref 54, .ref 55, .ref 56, .ref 57, .ref 58]), zI 8, zI 8, zI 8, zI 8, zI 8, zI 4, zI 4]) rfl ?_
  refine SG.aload_n 1 dX10_init_67 rfl rfl ?_
  refine SG.newO (N := 59) (fs := [.null, .null, .int 0, .int 0, .int 0, .int 0]) cls_X6 clw_X6 dX10_init_68 wd_217 wd_218 wd_60 (by intro j hj; rcases lt_cases6 hj with rfl | rfl | rfl | rfl | rfl | rfl <;> rfl) rfl (Nat.le_of_ble_eq_true rfl) (Nat.le_of_ble_eq_true rfl) ?_
  refine SG.eqT (T2 := [.inr (9, [.ref 1, .ref 17, .ref 50, .ref 51, .null, .null, .null, .null, .null, .int 0, .int 0, .int 0, .int 0, .int 0]), .inr (7, [.ref 2, .ref 10, .ref 12, .ref 13]), .inr (6, [.int 0, .int 0, .ref 3, .ref 4, .ref 5, .ref 6, .ref 7, .ref 8, .ref 9]), zI 8, zI 8, zI 8, zI 8, zI 8, zI 4, zI 4, .inr (0, [.int 0, .ref 11]), zI 200, zI 10, .inr (4, [.int 0, .int 0, .int (-1), .ref 14, .ref 15, .ref 16]), zI 10, zI 10, zZ 10, .inl (3, 2, .inr (.inr (.inr (.inr (va_up (va_up (fun _ => none) (Int32.toNatClampNeg 0) (some 18)) (Int32.toNatClampNeg 1) (some 34)))))), .inr (7, [.ref 19, .ref 27, .ref 29, .ref 30]), .inr (6, [.int 0, .int 0, .ref 20, .ref 21, .ref 22, .ref 23, .ref 24, .ref 25, .ref 26]), zI 8, zI 8, zI 8, zI 8, zI 8, zI 4, zI 4, .inr (0, [.int 0, .ref 28]), zI 200, zI 10, .inr (4, [.int 0, .int 0, .int (-1), .ref 31, .ref 32, .ref 33]), zI 10, zI 10, zZ 10, .inr (7, [.ref 35, .ref 43, .ref 45, .ref 46]), .inr (6, [.int 0, .int 0, .ref 36, .ref 37, .ref 38, .ref 39, .ref 40, .ref 41, .ref 42]), zI 8, zI 8, zI 8, zI 8, zI 8, zI 4, zI 4, .inr (0, [.int 0, .ref 44]), zI 200, zI 10, .inr (4, [.int 0, .int 0, .int (-1), .ref 47, .ref 48, .ref 49]), zI 10, zI 10, zZ 10, zZ 2, .inr (6, [.int 0, .int 0, .ref 52, .ref 53, .ref 54, .ref 55, .ref 56, .ref 57, .ref 58]), zI 8, zI 8, zI 8, zI 8, zI 8, zI 4, zI 4, .inr (5, [.null, .null, .int 0, .int 0, .int 0, .int 0])]) rfl ?_
  refine SG.dup dX10_init_71 rfl ?_
  refine SG.aload_n 1 dX10_init_72 rfl rfl ?_
  refine SG.getR (k := 0) (x := 1) cls_X10 (j := 0) (by decide) dX10_init_73 wd_325 rfl rfl ?_
  refine SG.getR (k := 1) (x := 10) cls_X8 (j := 1) (by decide) dX10_init_76 wd_200 rfl rfl ?_
  refine SG.aload_n 1 dX10_init_79 rfl rfl ?_
  refine SG.getR (k := 0) (x := 51) cls_X10 (j := 3) (by decide) dX10_init_80 wd_328 rfl rfl ?_
  refine SG.callI (As := [.ref (B + 10), .ref (B + 51)]) (rest := [.ref (B + 59), .ref (B + 0)]) (b := B + 59) cal_X6_init wd_220 rfl rfl dX10_init_83 wd_219 rfl rfl (rmALe (by omega)) (Nat.le_of_ble_eq_true rfl) ⟨Nat.le_of_ble_eq_true rfl, Nat.le_of_ble_eq_true rfl⟩ (cR_X6_init (k := 59) (N := 60) rfl rfl) ?_
  refine SG.eqT (T2 := [.inr (9, [.ref 1, .ref 17, .ref 50, .ref 51, .null, .null, .null, .null, .null, .int 0, .int 0, .int 0, .int 0, .int 0]), .inr (7, [.ref 2, .ref 10, .ref 12, .ref 13]), .inr (6, [.int 0, .int 0, .ref 3, .ref 4, .ref 5, .ref 6, .ref 7, .ref 8, .ref 9]), zI 8, zI 8, zI 8, zI 8, zI 8, zI 4, zI 4, .inr (0, [.int 0, .ref 11]), zI 200, zI 10, .inr (4, [.int 0, .int 0, .int (-1), .ref 14, .ref 15, .ref 16]), zI 10, zI 10, zZ 10, .inl (3, 2, .inr (.inr (.inr (.inr (va_up (va_up (fun _ => none) (Int32.toNatClampNeg 0) (some 18)) (Int32.toNatClampNeg 1) (some 34)))))), .inr (7, [.ref 19, .ref 27, .ref 29, .ref 30]), .inr (6, [.int 0, .int 0, .ref 20, .ref 21, .ref 22, .ref 23, .ref 24, .ref 25, .ref 26]), zI 8, zI 8, zI 8, zI 8, zI 8, zI 4, zI 4, .inr (0, [.int 0, .ref 28]), zI 200, zI 10, .inr (4, [.int 0, .int 0, .int (-1), .ref 31, .ref 32, .ref 33]), zI 10, zI 10, zZ 10, .inr (7, [.ref 35, .ref 43, .ref 45, .ref 46]), .inr (6, [.int 0, .int 0, .ref 36, .ref 37, .ref 38, .ref 39, .ref 40, .ref 41, .ref 42]), zI 8, zI 8, zI 8, zI 8, zI 8, zI 4, zI 4, .inr (0, [.int 0, .ref 44]), zI 200, zI 10, .inr (4, [.int 0, .int 0, .int (-1), .ref 47, .ref 48, .ref 49]), zI 10, zI 10, zZ 10, zZ 2, .inr (6, [.int 0, .int 0, .ref 52, .ref 53, .ref 54, .ref 55, .ref 56, .ref 57, .ref 58]), zI 8, zI 8, zI 8, zI 8, zI 8, zI 4, zI 4, .inr (5, [.ref 10, .ref 51, .int 0, .int 0, .int 0, .int 0])]) rfl ?_
  refine SG.putR (k := 0) (x := 59) cls_X10 clw_X10 (j := 4) (by decide) dX10_init_86 wd_329 (Or.inr ⟨rfl, rfl, rfl⟩) rfl rfl rfl (Nat.le_of_ble_eq_true rfl) ?_
  refine SG.eqT (T2 := [.inr (9, [.ref 1, .ref 17, .ref 50, .ref 51, .ref 59, .null, .null, .null, .null, .int 0, .int 0, .int 0, .int 0, .int 0]), .inr (7, [.ref 2, .ref 10, .ref 12, .ref 13]), .inr (6, [.int 0, .int 0, .ref 3, .ref 4, .ref 5, .ref 6, .ref 7, .ref 8, .ref 9]), zI 8, zI 8, zI 8, zI 8, zI 8, zI 4, zI 4, .inr (0, [.int 0, .ref 11]), zI 200, zI 10, .inr (4, [.int 0, .int 0, .int (-1), .ref 14, .ref 15, .ref 16]), zI 10, zI 10, zZ 10, .inl (3, 2, .inr (.inr (.inr (.inr (va_up (va_up (fun _ => none) (Int32.toNatClampNeg 0) (some 18)) (Int32.toNatClampNeg 1) (some 34)))))), .inr (7, [.ref 19, .ref 27, .ref 29, .ref 30]), .inr (6, [.int 0, .int 0, .ref 20, .ref 21, .ref 22, .ref 23, .ref 24, .ref 25, .ref 26]), zI 8, zI 8, zI 8, zI 8, zI 8, zI 4, zI 4, .inr (0, [.int 0, .ref 28]), zI 200, zI 10, .inr (4, [.int 0, .int 0, .int (-1), .ref 31, .ref 32, .ref 33]), zI 10, zI 10, zZ 10, .inr (7, [.ref 35, .ref 43, .ref 45, .ref 46]), .inr (6, [.int 0, .int 0, .ref 36, .ref 37, .ref 38, .ref 39, .ref 40, .ref 41, .ref 42]), zI 8, zI 8, zI 8, zI 8, zI 8, zI 4, zI 4, .inr (0, [.int 0, .ref 44]), zI 200, zI 10, .inr (4, [.int 0, .int 0, .int (-1), .ref 47, .ref 48, .ref 49]), zI 10, zI 10, zZ 10, zZ 2, .inr (6, [.int 0, .int 0, .ref 52, .ref 53, .ref 54, .ref 55, .ref 56, .ref 57, .ref 58]), zI 8, zI 8, zI 8, zI 8, zI 8, zI 4, zI 4, .inr (5, [.ref 10, .ref 51, .int 0, .int 0, .int 0, .int 0])]) rfl ?_
  refine SG.aload_n 1 dX10_init_89 rfl rfl ?_
  refine SG.newO (N := 60) (fs := [.null, .null, .int 0]) cls_X3 clw_X3 dX10_init_90 wd_242 wd_243 wd_61 (by intro j hj; rcases lt_cases3 hj with rfl | rfl | rfl <;> rfl) rfl (Nat.le_of_ble_eq_true rfl) (Nat.le_of_ble_eq_true rfl) ?_
  refine SG.eqT (T2 := [.inr (9, [.ref 1, .ref 17, .ref 50, .ref 51, .ref 59, .null, .null, .null, .null, .int 0, .int 0, .int 0, .int 0, .int 0]), .inr (7, [.ref 2, .ref 10, .ref 12, .ref 13]), .inr (6, [.int 0, .int 0, .ref 3, .ref 4, .ref 5, .ref 6, .ref 7, .ref 8, .ref 9]), zI 8, zI 8, zI 8, zI 8, zI 8, zI 4, zI 4, .inr (0, [.int 0, .ref 11]), zI 200, zI 10, .inr (4, [.int 0, .int 0, .int (-1), .ref 14, .ref 15, .ref 16]), zI 10, zI 10, zZ 10, .inl (3, 2, .inr (.inr (.inr (.inr (va_up (va_up (fun _ => none) (Int32.toNatClampNeg 0) (some 18)) (Int32.toNatClampNeg 1) (some 34)))))), .inr (7, [.ref 19, .ref 27, .ref 29, .ref 30]), .inr (6, [.int 0, .int 0, .ref 20, .ref 21, .ref 22, .ref 23, .ref 24, .ref 25, .ref 26]), zI 8, zI 8, zI 8, zI 8, zI 8, zI 4, zI 4, .inr (0, [.int 0, .ref 28]), zI 200, zI 10, .inr (4, [.int 0, .int 0, .int (-1), .ref 31, .ref 32, .ref 33]), zI 10, zI 10, zZ 10, .inr (7, [.ref 35, .ref 43, .ref 45, .ref 46]), .inr (6, [.int 0, .int 0, .ref 36, .ref 37, .ref 38, .ref 39, .ref 40, .ref 41, .ref 42]), zI 8, zI 8, zI 8, zI 8, zI 8, zI 4, zI 4, .inr (0, [.int 0, .ref 44]), zI 200, zI 10, .inr (4, [.int 0, .int 0, .int (-1), .ref 47, .ref 48, .ref 49]), zI 10, zI 10, zZ 10, zZ 2, .inr (6, [.int 0, .int 0, .ref 52, .ref 53, .ref 54, .ref 55, .ref 56, .ref 57, .ref 58]), zI 8, zI 8, zI 8, zI 8, zI 8, zI 4, zI 4, .inr (5, [.ref 10, .ref 51, .int 0, .int 0, .int 0, .int 0]), .inr (2, [.null, .null, .int 0])]) rfl ?_
  refine SG.dup dX10_init_93 rfl ?_
  refine SG.aload_n 1 dX10_init_94 rfl rfl ?_
  refine SG.getR (k := 0) (x := 1) cls_X10 (j := 0) (by decide) dX10_init_95 wd_325 rfl rfl ?_
  refine SG.getR (k := 1) (x := 2) cls_X8 (j := 0) (by decide) dX10_init_98 wd_198 rfl rfl ?_
  refine SG.callI (As := [.ref (B + 2)]) (rest := [.ref (B + 60), .ref (B + 0)]) (b := B + 60) cal_X3_init wd_245 rfl rfl dX10_init_101 wd_244 rfl rfl (rmALe (by omega)) (Nat.le_of_ble_eq_true rfl) ⟨Nat.le_of_ble_eq_true rfl, Nat.le_of_ble_eq_true rfl⟩ (cR_X3_init (k := 60) (N := 61) rfl rfl) ?_
  refine SG.eqT (T2 := [.inr (9, [.ref 1, .ref 17, .ref 50, .ref 51, .ref 59, .null, .null, .null, .null, .int 0, .int 0, .int 0, .int 0, .int 0]), .inr (7, [.ref 2, .ref 10, .ref 12, .ref 13]), .inr (6, [.int 0, .int 0, .ref 3, .ref 4, .ref 5, .ref 6, .ref 7, .ref 8, .ref 9]), zI 8, zI 8, zI 8, zI 8, zI 8, zI 4, zI 4, .inr (0, [.int 0, .ref 11]), zI 200, zI 10, .inr (4, [.int 0, .int 0, .int (-1), .ref 14, .ref 15, .ref 16]), zI 10, zI 10, zZ 10, .inl (3, 2, .inr (.inr (.inr (.inr (va_up (va_up (fun _ => none) (Int32.toNatClampNeg 0) (some 18)) (Int32.toNatClampNeg 1) (some 34)))))), .inr (7, [.ref 19, .ref 27, .ref 29, .ref 30]), .inr (6, [.int 0, .int 0, .ref 20, .ref 21, .ref 22, .ref 23, .ref 24, .ref 25, .ref 26]), zI 8, zI 8, zI 8, zI 8, zI 8, zI 4, zI 4, .inr (0, [.int 0, .ref 28]), zI 200, zI 10, .inr (4, [.int 0, .int 0, .int (-1), .ref 31, .ref 32, .ref 33]), zI 10, zI 10, zZ 10, .inr (7, [.ref 35, .ref 43, .ref 45, .ref 46]), .inr (6, [.int 0, .int 0, .ref 36, .ref 37, .ref 38, .ref 39, .ref 40, .ref 41, .ref 42]), zI 8, zI 8, zI 8, zI 8, zI 8, zI 4, zI 4, .inr (0, [.int 0, .ref 44]), zI 200, zI 10, .inr (4, [.int 0, .int 0, .int (-1), .ref 47, .ref 48, .ref 49]), zI 10, zI 10, zZ 10, zZ 2, .inr (6, [.int 0, .int 0, .ref 52, .ref 53, .ref 54, .ref 55, .ref 56, .ref 57, .ref 58]), zI 8, zI 8, zI 8, zI 8, zI 8, zI 4, zI 4, .inr (5, [.ref 10, .ref 51, .int 0, .int 0, .int 0, .int 0]), .inr (2, [.ref 2, .ref 61, .int 0]), zI 8]) rfl ?_
  refine SG.putR (k := 0) (x := 60) cls_X10 clw_X10 (j := 5) (by decide) dX10_init_104 wd_330 (Or.inr ⟨rfl, rfl, rfl⟩) rfl rfl rfl (Nat.le_of_ble_eq_true rfl) ?_
  refine SG.eqT (T2 := [.inr (9, [.ref 1, .ref 17, .ref 50, .ref 51, .ref 59, .ref 60, .null, .null, .null, .int 0, .int 0, .int 0, .int 0, .int 0]), .inr (7, [.ref 2, .ref 10, .ref 12, .ref 13]), .inr (6, [.int 0, .int 0, .ref 3, .ref 4, .ref 5, .ref 6, .ref 7, .ref 8, .ref 9]), zI 8, zI 8, zI 8, zI 8, zI 8, zI 4, zI 4, .inr (0, [.int 0, .ref 11]), zI 200, zI 10, .inr (4, [.int 0, .int 0, .int (-1), .ref 14, .ref 15, .ref 16]), zI 10, zI 10, zZ 10, .inl (3, 2, .inr (.inr (.inr (.inr (va_up (va_up (fun _ => none) (Int32.toNatClampNeg 0) (some 18)) (Int32.toNatClampNeg 1) (some 34)))))), .inr (7, [.ref 19, .ref 27, .ref 29, .ref 30]), .inr (6, [.int 0, .int 0, .ref 20, .ref 21, .ref 22, .ref 23, .ref 24, .ref 25, .ref 26]), zI 8, zI 8, zI 8, zI 8, zI 8, zI 4, zI 4, .inr (0, [.int 0, .ref 28]), zI 200, zI 10, .inr (4, [.int 0, .int 0, .int (-1), .ref 31, .ref 32, .ref 33]), zI 10, zI 10, zZ 10, .inr (7, [.ref 35, .ref 43, .ref 45, .ref 46]), .inr (6, [.int 0, .int 0, .ref 36, .ref 37, .ref 38, .ref 39, .ref 40, .ref 41, .ref 42]), zI 8, zI 8, zI 8, zI 8, zI 8, zI 4, zI 4, .inr (0, [.int 0, .ref 44]), zI 200, zI 10, .inr (4, [.int 0, .int 0, .int (-1), .ref 47, .ref 48, .ref 49]), zI 10, zI 10, zZ 10, zZ 2, .inr (6, [.int 0, .int 0, .ref 52, .ref 53, .ref 54, .ref 55, .ref 56, .ref 57, .ref 58]), zI 8, zI 8, zI 8, zI 8, zI 8, zI 4, zI 4, .inr (5, [.ref 10, .ref 51, .int 0, .int 0, .int 0, .int 0]), .inr (2, [.ref 2, .ref 61, .int 0]), zI 8]) rfl ?_
  refine SG.aload_n 1 dX10_init_107 rfl rfl ?_
  refine SG.newO (N := 62) (fs := [.null, .null, .null, .null, .int 0, .int 0]) cls_X4 clw_X4 dX10_init_108 wd_258 wd_259 wd_62 (by intro j hj; rcases lt_cases6 hj with rfl | rfl | rfl | rfl | rfl | rfl <;> rfl) rfl (Nat.le_of_ble_eq_true rfl) (Nat.le_of_ble_eq_true rfl) ?_
  refine SG.eqT (T2 := [.inr (9, [.ref 1, .ref 17, .ref 50, .ref 51, .ref 59, .ref 60, .null, .null, .null, .int 0, .int 0, .int 0, .int 0, .int 0]), .inr (7, [.ref 2, .ref 10, .ref 12, .ref 13]), .inr (6, [.int 0, .int 0, .ref 3, .ref 4, .ref 5, .ref 6, .ref 7, .ref 8, .ref 9]), zI 8, zI 8, zI 8, zI 8, zI 8, zI 4, zI 4, .inr (0, [.int 0, .ref 11]), zI 200, zI 10, .inr (4, [.int 0, .int 0, .int (-1), .ref 14, .ref 15, .ref 16]), zI 10, zI 10, zZ 10, .inl (3, 2, .inr (.inr (.inr (.inr (va_up (va_up (fun _ => none) (Int32.toNatClampNeg 0) (some 18)) (Int32.toNatClampNeg 1) (some 34)))))), .inr (7, [.ref 19, .ref 27, .ref 29, .ref 30]), .inr (6, [.int 0, .int 0, .ref 20, .ref 21, .ref 22, .ref 23, .ref 24, .ref 25, .ref 26]), zI 8, zI 8, zI 8, zI 8, zI 8, zI 4, zI 4, .inr (0, [.int 0, .ref 28]), zI 200, zI 10, .inr (4, [.int 0, .int 0, .int (-1), .ref 31, .ref 32, .ref 33]), zI 10, zI 10, zZ 10, .inr (7, [.ref 35, .ref 43, .ref 45, .ref 46]), .inr (6, [.int 0, .int 0, .ref 36, .ref 37, .ref 38, .ref 39, .ref 40, .ref 41, .ref 42]), zI 8, zI 8, zI 8, zI 8, zI 8, zI 4, zI 4, .inr (0, [.int 0, .ref 44]), zI 200, zI 10, .inr (4, [.int 0, .int 0, .int (-1), .ref 47, .ref 48, .ref 49]), zI 10, zI 10, zZ 10, zZ 2, .inr (6, [.int 0, .int 0, .ref 52, .ref 53, .ref 54, .ref 55, .ref 56, .ref 57, .ref 58]), zI 8, zI 8, zI 8, zI 8, zI 8, zI 4, zI 4, .inr (5, [.ref 10, .ref 51, .int 0, .int 0, .int 0, .int 0]), .inr (2, [.ref 2, .ref 61, .int 0]), zI 8, .inr (3, [.null, .null, .null, .null, .int 0, .int 0])]) rfl ?_
  refine SG.dup dX10_init_111 rfl ?_
  refine SG.aload_n 1 dX10_init_112 rfl rfl ?_
  refine SG.getR (k := 0) (x := 60) cls_X10 (j := 5) (by decide) dX10_init_113 wd_330 rfl rfl ?_
  refine SG.callI (As := [.ref (B + 60)]) (rest := [.ref (B + 62), .ref (B + 0)]) (b := B + 62) cal_X4_init wd_261 rfl rfl dX10_init_116 wd_260 rfl rfl (rmALe (by omega)) (Nat.le_of_ble_eq_true rfl) ⟨Nat.le_of_ble_eq_true rfl, Nat.le_of_ble_eq_true rfl⟩ (cR_X4_init (k := 62) (N := 63) rfl rfl) ?_
  refine SG.eqT (T2 := [.inr (9, [.ref 1, .ref 17, .ref 50, .ref 51, .ref 59, .ref 60, .null, .null, .null, .int 0, .int 0, .int 0, .int 0, .int 0]), .inr (7, [.ref 2, .ref 10, .ref 12, .ref 13]), .inr (6, [.int 0, .int 0, .ref 3, .ref 4, .ref 5, .ref 6, .ref 7, .ref 8, .ref 9]), zI 8, zI 8, zI 8, zI 8, zI 8, zI 4, zI 4, .inr (0, [.int 0, .ref 11]), zI 200, zI 10, .inr (4, [.int 0, .int 0, .int (-1), .ref 14, .ref 15, .ref 16]), zI 10, zI 10, zZ 10, .inl (3, 2, .inr (.inr (.inr (.inr (va_up (va_up (fun _ => none) (Int32.toNatClampNeg 0) (some 18)) (Int32.toNatClampNeg 1) (some 34)))))), .inr (7, [.ref 19, .ref 27, .ref 29, .ref 30]), .inr (6, [.int 0, .int 0, .ref 20, .ref 21, .ref 22, .ref 23, .ref 24, .ref 25, .ref 26]), zI 8, zI 8, zI 8, zI 8, zI 8, zI 4, zI 4, .inr (0, [.int 0, .ref 28]), zI 200, zI 10, .inr (4, [.int 0, .int 0, .int (-1), .ref 31, .ref 32, .ref 33]), zI 10, zI 10, zZ 10, .inr (7, [.ref 35, .ref 43, .ref 45, .ref 46]), .inr (6, [.int 0, .int 0, .ref 36, .ref 37, .ref 38, .ref 39, .ref 40, .ref 41, .ref 42]), zI 8, zI 8, zI 8, zI 8, zI 8, zI 4, zI 4, .inr (0, [.int 0, .ref 44]), zI 200, zI 10, .inr (4, [.int 0, .int 0, .int (-1), .ref 47, .ref 48, .ref 49]), zI 10, zI 10, zZ 10, zZ 2, .inr (6, [.int 0, .int 0, .ref 52, .ref 53, .ref 54, .ref 55, .ref 56, .ref 57, .ref 58]), zI 8, zI 8, zI 8, zI 8, zI 8, zI 4, zI 4, .inr (5, [.ref 10, .ref 51, .int 0, .int 0, .int 0, .int 0]), .inr (2, [.ref 2, .ref 61, .int 0]), zI 8, .inr (3, [.ref 60, .ref 63, .ref 64, .ref 65, .int 0, .int 0]), zZ 256, zI 256, zI 8]) rfl ?_
  refine SG.putR (k := 0) (x := 62) cls_X10 clw_X10 (j := 6) (by decide) dX10_init_119 wd_331 (Or.inr ⟨rfl, rfl, rfl⟩) rfl rfl rfl (Nat.le_of_ble_eq_true rfl) ?_
  refine SG.eqT (T2 := [.inr (9, [.ref 1, .ref 17, .ref 50, .ref 51, .ref 59, .ref 60, .ref 62, .null, .null, .int 0, .int 0, .int 0, .int 0, .int 0]), .inr (7, [.ref 2, .ref 10, .ref 12, .ref 13]), .inr (6, [.int 0, .int 0, .ref 3, .ref 4, .ref 5, .ref 6, .ref 7, .ref 8, .ref 9]), zI 8, zI 8, zI 8, zI 8, zI 8, zI 4, zI 4, .inr (0, [.int 0, .ref 11]), zI 200, zI 10, .inr (4, [.int 0, .int 0, .int (-1), .ref 14, .ref 15, .ref 16]), zI 10, zI 10, zZ 10, .inl (3, 2, .inr (.inr (.inr (.inr (va_up (va_up (fun _ => none) (Int32.toNatClampNeg 0) (some 18)) (Int32.toNatClampNeg 1) (some 34)))))), .inr (7, [.ref 19, .ref 27, .ref 29, .ref 30]), .inr (6, [.int 0, .int 0, .ref 20, .ref 21, .ref 22, .ref 23, .ref 24, .ref 25, .ref 26]), zI 8, zI 8, zI 8, zI 8, zI 8, zI 4, zI 4, .inr (0, [.int 0, .ref 28]), zI 200, zI 10, .inr (4, [.int 0, .int 0, .int (-1), .ref 31, .ref 32, .ref 33]), zI 10, zI 10, zZ 10, .inr (7, [.ref 35, .ref 43, .ref 45, .ref 46]), .inr (6, [.int 0, .int 0, .ref 36, .ref 37, .ref 38, .ref 39, .ref 40, .ref 41, .ref 42]), zI 8, zI 8, zI 8, zI 8, zI 8, zI 4, zI 4, .inr (0, [.int 0, .ref 44]), zI 200, zI 10, .inr (4, [.int 0, .int 0, .int (-1), .ref 47, .ref 48, .ref 49]), zI 10, zI 10, zZ 10, zZ 2, .inr (6, [.int 0, .int 0, .ref 52, .ref 53, .ref 54, .ref 55, .ref 56, .ref 57, .ref 58]), zI 8, zI 8, zI 8, zI 8, zI 8, zI 4, zI 4, .inr (5, [.ref 10, .ref 51, .int 0, .int 0, .int 0, .int 0]), .inr (2, [.ref 2, .ref 61, .int 0]), zI 8, .inr (3, [.ref 60, .ref 63, .ref 64, .ref 65, .int 0, .int 0]), zZ 256, zI 256, zI 8]) rfl ?_
  refine SG.aload_n 1 dX10_init_122 rfl rfl ?_
  refine SG.newO (N := 66) (fs := [.null, .null]) cls_X9 clw_X9 dX10_init_123 wd_286 wd_287 wd_63 (by intro j hj; rcases lt_cases2 hj with rfl | rfl <;> rfl) rfl (Nat.le_of_ble_eq_true rfl) (Nat.le_of_ble_eq_true rfl) ?_
  refine SG.eqT (T2 := [.inr (9, [.ref 1, .ref 17, .ref 50, .ref 51, .ref 59, .ref 60, .ref 62, .null, .null, .int 0, .int 0, .int 0, .int 0, .int 0]), .inr (7, [.ref 2, .ref 10, .ref 12, .ref 13]), .inr (6, [.int 0, .int 0, .ref 3, .ref 4, .ref 5, .ref 6, .ref 7, .ref 8, .ref 9]), zI 8, zI 8, zI 8, zI 8, zI 8, zI 4, zI 4, .inr (0, [.int 0, .ref 11]), zI 200, zI 10, .inr (4, [.int 0, .int 0, .int (-1), .ref 14, .ref 15, .ref 16]), zI 10, zI 10, zZ 10, .inl (3, 2, .inr (.inr (.inr (.inr (va_up (va_up (fun _ => none) (Int32.toNatClampNeg 0) (some 18)) (Int32.toNatClampNeg 1) (some 34)))))), .inr (7, [.ref 19, .ref 27, .ref 29, .ref 30]), .inr (6, [.int 0, .int 0, .ref 20, .ref 21, .ref 22, .ref 23, .ref 24, .ref 25, .ref 26]), zI 8, zI 8, zI 8, zI 8, zI 8, zI 4, zI 4, .inr (0, [.int 0, .ref 28]), zI 200, zI 10, .inr (4, [.int 0, .int 0, .int (-1), .ref 31, .ref 32, .ref 33]), zI 10, zI 10, zZ 10, .inr (7, [.ref 35, .ref 43, .ref 45, .ref 46]), .inr (6, [.int 0, .int 0, .ref 36, .ref 37, .ref 38, .ref 39, .ref 40, .ref 41, .ref 42]), zI 8, zI 8, zI 8, zI 8, zI 8, zI 4, zI 4, .inr (0, [.int 0, .ref 44]), zI 200, zI 10, .inr (4, [.int 0, .int 0, .int (-1), .ref 47, .ref 48, .ref 49]), zI 10, zI 10, zZ 10, zZ 2, .inr (6, [.int 0, .int 0, .ref 52, .ref 53, .ref 54, .ref 55, .ref 56, .ref 57, .ref 58]), zI 8, zI 8, zI 8, zI 8, zI 8, zI 4, zI 4, .inr (5, [.ref 10, .ref 51, .int 0, .int 0, .int 0, .int 0]), .inr (2, [.ref 2, .ref 61, .int 0]), zI 8, .inr (3, [.ref 60, .ref 63, .ref 64, .ref 65, .int 0, .int 0]), zZ 256, zI 256, zI 8, .inr (8, [.null, .null])]) rfl ?_
  refine SG.dup dX10_init_126 rfl ?_
  refine SG.aload_n 1 dX10_init_127 rfl rfl ?_
  refine SG.getR (k := 0) (x := 1) cls_X10 (j := 0) (by decide) dX10_init_128 wd_325 rfl rfl ?_
  refine SG.getR (k := 1) (x := 12) cls_X8 (j := 2) (by decide) dX10_init_131 wd_202 rfl rfl ?_
  refine SG.callI (As := [.ref (B + 12)]) (rest := [.ref (B + 66), .ref (B + 0)]) (b := B + 66) cal_X9_init wd_289 rfl rfl dX10_init_134 wd_288 rfl rfl (rmALe (by omega)) (Nat.le_of_ble_eq_true rfl) ⟨Nat.le_of_ble_eq_true rfl, Nat.le_of_ble_eq_true rfl⟩ (cR_X9_init (k := 66) (N := 67) rfl rfl) ?_
  refine SG.eqT (T2 := [.inr (9, [.ref 1, .ref 17, .ref 50, .ref 51, .ref 59, .ref 60, .ref 62, .null, .null, .int 0, .int 0, .int 0, .int 0, .int 0]), .inr (7, [.ref 2, .ref 10, .ref 12, .ref 13]), .inr (6, [.int 0, .int 0, .ref 3, .ref 4, .ref 5, .ref 6, .ref 7, .ref 8, .ref 9]), zI 8, zI 8, zI 8, zI 8, zI 8, zI 4, zI 4, .inr (0, [.int 0, .ref 11]), zI 200, zI 10, .inr (4, [.int 0, .int 0, .int (-1), .ref 14, .ref 15, .ref 16]), zI 10, zI 10, zZ 10, .inl (3, 2, .inr (.inr (.inr (.inr (va_up (va_up (fun _ => none) (Int32.toNatClampNeg 0) (some 18)) (Int32.toNatClampNeg 1) (some 34)))))), .inr (7, [.ref 19, .ref 27, .ref 29, .ref 30]), .inr (6, [.int 0, .int 0, .ref 20, .ref 21, .ref 22, .ref 23, .ref 24, .ref 25, .ref 26]), zI 8, zI 8, zI 8, zI 8, zI 8, zI 4, zI 4, .inr (0, [.int 0, .ref 28]), zI 200, zI 10, .inr (4, [.int 0, .int 0, .int (-1), .ref 31, .ref 32, .ref 33]), zI 10, zI 10, zZ 10, .inr (7, [.ref 35, .ref 43, .ref 45, .ref 46]), .inr (6, [.int 0, .int 0, .ref 36, .ref 37, .ref 38, .ref 39, .ref 40, .ref 41, .ref 42]), zI 8, zI 8, zI 8, zI 8, zI 8, zI 4, zI 4, .inr (0, [.int 0, .ref 44]), zI 200, zI 10, .inr (4, [.int 0, .int 0, .int (-1), .ref 47, .ref 48, .ref 49]), zI 10, zI 10, zZ 10, zZ 2, .inr (6, [.int 0, .int 0, .ref 52, .ref 53, .ref 54, .ref 55, .ref 56, .ref 57, .ref 58]), zI 8, zI 8, zI 8, zI 8, zI 8, zI 4, zI 4, .inr (5, [.ref 10, .ref 51, .int 0, .int 0, .int 0, .int 0]), .inr (2, [.ref 2, .ref 61, .int 0]), zI 8, .inr (3, [.ref 60, .ref 63, .ref 64, .ref 65, .int 0, .int 0]), zZ 256, zI 256, zI 8, .inr (8, [.ref 12, .ref 67]), zJ 610]) rfl ?_
  refine SG.putR (k := 0) (x := 66) cls_X10 clw_X10 (j := 7) (by decide) dX10_init_137 wd_332 (Or.inr ⟨rfl, rfl, rfl⟩) rfl rfl rfl (Nat.le_of_ble_eq_true rfl) ?_
  refine SG.eqT (T2 := [.inr (9, [.ref 1, .ref 17, .ref 50, .ref 51, .ref 59, .ref 60, .ref 62, .ref 66, .null, .int 0, .int 0, .int 0, .int 0, .int 0]), .inr (7, [.ref 2, .ref 10, .ref 12, .ref 13]), .inr (6, [.int 0, .int 0, .ref 3, .ref 4, .ref 5, .ref 6, .ref 7, .ref 8, .ref 9]), zI 8, zI 8, zI 8, zI 8, zI 8, zI 4, zI 4, .inr (0, [.int 0, .ref 11]), zI 200, zI 10, .inr (4, [.int 0, .int 0, .int (-1), .ref 14, .ref 15, .ref 16]), zI 10, zI 10, zZ 10, .inl (3, 2, .inr (.inr (.inr (.inr (va_up (va_up (fun _ => none) (Int32.toNatClampNeg 0) (some 18)) (Int32.toNatClampNeg 1) (some 34)))))), .inr (7, [.ref 19, .ref 27, .ref 29, .ref 30]), .inr (6, [.int 0, .int 0, .ref 20, .ref 21, .ref 22, .ref 23, .ref 24, .ref 25, .ref 26]), zI 8, zI 8, zI 8, zI 8, zI 8, zI 4, zI 4, .inr (0, [.int 0, .ref 28]), zI 200, zI 10, .inr (4, [.int 0, .int 0, .int (-1), .ref 31, .ref 32, .ref 33]), zI 10, zI 10, zZ 10, .inr (7, [.ref 35, .ref 43, .ref 45, .ref 46]), .inr (6, [.int 0, .int 0, .ref 36, .ref 37, .ref 38, .ref 39, .ref 40, .ref 41, .ref 42]), zI 8, zI 8, zI 8, zI 8, zI 8, zI 4, zI 4, .inr (0, [.int 0, .ref 44]), zI 200, zI 10, .inr (4, [.int 0, .int 0, .int (-1), .ref 47, .ref 48, .ref 49]), zI 10, zI 10, zZ 10, zZ 2, .inr (6, [.int 0, .int 0, .ref 52, .ref 53, .ref 54, .ref 55, .ref 56, .ref 57, .ref 58]), zI 8, zI 8, zI 8, zI 8, zI 8, zI 4, zI 4, .inr (5, [.ref 10, .ref 51, .int 0, .int 0, .int 0, .int 0]), .inr (2, [.ref 2, .ref 61, .int 0]), zI 8, .inr (3, [.ref 60, .ref 63, .ref 64, .ref 65, .int 0, .int 0]), zZ 256, zI 256, zI 8, .inr (8, [.ref 12, .ref 67]), zJ 610]) rfl ?_
  refine SG.aload_n 1 dX10_init_140 rfl rfl ?_
  refine SG.newO (N := 68) (fs := [.null, .null, .null, .null, .int 0, .int 0]) cls_X2 clw_X2 dX10_init_141 wd_300 wd_301 wd_64 (by intro j hj; rcases lt_cases6 hj with rfl | rfl | rfl | rfl | rfl | rfl <;> rfl) rfl (Nat.le_of_ble_eq_true rfl) (Nat.le_of_ble_eq_true rfl) ?_
  refine SG.eqT (T2 := [.inr (9, [.ref 1, .ref 17, .ref 50, .ref 51, .ref 59, .ref 60, .ref 62, .ref 66, .null, .int 0, .int 0, .int 0, .int 0, .int 0]), .inr (7, [.ref 2, .ref 10, .ref 12, .ref 13]), .inr (6, [.int 0, .int 0, .ref 3, .ref 4, .ref 5, .ref 6, .ref 7, .ref 8, .ref 9]), zI 8, zI 8, zI 8, zI 8, zI 8, zI 4, zI 4, .inr (0, [.int 0, .ref 11]), zI 200, zI 10, .inr (4, [.int 0, .int 0, .int (-1), .ref 14, .ref 15, .ref 16]), zI 10, zI 10, zZ 10, .inl (3, 2, .inr (.inr (.inr (.inr (va_up (va_up (fun _ => none) (Int32.toNatClampNeg 0) (some 18)) (Int32.toNatClampNeg 1) (some 34)))))), .inr (7, [.ref 19, .ref 27, .ref 29, .ref 30]), .inr (6, [.int 0, .int 0, .ref 20, .ref 21, .ref 22, .ref 23, .ref 24, .ref 25, .ref 26]), zI 8, zI 8, zI 8, zI 8, zI 8, zI 4, zI 4, .inr (0, [.int 0, .ref 28]), zI 200, zI 10, .inr (4, [.int 0, .int 0, .int (-1), .ref 31, .ref 32, .ref 33]), zI 10, zI 10, zZ 10, .inr (7, [.ref 35, .ref 43, .ref 45, .ref 46]), .inr (6, [.int 0, .int 0, .ref 36, .ref 37, .ref 38, .ref 39, .ref 40, .ref 41, .ref 42]), zI 8, zI 8, zI 8, zI 8, zI 8, zI 4, zI 4, .inr (0, [.int 0, .ref 44]), zI 200, zI 10, .inr (4, [.int 0, .int 0, .int (-1), .ref 47, .ref 48, .ref 49]), zI 10, zI 10, zZ 10, zZ 2, .inr (6, [.int 0, .int 0, .ref 52, .ref 53, .ref 54, .ref 55, .ref 56, .ref 57, .ref 58]), zI 8, zI 8, zI 8, zI 8, zI 8, zI 4, zI 4, .inr (5, [.ref 10, .ref 51, .int 0, .int 0, .int 0, .int 0]), .inr (2, [.ref 2, .ref 61, .int 0]), zI 8, .inr (3, [.ref 60, .ref 63, .ref 64, .ref 65, .int 0, .int 0]), zZ 256, zI 256, zI 8, .inr (8, [.ref 12, .ref 67]), zJ 610, .inr (1, [.null, .null, .null, .null, .int 0, .int 0])]) rfl ?_
  refine SG.dup dX10_init_144 rfl ?_
  refine SG.aload_n 1 dX10_init_145 rfl rfl ?_
  refine SG.getR (k := 0) (x := 1) cls_X10 (j := 0) (by decide) dX10_init_146 wd_325 rfl rfl ?_
  refine SG.getR (k := 1) (x := 13) cls_X8 (j := 3) (by decide) dX10_init_149 wd_204 rfl rfl ?_
  refine SG.callI (As := [.ref (B + 13)]) (rest := [.ref (B + 68), .ref (B + 0)]) (b := B + 68) cal_X2_init wd_303 rfl rfl dX10_init_152 wd_302 rfl rfl (rmALe (by omega)) (Nat.le_of_ble_eq_true rfl) ⟨Nat.le_of_ble_eq_true rfl, Nat.le_of_ble_eq_true rfl⟩ (cR_X2_init (k := 68) (N := 69) rfl rfl) ?_
  refine SG.eqT (T2 := [.inr (9, [.ref 1, .ref 17, .ref 50, .ref 51, .ref 59, .ref 60, .ref 62, .ref 66, .null, .int 0, .int 0, .int 0, .int 0, .int 0]), .inr (7, [.ref 2, .ref 10, .ref 12, .ref 13]), .inr (6, [.int 0, .int 0, .ref 3, .ref 4, .ref 5, .ref 6, .ref 7, .ref 8, .ref 9]), zI 8, zI 8, zI 8, zI 8, zI 8, zI 4, zI 4, .inr (0, [.int 0, .ref 11]), zI 200, zI 10, .inr (4, [.int 0, .int 0, .int (-1), .ref 14, .ref 15, .ref 16]), zI 10, zI 10, zZ 10, .inl (3, 2, .inr (.inr (.inr (.inr (va_up (va_up (fun _ => none) (Int32.toNatClampNeg 0) (some 18)) (Int32.toNatClampNeg 1) (some 34)))))), .inr (7, [.ref 19, .ref 27, .ref 29, .ref 30]), .inr (6, [.int 0, .int 0, .ref 20, .ref 21, .ref 22, .ref 23, .ref 24, .ref 25, .ref 26]), zI 8, zI 8, zI 8, zI 8, zI 8, zI 4, zI 4, .inr (0, [.int 0, .ref 28]), zI 200, zI 10, .inr (4, [.int 0, .int 0, .int (-1), .ref 31, .ref 32, .ref 33]), zI 10, zI 10, zZ 10, .inr (7, [.ref 35, .ref 43, .ref 45, .ref 46]), .inr (6, [.int 0, .int 0, .ref 36, .ref 37, .ref 38, .ref 39, .ref 40, .ref 41, .ref 42]), zI 8, zI 8, zI 8, zI 8, zI 8, zI 4, zI 4, .inr (0, [.int 0, .ref 44]), zI 200, zI 10, .inr (4, [.int 0, .int 0, .int (-1), .ref 47, .ref 48, .ref 49]), zI 10, zI 10, zZ 10, zZ 2, .inr (6, [.int 0, .int 0, .ref 52, .ref 53, .ref 54, .ref 55, .ref 56, .ref 57, .ref 58]), zI 8, zI 8, zI 8, zI 8, zI 8, zI 4, zI 4, .inr (5, [.ref 10, .ref 51, .int 0, .int 0, .int 0, .int 0]), .inr (2, [.ref 2, .ref 61, .int 0]), zI 8, .inr (3, [.ref 60, .ref 63, .ref 64, .ref 65, .int 0, .int 0]), zZ 256, zI 256, zI 8, .inr (8, [.ref 12, .ref 67]), zJ 610, .inr (1, [.ref 13, .ref 69, .ref 70, .ref 71, .int 0, .int 0]), zI 5, zI 5, zI 50]) rfl ?_
  refine SG.putR (k := 0) (x := 68) cls_X10 clw_X10 (j := 8) (by decide) dX10_init_155 wd_333 (Or.inr ⟨rfl, rfl, rfl⟩) rfl rfl rfl (Nat.le_of_ble_eq_true rfl) ?_
  refine SG.eqT (T2 := [.inr (9, [.ref 1, .ref 17, .ref 50, .ref 51, .ref 59, .ref 60, .ref 62, .ref 66, .ref 68, .int 0, .int 0, .int 0, .int 0, .int 0]), .inr (7, [.ref 2, .ref 10, .ref 12, .ref 13]), .inr (6, [.int 0, .int 0, .ref 3, .ref 4, .ref 5, .ref 6, .ref 7, .ref 8, .ref 9]), zI 8, zI 8, zI 8, zI 8, zI 8, zI 4, zI 4, .inr (0, [.int 0, .ref 11]), zI 200, zI 10, .inr (4, [.int 0, .int 0, .int (-1), .ref 14, .ref 15, .ref 16]), zI 10, zI 10, zZ 10, .inl (3, 2, .inr (.inr (.inr (.inr (va_up (va_up (fun _ => none) (Int32.toNatClampNeg 0) (some 18)) (Int32.toNatClampNeg 1) (some 34)))))), .inr (7, [.ref 19, .ref 27, .ref 29, .ref 30]), .inr (6, [.int 0, .int 0, .ref 20, .ref 21, .ref 22, .ref 23, .ref 24, .ref 25, .ref 26]), zI 8, zI 8, zI 8, zI 8, zI 8, zI 4, zI 4, .inr (0, [.int 0, .ref 28]), zI 200, zI 10, .inr (4, [.int 0, .int 0, .int (-1), .ref 31, .ref 32, .ref 33]), zI 10, zI 10, zZ 10, .inr (7, [.ref 35, .ref 43, .ref 45, .ref 46]), .inr (6, [.int 0, .int 0, .ref 36, .ref 37, .ref 38, .ref 39, .ref 40, .ref 41, .ref 42]), zI 8, zI 8, zI 8, zI 8, zI 8, zI 4, zI 4, .inr (0, [.int 0, .ref 44]), zI 200, zI 10, .inr (4, [.int 0, .int 0, .int (-1), .ref 47, .ref 48, .ref 49]), zI 10, zI 10, zZ 10, zZ 2, .inr (6, [.int 0, .int 0, .ref 52, .ref 53, .ref 54, .ref 55, .ref 56, .ref 57, .ref 58]), zI 8, zI 8, zI 8, zI 8, zI 8, zI 4, zI 4, .inr (5, [.ref 10, .ref 51, .int 0, .int 0, .int 0, .int 0]), .inr (2, [.ref 2, .ref 61, .int 0]), zI 8, .inr (3, [.ref 60, .ref 63, .ref 64, .ref 65, .int 0, .int 0]), zZ 256, zI 256, zI 8, .inr (8, [.ref 12, .ref 67]), zJ 610, .inr (1, [.ref 13, .ref 69, .ref 70, .ref 71, .int 0, .int 0]), zI 5, zI 5, zI 50]) rfl ?_
  refine SG.aload_n 1 dX10_init_158 rfl rfl ?_
  refine SG.iconst (x := 0) dX10_init_159 (by decide) ?_
  refine SG.putI (k := 0) (x := 0) cls_X10 clw_X10 (j := 9) (by decide) dX10_init_160 wd_334 rfl rfl rfl (Nat.le_of_ble_eq_true rfl) ?_
  refine SG.eqT (T2 := [.inr (9, [.ref 1, .ref 17, .ref 50, .ref 51, .ref 59, .ref 60, .ref 62, .ref 66, .ref 68, .int 0, .int 0, .int 0, .int 0, .int 0]), .inr (7, [.ref 2, .ref 10, .ref 12, .ref 13]), .inr (6, [.int 0, .int 0, .ref 3, .ref 4, .ref 5, .ref 6, .ref 7, .ref 8, .ref 9]), zI 8, zI 8, zI 8, zI 8, zI 8, zI 4, zI 4, .inr (0, [.int 0, .ref 11]), zI 200, zI 10, .inr (4, [.int 0, .int 0, .int (-1), .ref 14, .ref 15, .ref 16]), zI 10, zI 10, zZ 10, .inl (3, 2, .inr (.inr (.inr (.inr (va_up (va_up (fun _ => none) (Int32.toNatClampNeg 0) (some 18)) (Int32.toNatClampNeg 1) (some 34)))))), .inr (7, [.ref 19, .ref 27, .ref 29, .ref 30]), .inr (6, [.int 0, .int 0, .ref 20, .ref 21, .ref 22, .ref 23, .ref 24, .ref 25, .ref 26]), zI 8, zI 8, zI 8, zI 8, zI 8, zI 4, zI 4, .inr (0, [.int 0, .ref 28]), zI 200, zI 10, .inr (4, [.int 0, .int 0, .int (-1), .ref 31, .ref 32, .ref 33]), zI 10, zI 10, zZ 10, .inr (7, [.ref 35, .ref 43, .ref 45, .ref 46]), .inr (6, [.int 0, .int 0, .ref 36, .ref 37, .ref 38, .ref 39, .ref 40, .ref 41, .ref 42]), zI 8, zI 8, zI 8, zI 8, zI 8, zI 4, zI 4, .inr (0, [.int 0, .ref 44]), zI 200, zI 10, .inr (4, [.int 0, .int 0, .int (-1), .ref 47, .ref 48, .ref 49]), zI 10, zI 10, zZ 10, zZ 2, .inr (6, [.int 0, .int 0, .ref 52, .ref 53, .ref 54, .ref 55, .ref 56, .ref 57, .ref 58]), zI 8, zI 8, zI 8, zI 8, zI 8, zI 4, zI 4, .inr (5, [.ref 10, .ref 51, .int 0, .int 0, .int 0, .int 0]), .inr (2, [.ref 2, .ref 61, .int 0]), zI 8, .inr (3, [.ref 60, .ref 63, .ref 64, .ref 65, .int 0, .int 0]), zZ 256, zI 256, zI 8, .inr (8, [.ref 12, .ref 67]), zJ 610, .inr (1, [.ref 13, .ref 69, .ref 70, .ref 71, .int 0, .int 0]), zI 5, zI 5, zI 50]) rfl ?_
  refine SG.aload_n 1 dX10_init_163 rfl rfl ?_
  refine SG.iconst (x := 1) dX10_init_164 (by decide) ?_
  refine SG.putI (k := 0) (x := 1) cls_X10 clw_X10 (j := 10) (by decide) dX10_init_165 wd_335 rfl rfl rfl (Nat.le_of_ble_eq_true rfl) ?_
  refine SG.eqT (T2 := [.inr (9, [.ref 1, .ref 17, .ref 50, .ref 51, .ref 59, .ref 60, .ref 62, .ref 66, .ref 68, .int 0, .int 1, .int 0, .int 0, .int 0]), .inr (7, [.ref 2, .ref 10, .ref 12, .ref 13]), .inr (6, [.int 0, .int 0, .ref 3, .ref 4, .ref 5, .ref 6, .ref 7, .ref 8, .ref 9]), zI 8, zI 8, zI 8, zI 8, zI 8, zI 4, zI 4, .inr (0, [.int 0, .ref 11]), zI 200, zI 10, .inr (4, [.int 0, .int 0, .int (-1), .ref 14, .ref 15, .ref 16]), zI 10, zI 10, zZ 10, .inl (3, 2, .inr (.inr (.inr (.inr (va_up (va_up (fun _ => none) (Int32.toNatClampNeg 0) (some 18)) (Int32.toNatClampNeg 1) (some 34)))))), .inr (7, [.ref 19, .ref 27, .ref 29, .ref 30]), .inr (6, [.int 0, .int 0, .ref 20, .ref 21, .ref 22, .ref 23, .ref 24, .ref 25, .ref 26]), zI 8, zI 8, zI 8, zI 8, zI 8, zI 4, zI 4, .inr (0, [.int 0, .ref 28]), zI 200, zI 10, .inr (4, [.int 0, .int 0, .int (-1), .ref 31, .ref 32, .ref 33]), zI 10, zI 10, zZ 10, .inr (7, [.ref 35, .ref 43, .ref 45, .ref 46]), .inr (6, [.int 0, .int 0, .ref 36, .ref 37, .ref 38, .ref 39, .ref 40, .ref 41, .ref 42]), zI 8, zI 8, zI 8, zI 8, zI 8, zI 4, zI 4, .inr (0, [.int 0, .ref 44]), zI 200, zI 10, .inr (4, [.int 0, .int 0, .int (-1), .ref 47, .ref 48, .ref 49]), zI 10, zI 10, zZ 10, zZ 2, .inr (6, [.int 0, .int 0, .ref 52, .ref 53, .ref 54, .ref 55, .ref 56, .ref 57, .ref 58]), zI 8, zI 8, zI 8, zI 8, zI 8, zI 4, zI 4, .inr (5, [.ref 10, .ref 51, .int 0, .int 0, .int 0, .int 0]), .inr (2, [.ref 2, .ref 61, .int 0]), zI 8, .inr (3, [.ref 60, .ref 63, .ref 64, .ref 65, .int 0, .int 0]), zZ 256, zI 256, zI 8, .inr (8, [.ref 12, .ref 67]), zJ 610, .inr (1, [.ref 13, .ref 69, .ref 70, .ref 71, .int 0, .int 0]), zI 5, zI 5, zI 50]) rfl ?_
  exact SG.done rfl rfl rfl rfl rfl rfl
def TM : List va_E := [.inr (10, [.ref 73, .ref 74, .ref 75, .int 0, .int 0, .long 0, .long 1, .ref 76, .int 0, .int 0, .int 0, .ref 77, .ref 78, .ref 79, .int 0, .int 0, .int 0, .long 0, .ref 80, .ref 81, .ref 82, .int 0, .int 0, .ref 83, .ref 84, .ref 85, .ref 86]), zI 277, zI 277, zI 277, zI 3, zI 8, zI 8, zI 8, zI 37, zZ 256, zI 256, zI 8, zI 8, zJ 610, zJ 610]
def T0 : List va_E := TX ++ TM
set_option maxRecDepth 100000 in
set_option maxHeartbeats 40000000 in
/-- the law's first steps: the two objects are made -/
theorem law_make {K : GK} {B : Nat} : SG K B room_1 false M_L_law 0 [(0, .ref (gb K))] [] 0 0 [] 16 [(2, .ref (B + 72)), (1, .ref (B + 0)), (0, .ref (gb K))] [] 87 4893 T0 := by
  refine SG.newO (N := 0) (fs := [.null, .null, .null, .null, .null, .null, .null, .null, .null, .int 0, .int 0, .int 0, .int 0, .int 0]) cls_X10 clw_X10 dL_law_0 wd_74 wd_75 wd_55 (by intro j hj; rcases lt_cases14 hj with rfl | rfl | rfl | rfl | rfl | rfl | rfl | rfl | rfl | rfl | rfl | rfl | rfl | rfl <;> rfl) rfl (Nat.le_of_ble_eq_true rfl) (Nat.le_of_ble_eq_true rfl) ?_
  refine SG.eqT (T2 := [.inr (9, [.null, .null, .null, .null, .null, .null, .null, .null, .null, .int 0, .int 0, .int 0, .int 0, .int 0])]) rfl ?_
  refine SG.dup dL_law_3 rfl ?_
  refine SG.callI (As := []) (rest := [.ref (B + 0)]) (b := B + 0) cal_X10_init wd_77 rfl rfl dL_law_4 wd_76 rfl rfl ⟨Nat.le_of_ble_eq_true rfl, Nat.le_of_ble_eq_true rfl⟩ (Nat.le_of_ble_eq_true rfl) ⟨Nat.le_of_ble_eq_true rfl, Nat.le_of_ble_eq_true rfl⟩ cR_X10_init ?_
  refine SG.astore_n (l' := [(1, .ref (B + 0)), (0, .ref (gb K))]) dL_law_7 rfl (by decide) rfl ?_
  refine SG.newO (N := 72) (fs := [.null, .null, .null, .int 0, .int 0, .long 0, .long 0, .null, .int 0, .int 0, .int 0, .null, .null, .null, .int 0, .int 0, .int 0, .long 0, .null, .null, .null, .int 0, .int 0, .null, .null, .null, .null]) cls_X11 clw_X11 dL_law_8 wd_889 wd_890 wd_65 (by intro j hj; rcases lt_cases27 hj with rfl | rfl | rfl | rfl | rfl | rfl | rfl | rfl | rfl | rfl | rfl | rfl | rfl | rfl | rfl | rfl | rfl | rfl | rfl | rfl | rfl | rfl | rfl | rfl | rfl | rfl | rfl <;> rfl) rfl (Nat.le_of_ble_eq_true rfl) (Nat.le_of_ble_eq_true rfl) ?_
  refine SG.dup dL_law_11 rfl ?_
  refine SG.callI (As := []) (rest := [.ref (B + 72)]) (b := B + 72) cal_X11_init wd_892 rfl rfl dL_law_12 wd_891 rfl rfl ⟨Nat.le_of_ble_eq_true rfl, Nat.le_of_ble_eq_true rfl⟩ (Nat.le_of_ble_eq_true rfl) ⟨Nat.le_of_ble_eq_true rfl, Nat.le_of_ble_eq_true rfl⟩ (cR_X11_init (k := 72) (N := 73) rfl rfl) ?_
  refine SG.astore_n (l' := [(2, .ref (B + 72)), (1, .ref (B + 0)), (0, .ref (gb K))]) dL_law_15 rfl (by decide) rfl ?_
  exact SG.done rfl rfl rfl rfl rfl rfl
