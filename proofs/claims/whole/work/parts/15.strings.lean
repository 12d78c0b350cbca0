abbrev M_J0_coder : MK := (RJ0, cJ0_coder_7d493, 1, (some .byte), yJ0_coder_7d493)
abbrev M_J0_isLatin1 : MK := (RJ0, cJ0_isLatin1_aae02, 1, (some .boolean), yJ0_isLatin1_aae02)
abbrev M_J0_length : MK := (RJ0, cJ0_length_8abf5, 1, (some .int), yJ0_length_8abf5)
abbrev M_J0_charAt : MK := (RJ0, cJ0_charAt_5068e, 2, (some .char), yJ0_charAt_5068e)
abbrev M_J0_checkIndex : MK := (RJ0, cJ0_checkIndex_df160, 2, none, yJ0_checkIndex_df160)
abbrev M_J1_charAt : MK := (RJ1, cJ1_charAt_3b067, 2, (some .char), yJ1_charAt_3b067)
abbrev M_J3_checkIndex : MK := (RJ3, cJ3_checkIndex_8e157, 3, (some .int), yJ3_checkIndex_8e157)
theorem calB_coder : CalB M_J0_coder 0 := ⟨wd_579, wd_68, ⟨by decide +kernel, by decide +kernel, by decide +kernel⟩, Nat.le_of_ble_eq_true rfl⟩
theorem calB_isLatin1 : CalB M_J0_isLatin1 0 := ⟨wd_589, wd_68, ⟨by decide +kernel, by decide +kernel, by decide +kernel⟩, Nat.le_of_ble_eq_true rfl⟩
theorem calB_length : CalB M_J0_length 0 := ⟨wd_575, wd_68, ⟨by decide +kernel, by decide +kernel, by decide +kernel⟩, Nat.le_of_ble_eq_true rfl⟩
theorem calB_charAt : CalB M_J0_charAt 1 := ⟨wd_585, wd_68, ⟨by decide +kernel, by decide +kernel, by decide +kernel⟩, Nat.le_of_ble_eq_true rfl⟩
theorem calS_sci : CalS M_J0_checkIndex 2 := ⟨⟨wd_595, wd_68, ⟨by decide +kernel, by decide +kernel, by decide +kernel⟩, Nat.le_of_ble_eq_true rfl⟩, wd_594⟩
theorem calS_lca : CalS M_J1_charAt 2 := ⟨⟨wd_592, wd_69, ⟨by decide +kernel, by decide +kernel, by decide +kernel⟩, Nat.le_of_ble_eq_true rfl⟩, wd_591⟩
theorem calS_pci : CalS M_J3_checkIndex 3 := ⟨⟨wd_600, wd_70, ⟨by decide +kernel, by decide +kernel, by decide +kernel⟩, Nat.le_of_ble_eq_true rfl⟩, wd_599⟩
section PWS
variable {K : GK} {R : Room} {cs ss : Nat} {M : MK} {pc : Nat} {l : List (Nat × Value)} {st : List Value} {hp hp' : PH} {v : Option Value}
theorem PW.sCoder {j i : Nat} (hj : j < 4) (hd : decode (mC M) pc = .ok (.getfield i, 3)) (hw : Cond.fieldLink (mO M) i "java/lang/String" "coder" "B" ∈ TB) (kk : PW K R cs ss M (pc + 3) l (.int 0 :: st) hp v hp') : PW K R cs ss M pc l (.ref (gsK K j) :: st) hp v hp' := by
  intro p e s m args below meth c C Z hr H locs ls hP hS hv
  have hE := (C.2.2.2.2.2.2.2.2.2.1.1 j hj).2.1
  exact vk_getf C.1 C.2.1 hE hS C.2.2.2.1 (C.2.2.2.2.1 _ hw) (fun _ h => h) hd (kk p e s m args below meth c C Z hr H locs ls hP hS hv)
theorem PW.sValue {j i : Nat} (hj : j < 4) (hd : decode (mC M) pc = .ok (.getfield i, 3)) (hw : Cond.fieldLink (mO M) i "java/lang/String" "value" "[B" ∈ TB) (kk : PW K R cs ss M (pc + 3) l (.ref (gsV K j) :: st) hp v hp') : PW K R cs ss M pc l (.ref (gsK K j) :: st) hp v hp' := by
  intro p e s m args below meth c C Z hr H locs ls hP hS hv
  have hE := (C.2.2.2.2.2.2.2.2.2.1.1 j hj).2.2.1
  exact vk_getf C.1 C.2.1 hE hS C.2.2.2.1 (C.2.2.2.2.1 _ hw) (fun _ h => h) hd (kk p e s m args below meth c C Z hr H locs ls hP hS hv)
theorem PW.sAlen {j : Nat} (hj : j < 4) (hd : decode (mC M) pc = .ok (.arraylength, 1)) (kk : PW K R cs ss M (pc + 1) l (.int (nI (skL.getD j 0)) :: st) hp v hp') : PW K R cs ss M pc l (.ref (gsV K j) :: st) hp v hp' := by
  intro p e s m args below meth c C Z hr H locs ls hP hS hv
  have hE := (C.2.2.2.2.2.2.2.2.2.1.1 j hj).2.2.2
  exact va_tlen C.1 C.2.1 hE hS rfl hd (kk p e s m args below meth c C Z hr H locs ls hP hS hv)
theorem PW.sBald {j : Nat} {i : Int32} (hj : j < 4) (hd : decode (mC M) pc = .ok (.baload, 1)) (hi : vp_in i (skL.getD j 0)) (kk : PW K R cs ss M (pc + 1) l (.int ((skB.getD j []).getD i.toNatClampNeg 0) :: st) hp v hp') : PW K R cs ss M pc l (.int i :: .ref (gsV K j) :: st) hp v hp' := by
  intro p e s m args below meth c C Z hr H locs ls hP hS hv
  have hE := (C.2.2.2.2.2.2.2.2.2.1.1 j hj).2.2.2
  exact va_tb C.1 C.2.1 hE hS hi rfl hd (kk p e s m args below meth c C Z hr H locs ls hP hS hv)
theorem PW.compact {i : Nat} (hd : decode (mC M) pc = .ok (.getstatic i, 3)) (hw : Cond.fieldLink (mO M) i "java/lang/String" "COMPACT_STRINGS" "Z" ∈ TB) (kk : PW K R cs ss M (pc + 3) l (.int 1 :: st) hp v hp') : PW K R cs ss M pc l st hp v hp' := by
  intro p e s m args below meth c C Z hr H locs ls hP hS hv
  exact va_gets C.1 C.2.1 C.2.2.2.2.2.2.2.2.2.2.2.2.1 hS C.2.2.2.1 (C.2.2.2.2.1 _ hw) (fun _ h => h) hd (kk p e s m args below meth c C Z hr H locs ls hP hS hv)
theorem PW.sioobe {i : Nat} (hd : decode (mC M) pc = .ok (.getstatic i, 3)) (hw : Cond.fieldLink (mO M) i "jdk/internal/util/Preconditions" "SIOOBE_FORMATTER" "Ljava/util/function/BiFunction;" ∈ TB) (kk : ∀ u : Value, (u = .null ∨ ∃ t, u = .ref t) → PW K R cs ss M (pc + 3) l (u :: st) hp v hp') : PW K R cs ss M pc l st hp v hp' := by
  intro p e s m args below meth c C Z hr H locs ls hP hS hv
  rcases C.2.2.2.2.2.2.2.2.2.2.2.2.2 with h | ⟨t, h⟩
  · exact va_gets C.1 C.2.1 h hS C.2.2.2.1 (C.2.2.2.2.1 _ hw) (fun _ h => h) hd (kk .null (Or.inl rfl) p e s m args below meth c C Z hr H locs ls hP hS hv)
  · exact va_gets C.1 C.2.1 h hS C.2.2.2.1 (C.2.2.2.2.1 _ hw) (fun _ h => h) hd (kk (.ref t) (Or.inr ⟨t, rfl⟩) p e s m args below meth c C Z hr H locs ls hP hS hv)
/-- a call on a String constant -/
theorem PW.callT {M' : MK} {d n j i : Nat} {As rest : List Value} {v1 : Option Value} {hp1 : PH} (hj : j < 4) (hcal : CalB M' n) (hM' : (mY M').cls = "java/lang/String") (q5 : Cond.instanceMethod (mY M') ∈ TB) (q6 : Cond.selects (mY M').cls (mY M') (mY M') ∈ TB) (hd : decode (mC M) pc = .ok (.invokevirtual i, 3)) (hw : Cond.methodLink (mO M) i (mY M') ∈ TB) (hs : st = As.reverse ++ .ref (gsK K j) :: rest) (hn : As.length = n) (hR : d + 1 ≤ R.frames ∧ 41 * d + 41 ≤ R.locals) (hrest : (rest.map fun v => v.category).sum ≤ 8) (hcs : cs ≤ R.cells ∧ ss ≤ R.slots) (hM : PM K d M' (.ref (gsK K j) :: As) hp v1 hp1) (kk : PW K R cs ss M (pc + 3) l (v1.toList ++ rest) hp1 v hp') : PW K R cs ss M pc l st hp v hp' := by
  intro p e s m args below meth c C0 Z hr H locs ls hP hS hv
  subst hs
  have hts := C0.2.2.2.2.1
  obtain ⟨q1, q2, q3, q4⟩ := hcal
  have hrecv := vk_recv C0.2.2.2.2.2.2.2.2.2.1 (i := j) hj hS
  have hb : CallB R s args (mO M) i (mY M') (mC M') (mL M') (mR M') (wsM M') (rmD d) 0 0 n := callB_of (Ts := TB) n hts (wsM_good q1) rfl rfl rfl (hts _ q2) (hts _ hw) q3 ⟨hR.1, by show 8 + (mL M' + 11) + 41 * d ≤ R.locals; omega⟩
  rw [← hM'] at hrecv
  refine PW.aft (va_runV (n := n) (C := (mY M').cls) (Ts := TB) (As := As) (rest := rest) ⟨C0.1, C0.2.1, C0.2.2.1, C0.2.2.2.1, hts⟩ hM ⟨hb, hts _ q5, hts _ q6⟩ ⟨PM.blind, hrecv, fun U hU hW => ⟨rfl, by rw [hU]; exact hP, by rw [hU]; exact C0.2.2.2.2.2.go hS hW⟩⟩ rfl hn hv.1 rfl (lv_room hrest) hd hcs) hS (fun H1 locs1 hP1 hS1 => kk p e s m args below meth c C0 Z hr H1 locs1 ls hP1 hS1 hv)
end PWS
theorem n_byte0 : narrow .byte (.int 0) = .int 0 := by decide +kernel
theorem mJ_coder {K : GK} {hp : PH} {j : Nat} (hj : j < 4) : PM K 0 M_J0_coder [.ref (gsK K j)] hp (some (.int 0)) hp := by
  refine PM.enter (l0 := [(0, .ref (gsK K j))]) (by decide +kernel) rfl (Nat.le_of_ble_eq_true rfl) rfl ?_
  refine PW.compact dJ0_coder_7d493_0 wd_580 ?_
  refine PW.if_eq (tgt := 13) dJ0_coder_7d493_3 (by decide) (fun c => absurd c (by decide)) (fun c => ?_)
  refine PW.aload_n 0 dJ0_coder_7d493_6 rfl rfl ?_
  refine PW.sCoder hj dJ0_coder_7d493_7 wd_1286 ?_
  refine PW.goto (tgt := 14) dJ0_coder_7d493_10 (by decide) ?_
  exact PW.ret dJ0_coder_7d493_14 n_byte0 rfl
theorem mJ_isLatin1 {K : GK} {hp : PH} {j : Nat} (hj : j < 4) : PM K 0 M_J0_isLatin1 [.ref (gsK K j)] hp (some (.int 1)) hp := by
  refine PM.enter (l0 := [(0, .ref (gsK K j))]) (by decide +kernel) rfl (Nat.le_of_ble_eq_true rfl) rfl ?_
  refine PW.compact dJ0_isLatin1_aae02_0 wd_580 ?_
  refine PW.if_eq (tgt := 17) dJ0_isLatin1_aae02_3 (by decide) (fun c => absurd c (by decide)) (fun c => ?_)
  refine PW.aload_n 0 dJ0_isLatin1_aae02_6 rfl rfl ?_
  refine PW.sCoder hj dJ0_isLatin1_aae02_7 wd_1286 ?_
  refine PW.if_ne (tgt := 17) dJ0_isLatin1_aae02_10 (by decide) (fun c => absurd rfl c) (fun c => ?_)
  refine PW.iconst (x := 1) dJ0_isLatin1_aae02_13 (by decide) ?_
  refine PW.goto (tgt := 18) dJ0_isLatin1_aae02_14 (by decide) ?_
  exact PW.ret dJ0_isLatin1_aae02_18 (z_nar (Or.inr rfl)).1 rfl
theorem mJ_pci {K : GK} {hp : PH} {i n : Int32} {u : Value} (hu : u = .null ∨ ∃ t, u = .ref t) (h0 : ¬ i < 0) (h1 : i < n) : PM K 0 M_J3_checkIndex [.int i, .int n, u] hp (some (.int i)) hp := by
  have key : PW K (rmD 0) 0 0 M_J3_checkIndex 0 [(0, .int i), (1, .int n)] [] hp (some (.int i)) hp := by
    refine PW.iload_n 0 dJ3_checkIndex_8e157_0 rfl rfl ?_
    refine PW.if_lt (tgt := 9) dJ3_checkIndex_8e157_1 (by decide) (fun c => absurd c h0) (fun c => ?_)
    refine PW.iload_n 0 dJ3_checkIndex_8e157_4 rfl rfl ?_
    refine PW.iload_n 1 dJ3_checkIndex_8e157_5 rfl rfl ?_
    refine PW.icmp_lt (tgt := 16) dJ3_checkIndex_8e157_6 (by decide) (fun c => ?_) (fun c => absurd h1 c)
    refine PW.iload_n 0 dJ3_checkIndex_8e157_16 rfl rfl ?_
    exact PW.ret dJ3_checkIndex_8e157_17 trivial rfl
  rcases hu with rfl | ⟨t, rfl⟩
  · exact PM.enter (l0 := [(0, .int i), (1, .int n), (2, .null)]) (by decide +kernel) rfl (Nat.le_of_ble_eq_true rfl) rfl (PW.sub [0, 1] rfl key)
  · exact PM.enter (l0 := [(0, .int i), (1, .int n), (2, .ref t)]) (by decide +kernel) rfl (Nat.le_of_ble_eq_true rfl) rfl (PW.sub [0, 1] rfl key)
theorem mJ_sci {K : GK} {hp : PH} {i n : Int32} (h0 : ¬ i < 0) (h1 : i < n) : PM K 1 M_J0_checkIndex [.int i, .int n] hp none hp := by
  refine PM.enter (l0 := [(0, .int i), (1, .int n)]) (by decide +kernel) rfl (Nat.le_of_ble_eq_true rfl) rfl ?_
  refine PW.iload_n 0 dJ0_checkIndex_df160_0 rfl rfl ?_
  refine PW.iload_n 1 dJ0_checkIndex_df160_1 rfl rfl ?_
  refine PW.sioobe dJ0_checkIndex_df160_2 wd_596 (fun u hu => ?_)
  refine PW.callSi (As := [.int i, .int n, u]) (rest := []) calS_pci dJ0_checkIndex_df160_5 wd_598 rfl rfl (rmLe (by omega)) (Nat.le_of_ble_eq_true rfl) rm_0 (mJ_pci hu h0 h1) ?_
  refine PW.pop dJ0_checkIndex_df160_8 rfl ?_
  exact PW.ret dJ0_checkIndex_df160_9 trivial rfl
theorem PW.callSv {K : GK} {R : Room} {cs ss : Nat} {M : MK} {pc : Nat} {l : List (Nat × Value)} {st : List Value} {hp hp' : PH} {v : Option Value} {M' : MK} {d n i : Nat} {As rest : List Value} {hp1 : PH} (hcal : CalS M' n) (hd : decode (mC M) pc = .ok (.invokestatic i, 3)) (hw : Cond.methodLink (mO M) i (mY M') ∈ TB) (hs : st = As.reverse ++ rest) (hn : As.length = n) (hR : d + 1 ≤ R.frames ∧ 41 * d + 41 ≤ R.locals) (hrest : (rest.map fun v => v.category).sum ≤ 8) (hcs : cs ≤ R.cells ∧ ss ≤ R.slots) (hM : PM K d M' As hp none hp1) (kk : PW K R cs ss M (pc + 3) l rest hp1 v hp') : PW K R cs ss M pc l st hp v hp' := PW.callS hcal hd hw hs hn hR hrest hcs hM kk
theorem sCh_spec {j : Nat} {i x : Int32} (h : sCh j i = some x) : j < 4 ∧ ¬ i < 0 ∧ i < nI (skL.getD j 0) ∧ vp_in i (skL.getD j 0) ∧ ((((skB.getD j []).getD i.toNatClampNeg 0) &&& 255).toUInt32 % 65536).toInt32 = x ∧ narrow .char (.int x) = .int x := by
  unfold sCh at h
  by_cases h0 : ¬ i < 0
  · rw [if_pos h0] at h
    obtain ⟨q, hq, rfl⟩ := nI_of h0
    rw [nI_clamp hq] at h ⊢
    have hj : j < 4 := by
      rcases Nat.lt_or_ge j 4 with a | a
      · exact a
      · rw [show skB[j]? = none from List.getElem?_eq_none a] at h; cases h
    have key : ∀ j : Nat, j < 4 → ∀ q : Nat, q < skL.getD j 0 → ((((skB.getD j []).getD q 0) &&& 255).toUInt32 % 65536).toInt32 = (skB.getD j []).getD q 0 ∧ narrow .char (.int ((skB.getD j []).getD q 0)) = .int ((skB.getD j []).getD q 0) := by decide +kernel
    have hl : ∀ j : Nat, j < 4 → (skB.getD j []).length = skL.getD j 0 ∧ skB[j]? = some (skB.getD j []) ∧ skL.getD j 0 < 10 := by decide +kernel
    obtain ⟨e1, e2, e3⟩ := hl j hj
    rw [e2] at h
    dsimp only at h
    have hql : q < skL.getD j 0 := by rw [← e1]; exact (List.getElem?_eq_some_iff.mp h).1
    have hx : (skB.getD j []).getD q 0 = x := by rw [List.getD_eq_getElem?_getD, h]; rfl
    obtain ⟨k1, k2⟩ := key j hj q hql
    rw [hx] at k1 k2 ⊢
    exact ⟨hj, h0, nI_lt hql (by omega), vp_in_nI hql (by omega), k1, k2⟩
  · rw [if_neg h0] at h; cases h
theorem mJ_lca {K : GK} {hp : PH} {j : Nat} {i x : Int32} (h : sCh j i = some x) : PM K 2 M_J1_charAt [.ref (gsV K j), .int i] hp (some (.int x)) hp := by
  obtain ⟨hj, h0, h1, h2, h3, h4⟩ := sCh_spec h
  refine PM.enter (l0 := [(0, .ref (gsV K j)), (1, .int i)]) (by decide +kernel) rfl (Nat.le_of_ble_eq_true rfl) rfl ?_
  refine PW.iload_n 1 dJ1_charAt_3b067_0 rfl rfl ?_
  refine PW.aload_n 0 dJ1_charAt_3b067_1 rfl rfl ?_
  refine PW.sAlen hj dJ1_charAt_3b067_2 ?_
  refine PW.callSv (As := [.int i, .int (nI (skL.getD j 0))]) (rest := []) calS_sci dJ1_charAt_3b067_3 wd_593 rfl rfl (rmLe (by omega)) (Nat.le_of_ble_eq_true rfl) rm_0 (mJ_sci h0 h1) ?_
  refine PW.aload_n 0 dJ1_charAt_3b067_6 rfl rfl ?_
  refine PW.iload_n 1 dJ1_charAt_3b067_7 rfl rfl ?_
  refine PW.sBald hj dJ1_charAt_3b067_8 h2 ?_
  refine PW.sipush (x := 255) dJ1_charAt_3b067_9 (by decide) ?_
  refine PW.iand dJ1_charAt_3b067_12 ?_
  refine PW.i2c dJ1_charAt_3b067_13 ?_
  rw [h3]
  exact PW.ret dJ1_charAt_3b067_14 h4 rfl
theorem mJ_charAt {K : GK} {hp : PH} {j : Nat} {i x : Int32} (h : sCh j i = some x) : PM K 3 M_J0_charAt [.ref (gsK K j), .int i] hp (some (.int x)) hp := by
  obtain ⟨hj, h0, h1, h2, h3, h4⟩ := sCh_spec h
  refine PM.enter (l0 := [(0, .ref (gsK K j)), (1, .int i)]) (by decide +kernel) rfl (Nat.le_of_ble_eq_true rfl) rfl ?_
  refine PW.aload_n 0 dJ0_charAt_5068e_0 rfl rfl ?_
  refine PW.callT (As := []) (rest := []) hj calB_isLatin1 rfl wd_587 wd_588 dJ0_charAt_5068e_1 wd_586 rfl rfl (rmLe (by omega)) (Nat.le_of_ble_eq_true rfl) rm_0 (mJ_isLatin1 hj) ?_
  refine PW.if_eq (x := 1) (st := []) (tgt := 16) dJ0_charAt_5068e_4 (by decide) (fun c => absurd c (by decide)) (fun c => ?_)
  refine PW.aload_n 0 dJ0_charAt_5068e_7 rfl rfl ?_
  refine PW.sValue hj dJ0_charAt_5068e_8 wd_1285 ?_
  refine PW.iload_n 1 dJ0_charAt_5068e_11 rfl rfl ?_
  refine PW.callSi (As := [.ref (gsV K j), .int i]) (rest := []) calS_lca dJ0_charAt_5068e_12 wd_590 rfl rfl (rmLe (by omega)) (Nat.le_of_ble_eq_true rfl) rm_0 (mJ_lca h) ?_
  exact PW.ret dJ0_charAt_5068e_15 h4 rfl
theorem sLn_spec {j : Nat} {x : Int32} (h : sLn j = some x) : j < 4 ∧ iS (nI (skL.getD j 0)) 0 = x := by
  have hj : j < 4 := by
    rcases Nat.lt_or_ge j 4 with a | a
    · exact a
    · unfold sLn at h; rw [show skL[j]? = none from List.getElem?_eq_none a] at h; cases h
  refine ⟨hj, ?_⟩
  have key : ∀ j : Nat, j < 4 → sLn j = some (iS (nI (skL.getD j 0)) 0) := by decide +kernel
  rw [key j hj] at h
  exact Option.some.inj h
theorem mJ_length {K : GK} {hp : PH} {j : Nat} {x : Int32} (h : sLn j = some x) : PM K 3 M_J0_length [.ref (gsK K j)] hp (some (.int x)) hp := by
  obtain ⟨hj, h1⟩ := sLn_spec h
  refine PM.enter (l0 := [(0, .ref (gsK K j))]) (by decide +kernel) rfl (Nat.le_of_ble_eq_true rfl) rfl ?_
  refine PW.aload_n 0 dJ0_length_8abf5_0 rfl rfl ?_
  refine PW.sValue hj dJ0_length_8abf5_1 wd_1285 ?_
  refine PW.sAlen hj dJ0_length_8abf5_4 ?_
  refine PW.aload_n 0 dJ0_length_8abf5_5 rfl rfl ?_
  refine PW.callT (As := []) (rest := [.int (nI (skL.getD j 0))]) (d := 0) hj calB_coder rfl wd_577 wd_578 dJ0_length_8abf5_6 wd_576 rfl rfl (rmLe (by omega)) (Nat.le_of_ble_eq_true rfl) rm_0 (mJ_coder hj) ?_
  refine PW.ishr (x := nI (skL.getD j 0)) (y := 0) (st := []) dJ0_length_8abf5_9 ?_
  rw [h1]
  exact PW.ret dJ0_length_8abf5_10 trivial rfl
section PWS2
variable {K : GK} {R : Room} {cs ss : Nat} {M : MK} {pc : Nat} {l : List (Nat × Value)} {st : List Value} {hp hp' : PH} {v : Option Value}
theorem PW.sLen {j i : Nat} {x : Int32} {rest : List Value} (hd : decode (mC M) pc = .ok (.invokevirtual i, 3)) (hw : Cond.methodLink (mO M) i yJ0_length_8abf5 ∈ TB) (hR : 3 + 1 ≤ R.frames ∧ 41 * 3 + 41 ≤ R.locals) (hrest : (rest.map fun v => v.category).sum ≤ 8) (hcs : cs ≤ R.cells ∧ ss ≤ R.slots) (hg : sLn j = some x) (kk : PW K R cs ss M (pc + 3) l (.int x :: rest) hp v hp') : PW K R cs ss M pc l (.ref (gsK K j) :: rest) hp v hp' :=
  PW.callT (M' := M_J0_length) (As := []) (rest := rest) (sLn_spec hg).1 calB_length rfl wd_573 wd_574 hd hw rfl rfl hR hrest hcs (mJ_length hg) kk
theorem PW.sChr {j i : Nat} {y x : Int32} {rest : List Value} (hd : decode (mC M) pc = .ok (.invokevirtual i, 3)) (hw : Cond.methodLink (mO M) i yJ0_charAt_5068e ∈ TB) (hR : 3 + 1 ≤ R.frames ∧ 41 * 3 + 41 ≤ R.locals) (hrest : (rest.map fun v => v.category).sum ≤ 8) (hcs : cs ≤ R.cells ∧ ss ≤ R.slots) (hg : sCh j y = some x) (kk : PW K R cs ss M (pc + 3) l (.int x :: rest) hp v hp') : PW K R cs ss M pc l (.int y :: .ref (gsK K j) :: rest) hp v hp' :=
  PW.callT (M' := M_J0_charAt) (As := [.int y]) (rest := rest) (sCh_spec hg).1 calB_charAt rfl wd_583 wd_584 hd hw rfl rfl hR hrest hcs (mJ_charAt hg) kk
end PWS2
