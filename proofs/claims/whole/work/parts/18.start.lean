/-! THE CLAIM OUT OF ONE WALK OF THE LAW'S BODY. Your part is whole_start (and what it stands on); all else here is the same for every law, but numbers. -/
def R_law : String := "AgesTensLaw"
def lw_P (b : Addr) (xs : List Int32) (args : Array Value) (s : State) : Prop := args = #[.ref b] ∧ s.IntsAt b xs ∧ xs.length ≤ 2560 ∧ (Jvm.Cond.and given_1 narrow_1).before args s = true
def lw_Q (_ : Array Value) (s : State) (o : Outcome) (t : State) : Prop := o = .returned (some (.int 1)) ∧ Framed s o t [] 600000 7302250
def lw_Z (below : List Frame) (a : Array Value) (s : State) : State → Prop := fun t => ∃ o, t.status = .running ∧ Ended t below o ∧ lw_Q a s o t
/-- the law's own end, with 1 on the stack, nothing written that was there before, its room as the claim has it -/
theorem lw_ret {p : Program} {l : Launch} {e : Env} {s : State} {m : MethodId} {below : List Frame} {meth : Method} {c : Code} {b : Nat} (hx : p.tables.exec = Jvm.exec) (hb : c.code = code) (hr : meth.sig.returnType = ret) (hlocks : meth.locks = false) {pc : Nat} {H : Heap} {ls : Array Slot} (hdg : decode code pc = .ok (.ireturn, 1)) : W p l e room_1 s m #[Value.ref b] below meth c H [] 600000 7302250 (lw_Z below #[Value.ref b] s) (F0 m pc ls [.int 1]) := by
  intro T hT X
  obtain ⟨fs, hret, hrun, hended, hW, hframe⟩ := X.leave (v := some (.int 1)) (hlocks := hlocks) (fun h => by rw [hr] at h; cases h)
  have hmeth' : T.vm.method? m = some meth := X.method'
  refine ⟨T.setFrames fs, ?_, .returned (some (.int 1)), hrun, hended, rfl, ⟨_, rfl⟩, hW, hframe⟩
  jvm_step X.here [X.here.top, hx, hb, hdg, hmeth', hr, ret, narrow_b1]
  (try refine ⟨rfl, ?_⟩); (try refine ⟨rfl, ?_⟩)
  first | (intro acts; rw [hret _ acts rfl rfl rfl]) | rw [hret _ _ rfl rfl rfl]
  exact Steps.refl _
/-- what holds at the law's entry: the machine, the code, the tables' words (any of lw_tbl by 'hts w (by decide +kernel)'), the script of L ints xs at the cell b, what the Statement gives of the start (any of its parts by flat_of_before) -/
def lw_At (p : Program) (s : State) (m : MethodId) (meth : Method) (c : Code) (b L : Nat) (xs : Nat → Int32) : Prop :=
  p.tables.exec = Jvm.exec ∧ c.code = code ∧ meth.sig.returnType = ret ∧ c.maxLocals = 4 ∧ s.vm.findClass R_law = some m.cls ∧ (∀ w ∈ lw_tbl, w.before #[Value.ref b] s = true) ∧ va_X b L xs s s.heap ∧ b < s.heap.size ∧ meth.locks = false ∧ (Jvm.Cond.and given_1 narrow_1).before #[Value.ref b] s = true
abbrev ct1 : Cond := Jvm.Cond.and given_1 narrow_1
abbrev tMP : Term := .static "AgesTens$Calendar" "MONTH_PLACES" "[I"
abbrev tSt (i : Nat) : Term := .string "AgesTens$Reader" (skI i)
abbrev tVa (i : Nat) : Term := .field (tSt i) "java/lang/String" "value" "[B"
theorem s_len : Cond.eq (.length tMP) (.int (Int32.ofNat 13)) ∈ flatC ct1 := by decide +kernel
theorem s_arr : Cond.arrayOf tMP .int ∈ flatC ct1 := by decide +kernel
theorem s_el : ∀ j, j < 13 → Cond.eq (.elem tMP (.int (Int32.ofNat j))) (.int (mpF j)) ∈ flatC ct1 := by decide +kernel
theorem s_cs : Cond.eq (.static "java/lang/String" "COMPACT_STRINGS" "Z") (.int 1) ∈ flatC ct1 := by decide +kernel
theorem s_si : Cond.isRef (.static "jdk/internal/util/Preconditions" "SIOOBE_FORMATTER" "Ljava/util/function/BiFunction;") ∈ flatC ct1 := by decide +kernel
theorem s_ex : ∀ i, i < 4 → Cond.exactly (tSt i) "java/lang/String" ∈ flatC ct1 := by decide +kernel
theorem s_co : ∀ i, i < 4 → Cond.eq (.field (tSt i) "java/lang/String" "coder" "B") (.int 0) ∈ flatC ct1 := by decide +kernel
theorem s_ar : ∀ i, i < 4 → Cond.arrayOf (tVa i) .byte ∈ flatC ct1 := by decide +kernel
theorem s_le : ∀ i, i < 4 → Cond.eq (.length (tVa i)) (.int (Int32.ofNat (skL.getD i 0))) ∈ flatC ct1 := by decide +kernel
theorem s_be : ∀ i, i < 4 → ∀ j, j < skL.getD i 0 → Cond.eq (.elem (tVa i) (.int (Int32.ofNat j))) (.int ((skB.getD i []).getD j 0)) ∈ flatC ct1 := by decide +kernel
theorem s_ne : ∀ i, i < 4 → ∀ j, j < 4 → i ≠ j → (Cond.not (Cond.eq (tSt i) (tSt j)) ∈ flatC ct1 ∨ Cond.not (Cond.eq (tSt j) (tSt i)) ∈ flatC ct1) := by decide +kernel
theorem w_ls : Cond.laysStatic "AgesTens$Calendar" "MONTH_PLACES" "[I" ∈ lw_tbl := (List.mem_of_getElem? (i := 385) (by decide +kernel))
theorem w_lc : Cond.laysStatic "java/lang/String" "COMPACT_STRINGS" "Z" ∈ lw_tbl := (List.mem_of_getElem? (i := 581) (by decide +kernel))
theorem w_lq : Cond.laysStatic "jdk/internal/util/Preconditions" "SIOOBE_FORMATTER" "Ljava/util/function/BiFunction;" ∈ lw_tbl := (List.mem_of_getElem? (i := 597) (by decide +kernel))
theorem w_ao : Cond.arrayOver (.object "AgesTens$State") ∈ lw_tbl := (List.mem_of_getElem? (i := 214) (by decide +kernel))
theorem w_sr0 : Cond.stringRef "AgesTens$Reader" 46 "person" ∈ lw_tbl := (List.mem_of_getElem? (i := 567) (by decide +kernel))
theorem w_sr1 : Cond.stringRef "AgesTens$Reader" 55 "gate" ∈ lw_tbl := (List.mem_of_getElem? (i := 631) (by decide +kernel))
theorem w_sr2 : Cond.stringRef "AgesTens$Reader" 60 "with" ∈ lw_tbl := (List.mem_of_getElem? (i := 637) (by decide +kernel))
theorem w_sr3 : Cond.stringRef "AgesTens$Reader" 69 "apart" ∈ lw_tbl := (List.mem_of_getElem? (i := 643) (by decide +kernel))
theorem w_ns0 : (Jvm.Cond.methodLinkNest "AgesTens" (9 : Nat) ({ cls := "AgesTens$State", name := "<init>", desc := "()V" } : Jvm.MethodName) "AgesTens") ∈ lw_tbl := (List.mem_of_getElem? (i := 84) (by decide +kernel))
theorem w_ns1 : (Jvm.Cond.methodLinkNest "AgesTens$State" (9 : Nat) ({ cls := "AgesTens$Roll", name := "<init>", desc := "()V" } : Jvm.MethodName) "AgesTens") ∈ lw_tbl := (List.mem_of_getElem? (i := 90) (by decide +kernel))
theorem w_ns2 : (Jvm.Cond.methodLinkNest "AgesTens$State" (18 : Nat) ({ cls := "AgesTens$Book", name := "<init>", desc := "()V" } : Jvm.MethodName) "AgesTens") ∈ lw_tbl := (List.mem_of_getElem? (i := 145) (by decide +kernel))
theorem w_ns3 : (Jvm.Cond.methodLinkNest "AgesTens$State" (31 : Nat) ({ cls := "AgesTens$Passings", name := "<init>", desc := "()V" } : Jvm.MethodName) "AgesTens") ∈ lw_tbl := (List.mem_of_getElem? (i := 161) (by decide +kernel))
theorem w_ns4 : (Jvm.Cond.methodLinkNest "AgesTens" (26 : Nat) ({ cls := "AgesTens$Roll", name := "<init>", desc := "()V" } : Jvm.MethodName) "AgesTens") ∈ lw_tbl := (List.mem_of_getElem? (i := 216) (by decide +kernel))
set_option maxRecDepth 100000 in
set_option maxHeartbeats 4000000 in
theorem world0 {p : Program} {s : State} {m : MethodId} {meth : Method} {c : Code} (l : Launch) {b L : Nat} {xs : Nat → Int32} (C0 : lw_At p s m meth c b L xs) :
    ∃ K : GK, gl K = l ∧ ga K = rB s.heap.size ∧ gb K = b ∧ gL K = L ∧ gx K = xs ∧ FX K s s.heap ∧ GA K s := by
  obtain ⟨hx, hb, hr, hml, hown, hts, hX, hbl, hlocks, hgv⟩ := C0
  have hs := flat_of_before _ hgv
  have htB : ∀ w ∈ TB, w.before #[Value.ref b] s = true := fun w hw => hts w (List.mem_filter.mp hw).1
  obtain ⟨c0, e0, k0⟩ := u_known (C := RX0) (T := TX0) (N := 2) (n := 2) htB cls_X0.2 (htB _ wd_144)
  obtain ⟨c1, e1, k1⟩ := u_known (C := RX2) (T := TX2) (N := 6) (n := 6) htB cls_X2.2 (htB _ wd_301)
  obtain ⟨c2, e2, k2⟩ := u_known (C := RX3) (T := TX3) (N := 3) (n := 3) htB cls_X3.2 (htB _ wd_243)
  obtain ⟨c3, e3, k3⟩ := u_known (C := RX4) (T := TX4) (N := 6) (n := 6) htB cls_X4.2 (htB _ wd_259)
  obtain ⟨c4, e4, k4⟩ := u_known (C := RX5) (T := TX5) (N := 6) (n := 6) htB cls_X5.2 (htB _ wd_160)
  obtain ⟨c5, e5, k5⟩ := u_known (C := RX6) (T := TX6) (N := 6) (n := 6) htB cls_X6.2 (htB _ wd_218)
  obtain ⟨c6, e6, k6⟩ := u_known (C := RX7) (T := TX7) (N := 9) (n := 9) htB cls_X7.2 (htB _ wd_89)
  obtain ⟨c7, e7, k7⟩ := u_known (C := RX8) (T := TX8) (N := 4) (n := 4) htB cls_X8.2 (htB _ wd_83)
  obtain ⟨c8, e8, k8⟩ := u_known (C := RX9) (T := TX9) (N := 2) (n := 2) htB cls_X9.2 (htB _ wd_287)
  obtain ⟨c9, e9, k9⟩ := u_known (C := RX10) (T := TX10) (N := 14) (n := 14) htB cls_X10.2 (htB _ wd_75)
  obtain ⟨c10, e10, k10⟩ := u_known (C := RX11) (T := TX11) (N := 27) (n := 27) htB cls_X11.2 (htB _ wd_890)
  have hKc : ∀ (k : Nat) (q : vw_C), vwCl[k]? = some q → u_Kn s q.1 q.2.1 q.2.2 ([c0, c1, c2, c3, c4, c5, c6, c7, c8, c9, c10].getD k 0) ([e0, e1, e2, e3, e4, e5, e6, e7, e8, e9, e10].getD k (fun _ => 0)) := by
    intro k q hq
    match k, hq with
    | 0, hq => cases hq; exact k0
    | 1, hq => cases hq; exact k1
    | 2, hq => cases hq; exact k2
    | 3, hq => cases hq; exact k3
    | 4, hq => cases hq; exact k4
    | 5, hq => cases hq; exact k5
    | 6, hq => cases hq; exact k6
    | 7, hq => cases hq; exact k7
    | 8, hq => cases hq; exact k8
    | 9, hq => cases hq; exact k9
    | 10, hq => cases hq; exact k10
    | k + 11, hq => simp [vwCl] at hq
  obtain ⟨cI, kI, pI, i1, i2, i3⟩ := Cond.arrayClass_spec (htB _ wa_i)
  obtain ⟨cZ, kZ, pZ, z1, z2, z3⟩ := Cond.arrayClass_spec (htB _ wa_z)
  obtain ⟨cJ, kJ, pJ, j1, j2, j3⟩ := Cond.arrayClass_spec (htB _ wa_j)
  obtain ⟨cP, cS, kS, s1, s2, s3, s4, s5⟩ := Cond.arrayOver_spec (hts _ w_ao)
  have hA : ∀ a : Nat, a < s.heap.size → ¬ (fun q => ∃ k, k < NC ∧ q = rB s.heap.size k) a := by
    rintro a ha ⟨k, -, e⟩
    have e' : a = s.heap.size + k := e
    omega
  obtain ⟨mp, hmp, hT⟩ := va_Tof (tm := tMP) (f := fun j => .int (mpF j)) (by decide) (hs _ s_arr) (va_eqt (hs _ s_len)) (fun j hj => va_eqt (hs _ (s_el j hj))) hA
  have hZ := va_Zref (hts _ w_ls) (htB _ wd_66) hmp hA
  have hC := va_Zof (hts _ w_lc) (htB _ wd_68) (va_eqi (hs _ s_cs)) hA
  have hQ := va_Zqof (hts _ w_lq) (htB _ wd_70) (hs _ s_si) hA
  obtain ⟨adK, adV, hS, hev⟩ := vk_Sof (N := 4) (tm := tSt) (len := skL) (byt := skB) (by decide +kernel) (fun i hi => hs _ (s_ex i hi)) (fun i hi => hs _ (s_co i hi)) (fun i hi => hs _ (s_ar i hi)) (fun i hi => hs _ (s_le i hi)) (fun i hi j hj => hs _ (s_be i hi j hj)) (fun i j hi hj hij => (s_ne i hi j hj hij).imp (fun h => hs _ h) (fun h => hs _ h)) hA
  have hKK : ∀ D2 : GK, gD D2 = (fun k => [c0, c1, c2, c3, c4, c5, c6, c7, c8, c9, c10].getD k 0, fun k => [e0, e1, e2, e3, e4, e5, e6, e7, e8, e9, e10].getD k (fun _ => 0)) → gC D2 = (fun k => [cI, cZ, cJ, cS].getD k 0) → va_K (gD D2) vwCl (tyK D2) s := by
    intro D2 e1 e2
    refine ⟨fun k q hq => ?_, fun k q hk => ?_⟩
    · rw [e1]; exact hKc k q hq
    · unfold tyK at hk
      rw [e2] at hk
      match k, hk with
      | 0, hk => cases hk; exact ⟨fun n z => ⟨(fun k h => by cases h), kI, i2, pI, i3⟩, i1⟩
      | 1, hk => cases hk; exact ⟨fun n z => ⟨(fun k h => by cases h), kZ, z2, pZ, z3⟩, z1⟩
      | 2, hk => cases hk; exact ⟨fun n z => ⟨(fun k h => by cases h), kJ, j2, pJ, j3⟩, j1⟩
      | 3, hk => cases hk; exact ⟨fun n z => ⟨(fun k h => by cases h), kS, s3, cP, s4⟩, ⟨kS, cP, s3, s4, s1, s5⟩⟩
      | k + 4, hk => simp at hk
  have hXT : va_T .int b L (fun j => .int (xs j)) (fun q => ∃ k, k < NC ∧ q = rB s.heap.size k) s s.heap := by
    obtain ⟨scr, a1, a2, a3, a4, a5⟩ := hX
    exact ⟨scr, a1, a2, a3, by omega, (by rw [a4] <;> rfl), a5, hA b hbl⟩
  refine ⟨(l, (fun k => [c0, c1, c2, c3, c4, c5, c6, c7, c8, c9, c10].getD k 0, fun k => [e0, e1, e2, e3, e4, e5, e6, e7, e8, e9, e10].getD k (fun _ => 0)), (fun k => [cI, cZ, cJ, cS].getD k 0), rB s.heap.size, (mp, b, L, xs), (adK, adV)), rfl, rfl, rfl, rfl, rfl, ?_, ?_⟩
  · exact ⟨hKK _ rfl rfl, fun i j _ _ e => Nat.add_left_cancel e, hZ, hT, hS, hXT, ⟨vk_R.of (hts _ w_sr0) (hev 0 (by decide)), vk_R.of (hts _ w_sr1) (hev 1 (by decide)), vk_R.of (hts _ w_sr2) (hev 2 (by decide)), vk_R.of (hts _ w_sr3) (hev 3 (by decide))⟩, hC, hQ⟩
  · refine ⟨hKK _ rfl rfl, va_AO.of (hts _ w_ao), fun w hw => ?_⟩
    simp only [nsts, List.mem_cons, List.not_mem_nil, or_false] at hw
    rcases hw with rfl | rfl | rfl | rfl | rfl
    · exact va_Nw.of rfl (hts _ w_ns0)
    · exact va_Nw.of rfl (hts _ w_ns1)
    · exact va_Nw.of rfl (hts _ w_ns2)
    · exact va_Nw.of rfl (hts _ w_ns3)
    · exact va_Nw.of rfl (hts _ w_ns4)
def hp0 : PH := fun k => T0.getD k (.inr (0, []))
theorem wsO_T {B : Nat} {aC : Nat → Nat} : wsO (rB B) aC hp0 = wsT B aC T0 := by
  apply List.ext_getElem?
  intro j
  have hl : T0.length = NC := rfl
  by_cases hj : j < NC
  · rw [wsO_get _ _ _ hj]
    have hg : T0[j]? = some (hp0 j) := by
      unfold hp0
      rw [List.getD_eq_getElem?_getD, List.getElem?_eq_getElem (by rw [hl]; exact hj)]
      rfl
    rw [wsT_get hg]
    rfl
  · rw [List.getElem?_eq_none (by simpa [wsO] using Nat.le_of_not_lt hj), List.getElem?_eq_none (by simp [wsT, hl]; exact Nat.le_of_not_lt hj)]
