theorem cls_in {ws : List Cond} (h : ws.all (fun w => decide (w ∈ lw_tbl) && goodWord w) = true) : ∀ w ∈ ws, w ∈ TB := by
  intro w hw
  have h1 := List.all_eq_true.mp h w hw
  simp only [Bool.and_eq_true, decide_eq_true_eq] at h1
  exact List.mem_filter.mpr h1
theorem rmLe {d' d : Nat} (h : d' + 1 ≤ d) : d' + 1 ≤ (rmD d).frames ∧ 41 * d' + 41 ≤ (rmD d).locals := ⟨h, by show 41 * d' + 41 ≤ 41 * d; omega⟩
theorem rm_0 {d : Nat} : 0 ≤ (rmD d).cells ∧ 0 ≤ (rmD d).slots := ⟨Nat.zero_le _, Nat.zero_le _⟩
/-- the receiver of a call is an object of that class -/
def vC {α : Type} (hp : PH) (k ci : Nat) (r : Option α) : Option α := match hp k with
  | .inl _ => none
  | .inr o => if k < NC ∧ o.1 = ci then r else none
theorem vC_spec {α : Type} {hp : PH} {k ci : Nat} {r : Option α} {q : α} (h : vC hp k ci r = some q) : k < NC ∧ (∃ fs, hp k = .inr (ci, fs)) ∧ r = some q := by
  unfold vC at h
  cases hh : hp k with
  | inl a => rw [hh] at h; cases h
  | inr o =>
    rw [hh] at h
    dsimp only at h
    by_cases hc : k < NC ∧ o.1 = ci
    · rw [if_pos hc] at h
      obtain ⟨h1, rfl⟩ := hc
      exact ⟨h1, ⟨o.2, rfl⟩, h⟩
    · rw [if_neg hc] at h; cases h
def zR (x : Int32) : Option Int32 := if x = 0 ∨ x = 1 then some x else none
theorem zR_spec {x r : Int32} (h : zR x = some r) : (x = 0 ∨ x = 1) ∧ x = r := by
  unfold zR at h
  by_cases hx : x = 0 ∨ x = 1
  · rw [if_pos hx] at h; exact ⟨hx, Option.some.inj h⟩
  · rw [if_neg hx] at h; cases h
theorem sw_ne {x k : Int32} (h : ¬ x = k) : ¬ x.toInt = k.toInt := fun q => h (Int32.toInt_inj.mp q)
theorem sw_out3 {x : Int32} (h0 : ¬ x.toInt = (0 : Int32).toInt) (h1 : ¬ x.toInt = (1 : Int32).toInt) (h2 : ¬ x.toInt = (2 : Int32).toInt) : x.toInt < 0 ∨ 2 < x.toInt := by
  have e0 : (0 : Int32).toInt = 0 := by decide
  have e1 : (1 : Int32).toInt = 1 := by decide
  have e2 : (2 : Int32).toInt = 2 := by decide
  rw [e0] at h0; rw [e1] at h1; rw [e2] at h2
  omega
theorem sw_out4 {x : Int32} (h0 : ¬ x.toInt = (0 : Int32).toInt) (h1 : ¬ x.toInt = (1 : Int32).toInt) (h2 : ¬ x.toInt = (2 : Int32).toInt) (h3 : ¬ x.toInt = (3 : Int32).toInt) : x.toInt < 0 ∨ 3 < x.toInt := by
  have e0 : (0 : Int32).toInt = 0 := by decide
  have e1 : (1 : Int32).toInt = 1 := by decide
  have e2 : (2 : Int32).toInt = 2 := by decide
  have e3 : (3 : Int32).toInt = 3 := by decide
  rw [e0] at h0; rw [e1] at h1; rw [e2] at h2; rw [e3] at h3
  omega
section PWR2
variable {K : GK} {R : Room} {cs ss : Nat} {M : MK} {pc : Nat} {l : List (Nat × Value)} {st : List Value} {hp hp' : PH} {v : Option Value}
theorem PW.idivQ {x y q : Int32} (hd : decode (mC M) pc = .ok (.idiv, 1)) (hq : dvI x y = some q) (kk : PW K R cs ss M (pc + 1) l (.int q :: st) hp v hp') : PW K R cs ss M pc l (.int y :: .int x :: st) hp v hp' := by
  unfold dvI at hq
  by_cases h : y = 0
  · rw [if_pos h] at hq; cases hq
  · rw [if_neg h] at hq
    cases hq
    exact PW.idiv hd h kk
theorem PW.iremQ {x y q : Int32} (hd : decode (mC M) pc = .ok (.irem, 1)) (hq : rmI x y = some q) (kk : PW K R cs ss M (pc + 1) l (.int q :: st) hp v hp') : PW K R cs ss M pc l (.int y :: .int x :: st) hp v hp' := by
  unfold rmI at hq
  by_cases h : y = 0
  · rw [if_pos h] at hq; cases hq
  · rw [if_neg h] at hq
    cases hq
    exact PW.irem hd h kk
theorem PW.tabE {dflt lo hi : Int} {offs : Array Int} {len : Nat} {x k : Int32} {off : Int} {tgt : Nat} (hx : x = k) (hd : decode (mC M) pc = .ok (.tableswitch dflt lo hi offs, len)) (h1 : ¬ k.toInt < lo) (h2 : ¬ hi < k.toInt) (ho : offs[(k.toInt - lo).toNat]? = some off) (ht : (pc : Int) + off = (tgt : Int)) (kk : PW K R cs ss M tgt l st hp v hp') : PW K R cs ss M pc l (.int x :: st) hp v hp' := by
  subst hx
  exact PW.tabIn hd h1 h2 ho ht kk
theorem PW.ldcw {i : Nat} {x : Int32} (hd : decode (mC M) pc = .ok (.ldc_w i, 3)) (hw : Cond.constant (mO M) i x ∈ TB) (kk : PW K R cs ss M (pc + 3) l (.int x :: st) hp v hp') : PW K R cs ss M pc l st hp v hp' := by
  intro p e s m args below meth c C Z hr H locs ls hP hS hv
  exact lv_ldcw C.1 C.2.1 C.2.2.2.1 (C.2.2.2.2.1 _ hw) hd (kk p e s m args below meth c C Z hr H locs ls hP hS hv)
theorem PW.callVi {M' : MK} {d n ci k i : Nat} {As rest : List Value} {r : Int32} {hp1 : PH} (hcal : CalV M' n ci) (hd : decode (mC M) pc = .ok (.invokevirtual i, 3)) (hw : Cond.methodLink (mO M) i (mY M') ∈ TB) (hs : st = As.reverse ++ .ref (ga K k) :: rest) (hn : As.length = n) (hR : d + 1 ≤ R.frames ∧ 41 * d + 41 ≤ R.locals) (hrest : (rest.map fun v => v.category).sum ≤ 8) (hcs : cs ≤ R.cells ∧ ss ≤ R.slots) (hk : k < NC) (hcell : ∃ fs, hp k = .inr (ci, fs)) (hM : PM K d M' (.ref (ga K k) :: As) hp (some (.int r)) hp1) (kk : PW K R cs ss M (pc + 3) l (.int r :: rest) hp1 v hp') : PW K R cs ss M pc l st hp v hp' := PW.callV hcal hd hw hs hn hR hrest hcs hk hcell hM kk
theorem PW.callVl {M' : MK} {d n ci k i : Nat} {As rest : List Value} {r : Int64} {hp1 : PH} (hcal : CalV M' n ci) (hd : decode (mC M) pc = .ok (.invokevirtual i, 3)) (hw : Cond.methodLink (mO M) i (mY M') ∈ TB) (hs : st = As.reverse ++ .ref (ga K k) :: rest) (hn : As.length = n) (hR : d + 1 ≤ R.frames ∧ 41 * d + 41 ≤ R.locals) (hrest : (rest.map fun v => v.category).sum ≤ 8) (hcs : cs ≤ R.cells ∧ ss ≤ R.slots) (hk : k < NC) (hcell : ∃ fs, hp k = .inr (ci, fs)) (hM : PM K d M' (.ref (ga K k) :: As) hp (some (.long r)) hp1) (kk : PW K R cs ss M (pc + 3) l (.long r :: rest) hp1 v hp') : PW K R cs ss M pc l st hp v hp' := PW.callV hcal hd hw hs hn hR hrest hcs hk hcell hM kk
theorem PW.callVv {M' : MK} {d n ci k i : Nat} {As rest : List Value} {hp1 : PH} (hcal : CalV M' n ci) (hd : decode (mC M) pc = .ok (.invokevirtual i, 3)) (hw : Cond.methodLink (mO M) i (mY M') ∈ TB) (hs : st = As.reverse ++ .ref (ga K k) :: rest) (hn : As.length = n) (hR : d + 1 ≤ R.frames ∧ 41 * d + 41 ≤ R.locals) (hrest : (rest.map fun v => v.category).sum ≤ 8) (hcs : cs ≤ R.cells ∧ ss ≤ R.slots) (hk : k < NC) (hcell : ∃ fs, hp k = .inr (ci, fs)) (hM : PM K d M' (.ref (ga K k) :: As) hp none hp1) (kk : PW K R cs ss M (pc + 3) l rest hp1 v hp') : PW K R cs ss M pc l st hp v hp' := PW.callV hcal hd hw hs hn hR hrest hcs hk hcell hM kk
theorem PW.callSi {M' : MK} {d n i : Nat} {As rest : List Value} {r : Int32} {hp1 : PH} (hcal : CalS M' n) (hd : decode (mC M) pc = .ok (.invokestatic i, 3)) (hw : Cond.methodLink (mO M) i (mY M') ∈ TB) (hs : st = As.reverse ++ rest) (hn : As.length = n) (hR : d + 1 ≤ R.frames ∧ 41 * d + 41 ≤ R.locals) (hrest : (rest.map fun v => v.category).sum ≤ 8) (hcs : cs ≤ R.cells ∧ ss ≤ R.slots) (hM : PM K d M' As hp (some (.int r)) hp1) (kk : PW K R cs ss M (pc + 3) l (.int r :: rest) hp1 v hp') : PW K R cs ss M pc l st hp v hp' := PW.callS hcal hd hw hs hn hR hrest hcs hM kk
end PWR2
theorem rm_fr {d : Nat} : 1 ≤ (rmD (d + 1)).frames := Nat.le_add_left 1 d
theorem rm_lo {d : Nat} : (([] : List Value).map fun v => v.category).sum + (nativeFrameWords "java/lang/System" "arraycopy" 5 + 11) ≤ (rmD (d + 1)).locals := Nat.le_trans (show _ ≤ 41 by decide +kernel) (by show 41 ≤ 41 * (d + 1); omega)
theorem rm_lo1 {d : Nat} {st : List Value} (h : (st.map fun v => v.category).sum ≤ 28) : (st.map fun v => v.category).sum + 13 ≤ (rmD (d + 1)).locals := by
  show _ ≤ 41 * (d + 1); omega
def sLn (j : Nat) : Option Int32 := (skL[j]?).map nI
def sCh (j : Nat) (i : Int32) : Option Int32 := if ¬ i < 0 then (match skB[j]? with
  | some bs => bs[i.toNatClampNeg]?
  | none => none) else none
section PWR3
variable {K : GK} {R : Room} {cs ss : Nat} {M : MK} {pc : Nat} {l : List (Nat × Value)} {st : List Value} {hp hp' : PH} {v : Option Value}
theorem PW.ldcS {j i : Nat} (hd : decode (mC M) pc = .ok (.ldc i, 2)) (hi : j < 4 ∧ i = skI j ∧ mO M = "AgesTens$Reader") (kk : PW K R cs ss M (pc + 2) l (.ref (gsK K j) :: st) hp v hp') : PW K R cs ss M pc l st hp v hp' := by
  intro p e s m args below meth c C Z hr H locs ls hP hS hv
  obtain ⟨h1, rfl, h3⟩ := hi
  have hR := C.2.2.2.2.2.2.2.2.2.2.2.1
  have hown := C.2.2.2.1
  rw [h3] at hown
  rcases lt_four j h1 with rfl | rfl | rfl | rfl
  · exact va_ldcS C.1 C.2.1 hown hR.1 hd (kk p e s m args below meth c C Z hr H locs ls hP hS hv)
  · exact va_ldcS C.1 C.2.1 hown hR.2.1 hd (kk p e s m args below meth c C Z hr H locs ls hP hS hv)
  · exact va_ldcS C.1 C.2.1 hown hR.2.2.1 hd (kk p e s m args below meth c C Z hr H locs ls hP hS hv)
  · exact va_ldcS C.1 C.2.1 hown hR.2.2.2 hd (kk p e s m args below meth c C Z hr H locs ls hP hS hv)
end PWR3
def NN : Nat := 200000
abbrev M_X0_append : MK := (RX0, cX0_append, 5, (some .int), yX0_append)
abbrev M_X0_at : MK := (RX0, cX0_at, 2, (some .int), yX0_at)
abbrev M_X0_copyFrom : MK := (RX0, cX0_copyFrom, 2, none, yX0_copyFrom)
abbrev M_X1_isDay : MK := (RX1, cX1_isDay, 1, (some .boolean), yX1_isDay)
abbrev M_X1_isYear : MK := (RX1, cX1_isYear, 1, (some .boolean), yX1_isYear)
abbrev M_X1_placeOfMonth : MK := (RX1, cX1_placeOfMonth, 1, (some .int), yX1_placeOfMonth)
abbrev M_X1_isLeap : MK := (RX1, cX1_isLeap, 1, (some .boolean), yX1_isLeap)
abbrev M_X1_daysOfMonth : MK := (RX1, cX1_daysOfMonth, 3, (some .int), yX1_daysOfMonth)
abbrev M_X1_has : MK := (RX1, cX1_has, 3, (some .boolean), yX1_has)
abbrev M_X1_firstDayOf : MK := (RX1, cX1_firstDayOf, 3, (some .int), yX1_firstDayOf)
abbrev M_X1_dayInYear : MK := (RX1, cX1_dayInYear, 3, (some .int), yX1_dayInYear)
abbrev M_X1_numberOf : MK := (RX1, cX1_numberOf, 3, (some .int), yX1_numberOf)
abbrev M_X1_yearOf : MK := (RX1, cX1_yearOf, 3, (some .int), yX1_yearOf)
abbrev M_X1_placeOf : MK := (RX1, cX1_placeOf, 3, (some .int), yX1_placeOf)
abbrev M_X1_monthOf : MK := (RX1, cX1_monthOf, 2, (some .int), yX1_monthOf)
abbrev M_X2_begin : MK := (RX2, cX2_begin, 5, none, yX2_begin)
abbrev M_X2_freeWays : MK := (RX2, cX2_freeWays, 4, (some .int), yX2_freeWays)
abbrev M_X2_neededFigure : MK := (RX2, cX2_neededFigure, 5, (some .int), yX2_neededFigure)
abbrev M_X2_weighFigures : MK := (RX2, cX2_weighFigures, 5, none, yX2_weighFigures)
abbrev M_X2_countBehind : MK := (RX2, cX2_countBehind, 4, (some .int), yX2_countBehind)
abbrev M_X2_countFrom : MK := (RX2, cX2_countFrom, 5, (some .int), yX2_countFrom)
abbrev M_X2_countAll : MK := (RX2, cX2_countAll, 1, (some .int), yX2_countAll)
abbrev M_X2_countWith : MK := (RX2, cX2_countWith, 3, (some .int), yX2_countWith)
abbrev M_X2_pick : MK := (RX2, cX2_pick, 8, (some .int), yX2_pick)
abbrev M_X7_yearsOf : MK := (RX7, cX7_yearsOf, 5, (some .int), yX7_yearsOf)
abbrev M_X3_standOn : MK := (RX3, cX3_standOn, 4, none, yX3_standOn)
abbrev M_J6_bitCount_0f7a4 : MK := (RJ6, cJ6_bitCount_0f7a4, 1, (some .int), yJ6_bitCount_0f7a4)
abbrev M_X3_lastingReason : MK := (RX3, cX3_lastingReason, 6, (some .int), yX3_lastingReason)
abbrev M_X3_yearsTogether : MK := (RX3, cX3_yearsTogether, 4, (some .int), yX3_yearsTogether)
abbrev M_X3_isSquare : MK := (RX3, cX3_isSquare, 2, (some .boolean), yX3_isSquare)
abbrev M_X3_isUnlike : MK := (RX3, cX3_isUnlike, 4, (some .boolean), yX3_isUnlike)
abbrev M_X3_isLawful : MK := (RX3, cX3_isLawful, 3, (some .boolean), yX3_isLawful)
abbrev M_X3_reason : MK := (RX3, cX3_reason, 4, (some .int), yX3_reason)
abbrev M_X7_birthdayBehind : MK := (RX7, cX7_birthdayBehind, 5, (some .int), yX7_birthdayBehind)
abbrev M_X3_changeBehind : MK := (RX3, cX3_changeBehind, 6, (some .int), yX3_changeBehind)
abbrev M_X3_firstDay : MK := (RX3, cX3_firstDay, 6, (some .int), yX3_firstDay)
abbrev M_X3_daysOfYear : MK := (RX3, cX3_daysOfYear, 9, (some .int), yX3_daysOfYear)
abbrev M_X4_leastCost : MK := (RX4, cX4_leastCost, 7, (some .int), yX4_leastCost)
abbrev M_X4_weigh : MK := (RX4, cX4_weigh, 4, none, yX4_weigh)
abbrev M_X4_leastBestCompany : MK := (RX4, cX4_leastBestCompany, 5, (some .int), yX4_leastBestCompany)
abbrev M_X4_deal : MK := (RX4, cX4_deal, 6, none, yX4_deal)
abbrev M_X4_leavesNobody : MK := (RX4, cX4_leavesNobody, 3, (some .boolean), yX4_leavesNobody)
abbrev M_X4_firstDayForBoth : MK := (RX4, cX4_firstDayForBoth, 8, (some .int), yX4_firstDayForBoth)
abbrev M_X5_append : MK := (RX5, cX5_append, 4, (some .int), yX5_append)
abbrev M_X5_drop : MK := (RX5, cX5_drop, 2, (some .int), yX5_drop)
abbrev M_X5_allow : MK := (RX5, cX5_allow, 3, (some .int), yX5_allow)
abbrev M_X5_copyFrom : MK := (RX5, cX5_copyFrom, 2, none, yX5_copyFrom)
abbrev M_X7_empty : MK := (RX7, cX7_empty, 1, none, yX7_empty)
abbrev M_X6_kindOf : MK := (RX6, cX6_kindOf, 1, (some .int), yX6_kindOf)
abbrev M_X6_takeToken : MK := (RX6, cX6_takeToken, 1, none, yX6_takeToken)
abbrev M_X6_isWord : MK := (RX6, cX6_isWord, 3, (some .boolean), yX6_isWord)
abbrev M_X6_takeNumber : MK := (RX6, cX6_takeNumber, 4, (some .boolean), yX6_takeNumber)
abbrev M_X7_addPerson : MK := (RX7, cX7_addPerson, 2, (some .int), yX7_addPerson)
abbrev M_X6_takePerson : MK := (RX6, cX6_takePerson, 3, (some .boolean), yX6_takePerson)
abbrev M_X7_addGate : MK := (RX7, cX7_addGate, 3, (some .int), yX7_addGate)
abbrev M_X6_takeGate : MK := (RX6, cX6_takeGate, 2, (some .boolean), yX6_takeGate)
abbrev M_X7_tie : MK := (RX7, cX7_tie, 3, (some .boolean), yX7_tie)
abbrev M_X6_takeTie : MK := (RX6, cX6_takeTie, 3, (some .boolean), yX6_takeTie)
abbrev M_X6_takeContent : MK := (RX6, cX6_takeContent, 1, (some .boolean), yX6_takeContent)
abbrev M_X6_takeSemicolon : MK := (RX6, cX6_takeSemicolon, 1, (some .boolean), yX6_takeSemicolon)
abbrev M_X6_takeBook : MK := (RX6, cX6_takeBook, 2, (some .int), yX6_takeBook)
abbrev M_X7_isLaw : MK := (RX7, cX7_isLaw, 1, (some .boolean), yX7_isLaw)
abbrev M_X7_isSeats : MK := (RX7, cX7_isSeats, 1, (some .boolean), yX7_isSeats)
abbrev M_X7_hasPerson : MK := (RX7, cX7_hasPerson, 2, (some .boolean), yX7_hasPerson)
abbrev M_X7_hasGate : MK := (RX7, cX7_hasGate, 2, (some .boolean), yX7_hasGate)
abbrev M_X7_everyone : MK := (RX7, cX7_everyone, 1, (some .int), yX7_everyone)
abbrev M_X7_hasSet : MK := (RX7, cX7_hasSet, 2, (some .boolean), yX7_hasSet)
abbrev M_X7_hasCompany : MK := (RX7, cX7_hasCompany, 2, (some .boolean), yX7_hasCompany)
abbrev M_X7_copyFrom : MK := (RX7, cX7_copyFrom, 2, none, yX7_copyFrom)
abbrev M_X8_copyFrom : MK := (RX8, cX8_copyFrom, 2, none, yX8_copyFrom)
abbrev M_X8_digestFrom : MK := (RX8, cX8_digestFrom, 6, (some .long), yX8_digestFrom)
abbrev M_X9_addOne : MK := (RX9, cX9_addOne, 6, none, yX9_addOne)
abbrev M_X9_countSets : MK := (RX9, cX9_countSets, 4, (some .int), yX9_countSets)
abbrev M_X9_setsOfTens : MK := (RX9, cX9_setsOfTens, 2, (some .long), yX9_setsOfTens)
abbrev M_X10_refuseAs : MK := (RX10, cX10_refuseAs, 3, (some .int), yX10_refuseAs)
abbrev M_X10_refuse : MK := (RX10, cX10_refuse, 2, (some .int), yX10_refuse)
abbrev M_X10_day : MK := (RX10, cX10_day, 4, (some .int), yX10_day)
abbrev M_X10_date : MK := (RX10, cX10_date, 6, (some .int), yX10_date)
abbrev M_X10_person : MK := (RX10, cX10_person, 2, (some .int), yX10_person)
abbrev M_X10_gate : MK := (RX10, cX10_gate, 3, (some .int), yX10_gate)
abbrev M_X10_pair : MK := (RX10, cX10_pair, 5, (some .int), yX10_pair)
abbrev M_X10_age : MK := (RX10, cX10_age, 3, (some .int), yX10_age)
abbrev M_X10_isPlace : MK := (RX10, cX10_isPlace, 3, (some .boolean), yX10_isPlace)
abbrev M_X10_why : MK := (RX10, cX10_why, 4, (some .int), yX10_why)
abbrev M_X10_type : MK := (RX10, cX10_type, 4, (some .int), yX10_type)
abbrev M_X10_clear : MK := (RX10, cX10_clear, 2, (some .int), yX10_clear)
abbrev M_X10_read : MK := (RX10, cX10_read, 2, (some .int), yX10_read)
abbrev M_X10_can : MK := (RX10, cX10_can, 7, (some .int), yX10_can)
abbrev M_X10_over : MK := (RX10, cX10_over, 5, (some .int), yX10_over)
abbrev M_X10_parts : MK := (RX10, cX10_parts, 5, (some .int), yX10_parts)
abbrev M_X10_lent : MK := (RX10, cX10_lent, 9, (some .int), yX10_lent)
abbrev M_X10_worth : MK := (RX10, cX10_worth, 6, (some .int), yX10_worth)
abbrev M_X10_dates : MK := (RX10, cX10_dates, 4, (some .int), yX10_dates)
abbrev M_X10_next : MK := (RX10, cX10_next, 4, (some .int), yX10_next)
abbrev M_X10_wedding : MK := (RX10, cX10_wedding, 5, (some .int), yX10_wedding)
abbrev M_X10_crowd : MK := (RX10, cX10_crowd, 4, (some .int), yX10_crowd)
abbrev M_X10_tens : MK := (RX10, cX10_tens, 2, (some .long), yX10_tens)
abbrev M_X10_spare : MK := (RX10, cX10_spare, 3, (some .int), yX10_spare)
abbrev M_X10_passing : MK := (RX10, cX10_passing, 4, (some .int), yX10_passing)
abbrev M_X10_forget : MK := (RX10, cX10_forget, 1, (some .int), yX10_forget)
abbrev M_X10_liars : MK := (RX10, cX10_liars, 2, (some .int), yX10_liars)
abbrev M_X10_fits : MK := (RX10, cX10_fits, 3, (some .int), yX10_fits)
abbrev M_X10_setFraction : MK := (RX10, cX10_setFraction, 7, none, yX10_setFraction)
abbrev M_X10_untold : MK := (RX10, cX10_untold, 4, (some .int), yX10_untold)
abbrev M_X10_part : MK := (RX10, cX10_part, 2, (some .int), yX10_part)
abbrev M_X10_image : MK := (RX10, cX10_image, 2, (some .int), yX10_image)
abbrev M_X10_from : MK := (RX10, cX10_from, 2, (some .int), yX10_from)
abbrev M_X10_status : MK := (RX10, cX10_status, 2, (some .int), yX10_status)
abbrev M_X10_count : MK := (RX10, cX10_count, 2, (some .int), yX10_count)
abbrev M_X10_digest : MK := (RX10, cX10_digest, 1, (some .long), yX10_digest)
abbrev M_X11_in : MK := (RX11, cX11_in, 6, (some .boolean), yX11_in)
abbrev M_X11_has : MK := (RX11, cX11_has, 2, (some .boolean), yX11_has)
abbrev M_X11_bad : MK := (RX11, cX11_bad, 2, (some .int), yX11_bad)
abbrev M_X11_no : MK := (RX11, cX11_no, 1, (some .int), yX11_no)
abbrev M_X11_full : MK := (RX11, cX11_full, 1, (some .int), yX11_full)
abbrev M_X11_isLeap : MK := (RX11, cX11_isLeap, 1, (some .boolean), yX11_isLeap)
abbrev M_X11_monthLong : MK := (RX11, cX11_monthLong, 2, (some .int), yX11_monthLong)
abbrev M_X11_isDate : MK := (RX11, cX11_isDate, 3, (some .boolean), yX11_isDate)
abbrev M_X11_yearBegin : MK := (RX11, cX11_yearBegin, 3, (some .int), yX11_yearBegin)
abbrev M_X11_numberOf : MK := (RX11, cX11_numberOf, 5, (some .int), yX11_numberOf)
abbrev M_X11_yearOf : MK := (RX11, cX11_yearOf, 2, (some .int), yX11_yearOf)
abbrev M_X11_takeApart : MK := (RX11, cX11_takeApart, 3, none, yX11_takeApart)
abbrev M_X11_isDay : MK := (RX11, cX11_isDay, 1, (some .boolean), yX11_isDay)
abbrev M_X11_day : MK := (RX11, cX11_day, 4, (some .int), yX11_day)
abbrev M_X11_date : MK := (RX11, cX11_date, 3, (some .int), yX11_date)
abbrev M_X11_isPerson : MK := (RX11, cX11_isPerson, 2, (some .boolean), yX11_isPerson)
abbrev M_X11_isGate : MK := (RX11, cX11_isGate, 2, (some .boolean), yX11_isGate)
abbrev M_X11_person : MK := (RX11, cX11_person, 2, (some .int), yX11_person)
abbrev M_X11_gate : MK := (RX11, cX11_gate, 3, (some .int), yX11_gate)
abbrev M_X11_pair : MK := (RX11, cX11_pair, 5, (some .int), yX11_pair)
abbrev M_X11_layBirths : MK := (RX11, cX11_layBirths, 2, none, yX11_layBirths)
abbrev M_X11_layAges : MK := (RX11, cX11_layAges, 4, none, yX11_layAges)
abbrev M_X11_look : MK := (RX11, cX11_look, 2, none, yX11_look)
abbrev M_X11_age : MK := (RX11, cX11_age, 3, (some .int), yX11_age)
abbrev M_X11_bits : MK := (RX11, cX11_bits, 3, (some .int), yX11_bits)
abbrev M_X11_isByLaw : MK := (RX11, cX11_isByLaw, 7, (some .boolean), yX11_isByLaw)
abbrev M_X11_whyNot : MK := (RX11, cX11_whyNot, 7, (some .int), yX11_whyNot)
abbrev M_X11_isCompany : MK := (RX11, cX11_isCompany, 2, (some .boolean), yX11_isCompany)
abbrev M_X11_why : MK := (RX11, cX11_why, 4, (some .int), yX11_why)
abbrev M_X11_type : MK := (RX11, cX11_type, 5, (some .int), yX11_type)
abbrev M_X11_clear : MK := (RX11, cX11_clear, 2, (some .int), yX11_clear)
abbrev M_X11_byteAt : MK := (RX11, cX11_byteAt, 2, (some .int), yX11_byteAt)
abbrev M_X11_nextToken : MK := (RX11, cX11_nextToken, 1, none, yX11_nextToken)
abbrev M_X11_isNumber : MK := (RX11, cX11_isNumber, 3, (some .boolean), yX11_isNumber)
abbrev M_X11_readPerson : MK := (RX11, cX11_readPerson, 3, (some .boolean), yX11_readPerson)
abbrev M_X11_readGate : MK := (RX11, cX11_readGate, 1, (some .boolean), yX11_readGate)
abbrev M_X11_readPair : MK := (RX11, cX11_readPair, 3, (some .boolean), yX11_readPair)
abbrev M_X11_readItem : MK := (RX11, cX11_readItem, 2, (some .boolean), yX11_readItem)
abbrev M_X11_read : MK := (RX11, cX11_read, 3, (some .int), yX11_read)
abbrev M_X11_can : MK := (RX11, cX11_can, 7, (some .int), yX11_can)
abbrev M_X11_least : MK := (RX11, cX11_least, 2, (some .int), yX11_least)
abbrev M_X11_isPart : MK := (RX11, cX11_isPart, 2, (some .boolean), yX11_isPart)
abbrev M_X11_layParts : MK := (RX11, cX11_layParts, 6, none, yX11_layParts)
abbrev M_X11_takeParts : MK := (RX11, cX11_takeParts, 6, none, yX11_takeParts)
abbrev M_X11_isSet : MK := (RX11, cX11_isSet, 2, (some .boolean), yX11_isSet)
abbrev M_X11_isLook : MK := (RX11, cX11_isLook, 4, (some .boolean), yX11_isLook)
abbrev M_X11_over : MK := (RX11, cX11_over, 5, (some .int), yX11_over)
abbrev M_X11_parts : MK := (RX11, cX11_parts, 5, (some .int), yX11_parts)
abbrev M_X11_lent : MK := (RX11, cX11_lent, 7, (some .int), yX11_lent)
abbrev M_X11_worth : MK := (RX11, cX11_worth, 6, (some .int), yX11_worth)
abbrev M_X11_dates : MK := (RX11, cX11_dates, 7, (some .int), yX11_dates)
abbrev M_X11_next : MK := (RX11, cX11_next, 5, (some .int), yX11_next)
abbrev M_X11_areOther : MK := (RX11, cX11_areOther, 3, (some .boolean), yX11_areOther)
abbrev M_X11_leavesNobody : MK := (RX11, cX11_leavesNobody, 3, (some .boolean), yX11_leavesNobody)
abbrev M_X11_wedding : MK := (RX11, cX11_wedding, 7, (some .int), yX11_wedding)
abbrev M_X11_crowd : MK := (RX11, cX11_crowd, 4, (some .int), yX11_crowd)
abbrev M_X11_choose : MK := (RX11, cX11_choose, 4, (some .int), yX11_choose)
abbrev M_X11_layWays : MK := (RX11, cX11_layWays, 5, none, yX11_layWays)
abbrev M_X11_tens : MK := (RX11, cX11_tens, 2, (some .long), yX11_tens)
abbrev M_X11_spare : MK := (RX11, cX11_spare, 3, (some .int), yX11_spare)
abbrev M_X11_passing : MK := (RX11, cX11_passing, 5, (some .int), yX11_passing)
abbrev M_X11_forget : MK := (RX11, cX11_forget, 2, (some .int), yX11_forget)
abbrev M_X11_liars : MK := (RX11, cX11_liars, 3, (some .int), yX11_liars)
abbrev M_X11_figure : MK := (RX11, cX11_figure, 4, (some .int), yX11_figure)
abbrev M_X11_fitsAll : MK := (RX11, cX11_fitsAll, 6, (some .boolean), yX11_fitsAll)
abbrev M_X11_fits : MK := (RX11, cX11_fits, 4, (some .int), yX11_fits)
abbrev M_X11_untold : MK := (RX11, cX11_untold, 8, (some .int), yX11_untold)
abbrev M_X11_part : MK := (RX11, cX11_part, 2, (some .int), yX11_part)
abbrev M_X11_image : MK := (RX11, cX11_image, 3, (some .int), yX11_image)
abbrev M_X11_from : MK := (RX11, cX11_from, 3, (some .int), yX11_from)
abbrev M_X11_status : MK := (RX11, cX11_status, 2, (some .int), yX11_status)
abbrev M_X11_count : MK := (RX11, cX11_count, 2, (some .int), yX11_count)
abbrev M_X11_digest : MK := (RX11, cX11_digest, 4, (some .long), yX11_digest)
