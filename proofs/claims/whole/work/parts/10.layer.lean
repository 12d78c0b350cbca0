/-! THE PURE HEAP: cells by numbers, references are numbers; 'ad' says where a cell lies -/
abbrev PH : Type := Nat → va_E
def rv (ad : Nat → Nat) (v : Value) : Value := match v with
  | .ref a => .ref (ad a)
  | u => u
def rA (ad : Nat → Nat) (a : vp_A) : vp_A := (a.1, match a.2 with
  | .inr (.inr (.inr (.inr g))) => .inr (.inr (.inr (.inr (fun j => (g j).map ad))))
  | x => x)
def rE (ad aC : Nat → Nat) (e : va_E) : va_E := match e with
  | .inl a => .inl (aC a.1, rA ad a.2)
  | .inr o => .inr (o.1, o.2.map (rv ad))
def NC : Nat := 87
def wsO (ad aC : Nat → Nat) (hp : PH) : va_W := (List.range NC).map (fun k => (ad k, rE ad aC (hp k)))
theorem wsO_get (ad aC : Nat → Nat) (hp : PH) {k : Nat} (hk : k < NC) : (wsO ad aC hp)[k]? = some (ad k, rE ad aC (hp k)) := by
  simp [wsO, hk]
theorem wsO_some {ad aC : Nat → Nat} {hp : PH} {k : Nat} {q : Nat × va_E} (h : (wsO ad aC hp)[k]? = some q) : k < NC ∧ q = (ad k, rE ad aC (hp k)) := by
  have hk : k < NC := by
    have := (List.getElem?_eq_some_iff.mp h).1
    simpa [wsO] using this
  rw [wsO_get ad aC hp hk] at h
  exact ⟨hk, (Option.some.inj h).symm⟩
theorem wsO_set (ad aC : Nat → Nat) (hp : PH) {k : Nat} (hk : k < NC) (x : va_E) : (wsO ad aC hp).set k (ad k, rE ad aC x) = wsO ad aC (va_up hp k x) := by
  apply List.ext_getElem?
  intro j
  by_cases hj : j < NC
  · rw [wsO_get ad aC _ hj]
    by_cases h : j = k
    · subst h
      rw [List.getElem?_set_self (by simpa [wsO] using hk), va_up_self]
    · rw [List.getElem?_set_ne (Ne.symm h), wsO_get ad aC _ hj, va_up_ne _ _ h]
  · rw [List.getElem?_eq_none (by simpa [wsO] using Nat.le_of_not_lt hj), List.getElem?_eq_none (by simpa [wsO] using Nat.le_of_not_lt hj)]
/-- what a walk is about: the launch, the classes' numbers, the array classes, where cells lie, the table of months, the script -/
abbrev GK : Type := Launch × va_G × (Nat → Nat) × (Nat → Nat) × (Nat × Nat × Nat × (Nat → Int32)) × ((Nat → Nat) × (Nat → Nat))
abbrev gl (K : GK) : Launch := K.1
abbrev gD (K : GK) : va_G := K.2.1
abbrev gC (K : GK) : Nat → Nat := K.2.2.1
abbrev ga (K : GK) : Nat → Nat := K.2.2.2.1
abbrev gm (K : GK) : Nat := K.2.2.2.2.1.1
abbrev gb (K : GK) : Nat := K.2.2.2.2.1.2.1
abbrev gL (K : GK) : Nat := K.2.2.2.2.1.2.2.1
abbrev gx (K : GK) : Nat → Int32 := K.2.2.2.2.1.2.2.2
abbrev gsK (K : GK) : Nat → Nat := K.2.2.2.2.2.1
abbrev gsV (K : GK) : Nat → Nat := K.2.2.2.2.2.2
/-- a method: its class, code, locals, answer, name -/
abbrev MK : Type := String × ByteArray × Nat × Option FieldType × MethodName
abbrev mO (M : MK) : String := M.1
abbrev mC (M : MK) : ByteArray := M.2.1
abbrev mL (M : MK) : Nat := M.2.2.1
abbrev mR (M : MK) : Option FieldType := M.2.2.2.1
abbrev mY (M : MK) : MethodName := M.2.2.2.2
def AA (K : GK) : Nat → Prop := fun q => ∃ k, k < NC ∧ q = ga K k
def tyK (K : GK) : List (ClassId × FieldType) := [(gC K 0, .int), (gC K 1, .boolean), (gC K 2, .long), (gC K 3, .object "AgesTens$State")]
def Wd (K : GK) (hp : PH) (H : Heap) : Prop := va_P (gD K) vwCl (wsO (ga K) (gC K) hp) H
def mpL : List Int32 := [0, 31, 60, 91, 121, 152, 182, 213, 244, 274, 305, 335, 366]
def mpF (j : Nat) : Int32 := mpL.getD j 0
def skN : Nat := 4
def skL : List Nat := [6, 4, 4, 5]
def skB : List (List Int32) := [[112, 101, 114, 115, 111, 110], [103, 97, 116, 101], [119, 105, 116, 104], [97, 112, 97, 114, 116]]
def skI (j : Nat) : Nat := [46, 55, 60, 69].getD j 0
def skR (K : GK) (U : State) : Prop := vk_R "AgesTens$Reader" 46 "person" (gsK K 0) U ∧ vk_R "AgesTens$Reader" 55 "gate" (gsK K 1) U ∧ vk_R "AgesTens$Reader" 60 "with" (gsK K 2) U ∧ vk_R "AgesTens$Reader" 69 "apart" (gsK K 3) U
def skZ (K : GK) (U : State) (H : Heap) : Prop := va_Z "java/lang/String" "COMPACT_STRINGS" "Z" (.int 1) (AA K) U H ∧ va_Zq "jdk/internal/util/Preconditions" "SIOOBE_FORMATTER" "Ljava/util/function/BiFunction;" (AA K) U H
def FX (K : GK) (U : State) (H : Heap) : Prop :=
  va_K (gD K) vwCl (tyK K) U ∧ (∀ i j, i < NC → j < NC → ga K i = ga K j → i = j) ∧ va_Z "AgesTens$Calendar" "MONTH_PLACES" "[I" (.ref (gm K)) (AA K) U H ∧ va_T .int (gm K) 13 (fun j => .int (mpF j)) (AA K) U H ∧ vk_S skN skL skB (gsK K) (gsV K) (AA K) U H ∧
  va_T .int (gb K) (gL K) (fun j => .int (gx K j)) (AA K) U H ∧ skR K U ∧ skZ K U H
theorem FX.go0 {K : GK} {s U : State} {H : Heap} {locs : List Loc} (h : FX K s s.heap) (hS : va_S (AA K) s.heap H locs) (hW : s.vm.Alike U.vm) (hR : skR K U) : FX K U H := by
  obtain ⟨h1, h2, h3, h4, h5, h6, h7, h8⟩ := h
  exact ⟨h1.moved hW, h2, (h3.moved hW).kept hS.2.1, (h4.moved hW).kept hS.2.1, (h5.moved hW).kept hS.2.1, (h6.moved hW).kept hS.2.1, hR, (h8.1.moved hW).kept hS.2.1, (h8.2.moved hW).kept hS.2.1⟩
theorem FX.go {K : GK} {s U : State} {H : Heap} {locs : List Loc} (h : FX K s s.heap) (hS : va_S (AA K) s.heap H locs) (hW : s.WarmedH U.vm) : FX K U H := by
  have hr := h.2.2.2.2.2.2.1
  exact h.go0 hS hW.alike ⟨hr.1.warm hW, hr.2.1.warm hW, hr.2.2.1.warm hW, hr.2.2.2.warm hW⟩
theorem FX.D {K : GK} {U : State} {H : Heap} (h : FX K U H) (hp : PH) : va_D (AA K) (wsO (ga K) (gC K) hp) := by
  refine ⟨fun i j x y hi hj e => ?_, fun k q hk => ?_⟩
  · obtain ⟨a1, rfl⟩ := wsO_some hi
    obtain ⟨a2, rfl⟩ := wsO_some hj
    exact h.2.1 i j a1 a2 e
  · obtain ⟨a1, rfl⟩ := wsO_some hk
    exact ⟨k, a1, rfl⟩
def CX (K : GK) (M : MK) (p : Program) (s : State) (m : MethodId) (args : Array Value) (c : Code) : Prop :=
  p.tables.exec = Jvm.exec ∧ c.code = mC M ∧ c.maxLocals = mL M ∧ s.vm.findClass (mO M) = some m.cls ∧ (∀ w ∈ TB, w.before args s = true) ∧ FX K s s.heap
def rtI (cc : ByteArray) (pc : Nat) (v : Option Value) : Prop := match v with
  | none => decode cc pc = .ok (.return_, 1)
  | some (.int _) => decode cc pc = .ok (.ireturn, 1)
  | some (.long _) => decode cc pc = .ok (.lreturn, 1)
  | _ => False
def rtN (r : Option FieldType) (v : Option Value) : Prop := match r, v with
  | none, none => True
  | some .int, some (.int _) => True
  | some .boolean, some (.int x) => narrow .boolean (.int x) = .int x
  | some .byte, some (.int x) => narrow .byte (.int x) = .int x
  | some .char, some (.int x) => narrow .char (.int x) = .int x
  | some .long, some (.long _) => True
  | _, _ => False
def PW (K : GK) (R : Room) (cs ss : Nat) (M : MK) (pc : Nat) (l : List (Nat × Value)) (st : List Value) (hp : PH) (v : Option Value) (hp' : PH) : Prop :=
  ∀ (p : Program) (e : Env) (s : State) (m : MethodId) (args : Array Value) (below : List Frame) (meth : Method) (c : Code), CX K M p s m args c → ∀ (Z : State → Prop),
    (∀ (pc' : Nat) (ls' : Array Slot) (H' : Heap) (locs' : List Loc), rtI (mC M) pc' v → rtN (mR M) v → Wd K hp' H' → va_S (AA K) s.heap H' locs' → W p (gl K) e R s m args below meth c H' locs' cs ss Z (F0 m pc' ls' v.toList)) →
    ∀ (H : Heap) (locs : List Loc) (ls : Array Slot), Wd K hp H → va_S (AA K) s.heap H locs → lv_has ls (mL M) l → W p (gl K) e R s m args below meth c H locs cs ss Z (F0 m pc ls st)
def rmD (d : Nat) : Room := { frames := d, cells := 0, slots := 0, locals := 41 * d }
def wsM (M : MK) : List Cond := Cond.code (mY M) (mC M) (mL M) (mR M) :: TB
def PM (K : GK) (d : Nat) (M : MK) (As : List Value) (hp : PH) (v : Option Value) (hp' : PH) : Prop :=
  Met (gl K) (mY M) (wsM M) (rmD d) (va_Pc As (fun U => Wd K hp U.heap ∧ FX K U U.heap)) (fun _ st oc t => oc = .returned v ∧ Wd K hp' t.heap ∧ va_F (AA K) st t) 0 0 (AA K)
theorem PM.enter {K : GK} {d : Nat} {M : MK} {As : List Value} {l0 : List (Nat × Value)} {hp hp' : PH} {v : Option Value} (hy : plainName (mY M).cls = true) (ho : (mY M).cls = mO M) (hn : (lg_sl As).length ≤ mL M) (hl : lv_args 0 As = l0) (k : PW K (rmD d) 0 0 M 0 l0 [] hp v hp') : PM K d M As hp v hp' := by
  refine Met.ofW (cc := mC M) (maxL := mL M) (ret := mR M) hy rfl ?_
  intro p e s m args below meth c s₁ B hml hv
  obtain ⟨rfl, hW, hF⟩ := hv
  have hts := atoms_spec (ws := wsM M) B.pre
  have hown : s.vm.findClass (mO M) = some m.cls := ho ▸ findClass_of_methodNamed B.named
  have hx := B.exec
  have hb := B.bytes
  have hr := B.returns
  have hlocks := B.notSynchronized
  have hls := lv_entry As hn
  rw [lg_entry_eq]
  rw [hl] at hls
  refine k p e s m As.toArray below meth c ⟨hx, hb, hml, hown, fun w hw => hts w (List.mem_cons_of_mem _ hw), hF⟩ _ ?_ s.heap [] _ hW va_S.rf hls
  intro pc' ls' H' locs' hi hnr hW' hS'
  generalize mR M = rr at hr hnr
  have hq : ∀ t : State, t.heap = H' → s.WarmedH t.vm → (fun (_ : Array Value) st oc t => oc = Outcome.returned v ∧ Wd K hp' t.heap ∧ va_F (AA K) st t) As.toArray s (.returned v) t := fun t ht _ => ⟨rfl, by rw [ht]; exact hW', hS'.F ht⟩
  cases v with
  | none =>
    cases rr with
    | none => exact W.vret hx hb hr hq hS'.2.2 hi
    | some t => cases t <;> exact hnr.elim
  | some w =>
    cases w with
    | int x =>
      cases rr with
      | none => exact hnr.elim
      | some t =>
        cases t with
        | int => exact W.iret hx hb hr hq hS'.2.2 hi
        | boolean => exact W.zret hx hb hr hnr hq hS'.2.2 hi
        | byte => exact W.zret hx hb hr hnr hq hS'.2.2 hi
        | char => exact W.zret hx hb hr hnr hq hS'.2.2 hi
        | _ => exact hnr.elim
    | long x =>
      cases rr with
      | none => exact hnr.elim
      | some t =>
        cases t with
        | long => exact W.lret hx hb hr hq hS'.2.2 hi
        | _ => exact hnr.elim
    | _ => exact hi.elim
/-! the heap's words: what a read answers, what a write leaves; none where the machine would throw -/
def gV (hp : PH) (k ci j : Nat) : Option Value := match hp k with
  | .inl _ => none
  | .inr o => if k < NC ∧ o.1 = ci then o.2[j]? else none
def gI (hp : PH) (k ci j : Nat) : Option Int32 := match gV hp k ci j with
  | some (.int x) => some x
  | _ => none
def gJ (hp : PH) (k ci j : Nat) : Option Int64 := match gV hp k ci j with
  | some (.long x) => some x
  | _ => none
def gR (hp : PH) (k ci j : Nat) : Option Nat := match gV hp k ci j with
  | some (.ref x) => some x
  | _ => none
def pV (hp : PH) (k ci j : Nat) (v : Value) : Option PH := match hp k with
  | .inl _ => none
  | .inr o => if k < NC ∧ o.1 = ci ∧ j < o.2.length then some (va_up hp k (.inr (ci, o.2.set j v))) else none
def pI (hp : PH) (k ci j : Nat) (x : Int32) : Option PH := pV hp k ci j (.int x)
def pJ (hp : PH) (k ci j : Nat) (x : Int64) : Option PH := pV hp k ci j (.long x)
def pZ (hp : PH) (k ci j : Nat) (x : Int32) : Option PH := if x = 0 ∨ x = 1 then pV hp k ci j (.int x) else none
/-- arrays of ints (kind 0) and booleans (kind 1) -/
def aA (hp : PH) (k t : Nat) : Option (Nat × (Nat → Int32)) := match hp k with
  | .inl (t', n, .inl f) => if k < NC ∧ t' = t then some (n, f) else none
  | _ => none
def aI (hp : PH) (k t : Nat) (i : Int32) : Option Int32 := match aA hp k t with
  | some a => if ¬ i < 0 ∧ i.toNatClampNeg < a.1 then some (a.2 i.toNatClampNeg) else none
  | none => none
def uI (hp : PH) (k : Nat) (i x : Int32) : Option PH := match aA hp k 0 with
  | some a => if ¬ i < 0 ∧ i.toNatClampNeg < a.1 then some (va_up hp k (.inl (0, a.1, .inl (upd a.2 i.toNatClampNeg x)))) else none
  | none => none
def nZ (x : Int32) : Int32 := vp_nar .boolean x
def uZ (hp : PH) (k : Nat) (i x : Int32) : Option PH := match aA hp k 1 with
  | some a => if ¬ i < 0 ∧ i.toNatClampNeg < a.1 then some (va_up hp k (.inl (1, a.1, .inl (upd a.2 i.toNatClampNeg (nZ x))))) else none
  | none => none
def aB (hp : PH) (k : Nat) : Option (Nat × (Nat → Int64)) := match hp k with
  | .inl (t', n, .inr (.inl f)) => if k < NC ∧ t' = 2 then some (n, f) else none
  | _ => none
def aJ (hp : PH) (k : Nat) (i : Int32) : Option Int64 := match aB hp k with
  | some a => if ¬ i < 0 ∧ i.toNatClampNeg < a.1 then some (a.2 i.toNatClampNeg) else none
  | none => none
def uJ (hp : PH) (k : Nat) (i : Int32) (x : Int64) : Option PH := match aB hp k with
  | some a => if ¬ i < 0 ∧ i.toNatClampNeg < a.1 then some (va_up hp k (.inl (2, a.1, .inr (.inl (vp_updL a.2 i.toNatClampNeg x))))) else none
  | none => none
def aQ (hp : PH) (k : Nat) (i : Int32) : Option Nat := match hp k with
  | .inl (t', n, .inr (.inr (.inr (.inr f)))) => if k < NC ∧ t' = 3 ∧ ¬ i < 0 ∧ i.toNatClampNeg < n then f i.toNatClampNeg else none
  | _ => none
def aL (hp : PH) (k : Nat) : Option Int32 := match hp k with
  | .inl (t', n, _) => if k < NC ∧ t' < 4 then some (nI n) else none
  | _ => none
/-- System.arraycopy between arrays of ints, or of booleans -/
def cA (hp : PH) (k0 : Nat) (sp : Int32) (k1 : Nat) (dp n : Int32) (t : Nat) : Option PH := match aA hp k0 t, aA hp k1 t with
  | some a, some b => if (¬ sp < 0 ∧ ¬ dp < 0 ∧ ¬ n < 0) ∧ sp.toNatClampNeg + n.toNatClampNeg ≤ a.1 ∧ dp.toNatClampNeg + n.toNatClampNeg ≤ b.1 ∧ (t = 0 ∨ (t = 1 ∧ ∀ i, i < n.toNatClampNeg → (a.2 (sp.toNatClampNeg + i) = 0 ∨ a.2 (sp.toNatClampNeg + i) = 1))) then some (va_up hp k1 (.inl (t, b.1, .inl (va_cpy a.2 b.2 sp.toNatClampNeg dp.toNatClampNeg n.toNatClampNeg)))) else none
  | _, _ => none
/-- the table of months -/
def aM (i : Int32) : Option Int32 := if ¬ i < 0 ∧ i.toNatClampNeg < 13 then some (mpF i.toNatClampNeg) else none
def iR (x y : Int32) : Int32 := x - x / y * y
def iL (x y : Int32) : Int32 := x <<< (y &&& 31)
def iS (x y : Int32) : Int32 := x >>> (y &&& 31)
def iU (x y : Int32) : Int32 := (x.toUInt32 >>> (y.toUInt32 &&& Int32.toUInt32 31)).toInt32
def jL (x : Int64) (y : Int32) : Int64 := x <<< (y.toInt64 &&& 63)
def jR (x : Int64) (y : Int32) : Int64 := x >>> (y.toInt64 &&& 63)
def mnI (x y : Int32) : Int32 := if y < x then y else x
def dvI (x y : Int32) : Option Int32 := if y = 0 then none else some (x / y)
def rmI (x y : Int32) : Option Int32 := if y = 0 then none else some (iR x y)
theorem gV_spec {hp : PH} {k ci j : Nat} {v : Value} (h : gV hp k ci j = some v) : k < NC ∧ ∃ fs, hp k = .inr (ci, fs) ∧ fs[j]? = some v := by
  unfold gV at h
  cases hh : hp k with
  | inl a => rw [hh] at h; cases h
  | inr o =>
    rw [hh] at h
    dsimp only at h
    by_cases hc : k < NC ∧ o.1 = ci
    · rw [if_pos hc] at h
      obtain ⟨h1, rfl⟩ := hc
      exact ⟨h1, o.2, rfl, h⟩
    · rw [if_neg hc] at h; cases h
theorem gI_spec {hp : PH} {k ci j : Nat} {x : Int32} (h : gI hp k ci j = some x) : gV hp k ci j = some (.int x) := by
  unfold gI at h
  split at h
  · rename_i y hy; cases h; exact hy
  · cases h
theorem gJ_spec {hp : PH} {k ci j : Nat} {x : Int64} (h : gJ hp k ci j = some x) : gV hp k ci j = some (.long x) := by
  unfold gJ at h
  split at h
  · rename_i y hy; cases h; exact hy
  · cases h
theorem gR_spec {hp : PH} {k ci j : Nat} {x : Nat} (h : gR hp k ci j = some x) : gV hp k ci j = some (.ref x) := by
  unfold gR at h
  split at h
  · rename_i y hy; cases h; exact hy
  · cases h
theorem pV_spec {hp hp1 : PH} {k ci j : Nat} {v : Value} (h : pV hp k ci j v = some hp1) : k < NC ∧ ∃ fs, hp k = .inr (ci, fs) ∧ j < fs.length ∧ hp1 = va_up hp k (.inr (ci, fs.set j v)) := by
  unfold pV at h
  cases hh : hp k with
  | inl a => rw [hh] at h; cases h
  | inr o =>
    rw [hh] at h
    dsimp only at h
    by_cases hc : k < NC ∧ o.1 = ci ∧ j < o.2.length
    · rw [if_pos hc] at h
      obtain ⟨h1, rfl, h3⟩ := hc
      exact ⟨h1, o.2, rfl, h3, (Option.some.inj h).symm⟩
    · rw [if_neg hc] at h; cases h
theorem aA_spec {hp : PH} {k t : Nat} {a : Nat × (Nat → Int32)} (h : aA hp k t = some a) : k < NC ∧ hp k = .inl (t, a.1, .inl a.2) := by
  unfold aA at h
  split at h
  · rename_i t' n f hh
    by_cases hc : k < NC ∧ t' = t
    · rw [if_pos hc] at h
      obtain ⟨h1, rfl⟩ := hc
      cases h
      exact ⟨h1, hh⟩
    · rw [if_neg hc] at h; cases h
  · cases h
theorem aB_spec {hp : PH} {k : Nat} {a : Nat × (Nat → Int64)} (h : aB hp k = some a) : k < NC ∧ hp k = .inl (2, a.1, .inr (.inl a.2)) := by
  unfold aB at h
  split at h
  · rename_i t' n f hh
    by_cases hc : k < NC ∧ t' = 2
    · rw [if_pos hc] at h
      obtain ⟨h1, rfl⟩ := hc
      cases h
      exact ⟨h1, hh⟩
    · rw [if_neg hc] at h; cases h
  · cases h
theorem in_of {i : Int32} {n : Nat} (h : ¬ i < 0 ∧ i.toNatClampNeg < n) : vp_in i n := fun q => q.elim h.1 (fun z => Nat.not_le.mpr h.2 z)
theorem aI_spec {hp : PH} {k t : Nat} {i x : Int32} (h : aI hp k t i = some x) : ∃ a : Nat × (Nat → Int32), aA hp k t = some a ∧ vp_in i a.1 ∧ x = a.2 i.toNatClampNeg := by
  unfold aI at h
  cases hh : aA hp k t with
  | none => rw [hh] at h; cases h
  | some a =>
    rw [hh] at h
    dsimp only at h
    by_cases hc : ¬ i < 0 ∧ i.toNatClampNeg < a.1
    · rw [if_pos hc] at h
      exact ⟨a, rfl, in_of hc, (Option.some.inj h).symm⟩
    · rw [if_neg hc] at h; cases h
theorem aJ_spec {hp : PH} {k : Nat} {i : Int32} {x : Int64} (h : aJ hp k i = some x) : ∃ a : Nat × (Nat → Int64), aB hp k = some a ∧ vp_in i a.1 ∧ x = a.2 i.toNatClampNeg := by
  unfold aJ at h
  cases hh : aB hp k with
  | none => rw [hh] at h; cases h
  | some a =>
    rw [hh] at h
    dsimp only at h
    by_cases hc : ¬ i < 0 ∧ i.toNatClampNeg < a.1
    · rw [if_pos hc] at h
      exact ⟨a, rfl, in_of hc, (Option.some.inj h).symm⟩
    · rw [if_neg hc] at h; cases h
theorem uI_spec {hp hp1 : PH} {k : Nat} {i x : Int32} (h : uI hp k i x = some hp1) : ∃ a : Nat × (Nat → Int32), aA hp k 0 = some a ∧ vp_in i a.1 ∧ hp1 = va_up hp k (.inl (0, a.1, .inl (upd a.2 i.toNatClampNeg x))) := by
  unfold uI at h
  cases hh : aA hp k 0 with
  | none => rw [hh] at h; cases h
  | some a =>
    rw [hh] at h
    dsimp only at h
    by_cases hc : ¬ i < 0 ∧ i.toNatClampNeg < a.1
    · rw [if_pos hc] at h
      exact ⟨a, rfl, in_of hc, (Option.some.inj h).symm⟩
    · rw [if_neg hc] at h; cases h
theorem uZ_spec {hp hp1 : PH} {k : Nat} {i x : Int32} (h : uZ hp k i x = some hp1) : ∃ a : Nat × (Nat → Int32), aA hp k 1 = some a ∧ vp_in i a.1 ∧ hp1 = va_up hp k (.inl (1, a.1, .inl (upd a.2 i.toNatClampNeg (nZ x)))) := by
  unfold uZ at h
  cases hh : aA hp k 1 with
  | none => rw [hh] at h; cases h
  | some a =>
    rw [hh] at h
    dsimp only at h
    by_cases hc : ¬ i < 0 ∧ i.toNatClampNeg < a.1
    · rw [if_pos hc] at h
      exact ⟨a, rfl, in_of hc, (Option.some.inj h).symm⟩
    · rw [if_neg hc] at h; cases h
theorem uJ_spec {hp hp1 : PH} {k : Nat} {i : Int32} {x : Int64} (h : uJ hp k i x = some hp1) : ∃ a : Nat × (Nat → Int64), aB hp k = some a ∧ vp_in i a.1 ∧ hp1 = va_up hp k (.inl (2, a.1, .inr (.inl (vp_updL a.2 i.toNatClampNeg x)))) := by
  unfold uJ at h
  cases hh : aB hp k with
  | none => rw [hh] at h; cases h
  | some a =>
    rw [hh] at h
    dsimp only at h
    by_cases hc : ¬ i < 0 ∧ i.toNatClampNeg < a.1
    · rw [if_pos hc] at h
      exact ⟨a, rfl, in_of hc, (Option.some.inj h).symm⟩
    · rw [if_neg hc] at h; cases h
theorem bind_some {α β : Type} {a : Option α} {f : α → Option β} {r : β} (h : a.bind f = some r) : ∃ x, a = some x ∧ f x = some r := by
  cases a with
  | none => cases h
  | some x => exact ⟨x, rfl, h⟩
section PWR
variable {K : GK} {R : Room} {cs ss : Nat} {M : MK} {pc : Nat} {l : List (Nat × Value)} {st : List Value} {hp hp' : PH} {v : Option Value}
theorem PW.sub {l' : List (Nat × Value)} (ks : List Nat) (hl : lv_pick l ks = l') (kk : PW K R cs ss M pc l' st hp v hp') : PW K R cs ss M pc l st hp v hp' := by
  intro p e s m args below meth c C Z hr H locs ls hP hS hv
  exact kk p e s m args below meth c C Z hr H locs ls hP hS (lv_sub hv ks hl)
theorem PW.ret (hi : rtI (mC M) pc v) (hn : rtN (mR M) v) (hs : st = v.toList) : PW K R cs ss M pc l st hp v hp := by
  intro p e s m args below meth c C Z hr H locs ls hP hS hv
  subst hs
  exact hr pc ls H locs hi hn hP hS
theorem PW.iconst {n : Int} {x : Int32} (hd : decode (mC M) pc = .ok (.iconst n, 1)) (hx : Int32.ofInt n = x) (kk : PW K R cs ss M (pc + 1) l (.int x :: st) hp v hp') : PW K R cs ss M pc l st hp v hp' := by
  intro p e s m args below meth c C Z hr H locs ls hP hS hv
  exact lv_iconst C.1 C.2.1 hd hx (kk p e s m args below meth c C Z hr H locs ls hP hS hv)
theorem PW.bipush {n : Int} {x : Int32} (hd : decode (mC M) pc = .ok (.bipush n, 2)) (hx : (Int8.ofInt n).toInt32 = x) (kk : PW K R cs ss M (pc + 2) l (.int x :: st) hp v hp') : PW K R cs ss M pc l st hp v hp' := by
  intro p e s m args below meth c C Z hr H locs ls hP hS hv
  exact lv_bipush C.1 C.2.1 hd hx (kk p e s m args below meth c C Z hr H locs ls hP hS hv)
theorem PW.sipush {n : Int} {x : Int32} (hd : decode (mC M) pc = .ok (.sipush n, 3)) (hx : (Int16.ofInt n).toInt32 = x) (kk : PW K R cs ss M (pc + 3) l (.int x :: st) hp v hp') : PW K R cs ss M pc l st hp v hp' := by
  intro p e s m args below meth c C Z hr H locs ls hP hS hv
  exact lv_sipush C.1 C.2.1 hd hx (kk p e s m args below meth c C Z hr H locs ls hP hS hv)
theorem PW.lconst {n : Fin 2} {x : Int64} (hd : decode (mC M) pc = .ok (.lconst n, 1)) (hx : Int64.ofNat (n : Nat) = x) (kk : PW K R cs ss M (pc + 1) l (.long x :: st) hp v hp') : PW K R cs ss M pc l st hp v hp' := by
  intro p e s m args below meth c C Z hr H locs ls hP hS hv
  exact lv_lconst C.1 C.2.1 hd hx (kk p e s m args below meth c C Z hr H locs ls hP hS hv)
theorem PW.ldc {i : Nat} {x : Int32} (hd : decode (mC M) pc = .ok (.ldc i, 2)) (hw : Cond.constant (mO M) i x ∈ TB) (kk : PW K R cs ss M (pc + 2) l (.int x :: st) hp v hp') : PW K R cs ss M pc l st hp v hp' := by
  intro p e s m args below meth c C Z hr H locs ls hP hS hv
  exact lv_ldc C.1 C.2.1 C.2.2.2.1 (C.2.2.2.2.1 _ hw) hd (kk p e s m args below meth c C Z hr H locs ls hP hS hv)
theorem PW.ldc2 {i : Nat} {x : Int64} (hd : decode (mC M) pc = .ok (.ldc2_w i, 3)) (hw : Cond.constantLong (mO M) i x ∈ TB) (kk : PW K R cs ss M (pc + 3) l (.long x :: st) hp v hp') : PW K R cs ss M pc l st hp v hp' := by
  intro p e s m args below meth c C Z hr H locs ls hP hS hv
  exact lv_ldc2 C.1 C.2.1 C.2.2.2.1 (C.2.2.2.2.1 _ hw) hd (kk p e s m args below meth c C Z hr H locs ls hP hS hv)
theorem PW.iload_n (j : Nat) {q : Fin 4} {i : Nat} {x : Int32} (hd : decode (mC M) pc = .ok (.iload_n q, 1)) (hi : (q : Nat) = i) (hl : l[j]? = some (i, .int x)) (kk : PW K R cs ss M (pc + 1) l (.int x :: st) hp v hp') : PW K R cs ss M pc l st hp v hp' := by
  intro p e s m args below meth c C Z hr H locs ls hP hS hv
  exact lv_iload_n C.1 C.2.1 hd hi (lv_at hv j hl) (kk p e s m args below meth c C Z hr H locs ls hP hS hv)
theorem PW.iload (j : Nat) {i : Nat} {x : Int32} (hd : decode (mC M) pc = .ok (.iload i, 2)) (hl : l[j]? = some (i, .int x)) (kk : PW K R cs ss M (pc + 2) l (.int x :: st) hp v hp') : PW K R cs ss M pc l st hp v hp' := by
  intro p e s m args below meth c C Z hr H locs ls hP hS hv
  exact lv_iload C.1 C.2.1 hd (lv_at hv j hl) (kk p e s m args below meth c C Z hr H locs ls hP hS hv)
theorem PW.istore_n {q : Fin 4} {i : Nat} {x : Int32} {l' : List (Nat × Value)} (hd : decode (mC M) pc = .ok (.istore_n q, 1)) (hi : (q : Nat) = i) (hn : i < mL M) (hl : (i, Value.int x) :: l.filter (fun q => !(q.1 == i) && !(q.1 + 1 == i && q.2.category == 2)) = l') (kk : PW K R cs ss M (pc + 1) l' st hp v hp') : PW K R cs ss M pc l (.int x :: st) hp v hp' := by
  intro p e s m args below meth c C Z hr H locs ls hP hS hv
  exact lv_istore_n C.1 C.2.1 hd hi hv hn hl (fun ls hv => kk p e s m args below meth c C Z hr H locs ls hP hS hv)
theorem PW.istore {i : Nat} {x : Int32} {l' : List (Nat × Value)} (hd : decode (mC M) pc = .ok (.istore i, 2)) (hn : i < mL M) (hl : (i, Value.int x) :: l.filter (fun q => !(q.1 == i) && !(q.1 + 1 == i && q.2.category == 2)) = l') (kk : PW K R cs ss M (pc + 2) l' st hp v hp') : PW K R cs ss M pc l (.int x :: st) hp v hp' := by
  intro p e s m args below meth c C Z hr H locs ls hP hS hv
  exact lv_istore C.1 C.2.1 hd hv hn hl (fun ls hv => kk p e s m args below meth c C Z hr H locs ls hP hS hv)
theorem PW.lload_n (j : Nat) {q : Fin 4} {i : Nat} {x : Int64} (hd : decode (mC M) pc = .ok (.lload_n q, 1)) (hi : (q : Nat) = i) (hl : l[j]? = some (i, .long x)) (kk : PW K R cs ss M (pc + 1) l (.long x :: st) hp v hp') : PW K R cs ss M pc l st hp v hp' := by
  intro p e s m args below meth c C Z hr H locs ls hP hS hv
  exact lv_lload_n C.1 C.2.1 hd hi (lv_at hv j hl) (kk p e s m args below meth c C Z hr H locs ls hP hS hv)
theorem PW.lload (j : Nat) {i : Nat} {x : Int64} (hd : decode (mC M) pc = .ok (.lload i, 2)) (hl : l[j]? = some (i, .long x)) (kk : PW K R cs ss M (pc + 2) l (.long x :: st) hp v hp') : PW K R cs ss M pc l st hp v hp' := by
  intro p e s m args below meth c C Z hr H locs ls hP hS hv
  exact lv_lload C.1 C.2.1 hd (lv_at hv j hl) (kk p e s m args below meth c C Z hr H locs ls hP hS hv)
theorem PW.lstore_n {q : Fin 4} {i : Nat} {x : Int64} {l' : List (Nat × Value)} (hd : decode (mC M) pc = .ok (.lstore_n q, 1)) (hi : (q : Nat) = i) (hn : i + 1 < mL M) (hl : (i, Value.long x) :: l.filter (fun q => !(q.1 == i) && (!(q.1 == i + 1) && !(q.1 + 1 == i && q.2.category == 2))) = l') (kk : PW K R cs ss M (pc + 1) l' st hp v hp') : PW K R cs ss M pc l (.long x :: st) hp v hp' := by
  intro p e s m args below meth c C Z hr H locs ls hP hS hv
  exact lv_lstore_n C.1 C.2.1 hd hi hv hn hl (fun ls hv => kk p e s m args below meth c C Z hr H locs ls hP hS hv)
theorem PW.lstore {i : Nat} {x : Int64} {l' : List (Nat × Value)} (hd : decode (mC M) pc = .ok (.lstore i, 2)) (hn : i + 1 < mL M) (hl : (i, Value.long x) :: l.filter (fun q => !(q.1 == i) && (!(q.1 == i + 1) && !(q.1 + 1 == i && q.2.category == 2))) = l') (kk : PW K R cs ss M (pc + 2) l' st hp v hp') : PW K R cs ss M pc l (.long x :: st) hp v hp' := by
  intro p e s m args below meth c C Z hr H locs ls hP hS hv
  exact lv_lstore C.1 C.2.1 hd hv hn hl (fun ls hv => kk p e s m args below meth c C Z hr H locs ls hP hS hv)
theorem PW.aload_n (j : Nat) {q : Fin 4} {i : Nat} {x : Nat} (hd : decode (mC M) pc = .ok (.aload_n q, 1)) (hi : (q : Nat) = i) (hl : l[j]? = some (i, .ref x)) (kk : PW K R cs ss M (pc + 1) l (.ref x :: st) hp v hp') : PW K R cs ss M pc l st hp v hp' := by
  intro p e s m args below meth c C Z hr H locs ls hP hS hv
  exact lv_aload_n C.1 C.2.1 hd hi (lv_at hv j hl) (kk p e s m args below meth c C Z hr H locs ls hP hS hv)
theorem PW.aload (j : Nat) {i : Nat} {x : Nat} (hd : decode (mC M) pc = .ok (.aload i, 2)) (hl : l[j]? = some (i, .ref x)) (kk : PW K R cs ss M (pc + 2) l (.ref x :: st) hp v hp') : PW K R cs ss M pc l st hp v hp' := by
  intro p e s m args below meth c C Z hr H locs ls hP hS hv
  exact lv_aload C.1 C.2.1 hd (lv_at hv j hl) (kk p e s m args below meth c C Z hr H locs ls hP hS hv)
theorem PW.astore_n {q : Fin 4} {i : Nat} {x : Nat} {l' : List (Nat × Value)} (hd : decode (mC M) pc = .ok (.astore_n q, 1)) (hi : (q : Nat) = i) (hn : i < mL M) (hl : (i, Value.ref x) :: l.filter (fun q => !(q.1 == i) && !(q.1 + 1 == i && q.2.category == 2)) = l') (kk : PW K R cs ss M (pc + 1) l' st hp v hp') : PW K R cs ss M pc l (.ref x :: st) hp v hp' := by
  intro p e s m args below meth c C Z hr H locs ls hP hS hv
  exact lv_astore_n C.1 C.2.1 hd hi hv hn hl (fun ls hv => kk p e s m args below meth c C Z hr H locs ls hP hS hv)
theorem PW.astore {i : Nat} {x : Nat} {l' : List (Nat × Value)} (hd : decode (mC M) pc = .ok (.astore i, 2)) (hn : i < mL M) (hl : (i, Value.ref x) :: l.filter (fun q => !(q.1 == i) && !(q.1 + 1 == i && q.2.category == 2)) = l') (kk : PW K R cs ss M (pc + 2) l' st hp v hp') : PW K R cs ss M pc l (.ref x :: st) hp v hp' := by
  intro p e s m args below meth c C Z hr H locs ls hP hS hv
  exact lv_astore C.1 C.2.1 hd hv hn hl (fun ls hv => kk p e s m args below meth c C Z hr H locs ls hP hS hv)
theorem PW.iinc (j : Nat) {i : Nat} {n : Int} {x y : Int32} {l' : List (Nat × Value)} (hd : decode (mC M) pc = .ok (.iinc i n, 3)) (hj : l[j]? = some (i, .int x)) (hx : x + Int32.ofInt n = y) (hn : i < mL M) (hl : (i, Value.int y) :: l.filter (fun q => !(q.1 == i) && !(q.1 + 1 == i && q.2.category == 2)) = l') (kk : PW K R cs ss M (pc + 3) l' st hp v hp') : PW K R cs ss M pc l st hp v hp' := by
  intro p e s m args below meth c C Z hr H locs ls hP hS hv
  exact lv_iinc (k := j) C.1 C.2.1 hd hv hj hx hn hl (fun ls hv => kk p e s m args below meth c C Z hr H locs ls hP hS hv)
theorem PW.iadd {x y : Int32} (hd : decode (mC M) pc = .ok (.iadd, 1)) (kk : PW K R cs ss M (pc + 1) l (.int (x + y) :: st) hp v hp') : PW K R cs ss M pc l (.int y :: .int x :: st) hp v hp' := by
  intro p e s m args below meth c C Z hr H locs ls hP hS hv
  exact lv_iadd C.1 C.2.1 hd (kk p e s m args below meth c C Z hr H locs ls hP hS hv)
theorem PW.isub {x y : Int32} (hd : decode (mC M) pc = .ok (.isub, 1)) (kk : PW K R cs ss M (pc + 1) l (.int (x - y) :: st) hp v hp') : PW K R cs ss M pc l (.int y :: .int x :: st) hp v hp' := by
  intro p e s m args below meth c C Z hr H locs ls hP hS hv
  exact lv_isub C.1 C.2.1 hd (kk p e s m args below meth c C Z hr H locs ls hP hS hv)
theorem PW.imul {x y : Int32} (hd : decode (mC M) pc = .ok (.imul, 1)) (kk : PW K R cs ss M (pc + 1) l (.int (x * y) :: st) hp v hp') : PW K R cs ss M pc l (.int y :: .int x :: st) hp v hp' := by
  intro p e s m args below meth c C Z hr H locs ls hP hS hv
  exact lv_imul C.1 C.2.1 hd (kk p e s m args below meth c C Z hr H locs ls hP hS hv)
theorem PW.iand {x y : Int32} (hd : decode (mC M) pc = .ok (.iand, 1)) (kk : PW K R cs ss M (pc + 1) l (.int (x &&& y) :: st) hp v hp') : PW K R cs ss M pc l (.int y :: .int x :: st) hp v hp' := by
  intro p e s m args below meth c C Z hr H locs ls hP hS hv
  exact lv_iand C.1 C.2.1 hd (kk p e s m args below meth c C Z hr H locs ls hP hS hv)
theorem PW.ior {x y : Int32} (hd : decode (mC M) pc = .ok (.ior, 1)) (kk : PW K R cs ss M (pc + 1) l (.int (x ||| y) :: st) hp v hp') : PW K R cs ss M pc l (.int y :: .int x :: st) hp v hp' := by
  intro p e s m args below meth c C Z hr H locs ls hP hS hv
  exact lv_ior C.1 C.2.1 hd (kk p e s m args below meth c C Z hr H locs ls hP hS hv)
theorem PW.ixor {x y : Int32} (hd : decode (mC M) pc = .ok (.ixor, 1)) (kk : PW K R cs ss M (pc + 1) l (.int (x ^^^ y) :: st) hp v hp') : PW K R cs ss M pc l (.int y :: .int x :: st) hp v hp' := by
  intro p e s m args below meth c C Z hr H locs ls hP hS hv
  exact lv_ixor C.1 C.2.1 hd (kk p e s m args below meth c C Z hr H locs ls hP hS hv)
theorem PW.ishl {x y : Int32} (hd : decode (mC M) pc = .ok (.ishl, 1)) (kk : PW K R cs ss M (pc + 1) l (.int (iL x y) :: st) hp v hp') : PW K R cs ss M pc l (.int y :: .int x :: st) hp v hp' := by
  intro p e s m args below meth c C Z hr H locs ls hP hS hv
  exact lv_ishl C.1 C.2.1 hd (kk p e s m args below meth c C Z hr H locs ls hP hS hv)
theorem PW.ishr {x y : Int32} (hd : decode (mC M) pc = .ok (.ishr, 1)) (kk : PW K R cs ss M (pc + 1) l (.int (iS x y) :: st) hp v hp') : PW K R cs ss M pc l (.int y :: .int x :: st) hp v hp' := by
  intro p e s m args below meth c C Z hr H locs ls hP hS hv
  exact lv_ishr C.1 C.2.1 hd (kk p e s m args below meth c C Z hr H locs ls hP hS hv)
theorem PW.iushr {x y : Int32} (hd : decode (mC M) pc = .ok (.iushr, 1)) (kk : PW K R cs ss M (pc + 1) l (.int (iU x y) :: st) hp v hp') : PW K R cs ss M pc l (.int y :: .int x :: st) hp v hp' := by
  intro p e s m args below meth c C Z hr H locs ls hP hS hv
  exact lv_iushr C.1 C.2.1 hd rfl (kk p e s m args below meth c C Z hr H locs ls hP hS hv)
theorem PW.idiv {x y : Int32} (hd : decode (mC M) pc = .ok (.idiv, 1)) (hy : ¬ y = 0) (kk : PW K R cs ss M (pc + 1) l (.int (x / y) :: st) hp v hp') : PW K R cs ss M pc l (.int y :: .int x :: st) hp v hp' := by
  intro p e s m args below meth c C Z hr H locs ls hP hS hv
  exact lv_idiv C.1 C.2.1 hd hy (kk p e s m args below meth c C Z hr H locs ls hP hS hv)
theorem PW.irem {x y : Int32} (hd : decode (mC M) pc = .ok (.irem, 1)) (hy : ¬ y = 0) (kk : PW K R cs ss M (pc + 1) l (.int (iR x y) :: st) hp v hp') : PW K R cs ss M pc l (.int y :: .int x :: st) hp v hp' := by
  intro p e s m args below meth c C Z hr H locs ls hP hS hv
  exact lv_irem C.1 C.2.1 hd hy (kk p e s m args below meth c C Z hr H locs ls hP hS hv)
theorem PW.ineg {x : Int32} (hd : decode (mC M) pc = .ok (.ineg, 1)) (kk : PW K R cs ss M (pc + 1) l (.int (0 - x) :: st) hp v hp') : PW K R cs ss M pc l (.int x :: st) hp v hp' := by
  intro p e s m args below meth c C Z hr H locs ls hP hS hv
  exact lv_ineg C.1 C.2.1 hd (kk p e s m args below meth c C Z hr H locs ls hP hS hv)
theorem PW.ladd {x y : Int64} (hd : decode (mC M) pc = .ok (.ladd, 1)) (kk : PW K R cs ss M (pc + 1) l (.long (x + y) :: st) hp v hp') : PW K R cs ss M pc l (.long y :: .long x :: st) hp v hp' := by
  intro p e s m args below meth c C Z hr H locs ls hP hS hv
  exact lv_ladd C.1 C.2.1 hd (kk p e s m args below meth c C Z hr H locs ls hP hS hv)
theorem PW.lsub {x y : Int64} (hd : decode (mC M) pc = .ok (.lsub, 1)) (kk : PW K R cs ss M (pc + 1) l (.long (x - y) :: st) hp v hp') : PW K R cs ss M pc l (.long y :: .long x :: st) hp v hp' := by
  intro p e s m args below meth c C Z hr H locs ls hP hS hv
  exact lv_lsub C.1 C.2.1 hd (kk p e s m args below meth c C Z hr H locs ls hP hS hv)
theorem PW.lmul {x y : Int64} (hd : decode (mC M) pc = .ok (.lmul, 1)) (kk : PW K R cs ss M (pc + 1) l (.long (x * y) :: st) hp v hp') : PW K R cs ss M pc l (.long y :: .long x :: st) hp v hp' := by
  intro p e s m args below meth c C Z hr H locs ls hP hS hv
  exact lv_lmul C.1 C.2.1 hd (kk p e s m args below meth c C Z hr H locs ls hP hS hv)
theorem PW.land {x y : Int64} (hd : decode (mC M) pc = .ok (.land, 1)) (kk : PW K R cs ss M (pc + 1) l (.long (x &&& y) :: st) hp v hp') : PW K R cs ss M pc l (.long y :: .long x :: st) hp v hp' := by
  intro p e s m args below meth c C Z hr H locs ls hP hS hv
  exact lv_land C.1 C.2.1 hd (kk p e s m args below meth c C Z hr H locs ls hP hS hv)
theorem PW.lor {x y : Int64} (hd : decode (mC M) pc = .ok (.lor, 1)) (kk : PW K R cs ss M (pc + 1) l (.long (x ||| y) :: st) hp v hp') : PW K R cs ss M pc l (.long y :: .long x :: st) hp v hp' := by
  intro p e s m args below meth c C Z hr H locs ls hP hS hv
  exact lv_lor C.1 C.2.1 hd (kk p e s m args below meth c C Z hr H locs ls hP hS hv)
theorem PW.lshl {x : Int64} {y : Int32} (hd : decode (mC M) pc = .ok (.lshl, 1)) (kk : PW K R cs ss M (pc + 1) l (.long (jL x y) :: st) hp v hp') : PW K R cs ss M pc l (.int y :: .long x :: st) hp v hp' := by
  intro p e s m args below meth c C Z hr H locs ls hP hS hv
  exact lv_lshl C.1 C.2.1 hd rfl (kk p e s m args below meth c C Z hr H locs ls hP hS hv)
theorem PW.lshr {x : Int64} {y : Int32} (hd : decode (mC M) pc = .ok (.lshr, 1)) (kk : PW K R cs ss M (pc + 1) l (.long (jR x y) :: st) hp v hp') : PW K R cs ss M pc l (.int y :: .long x :: st) hp v hp' := by
  intro p e s m args below meth c C Z hr H locs ls hP hS hv
  exact lv_lshr C.1 C.2.1 hd rfl (kk p e s m args below meth c C Z hr H locs ls hP hS hv)
theorem PW.lcmp {x y : Int64} (hd : decode (mC M) pc = .ok (.lcmp, 1)) (kk : PW K R cs ss M (pc + 1) l (.int (lg_cmp x y) :: st) hp v hp') : PW K R cs ss M pc l (.long y :: .long x :: st) hp v hp' := by
  intro p e s m args below meth c C Z hr H locs ls hP hS hv
  exact W.lcmp C.1 C.2.1 hd (kk p e s m args below meth c C Z hr H locs ls hP hS hv)
theorem PW.i2l {x : Int32} (hd : decode (mC M) pc = .ok (.i2l, 1)) (kk : PW K R cs ss M (pc + 1) l (.long x.toInt64 :: st) hp v hp') : PW K R cs ss M pc l (.int x :: st) hp v hp' := by
  intro p e s m args below meth c C Z hr H locs ls hP hS hv
  exact lv_i2l C.1 C.2.1 hd rfl (kk p e s m args below meth c C Z hr H locs ls hP hS hv)
theorem PW.l2i {x : Int64} (hd : decode (mC M) pc = .ok (.l2i, 1)) (kk : PW K R cs ss M (pc + 1) l (.int x.toInt32 :: st) hp v hp') : PW K R cs ss M pc l (.long x :: st) hp v hp' := by
  intro p e s m args below meth c C Z hr H locs ls hP hS hv
  exact lv_l2i C.1 C.2.1 hd rfl (kk p e s m args below meth c C Z hr H locs ls hP hS hv)
theorem PW.i2c {x : Int32} (hd : decode (mC M) pc = .ok (.i2c, 1)) (kk : PW K R cs ss M (pc + 1) l (.int (x.toUInt32 % 65536).toInt32 :: st) hp v hp') : PW K R cs ss M pc l (.int x :: st) hp v hp' := by
  intro p e s m args below meth c C Z hr H locs ls hP hS hv
  exact lv_i2c C.1 C.2.1 hd rfl (kk p e s m args below meth c C Z hr H locs ls hP hS hv)
theorem PW.dup {a : Value} (hd : decode (mC M) pc = .ok (.dup, 1)) (ha : a.category = 1) (kk : PW K R cs ss M (pc + 1) l (a :: a :: st) hp v hp') : PW K R cs ss M pc l (a :: st) hp v hp' := by
  intro p e s m args below meth c C Z hr H locs ls hP hS hv
  exact lv_dup C.1 C.2.1 hd ha (kk p e s m args below meth c C Z hr H locs ls hP hS hv)
theorem PW.pop {a : Value} (hd : decode (mC M) pc = .ok (.pop, 1)) (ha : a.category = 1) (kk : PW K R cs ss M (pc + 1) l st hp v hp') : PW K R cs ss M pc l (a :: st) hp v hp' := by
  intro p e s m args below meth c C Z hr H locs ls hP hS hv
  exact lv_pop C.1 C.2.1 hd ha (kk p e s m args below meth c C Z hr H locs ls hP hS hv)
theorem PW.dup_x1 {a b : Value} (hd : decode (mC M) pc = .ok (.dup_x1, 1)) (ha : a.category = 1) (hb : b.category = 1) (kk : PW K R cs ss M (pc + 1) l (a :: b :: a :: st) hp v hp') : PW K R cs ss M pc l (a :: b :: st) hp v hp' := by
  intro p e s m args below meth c C Z hr H locs ls hP hS hv
  exact lv_dup_x1 C.1 C.2.1 hd ha hb (kk p e s m args below meth c C Z hr H locs ls hP hS hv)
theorem PW.dup2 {a b : Value} (hd : decode (mC M) pc = .ok (.dup2, 1)) (ha : a.category = 1) (hb : b.category = 1) (kk : PW K R cs ss M (pc + 1) l (a :: b :: a :: b :: st) hp v hp') : PW K R cs ss M pc l (a :: b :: st) hp v hp' := by
  intro p e s m args below meth c C Z hr H locs ls hP hS hv
  exact lv_dup2_11 C.1 C.2.1 hd ha hb (kk p e s m args below meth c C Z hr H locs ls hP hS hv)
theorem PW.dup2_2 {a : Value} (hd : decode (mC M) pc = .ok (.dup2, 1)) (ha : a.category = 2) (kk : PW K R cs ss M (pc + 1) l (a :: a :: st) hp v hp') : PW K R cs ss M pc l (a :: st) hp v hp' := by
  intro p e s m args below meth c C Z hr H locs ls hP hS hv
  exact lv_dup2_2 C.1 C.2.1 hd ha (kk p e s m args below meth c C Z hr H locs ls hP hS hv)
theorem PW.icmp_eq {x y : Int32} {off : Int} {tgt : Nat} (hd : decode (mC M) pc = .ok (.if_icmp .eq off, 3)) (ht : (pc : Int) + off = (tgt : Int)) (kt : x = y → PW K R cs ss M (tgt) l st hp v hp') (kf : ¬ x = y → PW K R cs ss M (pc + 3) l st hp v hp') : PW K R cs ss M pc l (.int y :: .int x :: st) hp v hp' := by
  intro p e s m args below meth c C Z hr H locs ls hP hS hv
  exact lv_icmp_eq C.1 C.2.1 hd ht (fun q => kt q p e s m args below meth c C Z hr H locs ls hP hS hv) (fun q => kf q p e s m args below meth c C Z hr H locs ls hP hS hv)
theorem PW.if_eq {x : Int32} {off : Int} {tgt : Nat} (hd : decode (mC M) pc = .ok (.ifCond .eq off, 3)) (ht : (pc : Int) + off = (tgt : Int)) (kt : x = 0 → PW K R cs ss M (tgt) l st hp v hp') (kf : ¬ x = 0 → PW K R cs ss M (pc + 3) l st hp v hp') : PW K R cs ss M pc l (.int x :: st) hp v hp' := by
  intro p e s m args below meth c C Z hr H locs ls hP hS hv
  exact lv_if_eq C.1 C.2.1 hd ht (fun q => kt q p e s m args below meth c C Z hr H locs ls hP hS hv) (fun q => kf q p e s m args below meth c C Z hr H locs ls hP hS hv)
theorem PW.icmp_ne {x y : Int32} {off : Int} {tgt : Nat} (hd : decode (mC M) pc = .ok (.if_icmp .ne off, 3)) (ht : (pc : Int) + off = (tgt : Int)) (kt : ¬ x = y → PW K R cs ss M (tgt) l st hp v hp') (kf : x = y → PW K R cs ss M (pc + 3) l st hp v hp') : PW K R cs ss M pc l (.int y :: .int x :: st) hp v hp' := by
  intro p e s m args below meth c C Z hr H locs ls hP hS hv
  exact lv_icmp_ne C.1 C.2.1 hd ht (fun q => kt q p e s m args below meth c C Z hr H locs ls hP hS hv) (fun q => kf q p e s m args below meth c C Z hr H locs ls hP hS hv)
theorem PW.if_ne {x : Int32} {off : Int} {tgt : Nat} (hd : decode (mC M) pc = .ok (.ifCond .ne off, 3)) (ht : (pc : Int) + off = (tgt : Int)) (kt : ¬ x = 0 → PW K R cs ss M (tgt) l st hp v hp') (kf : x = 0 → PW K R cs ss M (pc + 3) l st hp v hp') : PW K R cs ss M pc l (.int x :: st) hp v hp' := by
  intro p e s m args below meth c C Z hr H locs ls hP hS hv
  exact lv_if_ne C.1 C.2.1 hd ht (fun q => kt q p e s m args below meth c C Z hr H locs ls hP hS hv) (fun q => kf q p e s m args below meth c C Z hr H locs ls hP hS hv)
theorem PW.icmp_lt {x y : Int32} {off : Int} {tgt : Nat} (hd : decode (mC M) pc = .ok (.if_icmp .lt off, 3)) (ht : (pc : Int) + off = (tgt : Int)) (kt : x < y → PW K R cs ss M (tgt) l st hp v hp') (kf : ¬ x < y → PW K R cs ss M (pc + 3) l st hp v hp') : PW K R cs ss M pc l (.int y :: .int x :: st) hp v hp' := by
  intro p e s m args below meth c C Z hr H locs ls hP hS hv
  exact lv_icmp_lt C.1 C.2.1 hd ht (fun q => kt q p e s m args below meth c C Z hr H locs ls hP hS hv) (fun q => kf q p e s m args below meth c C Z hr H locs ls hP hS hv)
theorem PW.if_lt {x : Int32} {off : Int} {tgt : Nat} (hd : decode (mC M) pc = .ok (.ifCond .lt off, 3)) (ht : (pc : Int) + off = (tgt : Int)) (kt : x < 0 → PW K R cs ss M (tgt) l st hp v hp') (kf : ¬ x < 0 → PW K R cs ss M (pc + 3) l st hp v hp') : PW K R cs ss M pc l (.int x :: st) hp v hp' := by
  intro p e s m args below meth c C Z hr H locs ls hP hS hv
  exact lv_if_lt C.1 C.2.1 hd ht (fun q => kt q p e s m args below meth c C Z hr H locs ls hP hS hv) (fun q => kf q p e s m args below meth c C Z hr H locs ls hP hS hv)
theorem PW.icmp_ge {x y : Int32} {off : Int} {tgt : Nat} (hd : decode (mC M) pc = .ok (.if_icmp .ge off, 3)) (ht : (pc : Int) + off = (tgt : Int)) (kt : y ≤ x → PW K R cs ss M (tgt) l st hp v hp') (kf : ¬ y ≤ x → PW K R cs ss M (pc + 3) l st hp v hp') : PW K R cs ss M pc l (.int y :: .int x :: st) hp v hp' := by
  intro p e s m args below meth c C Z hr H locs ls hP hS hv
  exact lv_icmp_ge C.1 C.2.1 hd ht (fun q => kt q p e s m args below meth c C Z hr H locs ls hP hS hv) (fun q => kf q p e s m args below meth c C Z hr H locs ls hP hS hv)
theorem PW.if_ge {x : Int32} {off : Int} {tgt : Nat} (hd : decode (mC M) pc = .ok (.ifCond .ge off, 3)) (ht : (pc : Int) + off = (tgt : Int)) (kt : 0 ≤ x → PW K R cs ss M (tgt) l st hp v hp') (kf : ¬ 0 ≤ x → PW K R cs ss M (pc + 3) l st hp v hp') : PW K R cs ss M pc l (.int x :: st) hp v hp' := by
  intro p e s m args below meth c C Z hr H locs ls hP hS hv
  exact lv_if_ge C.1 C.2.1 hd ht (fun q => kt q p e s m args below meth c C Z hr H locs ls hP hS hv) (fun q => kf q p e s m args below meth c C Z hr H locs ls hP hS hv)
theorem PW.icmp_gt {x y : Int32} {off : Int} {tgt : Nat} (hd : decode (mC M) pc = .ok (.if_icmp .gt off, 3)) (ht : (pc : Int) + off = (tgt : Int)) (kt : y < x → PW K R cs ss M (tgt) l st hp v hp') (kf : ¬ y < x → PW K R cs ss M (pc + 3) l st hp v hp') : PW K R cs ss M pc l (.int y :: .int x :: st) hp v hp' := by
  intro p e s m args below meth c C Z hr H locs ls hP hS hv
  exact lv_icmp_gt C.1 C.2.1 hd ht (fun q => kt q p e s m args below meth c C Z hr H locs ls hP hS hv) (fun q => kf q p e s m args below meth c C Z hr H locs ls hP hS hv)
theorem PW.if_gt {x : Int32} {off : Int} {tgt : Nat} (hd : decode (mC M) pc = .ok (.ifCond .gt off, 3)) (ht : (pc : Int) + off = (tgt : Int)) (kt : 0 < x → PW K R cs ss M (tgt) l st hp v hp') (kf : ¬ 0 < x → PW K R cs ss M (pc + 3) l st hp v hp') : PW K R cs ss M pc l (.int x :: st) hp v hp' := by
  intro p e s m args below meth c C Z hr H locs ls hP hS hv
  exact lv_if_gt C.1 C.2.1 hd ht (fun q => kt q p e s m args below meth c C Z hr H locs ls hP hS hv) (fun q => kf q p e s m args below meth c C Z hr H locs ls hP hS hv)
theorem PW.icmp_le {x y : Int32} {off : Int} {tgt : Nat} (hd : decode (mC M) pc = .ok (.if_icmp .le off, 3)) (ht : (pc : Int) + off = (tgt : Int)) (kt : x ≤ y → PW K R cs ss M (tgt) l st hp v hp') (kf : ¬ x ≤ y → PW K R cs ss M (pc + 3) l st hp v hp') : PW K R cs ss M pc l (.int y :: .int x :: st) hp v hp' := by
  intro p e s m args below meth c C Z hr H locs ls hP hS hv
  exact lv_icmp_le C.1 C.2.1 hd ht (fun q => kt q p e s m args below meth c C Z hr H locs ls hP hS hv) (fun q => kf q p e s m args below meth c C Z hr H locs ls hP hS hv)
theorem PW.if_le {x : Int32} {off : Int} {tgt : Nat} (hd : decode (mC M) pc = .ok (.ifCond .le off, 3)) (ht : (pc : Int) + off = (tgt : Int)) (kt : x ≤ 0 → PW K R cs ss M (tgt) l st hp v hp') (kf : ¬ x ≤ 0 → PW K R cs ss M (pc + 3) l st hp v hp') : PW K R cs ss M pc l (.int x :: st) hp v hp' := by
  intro p e s m args below meth c C Z hr H locs ls hP hS hv
  exact lv_if_le C.1 C.2.1 hd ht (fun q => kt q p e s m args below meth c C Z hr H locs ls hP hS hv) (fun q => kf q p e s m args below meth c C Z hr H locs ls hP hS hv)
theorem PW.goto {off : Int} {tgt : Nat} (hd : decode (mC M) pc = .ok (.goto off, 3)) (ht : (pc : Int) + off = (tgt : Int)) (kk : PW K R cs ss M (tgt) l st hp v hp') : PW K R cs ss M pc l st hp v hp' := by
  intro p e s m args below meth c C Z hr H locs ls hP hS hv
  exact lv_goto C.1 C.2.1 hd ht (kk p e s m args below meth c C Z hr H locs ls hP hS hv)
theorem PW.tabOut {dflt lo hi : Int} {offs : Array Int} {len : Nat} {x : Int32} {tgt : Nat} (hd : decode (mC M) pc = .ok (.tableswitch dflt lo hi offs, len)) (h : x.toInt < lo ∨ hi < x.toInt) (ht : (pc : Int) + dflt = (tgt : Int)) (kk : PW K R cs ss M (tgt) l st hp v hp') : PW K R cs ss M pc l (.int x :: st) hp v hp' := by
  intro p e s m args below meth c C Z hr H locs ls hP hS hv
  exact lv_tableOut C.1 C.2.1 hd h ht (kk p e s m args below meth c C Z hr H locs ls hP hS hv)
theorem PW.tabIn {dflt lo hi : Int} {offs : Array Int} {len : Nat} {x : Int32} {off : Int} {tgt : Nat} (hd : decode (mC M) pc = .ok (.tableswitch dflt lo hi offs, len)) (h1 : ¬ x.toInt < lo) (h2 : ¬ hi < x.toInt) (ho : offs[(x.toInt - lo).toNat]? = some off) (ht : (pc : Int) + off = (tgt : Int)) (kk : PW K R cs ss M (tgt) l st hp v hp') : PW K R cs ss M pc l (.int x :: st) hp v hp' := by
  intro p e s m args below meth c C Z hr H locs ls hP hS hv
  exact lv_tableIn C.1 C.2.1 hd h1 h2 ho ht (kk p e s m args below meth c C Z hr H locs ls hP hS hv)
theorem rE_o {ad aC : Nat → Nat} {hp : PH} {k ci : Nat} {fs : List Value} (h : hp k = .inr (ci, fs)) (hk : k < NC) : (wsO ad aC hp)[k]? = some (ad k, .inr (ci, fs.map (rv ad))) := by
  rw [wsO_get ad aC hp hk, h]; rfl
theorem rE_i {ad aC : Nat → Nat} {hp : PH} {k t n : Nat} {f : Nat → Int32} (h : hp k = .inl (t, n, .inl f)) (hk : k < NC) : (wsO ad aC hp)[k]? = some (ad k, .inl (aC t, n, .inl f)) := by
  rw [wsO_get ad aC hp hk, h]; rfl
theorem rE_l {ad aC : Nat → Nat} {hp : PH} {k t n : Nat} {f : Nat → Int64} (h : hp k = .inl (t, n, .inr (.inl f))) (hk : k < NC) : (wsO ad aC hp)[k]? = some (ad k, .inl (aC t, n, .inr (.inl f))) := by
  rw [wsO_get ad aC hp hk, h]; rfl
theorem rE_q {ad aC : Nat → Nat} {hp : PH} {k t n : Nat} {f : Nat → Option Nat} (h : hp k = .inl (t, n, .inr (.inr (.inr (.inr f))))) (hk : k < NC) : (wsO ad aC hp)[k]? = some (ad k, .inl (aC t, n, .inr (.inr (.inr (.inr (fun j => (f j).map ad)))))) := by
  rw [wsO_get ad aC hp hk, h]; rfl
/-- a class of the worlds: its number, and that its fields' words are among TB -/
def Cls (ci : Nat) (C : String) (T : u_T) (N : Nat) : Prop := vwCl[ci]? = some (C, T, N) ∧ ∀ w ∈ u_ws C T N, w ∈ TB
theorem PW.getV {ci k j N i : Nat} {C : String} {T : u_T} {u : Value} (hc : Cls ci C T N) (hj : j < N) (hd : decode (mC M) pc = .ok (.getfield i, 3)) (hw : Cond.fieldLink (mO M) i (T j).1 (T j).2.1 (T j).2.2.1 ∈ TB) (hg : gV hp k ci j = some u) (kk : PW K R cs ss M (pc + 3) l (rv (ga K) u :: st) hp v hp') : PW K R cs ss M pc l (.ref (ga K k) :: st) hp v hp' := by
  intro p e s m args below meth c C0 Z hr H locs ls hP hS hv
  obtain ⟨hk, fs, h1, h2⟩ := gV_spec hg
  exact va_get (D := gD K) (cl := vwCl) (tys := tyK K) (ws := wsO (ga K) (gC K) hp) C0.1 C0.2.1 C0.2.2.2.2.1 hc.2 C0.2.2.2.1 C0.2.2.2.2.2.1 hP k (rE_o h1 hk) hc.1 j hj (C0.2.2.2.2.1 _ hw) (fun _ h9 => h9) (by rw [List.getElem?_map, h2]; rfl) hd (kk p e s m args below meth c C0 Z hr H locs ls hP hS hv)
theorem PW.getI {ci k j N i : Nat} {C : String} {T : u_T} {x : Int32} (hc : Cls ci C T N) (hj : j < N) (hd : decode (mC M) pc = .ok (.getfield i, 3)) (hw : Cond.fieldLink (mO M) i (T j).1 (T j).2.1 (T j).2.2.1 ∈ TB) (hg : gI hp k ci j = some x) (kk : PW K R cs ss M (pc + 3) l (.int x :: st) hp v hp') : PW K R cs ss M pc l (.ref (ga K k) :: st) hp v hp' := PW.getV hc hj hd hw (gI_spec hg) kk
theorem PW.getJ {ci k j N i : Nat} {C : String} {T : u_T} {x : Int64} (hc : Cls ci C T N) (hj : j < N) (hd : decode (mC M) pc = .ok (.getfield i, 3)) (hw : Cond.fieldLink (mO M) i (T j).1 (T j).2.1 (T j).2.2.1 ∈ TB) (hg : gJ hp k ci j = some x) (kk : PW K R cs ss M (pc + 3) l (.long x :: st) hp v hp') : PW K R cs ss M pc l (.ref (ga K k) :: st) hp v hp' := PW.getV hc hj hd hw (gJ_spec hg) kk
theorem PW.getR {ci k j N i : Nat} {C : String} {T : u_T} {x : Nat} (hc : Cls ci C T N) (hj : j < N) (hd : decode (mC M) pc = .ok (.getfield i, 3)) (hw : Cond.fieldLink (mO M) i (T j).1 (T j).2.1 (T j).2.2.1 ∈ TB) (hg : gR hp k ci j = some x) (kk : PW K R cs ss M (pc + 3) l (.ref (ga K x) :: st) hp v hp') : PW K R cs ss M pc l (.ref (ga K k) :: st) hp v hp' := PW.getV hc hj hd hw (gR_spec hg) kk
/-- a class whose fields may be written: their types, their names apart -/
def ClsW (T : u_T) (N : Nat) (ty : Nat → FieldType) : Prop := (∀ k, k < N → parseFieldDescriptor (T k).2.2.1 = some (ty k)) ∧ ∀ a, a < N → ∀ b, b < N → a ≠ b → (T a).2.1 ≠ (T b).2.1
theorem PW.putV {ci k j N i : Nat} {C : String} {T : u_T} {ty : Nat → FieldType} {u : Value} {hp1 : PH} (hc : Cls ci C T N) (hcw : ClsW T N ty) (hj : j < N) (hd : decode (mC M) pc = .ok (.putfield i, 3)) (hw : Cond.fieldLink (mO M) i (T j).1 (T j).2.1 (T j).2.2.1 ∈ TB) (hfin : (T j).2.2.2 = false) (hu : rv (ga K) u = u) (hn : narrow (ty j) u = u) (hf : fits (ty j) u = true) (hg : pV hp k ci j u = some hp1) (kk : PW K R cs ss M (pc + 3) l st hp1 v hp') : PW K R cs ss M pc l (u :: .ref (ga K k) :: st) hp v hp' := by
  intro p e s m args below meth c C0 Z hr H locs ls hP hS hv
  obtain ⟨hk, fs, h1, h2, rfl⟩ := pV_spec hg
  refine va_put (D := gD K) (cl := vwCl) (tys := tyK K) (ws := wsO (ga K) (gC K) hp) (A := AA K) (H0 := s.heap) C0.1 C0.2.1 C0.2.2.2.2.1 hc.2 ty hcw.1 hcw.2 C0.2.2.2.1 C0.2.2.2.2.2.1 hP (C0.2.2.2.2.2.D hp) hS k (rE_o h1 hk) hc.1 j hj (C0.2.2.2.2.1 _ hw) (fun _ h9 => h9) hfin (hcw.1 j hj) hn hf (by simpa using h2) hd (fun H1 locs1 hP1 hD1 hS1 => ?_)
  refine kk p e s m args below meth c C0 Z hr H1 locs1 ls ?_ hS1 hv
  show va_P _ _ _ _
  rw [← wsO_set _ _ _ hk]
  have e1 : rE (ga K) (gC K) (.inr (ci, fs.set j u)) = .inr (ci, (fs.map (rv (ga K))).set j u) := by
    show Sum.inr (ci, (fs.set j u).map (rv (ga K))) = _
    rw [List.map_set, hu]
  rw [e1]
  exact hP1
theorem PW.putI {ci k j N i : Nat} {C : String} {T : u_T} {ty : Nat → FieldType} {x : Int32} {hp1 : PH} (hc : Cls ci C T N) (hcw : ClsW T N ty) (hj : j < N) (hd : decode (mC M) pc = .ok (.putfield i, 3)) (hw : Cond.fieldLink (mO M) i (T j).1 (T j).2.1 (T j).2.2.1 ∈ TB) (hfin : (T j).2.2.2 = false) (hty : ty j = .int) (hg : pI hp k ci j x = some hp1) (kk : PW K R cs ss M (pc + 3) l st hp1 v hp') : PW K R cs ss M pc l (.int x :: .ref (ga K k) :: st) hp v hp' := PW.putV hc hcw hj hd hw hfin rfl (by rw [hty]; rfl) (by rw [hty]; rfl) hg kk
theorem PW.putJ {ci k j N i : Nat} {C : String} {T : u_T} {ty : Nat → FieldType} {x : Int64} {hp1 : PH} (hc : Cls ci C T N) (hcw : ClsW T N ty) (hj : j < N) (hd : decode (mC M) pc = .ok (.putfield i, 3)) (hw : Cond.fieldLink (mO M) i (T j).1 (T j).2.1 (T j).2.2.1 ∈ TB) (hfin : (T j).2.2.2 = false) (hty : ty j = .long) (hg : pJ hp k ci j x = some hp1) (kk : PW K R cs ss M (pc + 3) l st hp1 v hp') : PW K R cs ss M pc l (.long x :: .ref (ga K k) :: st) hp v hp' := PW.putV hc hcw hj hd hw hfin rfl (by rw [hty]; rfl) (by rw [hty]; rfl) hg kk
theorem z_nar {x : Int32} (h : x = 0 ∨ x = 1) : narrow .boolean (.int x) = .int x ∧ fits .boolean (.int x) = true := by
  rcases h with rfl | rfl <;> exact ⟨by decide +kernel, by decide +kernel⟩
theorem PW.putZ {ci k j N i : Nat} {C : String} {T : u_T} {ty : Nat → FieldType} {x : Int32} {hp1 : PH} (hc : Cls ci C T N) (hcw : ClsW T N ty) (hj : j < N) (hd : decode (mC M) pc = .ok (.putfield i, 3)) (hw : Cond.fieldLink (mO M) i (T j).1 (T j).2.1 (T j).2.2.1 ∈ TB) (hfin : (T j).2.2.2 = false) (hty : ty j = .boolean) (hg : pZ hp k ci j x = some hp1) (kk : PW K R cs ss M (pc + 3) l st hp1 v hp') : PW K R cs ss M pc l (.int x :: .ref (ga K k) :: st) hp v hp' := by
  unfold pZ at hg
  by_cases hx : x = 0 ∨ x = 1
  · rw [if_pos hx] at hg
    exact PW.putV hc hcw hj hd hw hfin rfl (by rw [hty]; exact (z_nar hx).1) (by rw [hty]; exact (z_nar hx).2) hg kk
  · rw [if_neg hx] at hg; cases hg
theorem PW.iald {k : Nat} {i x : Int32} (hd : decode (mC M) pc = .ok (.iaload, 1)) (hg : aI hp k 0 i = some x) (kk : PW K R cs ss M (pc + 1) l (.int x :: st) hp v hp') : PW K R cs ss M pc l (.int i :: .ref (ga K k) :: st) hp v hp' := by
  intro p e s m args below meth c C0 Z hr H locs ls hP hS hv
  obtain ⟨a, h1, h2, rfl⟩ := aI_spec hg
  obtain ⟨hk, h3⟩ := aA_spec h1
  exact va_iald (ws := wsO (ga K) (gC K) hp) C0.1 C0.2.1 C0.2.2.2.2.2.1 hP k 0 (rE_i h3 hk) rfl h2 hd (kk p e s m args below meth c C0 Z hr H locs ls hP hS hv)
theorem PW.zald {k : Nat} {i x : Int32} (hd : decode (mC M) pc = .ok (.baload, 1)) (hg : aI hp k 1 i = some x) (kk : PW K R cs ss M (pc + 1) l (.int x :: st) hp v hp') : PW K R cs ss M pc l (.int i :: .ref (ga K k) :: st) hp v hp' := by
  intro p e s m args below meth c C0 Z hr H locs ls hP hS hv
  obtain ⟨a, h1, h2, rfl⟩ := aI_spec hg
  obtain ⟨hk, h3⟩ := aA_spec h1
  exact va_zald (ws := wsO (ga K) (gC K) hp) C0.1 C0.2.1 C0.2.2.2.2.2.1 hP k 1 (rE_i h3 hk) rfl h2 hd (kk p e s m args below meth c C0 Z hr H locs ls hP hS hv)
theorem PW.lald {k : Nat} {i : Int32} {x : Int64} (hd : decode (mC M) pc = .ok (.laload, 1)) (hg : aJ hp k i = some x) (kk : PW K R cs ss M (pc + 1) l (.long x :: st) hp v hp') : PW K R cs ss M pc l (.int i :: .ref (ga K k) :: st) hp v hp' := by
  intro p e s m args below meth c C0 Z hr H locs ls hP hS hv
  obtain ⟨a, h1, h2, rfl⟩ := aJ_spec hg
  obtain ⟨hk, h3⟩ := aB_spec h1
  exact va_lald (ws := wsO (ga K) (gC K) hp) C0.1 C0.2.1 C0.2.2.2.2.2.1 hP k 2 (rE_l h3 hk) rfl h2 hd (kk p e s m args below meth c C0 Z hr H locs ls hP hS hv)
theorem PW.aald {k x : Nat} {i : Int32} (hd : decode (mC M) pc = .ok (.aaload, 1)) (hg : aQ hp k i = some x) (kk : PW K R cs ss M (pc + 1) l (.ref (ga K x) :: st) hp v hp') : PW K R cs ss M pc l (.int i :: .ref (ga K k) :: st) hp v hp' := by
  intro p e s m args below meth c C0 Z hr H locs ls hP hS hv
  unfold aQ at hg
  split at hg
  · rename_i t' n f hh
    by_cases hc : k < NC ∧ t' = 3 ∧ ¬ i < 0 ∧ i.toNatClampNeg < n
    · rw [if_pos hc] at hg
      obtain ⟨h1, rfl, h3⟩ := hc
      refine va_aldq (ws := wsO (ga K) (gC K) hp) (C := "AgesTens$State") C0.1 C0.2.1 C0.2.2.2.2.2.1 hP k 3 (rE_q hh h1) rfl (in_of h3) hd ?_
      rw [hg]
      exact (kk p e s m args below meth c C0 Z hr H locs ls hP hS hv)
    · rw [if_neg hc] at hg; cases hg
  · cases hg
theorem PW.iast {k : Nat} {i x : Int32} {hp1 : PH} (hd : decode (mC M) pc = .ok (.iastore, 1)) (hg : uI hp k i x = some hp1) (kk : PW K R cs ss M (pc + 1) l st hp1 v hp') : PW K R cs ss M pc l (.int x :: .int i :: .ref (ga K k) :: st) hp v hp' := by
  intro p e s m args below meth c C0 Z hr H locs ls hP hS hv
  obtain ⟨a, h1, h2, rfl⟩ := uI_spec hg
  obtain ⟨hk, h3⟩ := aA_spec h1
  refine va_iast (ws := wsO (ga K) (gC K) hp) (A := AA K) (H0 := s.heap) C0.1 C0.2.1 C0.2.2.2.2.2.1 hP (C0.2.2.2.2.2.D hp) hS k 0 (rE_i h3 hk) rfl h2 hd (fun H1 locs1 hP1 hD1 hS1 => ?_)
  refine kk p e s m args below meth c C0 Z hr H1 locs1 ls ?_ hS1 hv
  show va_P _ _ _ _
  rw [← wsO_set _ _ _ hk]
  exact hP1
theorem PW.zast {k : Nat} {i x : Int32} {hp1 : PH} (hd : decode (mC M) pc = .ok (.bastore, 1)) (hg : uZ hp k i x = some hp1) (kk : PW K R cs ss M (pc + 1) l st hp1 v hp') : PW K R cs ss M pc l (.int x :: .int i :: .ref (ga K k) :: st) hp v hp' := by
  intro p e s m args below meth c C0 Z hr H locs ls hP hS hv
  obtain ⟨a, h1, h2, rfl⟩ := uZ_spec hg
  obtain ⟨hk, h3⟩ := aA_spec h1
  refine va_zast (ws := wsO (ga K) (gC K) hp) (A := AA K) (H0 := s.heap) C0.1 C0.2.1 C0.2.2.2.2.2.1 hP (C0.2.2.2.2.2.D hp) hS k 1 (rE_i h3 hk) rfl h2 hd (fun H1 locs1 hP1 hD1 hS1 => ?_)
  refine kk p e s m args below meth c C0 Z hr H1 locs1 ls ?_ hS1 hv
  show va_P _ _ _ _
  rw [← wsO_set _ _ _ hk]
  exact hP1
theorem PW.last {k : Nat} {i : Int32} {x : Int64} {hp1 : PH} (hd : decode (mC M) pc = .ok (.lastore, 1)) (hg : uJ hp k i x = some hp1) (kk : PW K R cs ss M (pc + 1) l st hp1 v hp') : PW K R cs ss M pc l (.long x :: .int i :: .ref (ga K k) :: st) hp v hp' := by
  intro p e s m args below meth c C0 Z hr H locs ls hP hS hv
  obtain ⟨a, h1, h2, rfl⟩ := uJ_spec hg
  obtain ⟨hk, h3⟩ := aB_spec h1
  refine va_last (ws := wsO (ga K) (gC K) hp) (A := AA K) (H0 := s.heap) C0.1 C0.2.1 C0.2.2.2.2.2.1 hP (C0.2.2.2.2.2.D hp) hS k 2 (rE_l h3 hk) rfl h2 hd (fun H1 locs1 hP1 hD1 hS1 => ?_)
  refine kk p e s m args below meth c C0 Z hr H1 locs1 ls ?_ hS1 hv
  show va_P _ _ _ _
  rw [← wsO_set _ _ _ hk]
  exact hP1
theorem lt_four (t : Nat) (h : t < 4) : t = 0 ∨ t = 1 ∨ t = 2 ∨ t = 3 := by omega
theorem PW.alen {k : Nat} {x : Int32} (hd : decode (mC M) pc = .ok (.arraylength, 1)) (hg : aL hp k = some x) (kk : PW K R cs ss M (pc + 1) l (.int x :: st) hp v hp') : PW K R cs ss M pc l (.ref (ga K k) :: st) hp v hp' := by
  intro p e s m args below meth c C0 Z hr H locs ls hP hS hv
  unfold aL at hg
  split at hg
  · rename_i t' n f hh
    by_cases hc : k < NC ∧ t' < 4
    · rw [if_pos hc] at hg
      cases hg
      have hc2 := hc.2
      have h5 : (wsO (ga K) (gC K) hp)[k]? = some (ga K k, .inl (gC K t', rA (ga K) (n, f))) := by rw [wsO_get _ _ hp hc.1, hh]; rfl
      have h6 : ∃ ty, (tyK K)[t']? = some (gC K t', ty) := by
        rcases lt_four t' hc2 with rfl | rfl | rfl | rfl <;> exact ⟨_, rfl⟩
      obtain ⟨ty, h6⟩ := h6
      exact va_alen (ws := wsO (ga K) (gC K) hp) C0.1 C0.2.1 C0.2.2.2.2.2.1 hP k t' h5 h6 rfl hd (kk p e s m args below meth c C0 Z hr H locs ls hP hS hv)
    · rw [if_neg hc] at hg; cases hg
  · cases hg
theorem PW.copy {k0 k1 t : Nat} {sp dp n : Int32} {i : Nat} {hp1 : PH} (hd : decode (mC M) pc = .ok (.invokestatic i, 3)) (hw : Cond.methodLink (mO M) i arraycopyName ∈ TB) (hw2 : Cond.native arraycopyName ∈ TB) (hw3 : Cond.static arraycopyName ∈ TB) (hw4 : Cond.initialized "java/lang/System" ∈ TB) (hfr : 1 ≤ R.frames) (hlo : (st.map fun v => v.category).sum + (nativeFrameWords "java/lang/System" "arraycopy" 5 + 11) ≤ R.locals) (hg : cA hp k0 sp k1 dp n t = some hp1) (kk : PW K R cs ss M (pc + 3) l st hp1 v hp') : PW K R cs ss M pc l (.int n :: .int dp :: .ref (ga K k1) :: .int sp :: .ref (ga K k0) :: st) hp v hp' := by
  intro p e s m args below meth c C0 Z hr H locs ls hP hS hv
  unfold cA at hg
  cases ha : aA hp k0 t with
  | none => rw [ha] at hg; cases hg
  | some a =>
    cases hb : aA hp k1 t with
    | none => rw [ha, hb] at hg; cases hg
    | some b =>
      rw [ha, hb] at hg
      dsimp only at hg
      split at hg
      · rename_i hc
        cases hg
        obtain ⟨⟨c1, c2, c3⟩, c4, c5, c6⟩ := hc
        obtain ⟨hk0, h0⟩ := aA_spec ha
        obtain ⟨hk1, h1⟩ := aA_spec hb
        have hts := C0.2.2.2.2.1
        have fin : ∀ (H1 : Heap) (locs1 : List Loc), va_P (gD K) vwCl ((wsO (ga K) (gC K) hp).set k1 (ga K k1, .inl (gC K t, b.1, .inl (va_cpy a.2 b.2 sp.toNatClampNeg dp.toNatClampNeg n.toNatClampNeg)))) H1 → va_S (AA K) s.heap H1 locs1 → W p (gl K) e R s m args below meth c H1 locs1 cs ss Z (F0 m (pc + 3) ls st) := by
          intro H1 locs1 hP1 hS1
          refine kk p e s m args below meth c C0 Z hr H1 locs1 ls ?_ hS1 hv
          show va_P _ _ _ _
          rw [← wsO_set _ _ _ hk1]
          exact hP1
        rcases c6 with rfl | ⟨rfl, c6⟩
        · exact va_copyi (ws := wsO (ga K) (gC K) hp) (A := AA K) (H0 := s.heap) (ty := .int) C0.1 C0.2.1 (by rw [C0.2.2.1, hv.1]) C0.2.2.2.1 (hts _ hw) (hts _ hw2) (hts _ hw3) (hts _ hw4) C0.2.2.2.2.2.1 hP (C0.2.2.2.2.2.D hp) hS k0 k1 0 0 (rE_i h0 hk0) (rE_i h1 hk1) rfl rfl rfl c1 c2 c3 c4 c5 (fun _ _ => rfl) hfr hlo hd (fun H1 locs1 hP1 _ hS1 => fin H1 locs1 hP1 hS1)
        · exact va_copyi (ws := wsO (ga K) (gC K) hp) (A := AA K) (H0 := s.heap) (ty := .boolean) C0.1 C0.2.1 (by rw [C0.2.2.1, hv.1]) C0.2.2.2.1 (hts _ hw) (hts _ hw2) (hts _ hw3) (hts _ hw4) C0.2.2.2.2.2.1 hP (C0.2.2.2.2.2.D hp) hS k0 k1 1 1 (rE_i h0 hk0) (rE_i h1 hk1) rfl rfl rfl c1 c2 c3 c4 c5 (fun i hi => (z_nar (c6 i hi)).2) hfr hlo hd (fun H1 locs1 hP1 _ hS1 => fin H1 locs1 hP1 hS1)
      · cases hg
theorem PW.months {i : Nat} (hd : decode (mC M) pc = .ok (.getstatic i, 3)) (hw : Cond.fieldLink (mO M) i "AgesTens$Calendar" "MONTH_PLACES" "[I" ∈ TB) (kk : PW K R cs ss M (pc + 3) l (.ref (gm K) :: st) hp v hp') : PW K R cs ss M pc l st hp v hp' := by
  intro p e s m args below meth c C0 Z hr H locs ls hP hS hv
  exact va_gets C0.1 C0.2.1 C0.2.2.2.2.2.2.2.1 hS C0.2.2.2.1 (C0.2.2.2.2.1 _ hw) (fun _ h => h) hd (kk p e s m args below meth c C0 Z hr H locs ls hP hS hv)
theorem PW.mald {i x : Int32} (hd : decode (mC M) pc = .ok (.iaload, 1)) (hg : aM i = some x) (kk : PW K R cs ss M (pc + 1) l (.int x :: st) hp v hp') : PW K R cs ss M pc l (.int i :: .ref (gm K) :: st) hp v hp' := by
  intro p e s m args below meth c C0 Z hr H locs ls hP hS hv
  unfold aM at hg
  split at hg
  · rename_i hc
    cases hg
    exact va_ti C0.1 C0.2.1 C0.2.2.2.2.2.2.2.2.1 hS (in_of hc) rfl hd (kk p e s m args below meth c C0 Z hr H locs ls hP hS hv)
  · cases hg
theorem PW.sald {i : Int32} (hd : decode (mC M) pc = .ok (.iaload, 1)) (hg : vp_in i (gL K)) (kk : PW K R cs ss M (pc + 1) l (.int (gx K i.toNatClampNeg) :: st) hp v hp') : PW K R cs ss M pc l (.int i :: .ref (gb K) :: st) hp v hp' := by
  intro p e s m args below meth c C0 Z hr H locs ls hP hS hv
  exact va_ti C0.1 C0.2.1 C0.2.2.2.2.2.2.2.2.2.2.1 hS hg rfl hd (kk p e s m args below meth c C0 Z hr H locs ls hP hS hv)
theorem PW.slen (hd : decode (mC M) pc = .ok (.arraylength, 1)) (kk : PW K R cs ss M (pc + 1) l (.int (nI (gL K)) :: st) hp v hp') : PW K R cs ss M pc l (.ref (gb K) :: st) hp v hp' := by
  intro p e s m args below meth c C0 Z hr H locs ls hP hS hv
  exact va_tlen C0.1 C0.2.1 C0.2.2.2.2.2.2.2.2.2.2.1 hS rfl hd (kk p e s m args below meth c C0 Z hr H locs ls hP hS hv)
theorem PW.mmin {x y : Int32} {i : Nat} (hd : decode (mC M) pc = .ok (.invokestatic i, 3)) (hw : Cond.methodLink (mO M) i Lib.Math.min.name ∈ TB) (hw2 : Cond.static Lib.Math.min.name ∈ TB) (hw3 : Cond.initialized "java/lang/Math" ∈ TB) (hw4 : Cond.code Lib.Math.min.name Lib.Math.min.code 2 (some .int) ∈ TB) (hfr : 1 ≤ R.frames) (hlo : (st.map fun v => v.category).sum + 13 ≤ R.locals) (hcs : cs ≤ R.cells ∧ ss ≤ R.slots) (kk : PW K R cs ss M (pc + 3) l (.int (mnI x y) :: st) hp v hp') : PW K R cs ss M pc l (.int y :: .int x :: st) hp v hp' := by
  intro p e s m args below meth c C0 Z hr H locs ls hP hS hv
  have hts := C0.2.2.2.2.1
  exact va_mmin C0.1 C0.2.1 (by rw [C0.2.2.1, hv.1]) C0.2.2.2.1 (hts _ hw) (hts _ hw2) (hts _ hw3) (hts _ hw4) hfr hlo hcs.1 hcs.2 hd (kk p e s m args below meth c C0 Z hr H locs ls hP hS hv)
/-- what a call of M' needs of the tables -/
def CalB (M' : MK) (n : Nat) : Prop := Cond.code (mY M') (mC M') (mL M') (mR M') ∈ TB ∧ Cond.initialized (mY M').cls ∈ TB ∧ ((mY M').cls ≠ "java/lang/invoke/MethodHandle" ∧ (mY M').cls ≠ "java/lang/invoke/VarHandle" ∧ (parseMethodDescriptor (mY M').desc).map (fun d => d.parameters.length) = some n) ∧ mL M' ≤ 22
def CalV (M' : MK) (n ci : Nat) : Prop := CalB M' n ∧ Cond.instanceMethod (mY M') ∈ TB ∧ Cond.selects (mY M').cls (mY M') (mY M') ∈ TB ∧ (vwCl[ci]?).map (fun r => r.1) = some (mY M').cls
def CalS (M' : MK) (n : Nat) : Prop := CalB M' n ∧ Cond.static (mY M') ∈ TB
theorem wsM_good {M' : MK} (h : Cond.code (mY M') (mC M') (mL M') (mR M') ∈ TB) : GoodIn TB (wsM M') := fun w hw => (List.mem_cons.mp hw).elim (fun e => by rw [e]; exact ⟨h, good_of_word (List.mem_filter.mp h).2⟩) (fun e => ⟨e, good_of_word (List.mem_filter.mp e).2⟩)
theorem PM.blind {K : GK} {As : List Value} {hp : PH} : FrameBlind (va_Pc As (fun U => Wd K hp U.heap ∧ FX K U U.heap)) := by
  intro a U g mk q
  have hr := q.2.2.2.2.2.2.2.2.1
  exact ⟨q.1, q.2.1, FX.go0 (s := U) (U := U.calling g mk a) (H := U.heap) q.2.2 va_S.rf (Vm.Alike.refl U.vm) ⟨hr.1.same rfl, hr.2.1.same rfl, hr.2.2.1.same rfl, hr.2.2.2.same rfl⟩⟩
theorem PW.aft {p : Program} {e : Env} {s : State} {m : MethodId} {args : Array Value} {below : List Frame} {meth : Method} {c : Code} {H : Heap} {locs : List Loc} {rest : List Value} {v1 : Option Value} {hp1 : PH} {Z : State → Prop} {ls : Array Slot} {st0 : List Value}
    (hrun : va_Run p (gl K) e R s m args below meth c H locs cs ss 0 0 (F0 m pc ls st0) rest (fun st oc t => oc = .returned v1 ∧ Wd K hp1 t.heap ∧ va_F (AA K) st t) (AA K)) (hS : va_S (AA K) s.heap H locs)
    (kk : ∀ (H1 : Heap) (locs1 : List Loc), Wd K hp1 H1 → va_S (AA K) s.heap H1 locs1 → W p (gl K) e R s m args below meth c H1 locs1 cs ss Z (F0 m (pc + 3) ls (v1.toList ++ rest))) : W p (gl K) e R s m args below meth c H locs cs ss Z (F0 m pc ls st0) := by
  intro T hT X
  obtain ⟨v, st₀, t, T', L, h0, X', hL, e1, e2, ⟨hv, hw, hz, hk⟩, go⟩ := hrun T hT X
  cases hv
  rw [h0] at hz hk
  obtain ⟨t2, a1, b1⟩ := kk T'.heap (locs ++ L) (by rw [e1]; exact hw)
    ⟨Nat.le_trans hS.1 (by rw [e1]; exact hz), fun q h1 h2 => by rw [e1, hk q (Nat.lt_of_lt_of_le h1 hS.1) h2]; exact hS.2.1 q h1 h2, fun q hq => by
      rcases List.mem_append.mp hq with h | h
      · exact hS.2.2 q h
      · exact hL q h⟩ T' rfl X'
  exact ⟨t2, go t2 a1, b1⟩
theorem PW.callV {M' : MK} {d n ci k i : Nat} {As rest : List Value} {v1 : Option Value} {hp1 : PH} (hcal : CalV M' n ci) (hd : decode (mC M) pc = .ok (.invokevirtual i, 3)) (hw : Cond.methodLink (mO M) i (mY M') ∈ TB) (hs : st = As.reverse ++ .ref (ga K k) :: rest) (hn : As.length = n) (hR : d + 1 ≤ R.frames ∧ 41 * d + 41 ≤ R.locals) (hrest : (rest.map fun v => v.category).sum ≤ 8) (hcs : cs ≤ R.cells ∧ ss ≤ R.slots) (hk : k < NC) (hcell : ∃ fs, hp k = .inr (ci, fs)) (hM : PM K d M' (.ref (ga K k) :: As) hp v1 hp1) (kk : PW K R cs ss M (pc + 3) l (v1.toList ++ rest) hp1 v hp') : PW K R cs ss M pc l st hp v hp' := by
  intro p e s m args below meth c C0 Z hr H locs ls hP hS hv
  subst hs
  have hts := C0.2.2.2.2.1
  obtain ⟨⟨q1, q2, q3, q4⟩, q5, q6, q7⟩ := hcal
  obtain ⟨fs, hcell⟩ := hcell
  cases hvw : vwCl[ci]? with
  | none => rw [hvw] at q7; cases q7
  | some r =>
    rw [hvw] at q7
    have hrn : r.1 = (mY M').cls := Option.some.inj q7
    have hrecv := va_recv (q0 := k) C0.2.2.2.2.2.1 hP hvw (rE_o hcell hk)
    rw [hrn] at hrecv
    have hb : CallB R s args (mO M) i (mY M') (mC M') (mL M') (mR M') (wsM M') (rmD d) 0 0 n := callB_of (Ts := TB) n hts (wsM_good q1) rfl rfl rfl (hts _ q2) (hts _ hw) q3 ⟨hR.1, by show 8 + (mL M' + 11) + 41 * d ≤ R.locals; omega⟩
    refine PW.aft (va_runV (n := n) (C := (mY M').cls) (Ts := TB) (As := As) (rest := rest) ⟨C0.1, C0.2.1, C0.2.2.1, C0.2.2.2.1, hts⟩ hM ⟨hb, hts _ q5, hts _ q6⟩ ⟨PM.blind, hrecv, fun U hU hW => ⟨rfl, by rw [hU]; exact hP, by rw [hU]; exact C0.2.2.2.2.2.go hS hW⟩⟩ rfl hn hv.1 rfl (lv_room hrest) hd hcs) hS (fun H1 locs1 hP1 hS1 => kk p e s m args below meth c C0 Z hr H1 locs1 ls hP1 hS1 hv)
theorem PW.callS {M' : MK} {d n i : Nat} {As rest : List Value} {v1 : Option Value} {hp1 : PH} (hcal : CalS M' n) (hd : decode (mC M) pc = .ok (.invokestatic i, 3)) (hw : Cond.methodLink (mO M) i (mY M') ∈ TB) (hs : st = As.reverse ++ rest) (hn : As.length = n) (hR : d + 1 ≤ R.frames ∧ 41 * d + 41 ≤ R.locals) (hrest : (rest.map fun v => v.category).sum ≤ 8) (hcs : cs ≤ R.cells ∧ ss ≤ R.slots) (hM : PM K d M' As hp v1 hp1) (kk : PW K R cs ss M (pc + 3) l (v1.toList ++ rest) hp1 v hp') : PW K R cs ss M pc l st hp v hp' := by
  intro p e s m args below meth c C0 Z hr H locs ls hP hS hv
  subst hs
  have hts := C0.2.2.2.2.1
  obtain ⟨⟨q1, q2, q3, q4⟩, q5⟩ := hcal
  have hb : CallB R s args (mO M) i (mY M') (mC M') (mL M') (mR M') (wsM M') (rmD d) 0 0 n := callB_of (Ts := TB) n hts (wsM_good q1) rfl rfl rfl (hts _ q2) (hts _ hw) q3 ⟨hR.1, by show 8 + (mL M' + 11) + 41 * d ≤ R.locals; omega⟩
  refine PW.aft (va_runS (n := n) (Ts := TB) (As := As) (rest := rest) ⟨C0.1, C0.2.1, C0.2.2.1, C0.2.2.2.1, hts⟩ hM ⟨hb, hts _ q5⟩ ⟨PM.blind, fun U hU hW => ⟨rfl, by rw [hU]; exact hP, by rw [hU]; exact C0.2.2.2.2.2.go hS hW⟩⟩ rfl hn hv.1 rfl (lv_room hrest) hd hcs) hS (fun H1 locs1 hP1 hS1 => kk p e s m args below meth c C0 Z hr H1 locs1 ls hP1 hS1 hv)
end PWR
