/-! MAKING CELLS: cells by their places in a list; cell k lies at B + k -/
def rB (B : Nat) : Nat → Nat := fun k => B + k
def wsT (B : Nat) (aC : Nat → Nat) (T : List va_E) : va_W := T.mapIdx (fun k c => (B + k, rE (rB B) aC c))
theorem wsT_get {B : Nat} {aC : Nat → Nat} {T : List va_E} {k : Nat} {c : va_E} (h : T[k]? = some c) : (wsT B aC T)[k]? = some (B + k, rE (rB B) aC c) := by
  simp [wsT, h]
theorem wsT_some {B : Nat} {aC : Nat → Nat} {T : List va_E} {k : Nat} {q : Nat × va_E} (h : (wsT B aC T)[k]? = some q) : ∃ c, T[k]? = some c ∧ q = (B + k, rE (rB B) aC c) := by
  unfold wsT at h
  rw [List.getElem?_mapIdx] at h
  cases hc : T[k]? with
  | none => rw [hc] at h; cases h
  | some c => rw [hc] at h; exact ⟨c, rfl, (Option.some.inj h).symm⟩
theorem wsT_push {B : Nat} {aC : Nat → Nat} {T : List va_E} {c : va_E} : wsT B aC (T ++ [c]) = wsT B aC T ++ [(B + T.length, rE (rB B) aC c)] := by
  simp [wsT, List.mapIdx_append]
theorem wsT_set {B : Nat} {aC : Nat → Nat} {T : List va_E} {k : Nat} {c : va_E} : wsT B aC (T.set k c) = (wsT B aC T).set k (B + k, rE (rB B) aC c) := by
  apply List.ext_getElem?
  intro j
  unfold wsT
  rw [List.getElem?_mapIdx, List.getElem?_set, List.getElem?_set, List.getElem?_mapIdx]
  by_cases h : k = j
  · subst h
    simp only [if_true, List.length_mapIdx]
    by_cases hl : k < T.length
    · simp [hl]
    · simp [hl]
  · simp [h]
def AB (B : Nat) : Nat → Prop := fun q => B ≤ q
def WT (K : GK) (B : Nat) (T : List va_E) (H : Heap) : Prop := va_P (gD K) vwCl (wsT B (gC K) T) H ∧ H.size = B + T.length
theorem wsT_D {B : Nat} {aC : Nat → Nat} {T : List va_E} : va_D (AB B) (wsT B aC T) := by
  refine ⟨fun i j x y hi hj e => ?_, fun k q hk => ?_⟩
  · obtain ⟨c1, -, rfl⟩ := wsT_some hi
    obtain ⟨c2, -, rfl⟩ := wsT_some hj
    exact Nat.add_left_cancel e
  · obtain ⟨c1, -, rfl⟩ := wsT_some hk
    exact Nat.le_add_right B k
def nsts : List Cond := [(Jvm.Cond.methodLinkNest "AgesTens" (9 : Nat) ({ cls := "AgesTens$State", name := "<init>", desc := "()V" } : Jvm.MethodName) "AgesTens"), (Jvm.Cond.methodLinkNest "AgesTens$State" (9 : Nat) ({ cls := "AgesTens$Roll", name := "<init>", desc := "()V" } : Jvm.MethodName) "AgesTens"), (Jvm.Cond.methodLinkNest "AgesTens$State" (18 : Nat) ({ cls := "AgesTens$Book", name := "<init>", desc := "()V" } : Jvm.MethodName) "AgesTens"), (Jvm.Cond.methodLinkNest "AgesTens$State" (31 : Nat) ({ cls := "AgesTens$Passings", name := "<init>", desc := "()V" } : Jvm.MethodName) "AgesTens"), (Jvm.Cond.methodLinkNest "AgesTens" (26 : Nat) ({ cls := "AgesTens$Roll", name := "<init>", desc := "()V" } : Jvm.MethodName) "AgesTens")]
def GA (K : GK) (U : State) : Prop := va_K (gD K) vwCl (tyK K) U ∧ va_AO "AgesTens$State" U ∧ ∀ w ∈ nsts, va_Nw w U
theorem GA.go {K : GK} {s U : State} (h : GA K s) (hW : s.WarmedH U.vm) : GA K U := by
  refine ⟨h.1.moved hW.alike, va_AO.moved hW.alike h.2.1, fun w hw => ?_⟩
  have h2 := h.2.2 w hw
  simp only [nsts, List.mem_cons, List.not_mem_nil, or_false] at hw
  rcases hw with rfl | rfl | rfl | rfl | rfl <;> exact va_Nw.warmM hW h2
theorem GA.call {K : GK} {U : State} {g : JFrame} {mk : MethodId} {a : Array Value} (h : GA K U) : GA K (U.calling g mk a) := by
  refine ⟨va_K.moved (u := U) (U := U.calling g mk a) (Vm.Alike.refl U.vm) h.1, va_AO.moved (u := U) (U := U.calling g mk a) (Vm.Alike.refl U.vm) h.2.1, fun w hw => ?_⟩
  have h2 := h.2.2 w hw
  simp only [nsts, List.mem_cons, List.not_mem_nil, or_false] at hw
  rcases hw with rfl | rfl | rfl | rfl | rfl <;> exact va_Nw.same (u := U) (U := U.calling g mk a) rfl rfl h2
def CA (K : GK) (M : MK) (ini : Bool) (p : Program) (s : State) (m : MethodId) (args : Array Value) (meth : Method) (c : Code) : Prop :=
  p.tables.exec = Jvm.exec ∧ c.code = mC M ∧ c.maxLocals = mL M ∧ s.vm.findClass (mO M) = some m.cls ∧ (∀ w ∈ TB, w.before args s = true) ∧ GA K s ∧ (ini = true → meth.name = "<init>")
/-- from one point of a method to another, with the cells that were made -/
def SG (K : GK) (B : Nat) (R : Room) (ini : Bool) (M : MK) (pc : Nat) (l : List (Nat × Value)) (st : List Value) (cs ss : Nat) (T : List va_E) (pc' : Nat) (l' : List (Nat × Value)) (st' : List Value) (cs' ss' : Nat) (T' : List va_E) : Prop :=
  ∀ (p : Program) (e : Env) (s : State) (m : MethodId) (args : Array Value) (below : List Frame) (meth : Method) (c : Code), CA K M ini p s m args meth c → ∀ (Z : State → Prop),
    (∀ (H' : Heap) (locs' : List Loc) (ls' : Array Slot), WT K B T' H' → va_S (AB B) s.heap H' locs' → lv_has ls' (mL M) l' → W p (gl K) e R s m args below meth c H' locs' cs' ss' Z (F0 m pc' ls' st')) →
    ∀ (H : Heap) (locs : List Loc) (ls : Array Slot), WT K B T H → va_S (AB B) s.heap H locs → lv_has ls (mL M) l → W p (gl K) e R s m args below meth c H locs cs ss Z (F0 m pc ls st)
def rmA (d mc ms : Nat) : Room := { frames := d, cells := mc, slots := ms, locals := 41 * d }
def PMA (K : GK) (B d : Nat) (M : MK) (As : List Value) (T T' : List va_E) (mc ms : Nat) : Prop :=
  Met (gl K) (mY M) (wsM M) (rmA d mc ms) (va_Pc As (fun U => WT K B T U.heap ∧ GA K U)) (fun _ st oc t => oc = .returned none ∧ WT K B T' t.heap ∧ va_F (AB B) st t) mc ms (AB B)
theorem PMA.enter {K : GK} {B d : Nat} {M : MK} {As : List Value} {l0 l' : List (Nat × Value)} {T T' : List va_E} {mc ms pc' : Nat} (hy : plainName (mY M).cls = true) (ho : (mY M).cls = mO M) (hnm : (mY M).name = "<init>") (hr0 : mR M = none) (hn : (lg_sl As).length ≤ mL M) (hl : lv_args 0 As = l0) (hd : decode (mC M) pc' = .ok (.return_, 1)) (k : SG K B (rmA d mc ms) true M 0 l0 [] 0 0 T pc' l' [] mc ms T') : PMA K B d M As T T' mc ms := by
  refine Met.ofW (cc := mC M) (maxL := mL M) (ret := mR M) hy rfl ?_
  intro p e s m args below meth c s₁ B0 hml hv
  obtain ⟨rfl, hW, hF⟩ := hv
  have hts := atoms_spec (ws := wsM M) B0.pre
  have hown : s.vm.findClass (mO M) = some m.cls := ho ▸ findClass_of_methodNamed B0.named
  have hin : meth.name = "<init>" := by rw [← hnm]; exact (name_of_methodNamed B0.named B0.method).1
  have hx := B0.exec
  have hb := B0.bytes
  have hr := B0.returns
  have hlocks := B0.notSynchronized
  have hls := lv_entry As hn
  rw [lg_entry_eq]
  rw [hl] at hls
  refine k p e s m As.toArray below meth c ⟨hx, hb, hml, hown, fun w hw => hts w (List.mem_cons_of_mem _ hw), hF, fun _ => hin⟩ _ ?_ s.heap [] _ hW va_S.rf hls
  intro H' locs' ls' hW' hS' _
  rw [hr0] at hr
  exact W.vret hx hb hr (fun t ht _ => ⟨rfl, by rw [ht]; exact hW', hS'.F ht⟩) hS'.2.2 hd
section SGR
variable {K : GK} {B : Nat} {R : Room} {ini : Bool} {M : MK} {pc : Nat} {l : List (Nat × Value)} {st : List Value} {cs ss : Nat} {T : List va_E} {pcE : Nat} {lE : List (Nat × Value)} {stE : List Value} {csE ssE : Nat} {TE : List va_E}
theorem SG.done (hp : pc = pcE) (hl : l = lE) (hs : st = stE) (hc : cs = csE) (hss : ss = ssE) (hT : T = TE) : SG K B R ini M pc l st cs ss T pcE lE stE csE ssE TE := by
  subst hp hl hs hc hss hT
  intro p e s m args below meth c C Z k H locs ls hP hS hv
  exact k H locs ls hP hS hv
theorem SG.eqT {T2 : List va_E} (h : T = T2) (kk : SG K B R ini M pc l st cs ss T2 pcE lE stE csE ssE TE) : SG K B R ini M pc l st cs ss T pcE lE stE csE ssE TE := h ▸ kk
theorem SG.iconst {n : Int} {x : Int32} (hd : decode (mC M) pc = .ok (.iconst n, 1)) (hx : Int32.ofInt n = x) (kk : SG K B R ini M (pc + 1) l (.int x :: st) cs ss T pcE lE stE csE ssE TE) : SG K B R ini M pc l st cs ss T pcE lE stE csE ssE TE := by
  intro p e s m args below meth c C Z k H locs ls hP hS hv
  exact lv_iconst C.1 C.2.1 hd hx (kk p e s m args below meth c C Z k H locs ls hP hS hv)
theorem SG.bipush {n : Int} {x : Int32} (hd : decode (mC M) pc = .ok (.bipush n, 2)) (hx : (Int8.ofInt n).toInt32 = x) (kk : SG K B R ini M (pc + 2) l (.int x :: st) cs ss T pcE lE stE csE ssE TE) : SG K B R ini M pc l st cs ss T pcE lE stE csE ssE TE := by
  intro p e s m args below meth c C Z k H locs ls hP hS hv
  exact lv_bipush C.1 C.2.1 hd hx (kk p e s m args below meth c C Z k H locs ls hP hS hv)
theorem SG.sipush {n : Int} {x : Int32} (hd : decode (mC M) pc = .ok (.sipush n, 3)) (hx : (Int16.ofInt n).toInt32 = x) (kk : SG K B R ini M (pc + 3) l (.int x :: st) cs ss T pcE lE stE csE ssE TE) : SG K B R ini M pc l st cs ss T pcE lE stE csE ssE TE := by
  intro p e s m args below meth c C Z k H locs ls hP hS hv
  exact lv_sipush C.1 C.2.1 hd hx (kk p e s m args below meth c C Z k H locs ls hP hS hv)
theorem SG.lconst {n : Fin 2} {x : Int64} (hd : decode (mC M) pc = .ok (.lconst n, 1)) (hx : Int64.ofNat (n : Nat) = x) (kk : SG K B R ini M (pc + 1) l (.long x :: st) cs ss T pcE lE stE csE ssE TE) : SG K B R ini M pc l st cs ss T pcE lE stE csE ssE TE := by
  intro p e s m args below meth c C Z k H locs ls hP hS hv
  exact lv_lconst C.1 C.2.1 hd hx (kk p e s m args below meth c C Z k H locs ls hP hS hv)
theorem SG.iload_n (j : Nat) {q : Fin 4} {i : Nat} {x : Int32} (hd : decode (mC M) pc = .ok (.iload_n q, 1)) (hi : (q : Nat) = i) (hl : l[j]? = some (i, .int x)) (kk : SG K B R ini M (pc + 1) l (.int x :: st) cs ss T pcE lE stE csE ssE TE) : SG K B R ini M pc l st cs ss T pcE lE stE csE ssE TE := by
  intro p e s m args below meth c C Z k H locs ls hP hS hv
  exact lv_iload_n C.1 C.2.1 hd hi (lv_at hv j hl) (kk p e s m args below meth c C Z k H locs ls hP hS hv)
theorem SG.istore_n {q : Fin 4} {i : Nat} {x : Int32} {l' : List (Nat × Value)} (hd : decode (mC M) pc = .ok (.istore_n q, 1)) (hi : (q : Nat) = i) (hn : i < mL M) (hl : (i, Value.int x) :: l.filter (fun q => !(q.1 == i) && !(q.1 + 1 == i && q.2.category == 2)) = l') (kk : SG K B R ini M (pc + 1) l' st cs ss T pcE lE stE csE ssE TE) : SG K B R ini M pc l (.int x :: st) cs ss T pcE lE stE csE ssE TE := by
  intro p e s m args below meth c C Z k H locs ls hP hS hv
  exact lv_istore_n C.1 C.2.1 hd hi hv hn hl (fun ls hv => kk p e s m args below meth c C Z k H locs ls hP hS hv)
theorem SG.aload_n (j : Nat) {q : Fin 4} {i : Nat} {x : Nat} (hd : decode (mC M) pc = .ok (.aload_n q, 1)) (hi : (q : Nat) = i) (hl : l[j]? = some (i, .ref x)) (kk : SG K B R ini M (pc + 1) l (.ref x :: st) cs ss T pcE lE stE csE ssE TE) : SG K B R ini M pc l st cs ss T pcE lE stE csE ssE TE := by
  intro p e s m args below meth c C Z k H locs ls hP hS hv
  exact lv_aload_n C.1 C.2.1 hd hi (lv_at hv j hl) (kk p e s m args below meth c C Z k H locs ls hP hS hv)
theorem SG.astore_n {q : Fin 4} {i : Nat} {x : Nat} {l' : List (Nat × Value)} (hd : decode (mC M) pc = .ok (.astore_n q, 1)) (hi : (q : Nat) = i) (hn : i < mL M) (hl : (i, Value.ref x) :: l.filter (fun q => !(q.1 == i) && !(q.1 + 1 == i && q.2.category == 2)) = l') (kk : SG K B R ini M (pc + 1) l' st cs ss T pcE lE stE csE ssE TE) : SG K B R ini M pc l (.ref x :: st) cs ss T pcE lE stE csE ssE TE := by
  intro p e s m args below meth c C Z k H locs ls hP hS hv
  exact lv_astore_n C.1 C.2.1 hd hi hv hn hl (fun ls hv => kk p e s m args below meth c C Z k H locs ls hP hS hv)
theorem SG.iinc (j : Nat) {i : Nat} {n : Int} {x y : Int32} {l' : List (Nat × Value)} (hd : decode (mC M) pc = .ok (.iinc i n, 3)) (hj : l[j]? = some (i, .int x)) (hx : x + Int32.ofInt n = y) (hn : i < mL M) (hl : (i, Value.int y) :: l.filter (fun q => !(q.1 == i) && !(q.1 + 1 == i && q.2.category == 2)) = l') (kk : SG K B R ini M (pc + 3) l' st cs ss T pcE lE stE csE ssE TE) : SG K B R ini M pc l st cs ss T pcE lE stE csE ssE TE := by
  intro p e s m args below meth c C Z k H locs ls hP hS hv
  exact lv_iinc (k := j) C.1 C.2.1 hd hv hj hx hn hl (fun ls hv => kk p e s m args below meth c C Z k H locs ls hP hS hv)
theorem SG.dup {a : Value} (hd : decode (mC M) pc = .ok (.dup, 1)) (ha : a.category = 1) (kk : SG K B R ini M (pc + 1) l (a :: a :: st) cs ss T pcE lE stE csE ssE TE) : SG K B R ini M pc l (a :: st) cs ss T pcE lE stE csE ssE TE := by
  intro p e s m args below meth c C Z k H locs ls hP hS hv
  exact lv_dup C.1 C.2.1 hd ha (kk p e s m args below meth c C Z k H locs ls hP hS hv)
theorem SG.goto {off : Int} {tgt : Nat} (hd : decode (mC M) pc = .ok (.goto off, 3)) (ht : (pc : Int) + off = (tgt : Int)) (kk : SG K B R ini M (tgt) l st cs ss T pcE lE stE csE ssE TE) : SG K B R ini M pc l st cs ss T pcE lE stE csE ssE TE := by
  intro p e s m args below meth c C Z k H locs ls hP hS hv
  exact lv_goto C.1 C.2.1 hd ht (kk p e s m args below meth c C Z k H locs ls hP hS hv)
theorem SG.icmp_ge {x y : Int32} {off : Int} {tgt : Nat} (hd : decode (mC M) pc = .ok (.if_icmp .ge off, 3)) (ht : (pc : Int) + off = (tgt : Int)) (kt : y ≤ x → SG K B R ini M (tgt) l st cs ss T pcE lE stE csE ssE TE) (kf : ¬ y ≤ x → SG K B R ini M (pc + 3) l st cs ss T pcE lE stE csE ssE TE) : SG K B R ini M pc l (.int y :: .int x :: st) cs ss T pcE lE stE csE ssE TE := by
  intro p e s m args below meth c C Z k H locs ls hP hS hv
  exact lv_icmp_ge C.1 C.2.1 hd ht (fun q => kt q p e s m args below meth c C Z k H locs ls hP hS hv) (fun q => kf q p e s m args below meth c C Z k H locs ls hP hS hv)
theorem SG.objInit {i a : Nat} (hd : decode (mC M) pc = .ok (.invokespecial i, 3)) (hw : Cond.methodLink (mO M) i Lib.objectInit ∈ TB) (hw2 : Cond.instanceMethod Lib.objectInit ∈ TB) (hw3 : Cond.code Lib.objectInit ⟨#[0xb1]⟩ 1 none ∈ TB) (hfr : 1 ≤ R.frames) (hlo : (st.map fun v => v.category).sum + 12 ≤ R.locals) (kk : SG K B R ini M (pc + 3) l st cs ss T pcE lE stE csE ssE TE) : SG K B R ini M pc l (.ref a :: st) cs ss T pcE lE stE csE ssE TE := by
  intro p e s m args below meth c C Z k H locs ls hP hS hv
  have hts := C.2.2.2.2.1
  exact W.objInit C.1 C.2.1 C.2.2.2.1 (hts _ hw) (hts _ hw2) (hts _ hw3) rfl (by rw [C.2.2.1]; exact hv.1) rfl hd hfr (by show 2 * 0 + _ + 12 ≤ _; omega) (kk p e s m args below meth c C Z k H locs ls hP hS hv)
theorem WT.push {H H1 : Heap} {c : va_E} (h : WT K B T H) (z : H1.size = H.size + 1) (o : ∀ q, q < H.size → H1[q]? = H[q]?) (e : va_at (gD K) vwCl (B + T.length, rE (rB B) (gC K) c) H1) : WT K B (T ++ [c]) H1 := by
  refine ⟨?_, by rw [z, h.2]; simp; omega⟩
  rw [wsT_push]
  refine (h.1.kept (fun k q hk => o q.1 ((h.1 k q hk).lt))).app (fun k q hk => ?_)
  have hz : k < 1 := (List.getElem?_eq_some_iff.mp hk).1
  rw [show k = 0 by omega] at hk
  cases hk
  exact e
theorem WT.put {H H1 : Heap} {c0 c : va_E} {k : Nat} (h : WT K B T H) (hk : T[k]? = some c0) (z : H1.size = H.size) (o : ∀ q, q ≠ B + k → H1[q]? = H[q]?) (e : va_at (gD K) vwCl (B + k, rE (rB B) (gC K) c) H1) : WT K B (T.set k c) H1 := by
  refine ⟨?_, by rw [z, h.2]; simp⟩
  rw [wsT_set]
  exact h.1.set wsT_D (wsT_get hk) e o
theorem SG.newI {n : Int32} {nn N : Nat} (hd : decode (mC M) pc = .ok (.newarray .int, 2)) (hw : Cond.arrayClass .int ∈ TB) (hn : n = nI nn) (hnn : nn ≤ 100000) (hN : T.length = N) (hcs : cs + 1 ≤ R.cells) (hss : ss + nn ≤ R.slots) (kk : SG K B R ini M (pc + 2) l (.ref (B + N) :: st) (cs + 1) (ss + nn) (T ++ [.inl (0, nn, .inl (fun _ => 0))]) pcE lE stE csE ssE TE) : SG K B R ini M pc l (.int n :: st) cs ss T pcE lE stE csE ssE TE := by
  intro p e s m args below meth c C Z k H locs ls hP hS hv
  subst hn
  subst hN
  have hlt : nn < 2 ^ 31 := by omega
  refine va_newaK (atype := .int) C.1 C.2.1 (C.2.2.2.2.1 _ hw) rfl hd rfl (nI_pos hlt) (nI_clamp hlt) (by show nn * _ ≤ _; simp [newarray.typeOf, componentBytes]; omega) hcs hss hP.2 (fun H1 cA e1 z1 o1 hAr hNm => ?_)
  have hcA : cA = gC K 0 := by
    have h9 := (C.2.2.2.2.2.1.1.2 0 _ rfl).2
    exact Option.some.inj (hNm.symm.trans h9)
  subst hcA
  refine kk p e s m args below meth c C Z k H1 locs ls (hP.push (by rw [z1, hP.2]) (fun q hq => o1 q (by rw [← hP.2]; exact hq)) e1) ⟨Nat.le_trans hS.1 (by rw [z1, hP.2]; omega), fun q h1 h2 => (o1 q (Nat.lt_of_lt_of_le h1 (by rw [← hP.2]; exact hS.1))).trans (hS.2.1 q h1 h2), hS.2.2⟩ hv
theorem SG.newZ {n : Int32} {nn N : Nat} (hd : decode (mC M) pc = .ok (.newarray .boolean, 2)) (hw : Cond.arrayClass .boolean ∈ TB) (hn : n = nI nn) (hnn : nn ≤ 100000) (hN : T.length = N) (hcs : cs + 1 ≤ R.cells) (hss : ss + nn ≤ R.slots) (kk : SG K B R ini M (pc + 2) l (.ref (B + N) :: st) (cs + 1) (ss + nn) (T ++ [.inl (1, nn, .inl (fun _ => 0))]) pcE lE stE csE ssE TE) : SG K B R ini M pc l (.int n :: st) cs ss T pcE lE stE csE ssE TE := by
  intro p e s m args below meth c C Z k H locs ls hP hS hv
  subst hn
  subst hN
  have hlt : nn < 2 ^ 31 := by omega
  refine va_newaK (atype := .boolean) C.1 C.2.1 (C.2.2.2.2.1 _ hw) rfl hd rfl (nI_pos hlt) (nI_clamp hlt) (by show nn * _ ≤ _; simp [newarray.typeOf, componentBytes]; omega) hcs hss hP.2 (fun H1 cA e1 z1 o1 hAr hNm => ?_)
  have hcA : cA = gC K 1 := by
    have h9 := (C.2.2.2.2.2.1.1.2 1 _ rfl).2
    exact Option.some.inj (hNm.symm.trans h9)
  subst hcA
  refine kk p e s m args below meth c C Z k H1 locs ls (hP.push (by rw [z1, hP.2]) (fun q hq => o1 q (by rw [← hP.2]; exact hq)) e1) ⟨Nat.le_trans hS.1 (by rw [z1, hP.2]; omega), fun q h1 h2 => (o1 q (Nat.lt_of_lt_of_le h1 (by rw [← hP.2]; exact hS.1))).trans (hS.2.1 q h1 h2), hS.2.2⟩ hv
theorem SG.newJ {n : Int32} {nn N : Nat} (hd : decode (mC M) pc = .ok (.newarray .long, 2)) (hw : Cond.arrayClass .long ∈ TB) (hn : n = nI nn) (hnn : nn ≤ 100000) (hN : T.length = N) (hcs : cs + 1 ≤ R.cells) (hss : ss + nn ≤ R.slots) (kk : SG K B R ini M (pc + 2) l (.ref (B + N) :: st) (cs + 1) (ss + nn) (T ++ [.inl (2, nn, .inr (.inl (fun _ => 0)))]) pcE lE stE csE ssE TE) : SG K B R ini M pc l (.int n :: st) cs ss T pcE lE stE csE ssE TE := by
  intro p e s m args below meth c C Z k H locs ls hP hS hv
  subst hn
  subst hN
  have hlt : nn < 2 ^ 31 := by omega
  refine va_newaK (atype := .long) C.1 C.2.1 (C.2.2.2.2.1 _ hw) rfl hd rfl (nI_pos hlt) (nI_clamp hlt) (by show nn * _ ≤ _; simp [newarray.typeOf, componentBytes]; omega) hcs hss hP.2 (fun H1 cA e1 z1 o1 hAr hNm => ?_)
  have hcA : cA = gC K 2 := by
    have h9 := (C.2.2.2.2.2.1.1.2 2 _ rfl).2
    exact Option.some.inj (hNm.symm.trans h9)
  subst hcA
  refine kk p e s m args below meth c C Z k H1 locs ls (hP.push (by rw [z1, hP.2]) (fun q hq => o1 q (by rw [← hP.2]; exact hq)) e1) ⟨Nat.le_trans hS.1 (by rw [z1, hP.2]; omega), fun q h1 h2 => (o1 q (Nat.lt_of_lt_of_le h1 (by rw [← hP.2]; exact hS.1))).trans (hS.2.1 q h1 h2), hS.2.2⟩ hv
theorem SG.newO {ci i N nf : Nat} {Cn : String} {Tf : u_T} {ty : Nat → FieldType} {fs : List Value} (hc : Cls ci Cn Tf nf) (hcw : ClsW Tf nf ty) (hd : decode (mC M) pc = .ok (.new i, 3)) (hw : Cond.classLink (mO M) i Cn ∈ TB) (hw2 : Cond.instantiable Cn nf ∈ TB) (hw3 : Cond.initialized Cn ∈ TB) (hfs : ∀ j, j < nf → defaultValue (ty j) = vp_V (fs.map (rv (rB B))) j) (hN : T.length = N) (hcs : cs + 1 ≤ R.cells) (hss : ss + nf ≤ R.slots) (kk : SG K B R ini M (pc + 3) l (.ref (B + N) :: st) (cs + 1) (ss + nf) (T ++ [.inr (ci, fs)]) pcE lE stE csE ssE TE) : SG K B R ini M pc l st cs ss T pcE lE stE csE ssE TE := by
  intro p e s m args below meth c C Z k H locs ls hP hS hv
  subst hN
  have hts := C.2.2.2.2.1
  have hKn := C.2.2.2.2.2.1.1.1 ci _ hc.1
  refine W.newcK C.1 C.2.1 C.2.2.2.1 (hts _ hw) (hts _ hw2) (hts _ hw3) rfl hd hcs hss hKn.2.1 hP.2 (fun H1 kC hkC e1 z1 o1 => ?_)
  refine kk p e s m args below meth c C Z k H1 locs ls (hP.push (by rw [z1, hP.2]) (fun q hq => o1 q (by rw [← hP.2]; exact hq)) ⟨_, hc.1, (u_born ty hts hc.2 hKn hkC e1 hcw.1).to hfs⟩) ⟨Nat.le_trans hS.1 (by rw [z1, hP.2]; omega), fun q h1 h2 => (o1 q (Nat.lt_of_lt_of_le h1 (by rw [← hP.2]; exact hS.1))).trans (hS.2.1 q h1 h2), hS.2.2⟩ hv
theorem SG.newQ {n : Int32} {nn N i : Nat} (hd : decode (mC M) pc = .ok (.anewarray i, 3)) (hw : Cond.classLink (mO M) i "AgesTens$State" ∈ TB) (hn : n = nI nn) (hnn : nn ≤ 100000) (hN : T.length = N) (hcs : cs + 1 ≤ R.cells) (hss : ss + nn ≤ R.slots) (kk : SG K B R ini M (pc + 3) l (.ref (B + N) :: st) (cs + 1) (ss + nn) (T ++ [.inl (3, nn, .inr (.inr (.inr (.inr (fun _ => none)))))]) pcE lE stE csE ssE TE) : SG K B R ini M pc l (.int n :: st) cs ss T pcE lE stE csE ssE TE := by
  intro p e s m args below meth c C Z k H locs ls hP hS hv
  subst hn
  subst hN
  have hlt : nn < 2 ^ 31 := by omega
  have hcl := nI_clamp hlt
  refine W.anew (n := nI nn) C.1 C.2.1 C.2.2.2.1 (C.2.2.2.2.1 _ hw) (va_AO.use C.2.2.2.2.2.1.2.1) rfl hd rfl (nI_pos hlt) (by rw [hcl]; omega) hcs (by rw [hcl]; exact hss) (fun cA kA comp f1 f2 f3 f4 => ?_)
  have hcA : cA = gC K 3 := by
    obtain ⟨kA', comp', h1, h2, h3, h4⟩ := (C.2.2.2.2.2.1.1.2 3 _ rfl).2
    exact Option.some.inj (f1.symm.trans h4)
  subst hcA
  rw [hcl]
  generalize hH1 : H.push ({ cls := gC K 3, slots := Array.replicate nn .null, vm := .none } : Cell) = H1
  have z1 : H1.size = H.size + 1 := by rw [← hH1, Array.size_push]
  have e1 : H1[H.size]? = some (arrV (gC K 3) nn (fun _ => .null)) := by rw [← hH1, Array.getElem?_push_size, ← arrV_new]
  have o1 : ∀ q : Nat, q < H.size → H1[q]? = H[q]? := fun q hq => by rw [← hH1, Array.getElem?_push, if_neg (Nat.ne_of_lt hq)]
  have e2 : va_at (gD K) vwCl (B + T.length, rE (rB B) (gC K) (.inl (3, nn, .inr (.inr (.inr (.inr (fun _ => none))))))) H1 := by
    show H1[B + T.length]? = some (vp_cell (gC K 3) (nn, .inr (.inr (.inr (.inr (fun _ => (none : Option Nat).map (rB B)))))))
    rw [vp_cell_q, ← hP.2]
    exact e1
  rw [show Value.ref H.size = .ref (B + T.length) by rw [hP.2]]
  exact kk p e s m args below meth c C Z k H1 locs ls (hP.push z1 o1 e2) ⟨Nat.le_trans hS.1 (by rw [z1]; omega), fun q h1 h2 => (o1 q (Nat.lt_of_lt_of_le h1 hS.1)).trans (hS.2.1 q h1 h2), hS.2.2⟩ hv
theorem SG.putV {ci k j nf i : Nat} {Cn : String} {Tf : u_T} {ty : Nat → FieldType} {u : Value} {fs : List Value} (hc : Cls ci Cn Tf nf) (hcw : ClsW Tf nf ty) (hj : j < nf) (hd : decode (mC M) pc = .ok (.putfield i, 3)) (hw : Cond.fieldLink (mO M) i (Tf j).1 (Tf j).2.1 (Tf j).2.2.1 ∈ TB) (hfin : (Tf j).2.2.2 = false ∨ ((Tf j).2.2.2 = true ∧ ini = true ∧ (Tf j).1 = mO M)) (hn : narrow (ty j) (rv (rB B) u) = rv (rB B) u) (hf : fits (ty j) (rv (rB B) u) = true) (hg : T[k]? = some (.inr (ci, fs))) (hjl : j < fs.length) (kk : SG K B R ini M (pc + 3) l st cs ss (T.set k (.inr (ci, fs.set j u))) pcE lE stE csE ssE TE) : SG K B R ini M pc l (rv (rB B) u :: .ref (B + k) :: st) cs ss T pcE lE stE csE ssE TE := by
  intro p e s m args below meth c C Z kE H locs ls hP hS hv
  have hts := C.2.2.2.2.1
  have hK := C.2.2.2.2.2.1.1
  have hap := va_apart (own := mO M) hts hc.2 ty hcw.1 hcw.2 hK hc.1
  obtain ⟨r, h1, cell, q1, q2, q3, q4⟩ := hP.1 k _ (wsT_get hg)
  have hr : r = (Cn, Tf, nf) := Option.some.inj (h1.symm.trans hc.1)
  subst hr
  obtain ⟨hSl, hfc, kC, hkC, hkind⟩ := hK.1 ci _ hc.1
  obtain ⟨cf, kf, fi, f, hi, hsl⟩ := hSl j hj
  have hlay := hts _ (hc.2 _ (u_in_lay hj))
  have hst := (u_facts hfc hkC (u_lays hts hc.2 hj) hi).1
  have fin : ∀ H' : Heap, H'[B + k]? = some (cell.setSlot f.slot (rv (rB B) u)) → H'.size = H.size → (∀ q, q ≠ B + k → H'[q]? = H[q]?) → W p (gl K) e R s m args below meth c H' (locs ++ [⟨B + k, f.slot⟩]) cs ss Z (F0 m (pc + 3) ls st) := by
    intro H' e1 e2 e3
    rw [hsl] at e1 ⊢
    refine kk p e s m args below meth c C Z kE H' _ ls (hP.put hg e2 e3 ?_) (hS.put e2 e3 (Nat.le_add_right B k)) hv
    refine ⟨_, hc.1, ?_⟩
    show t_OB _ _ _ _ _ (vp_V ((fs.set j u).map (rv (rB B))))
    rw [List.map_set]
    exact t_OB.to (V := updV (vp_V (fs.map (rv (rB B)))) j (rv (rB B) u)) ⟨_, e1, q2, q3, t_set q4 hap hj (rv (rB B) u)⟩ (fun i _ => vp_updV_set (by simpa using hjl) (rv (rB B) u) i)
  unfold u_lay at hlay
  rcases hfin with hfin | ⟨hfin, hini, hdecl⟩
  · rw [if_neg (by rw [hfin]; decide)] at hlay
    have h6 := u_store hfc hkC hkind hlay hi (hcw.1 j hj) hn hf
    exact W.putK C.1 C.2.1 (f := f) ⟨C.2.2.2.1, hts _ hw, ⟨_, _, _, hi⟩, hst⟩ (by rw [q2]; exact h6) q1 q3 (by rw [hsl]; exact k2_hasslot (q4 j hj)) rfl rfl hd fin
  · rw [if_pos hfin] at hlay
    have hcf : m.cls = cf := by
      obtain ⟨_, _, c', _, _, _, -, -, hf', -, -, -, hown2, -⟩ := Cond.laysFinal_spec hlay
      have e1 : c' = cf := by have := hi.symm.trans hf'; simp at this; exact this.1.symm
      rw [hdecl] at hown2
      rw [← e1]; exact Option.some.inj (C.2.2.2.1.symm.trans hown2)
    have h6 := u_fits hfc hkC hkind (Or.inr hlay) hi (hcw.1 j hj) hn hf
    exact W.putFinK C.1 C.2.1 C.2.2.2.1 (hts _ hw) hi hst hcf (C.2.2.2.2.2.2 hini) (by rw [q2]; exact h6) q1 q3 (by rw [hsl]; exact k2_hasslot (q4 j hj)) rfl rfl hd fin
theorem SG.putR {ci k j nf i x : Nat} {Cn : String} {Tf : u_T} {ty : Nat → FieldType} {fs : List Value} (hc : Cls ci Cn Tf nf) (hcw : ClsW Tf nf ty) (hj : j < nf) (hd : decode (mC M) pc = .ok (.putfield i, 3)) (hw : Cond.fieldLink (mO M) i (Tf j).1 (Tf j).2.1 (Tf j).2.2.1 ∈ TB) (hfin : (Tf j).2.2.2 = false ∨ ((Tf j).2.2.2 = true ∧ ini = true ∧ (Tf j).1 = mO M)) (hn : narrow (ty j) (.ref (B + x)) = .ref (B + x)) (hf : fits (ty j) (.ref (B + x)) = true) (hg : T[k]? = some (.inr (ci, fs))) (hjl : j < fs.length) (kk : SG K B R ini M (pc + 3) l st cs ss (T.set k (.inr (ci, fs.set j (.ref x)))) pcE lE stE csE ssE TE) : SG K B R ini M pc l (.ref (B + x) :: .ref (B + k) :: st) cs ss T pcE lE stE csE ssE TE := SG.putV (u := .ref x) hc hcw hj hd hw hfin hn hf hg hjl kk
theorem SG.putI {ci k j nf i : Nat} {x : Int32} {Cn : String} {Tf : u_T} {ty : Nat → FieldType} {fs : List Value} (hc : Cls ci Cn Tf nf) (hcw : ClsW Tf nf ty) (hj : j < nf) (hd : decode (mC M) pc = .ok (.putfield i, 3)) (hw : Cond.fieldLink (mO M) i (Tf j).1 (Tf j).2.1 (Tf j).2.2.1 ∈ TB) (hfin : (Tf j).2.2.2 = false) (hty : ty j = .int) (hg : T[k]? = some (.inr (ci, fs))) (hjl : j < fs.length) (kk : SG K B R ini M (pc + 3) l st cs ss (T.set k (.inr (ci, fs.set j (.int x)))) pcE lE stE csE ssE TE) : SG K B R ini M pc l (.int x :: .ref (B + k) :: st) cs ss T pcE lE stE csE ssE TE := SG.putV (u := .int x) hc hcw hj hd hw (Or.inl hfin) (by rw [hty]; rfl) (by rw [hty]; rfl) hg hjl kk
theorem SG.putJ {ci k j nf i : Nat} {x : Int64} {Cn : String} {Tf : u_T} {ty : Nat → FieldType} {fs : List Value} (hc : Cls ci Cn Tf nf) (hcw : ClsW Tf nf ty) (hj : j < nf) (hd : decode (mC M) pc = .ok (.putfield i, 3)) (hw : Cond.fieldLink (mO M) i (Tf j).1 (Tf j).2.1 (Tf j).2.2.1 ∈ TB) (hfin : (Tf j).2.2.2 = false) (hty : ty j = .long) (hg : T[k]? = some (.inr (ci, fs))) (hjl : j < fs.length) (kk : SG K B R ini M (pc + 3) l st cs ss (T.set k (.inr (ci, fs.set j (.long x)))) pcE lE stE csE ssE TE) : SG K B R ini M pc l (.long x :: .ref (B + k) :: st) cs ss T pcE lE stE csE ssE TE := SG.putV (u := .long x) hc hcw hj hd hw (Or.inl hfin) (by rw [hty]; rfl) (by rw [hty]; rfl) hg hjl kk
theorem SG.getR {ci k j nf i x : Nat} {Cn : String} {Tf : u_T} {fs : List Value} (hc : Cls ci Cn Tf nf) (hj : j < nf) (hd : decode (mC M) pc = .ok (.getfield i, 3)) (hw : Cond.fieldLink (mO M) i (Tf j).1 (Tf j).2.1 (Tf j).2.2.1 ∈ TB) (hg : T[k]? = some (.inr (ci, fs))) (hx : fs[j]? = some (.ref x)) (kk : SG K B R ini M (pc + 3) l (.ref (B + x) :: st) cs ss T pcE lE stE csE ssE TE) : SG K B R ini M pc l (.ref (B + k) :: st) cs ss T pcE lE stE csE ssE TE := by
  intro p e s m args below meth c C Z kE H locs ls hP hS hv
  exact va_get (D := gD K) (cl := vwCl) (tys := tyK K) (ws := wsT B (gC K) T) C.1 C.2.1 C.2.2.2.2.1 hc.2 C.2.2.2.1 C.2.2.2.2.2.1.1 hP.1 k (wsT_get hg) hc.1 j hj (C.2.2.2.2.1 _ hw) (fun _ h9 => h9) (by rw [List.getElem?_map, hx]; rfl) hd (kk p e s m args below meth c C Z kE H locs ls hP hS hv)
theorem SG.aast {k x n : Nat} {i : Int32} {fs : List Value} {f : Nat → Option Nat} (hd : decode (mC M) pc = .ok (.aastore, 1)) (hk : T[k]? = some (.inl (3, n, .inr (.inr (.inr (.inr f)))))) (hx : T[x]? = some (.inr (7, fs))) (hi : vp_in i n) (kk : SG K B R ini M (pc + 1) l st cs ss (T.set k (.inl (3, n, .inr (.inr (.inr (.inr (va_up f i.toNatClampNeg (some x)))))))) pcE lE stE csE ssE TE) : SG K B R ini M pc l (.ref (B + x) :: .int i :: .ref (B + k) :: st) cs ss T pcE lE stE csE ssE TE := by
  intro p e s m args below meth c C Z kE H locs ls hP hS hv
  have hK := C.2.2.2.2.2.1.1
  have hlt : i.toNatClampNeg < n := Nat.not_le.mp fun q => hi (Or.inr q)
  have h0 : ¬ i < 0 := fun q => hi (Or.inl q)
  obtain ⟨r', hr', cellV, g1, g2, g3, -⟩ := hP.1 x _ (wsT_get hx)
  have hcls := (hK.1 7 _ rfl).2
  obtain ⟨kA, comp, k1, k2, k3, -⟩ := (hK.2 3 _ rfl).2
  have hcomp : comp = (gD K).1 7 := Option.some.inj (k3.symm.trans hcls.1)
  subst hcomp
  obtain ⟨kC, hkC, -⟩ := id hcls.2
  have ha : H[B + k]? = some (vp_cell (gC K 3) (n, .inr (.inr (.inr (.inr (fun j => (f j).map (rB B))))))) := hP.1 k _ (wsT_get hk)
  refine W.aast C.1 C.2.1 ha (fun q h => by cases h) (fun h => by cases h) k1 k2 rfl hkC ⟨h0, by show _ < (arrV _ _ _).slots.size; rw [arrV_size]; exact hlt⟩ g1 (fun q h => by rw [g3] at h; cases h) (by rw [g2]; exact hkC) (by rw [g2]; exact va_assign hcls) rfl rfl hd (fun H1 e1 z oq => ?_)
  refine kk p e s m args below meth c C Z kE H1 _ ls (hP.put hk z oq ?_) (hS.put z oq (Nat.le_add_right B k)) hv
  show H1[B + k]? = some (vp_cell (gC K 3) (n, .inr (.inr (.inr (.inr (fun j => (va_up f i.toNatClampNeg (some x) j).map (rB B)))))))
  rw [e1, vp_cell_q, vp_cell_q, arrV_store]
  congr 2
  funext q
  by_cases hq : q = i.toNatClampNeg
  · subst hq
    simp [updV, va_up, va_rf, rB]
  · simp [updV, va_up, hq]
theorem SG.aft {p : Program} {e : Env} {s : State} {m : MethodId} {args : Array Value} {below : List Frame} {meth : Method} {c : Code} {H : Heap} {locs : List Loc} {rest : List Value} {T1 : List va_E} {Z : State → Prop} {ls : Array Slot} {st0 : List Value} {mc ms : Nat}
    (hrun : va_Run p (gl K) e R s m args below meth c H locs cs ss mc ms (F0 m pc ls st0) rest (fun st oc t => oc = .returned none ∧ WT K B T1 t.heap ∧ va_F (AB B) st t) (AB B)) (hS : va_S (AB B) s.heap H locs)
    (kk : ∀ (H1 : Heap) (locs1 : List Loc), WT K B T1 H1 → va_S (AB B) s.heap H1 locs1 → W p (gl K) e R s m args below meth c H1 locs1 (cs + mc) (ss + ms) Z (F0 m (pc + 3) ls rest)) : W p (gl K) e R s m args below meth c H locs cs ss Z (F0 m pc ls st0) := by
  intro T hT X
  obtain ⟨v, st₀, t, T', L, h0, X', hL, e1, e2, ⟨hv, hw, hz, hk⟩, go⟩ := hrun T hT X
  cases hv
  rw [h0] at hz hk
  obtain ⟨t2, a1, b1⟩ := kk T'.heap (locs ++ L) (by rw [e1]; exact hw)
    ⟨Nat.le_trans hS.1 (by rw [e1]; exact hz), fun q h1 h2 => by rw [e1, hk q (Nat.lt_of_lt_of_le h1 hS.1) h2]; exact hS.2.1 q h1 h2, fun q hq => by
      rcases List.mem_append.mp hq with h | h
      · exact hS.2.2 q h
      · exact hL q h⟩ T' rfl X'
  exact ⟨t2, go t2 a1, b1⟩
theorem PMA.pre {As : List Value} {s : State} {H : Heap} (hP : WT K B T H) (hG : GA K s) : PreS s H (va_Pc As (fun U => WT K B T U.heap ∧ GA K U)) As :=
  ⟨fun a U g mk q => ⟨q.1, q.2.1, q.2.2.call⟩, fun U hU hW => ⟨rfl, by rw [hU]; exact hP, hG.go hW⟩⟩
theorem SG.callI {M' : MK} {d n i b mc ms : Nat} {As rest : List Value} {T1 : List va_E} (hcal : CalB M' n) (hin : Cond.instanceMethod (mY M') ∈ TB) (hnm : (mY M').name = "<init>") (hr : mR M' = none) (hd : decode (mC M) pc = .ok (.invokespecial i, 3)) (hw : Cond.methodLink (mO M) i (mY M') ∈ TB) (hs : st = As.reverse ++ .ref b :: rest) (hn : As.length = n) (hR : d + 1 ≤ R.frames ∧ 41 * d + 41 ≤ R.locals) (hrest : (rest.map fun v => v.category).sum ≤ 8) (hcs : cs + mc ≤ R.cells ∧ ss + ms ≤ R.slots) (hM : PMA K B d M' (.ref b :: As) T T1 mc ms) (kk : SG K B R ini M (pc + 3) l rest (cs + mc) (ss + ms) T1 pcE lE stE csE ssE TE) : SG K B R ini M pc l st cs ss T pcE lE stE csE ssE TE := by
  intro p e s m args below meth c C0 Z kE H locs ls hP hS hv
  subst hs
  have hts := C0.2.2.2.2.1
  obtain ⟨q1, q2, q3, q4⟩ := hcal
  have hb : CallB R s args (mO M) i (mY M') (mC M') (mL M') none (wsM M') (rmA d mc ms) mc ms n := callB_of (Ts := TB) n hts (wsM_good q1) (by unfold wsM; rw [hr]) rfl rfl (hts _ q2) (hts _ hw) q3 ⟨hR.1, by show 8 + (mL M' + 11) + 41 * d ≤ R.locals; omega⟩
  exact SG.aft (va_runI (n := n) (Ts := TB) (As := As) (rest := rest) ⟨C0.1, C0.2.1, C0.2.2.1, C0.2.2.2.1, hts⟩ hM ⟨hb, hnm, hts _ hin⟩ (PMA.pre hP C0.2.2.2.2.2.1) rfl hn hv.1 rfl (lv_room hrest) hd hcs) hS (fun H1 locs1 hP1 hS1 => kk p e s m args below meth c C0 Z kE H1 locs1 ls hP1 hS1 hv)
theorem SG.callN {M' : MK} {d n i b mc ms : Nat} {As rest : List Value} {T1 : List va_E} (hcal : CalB M' n) (hin : Cond.instanceMethod (mY M') ∈ TB) (hnm : (mY M').name = "<init>") (hr : mR M' = none) (hd : decode (mC M) pc = .ok (.invokespecial i, 3)) (hw : Cond.methodLinkNest (mO M) i (mY M') "AgesTens" ∈ nsts) (hs : st = As.reverse ++ .ref b :: rest) (hn : As.length = n) (hR : d + 1 ≤ R.frames ∧ 41 * d + 41 ≤ R.locals) (hrest : (rest.map fun v => v.category).sum ≤ 8) (hcs : cs + mc ≤ R.cells ∧ ss + ms ≤ R.slots) (hM : PMA K B d M' (.ref b :: As) T T1 mc ms) (kk : SG K B R ini M (pc + 3) l rest (cs + mc) (ss + ms) T1 pcE lE stE csE ssE TE) : SG K B R ini M pc l st cs ss T pcE lE stE csE ssE TE := by
  intro p e s m args below meth c C0 Z kE H locs ls hP hS hv
  subst hs
  have hts := C0.2.2.2.2.1
  obtain ⟨q1, q2, q3, q4⟩ := hcal
  have hb : va_CN R s args (mO M) i (mY M') "AgesTens" (mC M') (mL M') none (wsM M') (rmA d mc ms) mc ms n := va_cnB (Ts := TB) n hts (wsM_good q1) (by unfold wsM; rw [hr]) rfl rfl (C0.2.2.2.2.2.1.2.2 _ hw) (hts _ q2) q3 ⟨hR.1, by show 8 + (mL M' + 11) + 41 * d ≤ R.locals; omega⟩
  exact SG.aft (va_runIN (n := n) (Ts := TB) (As := As) (rest := rest) ⟨C0.1, C0.2.1, C0.2.2.1, C0.2.2.2.1, hts⟩ hM ⟨hb, hnm, hts _ hin⟩ (PMA.pre hP C0.2.2.2.2.2.1) rfl hn hv.1 rfl (lv_room hrest) hd hcs) hS (fun H1 locs1 hP1 hS1 => kk p e s m args below meth c C0 Z kE H1 locs1 ls hP1 hS1 hv)
theorem rmALe {d' d mc ms : Nat} (h : d' + 1 ≤ d) : d' + 1 ≤ (rmA d mc ms).frames ∧ 41 * d' + 41 ≤ (rmA d mc ms).locals := ⟨h, by show 41 * d' + 41 ≤ 41 * d; omega⟩
end SGR
