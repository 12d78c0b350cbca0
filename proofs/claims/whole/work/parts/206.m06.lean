-- X8_digestFrom
def f_X8_digestFrom_L254 : Nat → Nat → Int64 → Int32 → PH → Option Int64
  | 0, _, _, _, _ => none
  | n + 1, a0, a3, a5, hp => (gR hp a0 7 3).bind fun x15 => (gI hp x15 4 0).bind fun x16 => (if x16 ≤ a5 then (gR hp a0 7 3).bind fun x17 => (gI hp x17 4 1).bind fun x18 => (some ((31 * a3) + (Int32.toInt64 x18))) else (gR hp a0 7 3).bind fun x19 => (gR hp x19 4 3).bind fun x20 => (aI hp x20 0 a5).bind fun x21 => (gR hp a0 7 3).bind fun x22 => (gR hp x22 4 4).bind fun x23 => (aI hp x23 0 a5).bind fun x24 => (gR hp a0 7 3).bind fun x25 => (gR hp x25 4 5).bind fun x26 => (aI hp x26 1 a5).bind fun x27 => (if x27 = 0 then ((f_X8_digestFrom_L254 n) a0 ((31 * ((31 * ((31 * a3) + (Int32.toInt64 x21))) + (Int32.toInt64 x24))) + (Int32.toInt64 0)) (a5 + 1) hp) else ((f_X8_digestFrom_L254 n) a0 ((31 * ((31 * ((31 * a3) + (Int32.toInt64 x21))) + (Int32.toInt64 x24))) + (Int32.toInt64 1)) (a5 + 1) hp)))
def f_X8_digestFrom_L223 : Nat → Nat → Int64 → Int32 → PH → Option Int64
  | 0, _, _, _, _ => none
  | n + 1, a0, a3, a5, hp => (if 10 ≤ a5 then (f_X8_digestFrom_L254 NN a0 a3 0 hp) else (gR hp a0 7 2).bind fun x28 => (aI hp x28 0 a5).bind fun x29 => ((f_X8_digestFrom_L223 n) a0 ((31 * a3) + (Int32.toInt64 x29)) (a5 + 1) hp))
def f_X8_digestFrom_L185 : Nat → Nat → Int64 → Int32 → PH → Option Int64
  | 0, _, _, _, _ => none
  | n + 1, a0, a3, a5, hp => (gR hp a0 7 1).bind fun x13 => (gI hp x13 0 0).bind fun x14 => (if x14 ≤ a5 then (f_X8_digestFrom_L223 NN a0 a3 0 hp) else (gR hp a0 7 1).bind fun x30 => (vC hp x30 0 (f_X0_at x30 a5 hp)).bind fun q31 => ((f_X8_digestFrom_L185 n) a0 ((31 * a3) + (Int32.toInt64 q31)) (a5 + 1) hp))
def f_X8_digestFrom_L130 : Nat → Nat → Int64 → Int32 → PH → Option Int64
  | 0, _, _, _, _ => none
  | n + 1, a0, a3, a5, hp => (gR hp a0 7 0).bind fun x11 => (gI hp x11 6 1).bind fun x12 => (if x12 ≤ a5 then (f_X8_digestFrom_L185 NN a0 a3 0 hp) else (gR hp a0 7 0).bind fun x32 => (gR hp x32 6 7).bind fun x33 => (aI hp x33 0 a5).bind fun x34 => (gR hp a0 7 0).bind fun x35 => (gR hp x35 6 8).bind fun x36 => (aI hp x36 0 a5).bind fun x37 => ((f_X8_digestFrom_L130 n) a0 ((31 * ((31 * a3) + (Int32.toInt64 x34))) + (Int32.toInt64 x37)) (a5 + 1) hp))
def f_X8_digestFrom_L59 : Nat → Nat → Int64 → Int32 → PH → Option Int64
  | 0, _, _, _, _ => none
  | n + 1, a0, a3, a5, hp => (gR hp a0 7 0).bind fun x9 => (gI hp x9 6 0).bind fun x10 => (if x10 ≤ a5 then (f_X8_digestFrom_L130 NN a0 a3 0 hp) else (gR hp a0 7 0).bind fun x38 => (gR hp x38 6 2).bind fun x39 => (aI hp x39 0 a5).bind fun x40 => (gR hp a0 7 0).bind fun x41 => (gR hp x41 6 5).bind fun x42 => (aI hp x42 0 a5).bind fun x43 => (gR hp a0 7 0).bind fun x44 => (gR hp x44 6 6).bind fun x45 => (aI hp x45 0 a5).bind fun x46 => ((f_X8_digestFrom_L59 n) a0 ((31 * ((31 * ((31 * a3) + (Int32.toInt64 x40))) + (Int32.toInt64 x43))) + (Int32.toInt64 x46)) (a5 + 1) hp))
def f_X8_digestFrom (a0 : Nat) (a1 : Int64) (hp : PH) : Option Int64 := (gR hp a0 7 0).bind fun x1 => (gI hp x1 6 0).bind fun x2 => (gR hp a0 7 0).bind fun x3 => (gI hp x3 6 1).bind fun x4 => (gR hp a0 7 1).bind fun x5 => (gI hp x5 0 0).bind fun x6 => (gR hp a0 7 3).bind fun x7 => (gI hp x7 4 0).bind fun x8 => (f_X8_digestFrom_L59 NN a0 ((31 * ((31 * ((31 * ((31 * a1) + (Int32.toInt64 x2))) + (Int32.toInt64 x4))) + (Int32.toInt64 x6))) + (Int32.toInt64 x8)) 0 hp)
set_option maxRecDepth 100000 in
set_option maxHeartbeats 4000000 in
theorem mf_X8_digestFrom_L254 {K : GK} : ∀ (n : Nat) (a0 : Nat) (a3 : Int64) (a5 : Int32) (hp : PH) (r : Int64), f_X8_digestFrom_L254 n a0 a3 a5 hp = some r → PW K (rmD (1)) 0 0 M_X8_digestFrom 254 [(0, .ref (ga K a0)), (3, .long a3), (5, .int a5)] [] hp (some (.long r)) hp := by
  intro n
  induction n with
  | zero =>
    intro a0 a3 a5 hp r h
    rw [f_X8_digestFrom_L254] at h
    cases h
  | succ n ih =>
    intro a0 a3 a5 hp r h
    rw [f_X8_digestFrom_L254] at h
    refine PW.iload 2 dX8_digestFrom_254 rfl ?_
    refine PW.aload_n 0 dX8_digestFrom_256 rfl rfl ?_
    obtain ⟨x15, hx15, h⟩ := bind_some h
    refine PW.getR cls_X8 (j := 3) (by decide) dX8_digestFrom_257 wd_203 hx15 ?_
    obtain ⟨x16, hx16, h⟩ := bind_some h
    refine PW.getI cls_X5 (j := 0) (by decide) dX8_digestFrom_260 wd_166 hx16 ?_
    refine PW.icmp_ge (tgt := 332) dX8_digestFrom_263 (by decide) (fun c263 => ?_) (fun c263 => ?_)
    · rw [if_pos c263] at h
      refine PW.ldc2 (x := 31) dX8_digestFrom_332 wd_887 ?_
      refine PW.lload_n 1 dX8_digestFrom_335 rfl rfl ?_
      refine PW.lmul dX8_digestFrom_336 ?_
      refine PW.aload_n 0 dX8_digestFrom_337 rfl rfl ?_
      obtain ⟨x17, hx17, h⟩ := bind_some h
      refine PW.getR cls_X8 (j := 3) (by decide) dX8_digestFrom_338 wd_203 hx17 ?_
      obtain ⟨x18, hx18, h⟩ := bind_some h
      refine PW.getI cls_X5 (j := 1) (by decide) dX8_digestFrom_341 wd_169 hx18 ?_
      refine PW.i2l dX8_digestFrom_344 ?_
      refine PW.ladd dX8_digestFrom_345 ?_
      have h := Option.some.inj h; subst h
      exact PW.ret dX8_digestFrom_346 trivial rfl
    · rw [if_neg c263] at h
      refine PW.ldc2 (x := 31) dX8_digestFrom_266 wd_887 ?_
      refine PW.ldc2 (x := 31) dX8_digestFrom_269 wd_887 ?_
      refine PW.lload_n 1 dX8_digestFrom_272 rfl rfl ?_
      refine PW.lmul dX8_digestFrom_273 ?_
      refine PW.aload_n 0 dX8_digestFrom_274 rfl rfl ?_
      obtain ⟨x19, hx19, h⟩ := bind_some h
      refine PW.getR cls_X8 (j := 3) (by decide) dX8_digestFrom_275 wd_203 hx19 ?_
      obtain ⟨x20, hx20, h⟩ := bind_some h
      refine PW.getR cls_X5 (j := 3) (by decide) dX8_digestFrom_278 wd_175 hx20 ?_
      refine PW.iload 2 dX8_digestFrom_281 rfl ?_
      obtain ⟨x21, hx21, h⟩ := bind_some h
      refine PW.iald dX8_digestFrom_283 hx21 ?_
      refine PW.i2l dX8_digestFrom_284 ?_
      refine PW.ladd dX8_digestFrom_285 ?_
      refine PW.lmul dX8_digestFrom_286 ?_
      refine PW.aload_n 0 dX8_digestFrom_287 rfl rfl ?_
      obtain ⟨x22, hx22, h⟩ := bind_some h
      refine PW.getR cls_X8 (j := 3) (by decide) dX8_digestFrom_288 wd_203 hx22 ?_
      obtain ⟨x23, hx23, h⟩ := bind_some h
      refine PW.getR cls_X5 (j := 4) (by decide) dX8_digestFrom_291 wd_178 hx23 ?_
      refine PW.iload 2 dX8_digestFrom_294 rfl ?_
      obtain ⟨x24, hx24, h⟩ := bind_some h
      refine PW.iald dX8_digestFrom_296 hx24 ?_
      refine PW.i2l dX8_digestFrom_297 ?_
      refine PW.ladd dX8_digestFrom_298 ?_
      refine PW.lstore_n (l' := [(3, .long ((31 * ((31 * a3) + (Int32.toInt64 x21))) + (Int32.toInt64 x24))), (0, .ref (ga K a0)), (5, .int a5)]) dX8_digestFrom_299 rfl (by decide) rfl ?_
      refine PW.ldc2 (x := 31) dX8_digestFrom_300 wd_887 ?_
      refine PW.lload_n 0 dX8_digestFrom_303 rfl rfl ?_
      refine PW.lmul dX8_digestFrom_304 ?_
      refine PW.aload_n 1 dX8_digestFrom_305 rfl rfl ?_
      obtain ⟨x25, hx25, h⟩ := bind_some h
      refine PW.getR cls_X8 (j := 3) (by decide) dX8_digestFrom_306 wd_203 hx25 ?_
      obtain ⟨x26, hx26, h⟩ := bind_some h
      refine PW.getR cls_X5 (j := 5) (by decide) dX8_digestFrom_309 wd_181 hx26 ?_
      refine PW.iload 2 dX8_digestFrom_312 rfl ?_
      obtain ⟨x27, hx27, h⟩ := bind_some h
      refine PW.zald dX8_digestFrom_314 hx27 ?_
      refine PW.if_eq (tgt := 322) dX8_digestFrom_315 (by decide) (fun c315 => ?_) (fun c315 => ?_)
      · rw [if_pos c315] at h
        refine PW.iconst (x := 0) dX8_digestFrom_322 (by decide) ?_
        refine PW.i2l dX8_digestFrom_323 ?_
        refine PW.ladd dX8_digestFrom_324 ?_
        refine PW.lstore_n (l' := [(3, .long ((31 * ((31 * ((31 * a3) + (Int32.toInt64 x21))) + (Int32.toInt64 x24))) + (Int32.toInt64 0))), (0, .ref (ga K a0)), (5, .int a5)]) dX8_digestFrom_325 rfl (by decide) rfl ?_
        refine PW.iinc 2 (l' := [(5, .int (a5 + 1)), (3, .long ((31 * ((31 * ((31 * a3) + (Int32.toInt64 x21))) + (Int32.toInt64 x24))) + (Int32.toInt64 0))), (0, .ref (ga K a0))]) dX8_digestFrom_326 rfl (x := a5) (y := (a5 + 1)) rfl (by decide) rfl ?_
        refine PW.goto (tgt := 254) dX8_digestFrom_329 (by decide) ?_
        exact PW.sub (l' := [(0, .ref (ga K a0)), (3, .long ((31 * ((31 * ((31 * a3) + (Int32.toInt64 x21))) + (Int32.toInt64 x24))) + (Int32.toInt64 0))), (5, .int (a5 + 1))]) [2, 1, 0] rfl (ih a0 ((31 * ((31 * ((31 * a3) + (Int32.toInt64 x21))) + (Int32.toInt64 x24))) + (Int32.toInt64 0)) (a5 + 1) hp _ h)
      · rw [if_neg c315] at h
        refine PW.iconst (x := 1) dX8_digestFrom_318 (by decide) ?_
        refine PW.goto (tgt := 323) dX8_digestFrom_319 (by decide) ?_
        refine PW.i2l dX8_digestFrom_323 ?_
        refine PW.ladd dX8_digestFrom_324 ?_
        refine PW.lstore_n (l' := [(3, .long ((31 * ((31 * ((31 * a3) + (Int32.toInt64 x21))) + (Int32.toInt64 x24))) + (Int32.toInt64 1))), (0, .ref (ga K a0)), (5, .int a5)]) dX8_digestFrom_325 rfl (by decide) rfl ?_
        refine PW.iinc 2 (l' := [(5, .int (a5 + 1)), (3, .long ((31 * ((31 * ((31 * a3) + (Int32.toInt64 x21))) + (Int32.toInt64 x24))) + (Int32.toInt64 1))), (0, .ref (ga K a0))]) dX8_digestFrom_326 rfl (x := a5) (y := (a5 + 1)) rfl (by decide) rfl ?_
        refine PW.goto (tgt := 254) dX8_digestFrom_329 (by decide) ?_
        exact PW.sub (l' := [(0, .ref (ga K a0)), (3, .long ((31 * ((31 * ((31 * a3) + (Int32.toInt64 x21))) + (Int32.toInt64 x24))) + (Int32.toInt64 1))), (5, .int (a5 + 1))]) [2, 1, 0] rfl (ih a0 ((31 * ((31 * ((31 * a3) + (Int32.toInt64 x21))) + (Int32.toInt64 x24))) + (Int32.toInt64 1)) (a5 + 1) hp _ h)
set_option maxRecDepth 100000 in
set_option maxHeartbeats 4000000 in
theorem mf_X8_digestFrom_L223 {K : GK} : ∀ (n : Nat) (a0 : Nat) (a3 : Int64) (a5 : Int32) (hp : PH) (r : Int64), f_X8_digestFrom_L223 n a0 a3 a5 hp = some r → PW K (rmD (1)) 0 0 M_X8_digestFrom 223 [(0, .ref (ga K a0)), (3, .long a3), (5, .int a5)] [] hp (some (.long r)) hp := by
  intro n
  induction n with
  | zero =>
    intro a0 a3 a5 hp r h
    rw [f_X8_digestFrom_L223] at h
    cases h
  | succ n ih =>
    intro a0 a3 a5 hp r h
    rw [f_X8_digestFrom_L223] at h
    refine PW.iload 2 dX8_digestFrom_223 rfl ?_
    refine PW.bipush (x := 10) dX8_digestFrom_225 (by decide) ?_
    refine PW.icmp_ge (tgt := 251) dX8_digestFrom_227 (by decide) (fun c227 => ?_) (fun c227 => ?_)
    · rw [if_pos c227] at h
      refine PW.iconst (x := 0) dX8_digestFrom_251 (by decide) ?_
      refine PW.istore (l' := [(5, .int 0), (0, .ref (ga K a0)), (3, .long a3)]) dX8_digestFrom_252 (by decide) rfl ?_
      exact PW.sub (l' := [(0, .ref (ga K a0)), (3, .long a3), (5, .int 0)]) [1, 2, 0] rfl (mf_X8_digestFrom_L254 NN a0 a3 0 hp _ h)
    · rw [if_neg c227] at h
      refine PW.ldc2 (x := 31) dX8_digestFrom_230 wd_887 ?_
      refine PW.lload_n 1 dX8_digestFrom_233 rfl rfl ?_
      refine PW.lmul dX8_digestFrom_234 ?_
      refine PW.aload_n 0 dX8_digestFrom_235 rfl rfl ?_
      obtain ⟨x28, hx28, h⟩ := bind_some h
      refine PW.getR cls_X8 (j := 2) (by decide) dX8_digestFrom_236 wd_201 hx28 ?_
      refine PW.iload 2 dX8_digestFrom_239 rfl ?_
      obtain ⟨x29, hx29, h⟩ := bind_some h
      refine PW.iald dX8_digestFrom_241 hx29 ?_
      refine PW.i2l dX8_digestFrom_242 ?_
      refine PW.ladd dX8_digestFrom_243 ?_
      refine PW.lstore_n (l' := [(3, .long ((31 * a3) + (Int32.toInt64 x29))), (0, .ref (ga K a0)), (5, .int a5)]) dX8_digestFrom_244 rfl (by decide) rfl ?_
      refine PW.iinc 2 (l' := [(5, .int (a5 + 1)), (3, .long ((31 * a3) + (Int32.toInt64 x29))), (0, .ref (ga K a0))]) dX8_digestFrom_245 rfl (x := a5) (y := (a5 + 1)) rfl (by decide) rfl ?_
      refine PW.goto (tgt := 223) dX8_digestFrom_248 (by decide) ?_
      exact PW.sub (l' := [(0, .ref (ga K a0)), (3, .long ((31 * a3) + (Int32.toInt64 x29))), (5, .int (a5 + 1))]) [2, 1, 0] rfl (ih a0 ((31 * a3) + (Int32.toInt64 x29)) (a5 + 1) hp _ h)
set_option maxRecDepth 100000 in
set_option maxHeartbeats 4000000 in
theorem mf_X8_digestFrom_L185 {K : GK} : ∀ (n : Nat) (a0 : Nat) (a3 : Int64) (a5 : Int32) (hp : PH) (r : Int64), f_X8_digestFrom_L185 n a0 a3 a5 hp = some r → PW K (rmD (1)) 0 0 M_X8_digestFrom 185 [(0, .ref (ga K a0)), (3, .long a3), (5, .int a5)] [] hp (some (.long r)) hp := by
  intro n
  induction n with
  | zero =>
    intro a0 a3 a5 hp r h
    rw [f_X8_digestFrom_L185] at h
    cases h
  | succ n ih =>
    intro a0 a3 a5 hp r h
    rw [f_X8_digestFrom_L185] at h
    refine PW.iload 2 dX8_digestFrom_185 rfl ?_
    refine PW.aload_n 0 dX8_digestFrom_187 rfl rfl ?_
    obtain ⟨x13, hx13, h⟩ := bind_some h
    refine PW.getR cls_X8 (j := 1) (by decide) dX8_digestFrom_188 wd_199 hx13 ?_
    obtain ⟨x14, hx14, h⟩ := bind_some h
    refine PW.getI cls_X0 (j := 0) (by decide) dX8_digestFrom_191 wd_150 hx14 ?_
    refine PW.icmp_ge (tgt := 220) dX8_digestFrom_194 (by decide) (fun c194 => ?_) (fun c194 => ?_)
    · rw [if_pos c194] at h
      refine PW.iconst (x := 0) dX8_digestFrom_220 (by decide) ?_
      refine PW.istore (l' := [(5, .int 0), (0, .ref (ga K a0)), (3, .long a3)]) dX8_digestFrom_221 (by decide) rfl ?_
      exact PW.sub (l' := [(0, .ref (ga K a0)), (3, .long a3), (5, .int 0)]) [1, 2, 0] rfl (mf_X8_digestFrom_L223 NN a0 a3 0 hp _ h)
    · rw [if_neg c194] at h
      refine PW.ldc2 (x := 31) dX8_digestFrom_197 wd_887 ?_
      refine PW.lload_n 1 dX8_digestFrom_200 rfl rfl ?_
      refine PW.lmul dX8_digestFrom_201 ?_
      refine PW.aload_n 0 dX8_digestFrom_202 rfl rfl ?_
      obtain ⟨x30, hx30, h⟩ := bind_some h
      refine PW.getR cls_X8 (j := 1) (by decide) dX8_digestFrom_203 wd_199 hx30 ?_
      refine PW.iload 2 dX8_digestFrom_206 rfl ?_
      obtain ⟨q31, hq31, h⟩ := bind_some h
      obtain ⟨hkq31, hcq31, hq31⟩ := vC_spec hq31
      refine PW.callVi (As := [.int a5]) (rest := [.long (31 * a3)]) (k := x30) cal_X0_at dX8_digestFrom_208 wd_888 rfl rfl (rmLe (by omega)) (Nat.le_of_ble_eq_true rfl) rm_0 hkq31 hcq31 (mf_X0_at x30 a5 hp _ hq31) ?_
      refine PW.i2l dX8_digestFrom_211 ?_
      refine PW.ladd dX8_digestFrom_212 ?_
      refine PW.lstore_n (l' := [(3, .long ((31 * a3) + (Int32.toInt64 q31))), (0, .ref (ga K a0)), (5, .int a5)]) dX8_digestFrom_213 rfl (by decide) rfl ?_
      refine PW.iinc 2 (l' := [(5, .int (a5 + 1)), (3, .long ((31 * a3) + (Int32.toInt64 q31))), (0, .ref (ga K a0))]) dX8_digestFrom_214 rfl (x := a5) (y := (a5 + 1)) rfl (by decide) rfl ?_
      refine PW.goto (tgt := 185) dX8_digestFrom_217 (by decide) ?_
      exact PW.sub (l' := [(0, .ref (ga K a0)), (3, .long ((31 * a3) + (Int32.toInt64 q31))), (5, .int (a5 + 1))]) [2, 1, 0] rfl (ih a0 ((31 * a3) + (Int32.toInt64 q31)) (a5 + 1) hp _ h)
set_option maxRecDepth 100000 in
set_option maxHeartbeats 4000000 in
theorem mf_X8_digestFrom_L130 {K : GK} : ∀ (n : Nat) (a0 : Nat) (a3 : Int64) (a5 : Int32) (hp : PH) (r : Int64), f_X8_digestFrom_L130 n a0 a3 a5 hp = some r → PW K (rmD (1)) 0 0 M_X8_digestFrom 130 [(0, .ref (ga K a0)), (3, .long a3), (5, .int a5)] [] hp (some (.long r)) hp := by
  intro n
  induction n with
  | zero =>
    intro a0 a3 a5 hp r h
    rw [f_X8_digestFrom_L130] at h
    cases h
  | succ n ih =>
    intro a0 a3 a5 hp r h
    rw [f_X8_digestFrom_L130] at h
    refine PW.iload 2 dX8_digestFrom_130 rfl ?_
    refine PW.aload_n 0 dX8_digestFrom_132 rfl rfl ?_
    obtain ⟨x11, hx11, h⟩ := bind_some h
    refine PW.getR cls_X8 (j := 0) (by decide) dX8_digestFrom_133 wd_197 hx11 ?_
    obtain ⟨x12, hx12, h⟩ := bind_some h
    refine PW.getI cls_X7 (j := 1) (by decide) dX8_digestFrom_136 wd_99 hx12 ?_
    refine PW.icmp_ge (tgt := 182) dX8_digestFrom_139 (by decide) (fun c139 => ?_) (fun c139 => ?_)
    · rw [if_pos c139] at h
      refine PW.iconst (x := 0) dX8_digestFrom_182 (by decide) ?_
      refine PW.istore (l' := [(5, .int 0), (0, .ref (ga K a0)), (3, .long a3)]) dX8_digestFrom_183 (by decide) rfl ?_
      exact PW.sub (l' := [(0, .ref (ga K a0)), (3, .long a3), (5, .int 0)]) [1, 2, 0] rfl (mf_X8_digestFrom_L185 NN a0 a3 0 hp _ h)
    · rw [if_neg c139] at h
      refine PW.ldc2 (x := 31) dX8_digestFrom_142 wd_887 ?_
      refine PW.ldc2 (x := 31) dX8_digestFrom_145 wd_887 ?_
      refine PW.lload_n 1 dX8_digestFrom_148 rfl rfl ?_
      refine PW.lmul dX8_digestFrom_149 ?_
      refine PW.aload_n 0 dX8_digestFrom_150 rfl rfl ?_
      obtain ⟨x32, hx32, h⟩ := bind_some h
      refine PW.getR cls_X8 (j := 0) (by decide) dX8_digestFrom_151 wd_197 hx32 ?_
      obtain ⟨x33, hx33, h⟩ := bind_some h
      refine PW.getR cls_X7 (j := 7) (by decide) dX8_digestFrom_154 wd_119 hx33 ?_
      refine PW.iload 2 dX8_digestFrom_157 rfl ?_
      obtain ⟨x34, hx34, h⟩ := bind_some h
      refine PW.iald dX8_digestFrom_159 hx34 ?_
      refine PW.i2l dX8_digestFrom_160 ?_
      refine PW.ladd dX8_digestFrom_161 ?_
      refine PW.lmul dX8_digestFrom_162 ?_
      refine PW.aload_n 0 dX8_digestFrom_163 rfl rfl ?_
      obtain ⟨x35, hx35, h⟩ := bind_some h
      refine PW.getR cls_X8 (j := 0) (by decide) dX8_digestFrom_164 wd_197 hx35 ?_
      obtain ⟨x36, hx36, h⟩ := bind_some h
      refine PW.getR cls_X7 (j := 8) (by decide) dX8_digestFrom_167 wd_121 hx36 ?_
      refine PW.iload 2 dX8_digestFrom_170 rfl ?_
      obtain ⟨x37, hx37, h⟩ := bind_some h
      refine PW.iald dX8_digestFrom_172 hx37 ?_
      refine PW.i2l dX8_digestFrom_173 ?_
      refine PW.ladd dX8_digestFrom_174 ?_
      refine PW.lstore_n (l' := [(3, .long ((31 * ((31 * a3) + (Int32.toInt64 x34))) + (Int32.toInt64 x37))), (0, .ref (ga K a0)), (5, .int a5)]) dX8_digestFrom_175 rfl (by decide) rfl ?_
      refine PW.iinc 2 (l' := [(5, .int (a5 + 1)), (3, .long ((31 * ((31 * a3) + (Int32.toInt64 x34))) + (Int32.toInt64 x37))), (0, .ref (ga K a0))]) dX8_digestFrom_176 rfl (x := a5) (y := (a5 + 1)) rfl (by decide) rfl ?_
      refine PW.goto (tgt := 130) dX8_digestFrom_179 (by decide) ?_
      exact PW.sub (l' := [(0, .ref (ga K a0)), (3, .long ((31 * ((31 * a3) + (Int32.toInt64 x34))) + (Int32.toInt64 x37))), (5, .int (a5 + 1))]) [2, 1, 0] rfl (ih a0 ((31 * ((31 * a3) + (Int32.toInt64 x34))) + (Int32.toInt64 x37)) (a5 + 1) hp _ h)
set_option maxRecDepth 100000 in
set_option maxHeartbeats 4000000 in
theorem mf_X8_digestFrom_L59 {K : GK} : ∀ (n : Nat) (a0 : Nat) (a3 : Int64) (a5 : Int32) (hp : PH) (r : Int64), f_X8_digestFrom_L59 n a0 a3 a5 hp = some r → PW K (rmD (1)) 0 0 M_X8_digestFrom 59 [(0, .ref (ga K a0)), (3, .long a3), (5, .int a5)] [] hp (some (.long r)) hp := by
  intro n
  induction n with
  | zero =>
    intro a0 a3 a5 hp r h
    rw [f_X8_digestFrom_L59] at h
    cases h
  | succ n ih =>
    intro a0 a3 a5 hp r h
    rw [f_X8_digestFrom_L59] at h
    refine PW.iload 2 dX8_digestFrom_59 rfl ?_
    refine PW.aload_n 0 dX8_digestFrom_61 rfl rfl ?_
    obtain ⟨x9, hx9, h⟩ := bind_some h
    refine PW.getR cls_X8 (j := 0) (by decide) dX8_digestFrom_62 wd_197 hx9 ?_
    obtain ⟨x10, hx10, h⟩ := bind_some h
    refine PW.getI cls_X7 (j := 0) (by decide) dX8_digestFrom_65 wd_95 hx10 ?_
    refine PW.icmp_ge (tgt := 127) dX8_digestFrom_68 (by decide) (fun c68 => ?_) (fun c68 => ?_)
    · rw [if_pos c68] at h
      refine PW.iconst (x := 0) dX8_digestFrom_127 (by decide) ?_
      refine PW.istore (l' := [(5, .int 0), (0, .ref (ga K a0)), (3, .long a3)]) dX8_digestFrom_128 (by decide) rfl ?_
      exact PW.sub (l' := [(0, .ref (ga K a0)), (3, .long a3), (5, .int 0)]) [1, 2, 0] rfl (mf_X8_digestFrom_L130 NN a0 a3 0 hp _ h)
    · rw [if_neg c68] at h
      refine PW.ldc2 (x := 31) dX8_digestFrom_71 wd_887 ?_
      refine PW.ldc2 (x := 31) dX8_digestFrom_74 wd_887 ?_
      refine PW.ldc2 (x := 31) dX8_digestFrom_77 wd_887 ?_
      refine PW.lload_n 1 dX8_digestFrom_80 rfl rfl ?_
      refine PW.lmul dX8_digestFrom_81 ?_
      refine PW.aload_n 0 dX8_digestFrom_82 rfl rfl ?_
      obtain ⟨x38, hx38, h⟩ := bind_some h
      refine PW.getR cls_X8 (j := 0) (by decide) dX8_digestFrom_83 wd_197 hx38 ?_
      obtain ⟨x39, hx39, h⟩ := bind_some h
      refine PW.getR cls_X7 (j := 2) (by decide) dX8_digestFrom_86 wd_104 hx39 ?_
      refine PW.iload 2 dX8_digestFrom_89 rfl ?_
      obtain ⟨x40, hx40, h⟩ := bind_some h
      refine PW.iald dX8_digestFrom_91 hx40 ?_
      refine PW.i2l dX8_digestFrom_92 ?_
      refine PW.ladd dX8_digestFrom_93 ?_
      refine PW.lmul dX8_digestFrom_94 ?_
      refine PW.aload_n 0 dX8_digestFrom_95 rfl rfl ?_
      obtain ⟨x41, hx41, h⟩ := bind_some h
      refine PW.getR cls_X8 (j := 0) (by decide) dX8_digestFrom_96 wd_197 hx41 ?_
      obtain ⟨x42, hx42, h⟩ := bind_some h
      refine PW.getR cls_X7 (j := 5) (by decide) dX8_digestFrom_99 wd_109 hx42 ?_
      refine PW.iload 2 dX8_digestFrom_102 rfl ?_
      obtain ⟨x43, hx43, h⟩ := bind_some h
      refine PW.iald dX8_digestFrom_104 hx43 ?_
      refine PW.i2l dX8_digestFrom_105 ?_
      refine PW.ladd dX8_digestFrom_106 ?_
      refine PW.lmul dX8_digestFrom_107 ?_
      refine PW.aload_n 0 dX8_digestFrom_108 rfl rfl ?_
      obtain ⟨x44, hx44, h⟩ := bind_some h
      refine PW.getR cls_X8 (j := 0) (by decide) dX8_digestFrom_109 wd_197 hx44 ?_
      obtain ⟨x45, hx45, h⟩ := bind_some h
      refine PW.getR cls_X7 (j := 6) (by decide) dX8_digestFrom_112 wd_114 hx45 ?_
      refine PW.iload 2 dX8_digestFrom_115 rfl ?_
      obtain ⟨x46, hx46, h⟩ := bind_some h
      refine PW.iald dX8_digestFrom_117 hx46 ?_
      refine PW.i2l dX8_digestFrom_118 ?_
      refine PW.ladd dX8_digestFrom_119 ?_
      refine PW.lstore_n (l' := [(3, .long ((31 * ((31 * ((31 * a3) + (Int32.toInt64 x40))) + (Int32.toInt64 x43))) + (Int32.toInt64 x46))), (0, .ref (ga K a0)), (5, .int a5)]) dX8_digestFrom_120 rfl (by decide) rfl ?_
      refine PW.iinc 2 (l' := [(5, .int (a5 + 1)), (3, .long ((31 * ((31 * ((31 * a3) + (Int32.toInt64 x40))) + (Int32.toInt64 x43))) + (Int32.toInt64 x46))), (0, .ref (ga K a0))]) dX8_digestFrom_121 rfl (x := a5) (y := (a5 + 1)) rfl (by decide) rfl ?_
      refine PW.goto (tgt := 59) dX8_digestFrom_124 (by decide) ?_
      exact PW.sub (l' := [(0, .ref (ga K a0)), (3, .long ((31 * ((31 * ((31 * a3) + (Int32.toInt64 x40))) + (Int32.toInt64 x43))) + (Int32.toInt64 x46))), (5, .int (a5 + 1))]) [2, 1, 0] rfl (ih a0 ((31 * ((31 * ((31 * a3) + (Int32.toInt64 x40))) + (Int32.toInt64 x43))) + (Int32.toInt64 x46)) (a5 + 1) hp _ h)
set_option maxRecDepth 100000 in
set_option maxHeartbeats 4000000 in
theorem mf_X8_digestFrom {K : GK} : ∀ (a0 : Nat) (a1 : Int64) (hp : PH) (r : Int64), f_X8_digestFrom a0 a1 hp = some r → PM K (1) M_X8_digestFrom [.ref (ga K a0), .long a1] hp (some (.long r)) hp := by
  intro a0 a1 hp r h
  unfold f_X8_digestFrom at h
  refine PM.enter (l0 := [(0, .ref (ga K a0)), (1, .long a1)]) (by decide +kernel) rfl (Nat.le_of_ble_eq_true rfl) rfl ?_
  refine PW.ldc2 (x := 31) dX8_digestFrom_0 wd_887 ?_
  refine PW.ldc2 (x := 31) dX8_digestFrom_3 wd_887 ?_
  refine PW.lload_n 1 dX8_digestFrom_6 rfl rfl ?_
  refine PW.lmul dX8_digestFrom_7 ?_
  refine PW.aload_n 0 dX8_digestFrom_8 rfl rfl ?_
  obtain ⟨x1, hx1, h⟩ := bind_some h
  refine PW.getR cls_X8 (j := 0) (by decide) dX8_digestFrom_9 wd_197 hx1 ?_
  obtain ⟨x2, hx2, h⟩ := bind_some h
  refine PW.getI cls_X7 (j := 0) (by decide) dX8_digestFrom_12 wd_95 hx2 ?_
  refine PW.i2l dX8_digestFrom_15 ?_
  refine PW.ladd dX8_digestFrom_16 ?_
  refine PW.lmul dX8_digestFrom_17 ?_
  refine PW.aload_n 0 dX8_digestFrom_18 rfl rfl ?_
  obtain ⟨x3, hx3, h⟩ := bind_some h
  refine PW.getR cls_X8 (j := 0) (by decide) dX8_digestFrom_19 wd_197 hx3 ?_
  obtain ⟨x4, hx4, h⟩ := bind_some h
  refine PW.getI cls_X7 (j := 1) (by decide) dX8_digestFrom_22 wd_99 hx4 ?_
  refine PW.i2l dX8_digestFrom_25 ?_
  refine PW.ladd dX8_digestFrom_26 ?_
  refine PW.lstore_n (l' := [(3, .long ((31 * ((31 * a1) + (Int32.toInt64 x2))) + (Int32.toInt64 x4))), (0, .ref (ga K a0)), (1, .long a1)]) dX8_digestFrom_27 rfl (by decide) rfl ?_
  refine PW.ldc2 (x := 31) dX8_digestFrom_28 wd_887 ?_
  refine PW.ldc2 (x := 31) dX8_digestFrom_31 wd_887 ?_
  refine PW.lload_n 0 dX8_digestFrom_34 rfl rfl ?_
  refine PW.lmul dX8_digestFrom_35 ?_
  refine PW.aload_n 1 dX8_digestFrom_36 rfl rfl ?_
  obtain ⟨x5, hx5, h⟩ := bind_some h
  refine PW.getR cls_X8 (j := 1) (by decide) dX8_digestFrom_37 wd_199 hx5 ?_
  obtain ⟨x6, hx6, h⟩ := bind_some h
  refine PW.getI cls_X0 (j := 0) (by decide) dX8_digestFrom_40 wd_150 hx6 ?_
  refine PW.i2l dX8_digestFrom_43 ?_
  refine PW.ladd dX8_digestFrom_44 ?_
  refine PW.lmul dX8_digestFrom_45 ?_
  refine PW.aload_n 1 dX8_digestFrom_46 rfl rfl ?_
  obtain ⟨x7, hx7, h⟩ := bind_some h
  refine PW.getR cls_X8 (j := 3) (by decide) dX8_digestFrom_47 wd_203 hx7 ?_
  obtain ⟨x8, hx8, h⟩ := bind_some h
  refine PW.getI cls_X5 (j := 0) (by decide) dX8_digestFrom_50 wd_166 hx8 ?_
  refine PW.i2l dX8_digestFrom_53 ?_
  refine PW.ladd dX8_digestFrom_54 ?_
  refine PW.lstore_n (l' := [(3, .long ((31 * ((31 * ((31 * ((31 * a1) + (Int32.toInt64 x2))) + (Int32.toInt64 x4))) + (Int32.toInt64 x6))) + (Int32.toInt64 x8))), (0, .ref (ga K a0)), (1, .long a1)]) dX8_digestFrom_55 rfl (by decide) rfl ?_
  refine PW.iconst (x := 0) dX8_digestFrom_56 (by decide) ?_
  refine PW.istore (l' := [(5, .int 0), (3, .long ((31 * ((31 * ((31 * ((31 * a1) + (Int32.toInt64 x2))) + (Int32.toInt64 x4))) + (Int32.toInt64 x6))) + (Int32.toInt64 x8))), (0, .ref (ga K a0)), (1, .long a1)]) dX8_digestFrom_57 (by decide) rfl ?_
  exact PW.sub (l' := [(0, .ref (ga K a0)), (3, .long ((31 * ((31 * ((31 * ((31 * a1) + (Int32.toInt64 x2))) + (Int32.toInt64 x4))) + (Int32.toInt64 x6))) + (Int32.toInt64 x8))), (5, .int 0)]) [2, 1, 0] rfl (mf_X8_digestFrom_L59 NN a0 ((31 * ((31 * ((31 * ((31 * a1) + (Int32.toInt64 x2))) + (Int32.toInt64 x4))) + (Int32.toInt64 x6))) + (Int32.toInt64 x8)) 0 hp _ h)
-- X9_addOne
def f_X9_addOne_L10 (k2 : Nat → Int32 → Int32 → PH → Option PH) : Nat → Nat → Int32 → Int32 → Int32 → PH → Option PH
  | 0, _, _, _, _, _ => none
  | n + 1, a0, a1, a3, a4, hp => (if 10 ≤ a4 then (k2 a0 a1 (a3 + (-1)) hp) else (gR hp a0 8 1).bind fun x1 => (aJ hp x1 ((a3 * 10) + a4)).bind fun x2 => (gR hp a0 8 1).bind fun x3 => (aJ hp x3 (((a3 - 1) * 10) + (iR ((a4 + 10) - a1) 10))).bind fun x4 => (uJ hp x1 ((a3 * 10) + a4) (x2 + x4)).bind fun hp5 => ((f_X9_addOne_L10 k2 n) a0 a1 a3 (a4 + 1) hp5))
def f_X9_addOne_L2 : Nat → Nat → Int32 → Int32 → PH → Option PH
  | 0, _, _, _, _ => none
  | n + 1, a0, a1, a3, hp => (if a3 < 1 then some hp else (f_X9_addOne_L10 (f_X9_addOne_L2 n) NN a0 a1 a3 0 hp))
def f_X9_addOne (a0 : Nat) (a1 : Int32) (a2 : Int32) (hp : PH) : Option PH := (f_X9_addOne_L2 NN a0 a1 a2 hp)
set_option maxRecDepth 100000 in
set_option maxHeartbeats 4000000 in
theorem mf_X9_addOne_L10 {K : GK} {k2 : Nat → Int32 → Int32 → PH → Option PH} (hk2 : ∀ (a0 : Nat) (a1 : Int32) (a3 : Int32) (hp : PH) (r : PH), k2 a0 a1 a3 hp = some r → PW K (rmD (0)) 0 0 M_X9_addOne 2 [(0, .ref (ga K a0)), (1, .int a1), (3, .int a3)] [] hp none r) : ∀ (n : Nat) (a0 : Nat) (a1 : Int32) (a3 : Int32) (a4 : Int32) (hp : PH) (r : PH), f_X9_addOne_L10 k2 n a0 a1 a3 a4 hp = some r → PW K (rmD (0)) 0 0 M_X9_addOne 10 [(0, .ref (ga K a0)), (1, .int a1), (3, .int a3), (4, .int a4)] [] hp none r := by
  intro n
  induction n with
  | zero =>
    intro a0 a1 a3 a4 hp r h
    rw [f_X9_addOne_L10] at h
    cases h
  | succ n ih =>
    intro a0 a1 a3 a4 hp r h
    rw [f_X9_addOne_L10] at h
    refine PW.iload 3 dX9_addOne_10 rfl ?_
    refine PW.bipush (x := 10) dX9_addOne_12 (by decide) ?_
    refine PW.icmp_ge (tgt := 64) dX9_addOne_14 (by decide) (fun c14 => ?_) (fun c14 => ?_)
    · rw [if_pos c14] at h
      refine PW.iinc 2 (l' := [(3, .int (a3 + (-1))), (0, .ref (ga K a0)), (1, .int a1), (4, .int a4)]) dX9_addOne_64 rfl (x := a3) (y := (a3 + (-1))) rfl (by decide) rfl ?_
      refine PW.goto (tgt := 2) dX9_addOne_67 (by decide) ?_
      exact PW.sub (l' := [(0, .ref (ga K a0)), (1, .int a1), (3, .int (a3 + (-1)))]) [1, 2, 0] rfl (hk2 a0 a1 (a3 + (-1)) hp _ h)
    · rw [if_neg c14] at h
      refine PW.iload 3 dX9_addOne_17 rfl ?_
      refine PW.bipush (x := 10) dX9_addOne_19 (by decide) ?_
      refine PW.iadd dX9_addOne_21 ?_
      refine PW.iload_n 1 dX9_addOne_22 rfl rfl ?_
      refine PW.isub dX9_addOne_23 ?_
      refine PW.bipush (x := 10) dX9_addOne_24 (by decide) ?_
      refine PW.irem dX9_addOne_26 (by decide) ?_
      refine PW.istore (l' := [(5, .int (iR ((a4 + 10) - a1) 10)), (0, .ref (ga K a0)), (1, .int a1), (3, .int a3), (4, .int a4)]) dX9_addOne_27 (by decide) rfl ?_
      refine PW.aload_n 1 dX9_addOne_29 rfl rfl ?_
      obtain ⟨x1, hx1, h⟩ := bind_some h
      refine PW.getR cls_X9 (j := 1) (by decide) dX9_addOne_30 wd_293 hx1 ?_
      refine PW.iload_n 3 dX9_addOne_33 rfl rfl ?_
      refine PW.bipush (x := 10) dX9_addOne_34 (by decide) ?_
      refine PW.imul dX9_addOne_36 ?_
      refine PW.iload 4 dX9_addOne_37 rfl ?_
      refine PW.iadd dX9_addOne_39 ?_
      refine PW.dup2 dX9_addOne_40 rfl rfl ?_
      obtain ⟨x2, hx2, h⟩ := bind_some h
      refine PW.lald dX9_addOne_41 hx2 ?_
      refine PW.aload_n 1 dX9_addOne_42 rfl rfl ?_
      obtain ⟨x3, hx3, h⟩ := bind_some h
      refine PW.getR cls_X9 (j := 1) (by decide) dX9_addOne_43 wd_293 hx3 ?_
      refine PW.iload_n 3 dX9_addOne_46 rfl rfl ?_
      refine PW.iconst (x := 1) dX9_addOne_47 (by decide) ?_
      refine PW.isub dX9_addOne_48 ?_
      refine PW.bipush (x := 10) dX9_addOne_49 (by decide) ?_
      refine PW.imul dX9_addOne_51 ?_
      refine PW.iload 0 dX9_addOne_52 rfl ?_
      refine PW.iadd dX9_addOne_54 ?_
      obtain ⟨x4, hx4, h⟩ := bind_some h
      refine PW.lald dX9_addOne_55 hx4 ?_
      refine PW.ladd dX9_addOne_56 ?_
      obtain ⟨hp5, hhp5, h⟩ := bind_some h
      refine PW.last dX9_addOne_57 hhp5 ?_
      refine PW.iinc 4 (l' := [(4, .int (a4 + 1)), (5, .int (iR ((a4 + 10) - a1) 10)), (0, .ref (ga K a0)), (1, .int a1), (3, .int a3)]) dX9_addOne_58 rfl (x := a4) (y := (a4 + 1)) rfl (by decide) rfl ?_
      refine PW.goto (tgt := 10) dX9_addOne_61 (by decide) ?_
      exact PW.sub (l' := [(0, .ref (ga K a0)), (1, .int a1), (3, .int a3), (4, .int (a4 + 1))]) [2, 3, 4, 0] rfl (ih a0 a1 a3 (a4 + 1) hp5 _ h)
set_option maxRecDepth 100000 in
set_option maxHeartbeats 4000000 in
theorem mf_X9_addOne_L2 {K : GK} : ∀ (n : Nat) (a0 : Nat) (a1 : Int32) (a3 : Int32) (hp : PH) (r : PH), f_X9_addOne_L2 n a0 a1 a3 hp = some r → PW K (rmD (0)) 0 0 M_X9_addOne 2 [(0, .ref (ga K a0)), (1, .int a1), (3, .int a3)] [] hp none r := by
  intro n
  induction n with
  | zero =>
    intro a0 a1 a3 hp r h
    rw [f_X9_addOne_L2] at h
    cases h
  | succ n ih =>
    intro a0 a1 a3 hp r h
    rw [f_X9_addOne_L2] at h
    refine PW.iload_n 2 dX9_addOne_2 rfl rfl ?_
    refine PW.iconst (x := 1) dX9_addOne_3 (by decide) ?_
    refine PW.icmp_lt (tgt := 70) dX9_addOne_4 (by decide) (fun c4 => ?_) (fun c4 => ?_)
    · rw [if_pos c4] at h
      have h := Option.some.inj h
      subst h
      exact PW.ret dX9_addOne_70 trivial rfl
    · rw [if_neg c4] at h
      refine PW.iconst (x := 0) dX9_addOne_7 (by decide) ?_
      refine PW.istore (l' := [(4, .int 0), (0, .ref (ga K a0)), (1, .int a1), (3, .int a3)]) dX9_addOne_8 (by decide) rfl ?_
      exact PW.sub (l' := [(0, .ref (ga K a0)), (1, .int a1), (3, .int a3), (4, .int 0)]) [1, 2, 3, 0] rfl (mf_X9_addOne_L10 ih NN a0 a1 a3 0 hp _ h)
set_option maxRecDepth 100000 in
set_option maxHeartbeats 4000000 in
theorem mf_X9_addOne {K : GK} : ∀ (a0 : Nat) (a1 : Int32) (a2 : Int32) (hp : PH) (r : PH), f_X9_addOne a0 a1 a2 hp = some r → PM K (0) M_X9_addOne [.ref (ga K a0), .int a1, .int a2] hp none r := by
  intro a0 a1 a2 hp r h
  unfold f_X9_addOne at h
  refine PM.enter (l0 := [(0, .ref (ga K a0)), (1, .int a1), (2, .int a2)]) (by decide +kernel) rfl (Nat.le_of_ble_eq_true rfl) rfl ?_
  refine PW.iload_n 2 dX9_addOne_0 rfl rfl ?_
  refine PW.istore_n (l' := [(3, .int a2), (0, .ref (ga K a0)), (1, .int a1), (2, .int a2)]) dX9_addOne_1 rfl (by decide) rfl ?_
  exact PW.sub (l' := [(0, .ref (ga K a0)), (1, .int a1), (3, .int a2)]) [1, 2, 0] rfl (mf_X9_addOne_L2 NN a0 a1 a2 hp _ h)
-- X9_countSets
def f_X9_countSets_L43 (k35 : Nat → Int32 → Int32 → PH → Option (Int32 × PH)) : Nat → Nat → Int32 → Int32 → Int32 → PH → Option (Int32 × PH)
  | 0, _, _, _, _, _ => none
  | n + 1, a0, a1, a2, a3, hp => (gR hp a0 8 0).bind fun x5 => (aI hp x5 0 a2).bind fun x6 => (if x6 ≤ a3 then (k35 a0 a1 (a2 + 1) hp) else (if 60 ≤ a1 then (k35 a0 a1 (a2 + 1) hp) else (vC hp a0 8 (f_X9_addOne a0 a2 (a1 + 1) hp)).bind fun q7 => ((f_X9_countSets_L43 k35 n) a0 (a1 + 1) a2 (a3 + 1) q7)))
def f_X9_countSets_L35 : Nat → Nat → Int32 → Int32 → PH → Option (Int32 × PH)
  | 0, _, _, _, _ => none
  | n + 1, a0, a1, a2, hp => (if 10 ≤ a2 then (some (a1, hp)) else (f_X9_countSets_L43 (f_X9_countSets_L35 n) NN a0 a1 a2 0 hp))
def f_X9_countSets_L2 : Nat → Nat → Int32 → PH → Option (Int32 × PH)
  | 0, _, _, _ => none
  | n + 1, a0, a1, hp => (gR hp a0 8 1).bind fun x1 => (aL hp x1).bind fun x2 => (if x2 ≤ a1 then (gR hp a0 8 1).bind fun x3 => (uJ hp x3 0 1).bind fun hp4 => (f_X9_countSets_L35 NN a0 0 0 hp4) else (gR hp a0 8 1).bind fun x8 => (uJ hp x8 a1 0).bind fun hp9 => ((f_X9_countSets_L2 n) a0 (a1 + 1) hp9))
def f_X9_countSets (a0 : Nat) (hp : PH) : Option (Int32 × PH) := (f_X9_countSets_L2 NN a0 0 hp)
set_option maxRecDepth 100000 in
set_option maxHeartbeats 4000000 in
theorem mf_X9_countSets_L43 {K : GK} {k35 : Nat → Int32 → Int32 → PH → Option (Int32 × PH)} (hk35 : ∀ (a0 : Nat) (a1 : Int32) (a2 : Int32) (hp : PH) (r : (Int32 × PH)), k35 a0 a1 a2 hp = some r → PW K (rmD (1)) 0 0 M_X9_countSets 35 [(0, .ref (ga K a0)), (1, .int a1), (2, .int a2)] [] hp (some (.int r.1)) r.2) : ∀ (n : Nat) (a0 : Nat) (a1 : Int32) (a2 : Int32) (a3 : Int32) (hp : PH) (r : (Int32 × PH)), f_X9_countSets_L43 k35 n a0 a1 a2 a3 hp = some r → PW K (rmD (1)) 0 0 M_X9_countSets 43 [(0, .ref (ga K a0)), (1, .int a1), (2, .int a2), (3, .int a3)] [] hp (some (.int r.1)) r.2 := by
  intro n
  induction n with
  | zero =>
    intro a0 a1 a2 a3 hp r h
    rw [f_X9_countSets_L43] at h
    cases h
  | succ n ih =>
    intro a0 a1 a2 a3 hp r h
    rw [f_X9_countSets_L43] at h
    refine PW.iload_n 3 dX9_countSets_43 rfl rfl ?_
    refine PW.aload_n 0 dX9_countSets_44 rfl rfl ?_
    obtain ⟨x5, hx5, h⟩ := bind_some h
    refine PW.getR cls_X9 (j := 0) (by decide) dX9_countSets_45 wd_292 hx5 ?_
    refine PW.iload_n 2 dX9_countSets_48 rfl rfl ?_
    obtain ⟨x6, hx6, h⟩ := bind_some h
    refine PW.iald dX9_countSets_49 hx6 ?_
    refine PW.icmp_ge (tgt := 74) dX9_countSets_50 (by decide) (fun c50 => ?_) (fun c50 => ?_)
    · rw [if_pos c50] at h
      refine PW.iinc 2 (l' := [(2, .int (a2 + 1)), (0, .ref (ga K a0)), (1, .int a1), (3, .int a3)]) dX9_countSets_74 rfl (x := a2) (y := (a2 + 1)) rfl (by decide) rfl ?_
      refine PW.goto (tgt := 35) dX9_countSets_77 (by decide) ?_
      exact PW.sub (l' := [(0, .ref (ga K a0)), (1, .int a1), (2, .int (a2 + 1))]) [1, 2, 0] rfl (hk35 a0 a1 (a2 + 1) hp _ h)
    · rw [if_neg c50] at h
      refine PW.iload_n 1 dX9_countSets_53 rfl rfl ?_
      refine PW.bipush (x := 60) dX9_countSets_54 (by decide) ?_
      refine PW.icmp_ge (tgt := 74) dX9_countSets_56 (by decide) (fun c56 => ?_) (fun c56 => ?_)
      · rw [if_pos c56] at h
        refine PW.iinc 2 (l' := [(2, .int (a2 + 1)), (0, .ref (ga K a0)), (1, .int a1), (3, .int a3)]) dX9_countSets_74 rfl (x := a2) (y := (a2 + 1)) rfl (by decide) rfl ?_
        refine PW.goto (tgt := 35) dX9_countSets_77 (by decide) ?_
        exact PW.sub (l' := [(0, .ref (ga K a0)), (1, .int a1), (2, .int (a2 + 1))]) [1, 2, 0] rfl (hk35 a0 a1 (a2 + 1) hp _ h)
      · rw [if_neg c56] at h
        refine PW.iinc 1 (l' := [(1, .int (a1 + 1)), (0, .ref (ga K a0)), (2, .int a2), (3, .int a3)]) dX9_countSets_59 rfl (x := a1) (y := (a1 + 1)) rfl (by decide) rfl ?_
        refine PW.aload_n 1 dX9_countSets_62 rfl rfl ?_
        refine PW.iload_n 2 dX9_countSets_63 rfl rfl ?_
        refine PW.iload_n 0 dX9_countSets_64 rfl rfl ?_
        obtain ⟨q7, hq7, h⟩ := bind_some h
        obtain ⟨hkq7, hcq7, hq7⟩ := vC_spec hq7
        refine PW.callVv (As := [.int a2, .int (a1 + 1)]) (rest := []) (k := a0) cal_X9_addOne dX9_countSets_65 wd_757 rfl rfl (rmLe (by omega)) (Nat.le_of_ble_eq_true rfl) rm_0 hkq7 hcq7 (mf_X9_addOne a0 a2 (a1 + 1) hp _ hq7) ?_
        refine PW.iinc 3 (l' := [(3, .int (a3 + 1)), (1, .int (a1 + 1)), (0, .ref (ga K a0)), (2, .int a2)]) dX9_countSets_68 rfl (x := a3) (y := (a3 + 1)) rfl (by decide) rfl ?_
        refine PW.goto (tgt := 43) dX9_countSets_71 (by decide) ?_
        exact PW.sub (l' := [(0, .ref (ga K a0)), (1, .int (a1 + 1)), (2, .int a2), (3, .int (a3 + 1))]) [2, 1, 3, 0] rfl (ih a0 (a1 + 1) a2 (a3 + 1) q7 _ h)
set_option maxRecDepth 100000 in
set_option maxHeartbeats 4000000 in
theorem mf_X9_countSets_L35 {K : GK} : ∀ (n : Nat) (a0 : Nat) (a1 : Int32) (a2 : Int32) (hp : PH) (r : (Int32 × PH)), f_X9_countSets_L35 n a0 a1 a2 hp = some r → PW K (rmD (1)) 0 0 M_X9_countSets 35 [(0, .ref (ga K a0)), (1, .int a1), (2, .int a2)] [] hp (some (.int r.1)) r.2 := by
  intro n
  induction n with
  | zero =>
    intro a0 a1 a2 hp r h
    rw [f_X9_countSets_L35] at h
    cases h
  | succ n ih =>
    intro a0 a1 a2 hp r h
    rw [f_X9_countSets_L35] at h
    refine PW.iload_n 2 dX9_countSets_35 rfl rfl ?_
    refine PW.bipush (x := 10) dX9_countSets_36 (by decide) ?_
    refine PW.icmp_ge (tgt := 80) dX9_countSets_38 (by decide) (fun c38 => ?_) (fun c38 => ?_)
    · rw [if_pos c38] at h
      refine PW.iload_n 1 dX9_countSets_80 rfl rfl ?_
      have h := Option.some.inj h; subst h
      exact PW.ret dX9_countSets_81 trivial rfl
    · rw [if_neg c38] at h
      refine PW.iconst (x := 0) dX9_countSets_41 (by decide) ?_
      refine PW.istore_n (l' := [(3, .int 0), (0, .ref (ga K a0)), (1, .int a1), (2, .int a2)]) dX9_countSets_42 rfl (by decide) rfl ?_
      exact PW.sub (l' := [(0, .ref (ga K a0)), (1, .int a1), (2, .int a2), (3, .int 0)]) [1, 2, 3, 0] rfl (mf_X9_countSets_L43 ih NN a0 a1 a2 0 hp _ h)
set_option maxRecDepth 100000 in
set_option maxHeartbeats 4000000 in
theorem mf_X9_countSets_L2 {K : GK} : ∀ (n : Nat) (a0 : Nat) (a1 : Int32) (hp : PH) (r : (Int32 × PH)), f_X9_countSets_L2 n a0 a1 hp = some r → PW K (rmD (1)) 0 0 M_X9_countSets 2 [(0, .ref (ga K a0)), (1, .int a1)] [] hp (some (.int r.1)) r.2 := by
  intro n
  induction n with
  | zero =>
    intro a0 a1 hp r h
    rw [f_X9_countSets_L2] at h
    cases h
  | succ n ih =>
    intro a0 a1 hp r h
    rw [f_X9_countSets_L2] at h
    refine PW.iload_n 1 dX9_countSets_2 rfl rfl ?_
    refine PW.aload_n 0 dX9_countSets_3 rfl rfl ?_
    obtain ⟨x1, hx1, h⟩ := bind_some h
    refine PW.getR cls_X9 (j := 1) (by decide) dX9_countSets_4 wd_293 hx1 ?_
    obtain ⟨x2, hx2, h⟩ := bind_some h
    refine PW.alen dX9_countSets_7 hx2 ?_
    refine PW.icmp_ge (tgt := 24) dX9_countSets_8 (by decide) (fun c8 => ?_) (fun c8 => ?_)
    · rw [if_pos c8] at h
      refine PW.aload_n 0 dX9_countSets_24 rfl rfl ?_
      obtain ⟨x3, hx3, h⟩ := bind_some h
      refine PW.getR cls_X9 (j := 1) (by decide) dX9_countSets_25 wd_293 hx3 ?_
      refine PW.iconst (x := 0) dX9_countSets_28 (by decide) ?_
      refine PW.lconst (x := 1) dX9_countSets_29 (by decide) ?_
      obtain ⟨hp4, hhp4, h⟩ := bind_some h
      refine PW.last dX9_countSets_30 hhp4 ?_
      refine PW.iconst (x := 0) dX9_countSets_31 (by decide) ?_
      refine PW.istore_n (l' := [(1, .int 0), (0, .ref (ga K a0))]) dX9_countSets_32 rfl (by decide) rfl ?_
      refine PW.iconst (x := 0) dX9_countSets_33 (by decide) ?_
      refine PW.istore_n (l' := [(2, .int 0), (1, .int 0), (0, .ref (ga K a0))]) dX9_countSets_34 rfl (by decide) rfl ?_
      exact PW.sub (l' := [(0, .ref (ga K a0)), (1, .int 0), (2, .int 0)]) [2, 1, 0] rfl (mf_X9_countSets_L35 NN a0 0 0 hp4 _ h)
    · rw [if_neg c8] at h
      refine PW.aload_n 0 dX9_countSets_11 rfl rfl ?_
      obtain ⟨x8, hx8, h⟩ := bind_some h
      refine PW.getR cls_X9 (j := 1) (by decide) dX9_countSets_12 wd_293 hx8 ?_
      refine PW.iload_n 1 dX9_countSets_15 rfl rfl ?_
      refine PW.lconst (x := 0) dX9_countSets_16 (by decide) ?_
      obtain ⟨hp9, hhp9, h⟩ := bind_some h
      refine PW.last dX9_countSets_17 hhp9 ?_
      refine PW.iinc 1 (l' := [(1, .int (a1 + 1)), (0, .ref (ga K a0))]) dX9_countSets_18 rfl (x := a1) (y := (a1 + 1)) rfl (by decide) rfl ?_
      refine PW.goto (tgt := 2) dX9_countSets_21 (by decide) ?_
      exact PW.sub (l' := [(0, .ref (ga K a0)), (1, .int (a1 + 1))]) [1, 0] rfl (ih a0 (a1 + 1) hp9 _ h)
set_option maxRecDepth 100000 in
set_option maxHeartbeats 4000000 in
theorem mf_X9_countSets {K : GK} : ∀ (a0 : Nat) (hp : PH) (r : (Int32 × PH)), f_X9_countSets a0 hp = some r → PM K (1) M_X9_countSets [.ref (ga K a0)] hp (some (.int r.1)) r.2 := by
  intro a0 hp r h
  unfold f_X9_countSets at h
  refine PM.enter (l0 := [(0, .ref (ga K a0))]) (by decide +kernel) rfl (Nat.le_of_ble_eq_true rfl) rfl ?_
  refine PW.iconst (x := 0) dX9_countSets_0 (by decide) ?_
  refine PW.istore_n (l' := [(1, .int 0), (0, .ref (ga K a0))]) dX9_countSets_1 rfl (by decide) rfl ?_
  exact PW.sub (l' := [(0, .ref (ga K a0)), (1, .int 0)]) [1, 0] rfl (mf_X9_countSets_L2 NN a0 0 hp _ h)
-- X9_setsOfTens
def f_X9_setsOfTens (a0 : Nat) (a1 : Int32) (hp : PH) : Option Int64 := (gR hp a0 8 1).bind fun x1 => (aJ hp x1 (a1 * 10)).bind fun x2 => (some x2)
set_option maxRecDepth 100000 in
set_option maxHeartbeats 4000000 in
theorem mf_X9_setsOfTens {K : GK} : ∀ (a0 : Nat) (a1 : Int32) (hp : PH) (r : Int64), f_X9_setsOfTens a0 a1 hp = some r → PM K (0) M_X9_setsOfTens [.ref (ga K a0), .int a1] hp (some (.long r)) hp := by
  intro a0 a1 hp r h
  unfold f_X9_setsOfTens at h
  refine PM.enter (l0 := [(0, .ref (ga K a0)), (1, .int a1)]) (by decide +kernel) rfl (Nat.le_of_ble_eq_true rfl) rfl ?_
  refine PW.aload_n 0 dX9_setsOfTens_0 rfl rfl ?_
  obtain ⟨x1, hx1, h⟩ := bind_some h
  refine PW.getR cls_X9 (j := 1) (by decide) dX9_setsOfTens_1 wd_293 hx1 ?_
  refine PW.iload_n 1 dX9_setsOfTens_4 rfl rfl ?_
  refine PW.bipush (x := 10) dX9_setsOfTens_5 (by decide) ?_
  refine PW.imul dX9_setsOfTens_7 ?_
  obtain ⟨x2, hx2, h⟩ := bind_some h
  refine PW.lald dX9_setsOfTens_8 hx2 ?_
  have h := Option.some.inj h; subst h
  exact PW.ret dX9_setsOfTens_9 trivial rfl
-- X10_refuseAs
def f_X10_refuseAs (a0 : Nat) (a1 : Int32) (a2 : Int32) (hp : PH) : Option (Int32 × PH) := (if a1 = (-2) then (gI hp a0 9 11).bind fun x5 => (pI hp a0 9 11 (x5 + 1)).bind fun hp6 => (some (a2, hp6)) else (if a1 = (-3) then (gI hp a0 9 12).bind fun x3 => (pI hp a0 9 12 (x3 + 1)).bind fun hp4 => (some (a2, hp4)) else (gI hp a0 9 13).bind fun x1 => (pI hp a0 9 13 (x1 + 1)).bind fun hp2 => (some (a2, hp2))))
set_option maxRecDepth 100000 in
set_option maxHeartbeats 4000000 in
theorem mf_X10_refuseAs {K : GK} : ∀ (a0 : Nat) (a1 : Int32) (a2 : Int32) (hp : PH) (r : (Int32 × PH)), f_X10_refuseAs a0 a1 a2 hp = some r → PM K (0) M_X10_refuseAs [.ref (ga K a0), .int a1, .int a2] hp (some (.int r.1)) r.2 := by
  intro a0 a1 a2 hp r h
  unfold f_X10_refuseAs at h
  refine PM.enter (l0 := [(0, .ref (ga K a0)), (1, .int a1), (2, .int a2)]) (by decide +kernel) rfl (Nat.le_of_ble_eq_true rfl) rfl ?_
  refine PW.iload_n 1 dX10_refuseAs_0 rfl rfl ?_
  refine PW.bipush (x := (-2)) dX10_refuseAs_1 (by decide) ?_
  refine PW.icmp_ne (tgt := 19) dX10_refuseAs_3 (by decide) (fun c3 => ?_) (fun c3 => ?_)
  · rw [if_neg c3] at h
    refine PW.iload_n 1 dX10_refuseAs_19 rfl rfl ?_
    refine PW.bipush (x := (-3)) dX10_refuseAs_20 (by decide) ?_
    refine PW.icmp_ne (tgt := 38) dX10_refuseAs_22 (by decide) (fun c22 => ?_) (fun c22 => ?_)
    · rw [if_neg c22] at h
      refine PW.aload_n 0 dX10_refuseAs_38 rfl rfl ?_
      refine PW.dup dX10_refuseAs_39 rfl ?_
      obtain ⟨x1, hx1, h⟩ := bind_some h
      refine PW.getI cls_X10 (j := 13) (by decide) dX10_refuseAs_40 wd_338 hx1 ?_
      refine PW.iconst (x := 1) dX10_refuseAs_43 (by decide) ?_
      refine PW.iadd dX10_refuseAs_44 ?_
      obtain ⟨hp2, hhp2, h⟩ := bind_some h
      refine PW.putI cls_X10 clw_X10 (j := 13) (by decide) dX10_refuseAs_45 wd_338 rfl rfl hhp2 ?_
      refine PW.iload_n 2 dX10_refuseAs_48 rfl rfl ?_
      have h := Option.some.inj h; subst h
      exact PW.ret dX10_refuseAs_49 trivial rfl
    · rw [if_pos c22] at h
      refine PW.aload_n 0 dX10_refuseAs_25 rfl rfl ?_
      refine PW.dup dX10_refuseAs_26 rfl ?_
      obtain ⟨x3, hx3, h⟩ := bind_some h
      refine PW.getI cls_X10 (j := 12) (by decide) dX10_refuseAs_27 wd_337 hx3 ?_
      refine PW.iconst (x := 1) dX10_refuseAs_30 (by decide) ?_
      refine PW.iadd dX10_refuseAs_31 ?_
      obtain ⟨hp4, hhp4, h⟩ := bind_some h
      refine PW.putI cls_X10 clw_X10 (j := 12) (by decide) dX10_refuseAs_32 wd_337 rfl rfl hhp4 ?_
      refine PW.goto (tgt := 48) dX10_refuseAs_35 (by decide) ?_
      refine PW.iload_n 2 dX10_refuseAs_48 rfl rfl ?_
      have h := Option.some.inj h; subst h
      exact PW.ret dX10_refuseAs_49 trivial rfl
  · rw [if_pos c3] at h
    refine PW.aload_n 0 dX10_refuseAs_6 rfl rfl ?_
    refine PW.dup dX10_refuseAs_7 rfl ?_
    obtain ⟨x5, hx5, h⟩ := bind_some h
    refine PW.getI cls_X10 (j := 11) (by decide) dX10_refuseAs_8 wd_336 hx5 ?_
    refine PW.iconst (x := 1) dX10_refuseAs_11 (by decide) ?_
    refine PW.iadd dX10_refuseAs_12 ?_
    obtain ⟨hp6, hhp6, h⟩ := bind_some h
    refine PW.putI cls_X10 clw_X10 (j := 11) (by decide) dX10_refuseAs_13 wd_336 rfl rfl hhp6 ?_
    refine PW.goto (tgt := 48) dX10_refuseAs_16 (by decide) ?_
    refine PW.iload_n 2 dX10_refuseAs_48 rfl rfl ?_
    have h := Option.some.inj h; subst h
    exact PW.ret dX10_refuseAs_49 trivial rfl
-- X10_refuse
def f_X10_refuse (a0 : Nat) (a1 : Int32) (hp : PH) : Option (Int32 × PH) := (vC hp a0 9 (f_X10_refuseAs a0 a1 a1 hp)).bind fun q1 => (some (q1.1, q1.2))
set_option maxRecDepth 100000 in
set_option maxHeartbeats 4000000 in
theorem mf_X10_refuse {K : GK} : ∀ (a0 : Nat) (a1 : Int32) (hp : PH) (r : (Int32 × PH)), f_X10_refuse a0 a1 hp = some r → PM K (1) M_X10_refuse [.ref (ga K a0), .int a1] hp (some (.int r.1)) r.2 := by
  intro a0 a1 hp r h
  unfold f_X10_refuse at h
  refine PM.enter (l0 := [(0, .ref (ga K a0)), (1, .int a1)]) (by decide +kernel) rfl (Nat.le_of_ble_eq_true rfl) rfl ?_
  refine PW.aload_n 0 dX10_refuse_0 rfl rfl ?_
  refine PW.iload_n 1 dX10_refuse_1 rfl rfl ?_
  refine PW.iload_n 1 dX10_refuse_2 rfl rfl ?_
  obtain ⟨q1, hq1, h⟩ := bind_some h
  obtain ⟨hkq1, hcq1, hq1⟩ := vC_spec hq1
  refine PW.callVi (As := [.int a1, .int a1]) (rest := []) (k := a0) cal_X10_refuseAs dX10_refuse_3 wd_402 rfl rfl (rmLe (by omega)) (Nat.le_of_ble_eq_true rfl) rm_0 hkq1 hcq1 (mf_X10_refuseAs a0 a1 a1 hp _ hq1) ?_
  have h := Option.some.inj h; subst h
  exact PW.ret dX10_refuse_6 trivial rfl
-- X10_day
def f_X10_day (a0 : Nat) (a1 : Int32) (a2 : Int32) (a3 : Int32) (hp : PH) : Option (Int32 × PH) := (f_X1_has a1 a2 a3).bind fun q1 => (if q1 = 0 then (vC hp a0 9 (f_X10_refuse a0 (-2) hp)).bind fun q2 => (some (q2.1, q2.2)) else (f_X1_numberOf a1 a2 a3).bind fun q3 => (some (q3, hp)))
set_option maxRecDepth 100000 in
set_option maxHeartbeats 4000000 in
theorem mf_X10_day {K : GK} : ∀ (a0 : Nat) (a1 : Int32) (a2 : Int32) (a3 : Int32) (hp : PH) (r : (Int32 × PH)), f_X10_day a0 a1 a2 a3 hp = some r → PM K (3) M_X10_day [.ref (ga K a0), .int a1, .int a2, .int a3] hp (some (.int r.1)) r.2 := by
  intro a0 a1 a2 a3 hp r h
  unfold f_X10_day at h
  refine PM.enter (l0 := [(0, .ref (ga K a0)), (1, .int a1), (2, .int a2), (3, .int a3)]) (by decide +kernel) rfl (Nat.le_of_ble_eq_true rfl) rfl ?_
  refine PW.iload_n 1 dX10_day_0 rfl rfl ?_
  refine PW.iload_n 2 dX10_day_1 rfl rfl ?_
  refine PW.iload_n 3 dX10_day_2 rfl rfl ?_
  obtain ⟨q1, hq1, h⟩ := bind_some h
  refine PW.callSi (As := [.int a1, .int a2, .int a3]) (rest := []) cal_X1_has dX10_day_3 wd_372 rfl rfl (rmLe (by omega)) (Nat.le_of_ble_eq_true rfl) rm_0 (mf_X1_has a1 a2 a3 _ hq1) ?_
  refine PW.if_eq (tgt := 18) dX10_day_6 (by decide) (fun c6 => ?_) (fun c6 => ?_)
  · rw [if_pos c6] at h
    refine PW.aload_n 0 dX10_day_18 rfl rfl ?_
    refine PW.bipush (x := (-2)) dX10_day_19 (by decide) ?_
    obtain ⟨q2, hq2, h⟩ := bind_some h
    obtain ⟨hkq2, hcq2, hq2⟩ := vC_spec hq2
    refine PW.callVi (As := [.int (-2)]) (rest := []) (k := a0) cal_X10_refuse dX10_day_21 wd_398 rfl rfl (rmLe (by omega)) (Nat.le_of_ble_eq_true rfl) rm_0 hkq2 hcq2 (mf_X10_refuse a0 (-2) hp _ hq2) ?_
    have h := Option.some.inj h; subst h
    exact PW.ret dX10_day_24 trivial rfl
  · rw [if_neg c6] at h
    refine PW.iload_n 1 dX10_day_9 rfl rfl ?_
    refine PW.iload_n 2 dX10_day_10 rfl rfl ?_
    refine PW.iload_n 3 dX10_day_11 rfl rfl ?_
    obtain ⟨q3, hq3, h⟩ := bind_some h
    refine PW.callSi (As := [.int a1, .int a2, .int a3]) (rest := []) cal_X1_numberOf dX10_day_12 wd_389 rfl rfl (rmLe (by omega)) (Nat.le_of_ble_eq_true rfl) rm_0 (mf_X1_numberOf a1 a2 a3 _ hq3) ?_
    refine PW.goto (tgt := 24) dX10_day_15 (by decide) ?_
    have h := Option.some.inj h; subst h
    exact PW.ret dX10_day_24 trivial rfl
-- X10_date
def f_X10_date (a0 : Nat) (a1 : Int32) (a2 : Int32) (hp : PH) : Option (Int32 × PH) := (if (f_X1_isDay a1) = 0 then (vC hp a0 9 (f_X10_refuse a0 (-2) hp)).bind fun q2 => (some (q2.1, q2.2)) else (if a2 < 0 then (vC hp a0 9 (f_X10_refuse a0 (-2) hp)).bind fun q3 => (some (q3.1, q3.2)) else (if a2 ≤ 2 then (f_X1_yearOf a1).bind fun q4 => (if a2 = 0 then (some (q4, hp)) else (f_X1_monthOf (f_X1_placeOf a1 q4)).bind fun q6 => (if a2 = 1 then (some (q6, hp)) else (f_X1_placeOfMonth q6).bind fun q7 => (some ((((f_X1_placeOf a1 q4) - q7) + 1), hp)))) else (vC hp a0 9 (f_X10_refuse a0 (-2) hp)).bind fun q8 => (some (q8.1, q8.2)))))
set_option maxRecDepth 100000 in
set_option maxHeartbeats 4000000 in
theorem mf_X10_date {K : GK} : ∀ (a0 : Nat) (a1 : Int32) (a2 : Int32) (hp : PH) (r : (Int32 × PH)), f_X10_date a0 a1 a2 hp = some r → PM K (2) M_X10_date [.ref (ga K a0), .int a1, .int a2] hp (some (.int r.1)) r.2 := by
  intro a0 a1 a2 hp r h
  unfold f_X10_date at h
  refine PM.enter (l0 := [(0, .ref (ga K a0)), (1, .int a1), (2, .int a2)]) (by decide +kernel) rfl (Nat.le_of_ble_eq_true rfl) rfl ?_
  refine PW.iload_n 1 dX10_date_0 rfl rfl ?_
  refine PW.callSi (As := [.int a1]) (rest := []) cal_X1_isDay dX10_date_1 wd_410 rfl rfl (rmLe (by omega)) (Nat.le_of_ble_eq_true rfl) rm_0 (mf_X1_isDay a1 _ rfl) ?_
  refine PW.if_eq (tgt := 16) dX10_date_4 (by decide) (fun c4 => ?_) (fun c4 => ?_)
  · rw [if_pos c4] at h
    refine PW.aload_n 0 dX10_date_16 rfl rfl ?_
    refine PW.bipush (x := (-2)) dX10_date_17 (by decide) ?_
    obtain ⟨q2, hq2, h⟩ := bind_some h
    obtain ⟨hkq2, hcq2, hq2⟩ := vC_spec hq2
    refine PW.callVi (As := [.int (-2)]) (rest := []) (k := a0) cal_X10_refuse dX10_date_19 wd_398 rfl rfl (rmLe (by omega)) (Nat.le_of_ble_eq_true rfl) rm_0 hkq2 hcq2 (mf_X10_refuse a0 (-2) hp _ hq2) ?_
    have h := Option.some.inj h; subst h
    exact PW.ret dX10_date_22 trivial rfl
  · rw [if_neg c4] at h
    refine PW.iload_n 2 dX10_date_7 rfl rfl ?_
    refine PW.if_lt (tgt := 16) dX10_date_8 (by decide) (fun c8 => ?_) (fun c8 => ?_)
    · rw [if_pos c8] at h
      refine PW.aload_n 0 dX10_date_16 rfl rfl ?_
      refine PW.bipush (x := (-2)) dX10_date_17 (by decide) ?_
      obtain ⟨q3, hq3, h⟩ := bind_some h
      obtain ⟨hkq3, hcq3, hq3⟩ := vC_spec hq3
      refine PW.callVi (As := [.int (-2)]) (rest := []) (k := a0) cal_X10_refuse dX10_date_19 wd_398 rfl rfl (rmLe (by omega)) (Nat.le_of_ble_eq_true rfl) rm_0 hkq3 hcq3 (mf_X10_refuse a0 (-2) hp _ hq3) ?_
      have h := Option.some.inj h; subst h
      exact PW.ret dX10_date_22 trivial rfl
    · rw [if_neg c8] at h
      refine PW.iload_n 2 dX10_date_11 rfl rfl ?_
      refine PW.iconst (x := 2) dX10_date_12 (by decide) ?_
      refine PW.icmp_le (tgt := 23) dX10_date_13 (by decide) (fun c13 => ?_) (fun c13 => ?_)
      · rw [if_pos c13] at h
        refine PW.iload_n 1 dX10_date_23 rfl rfl ?_
        obtain ⟨q4, hq4, h⟩ := bind_some h
        refine PW.callSi (As := [.int a1]) (rest := []) cal_X1_yearOf dX10_date_24 wd_414 rfl rfl (rmLe (by omega)) (Nat.le_of_ble_eq_true rfl) rm_0 (mf_X1_yearOf a1 _ hq4) ?_
        refine PW.istore_n (l' := [(3, .int q4), (0, .ref (ga K a0)), (1, .int a1), (2, .int a2)]) dX10_date_27 rfl (by decide) rfl ?_
        refine PW.iload_n 3 dX10_date_28 rfl rfl ?_
        refine PW.if_ne (tgt := 34) dX10_date_29 (by decide) (fun c29 => ?_) (fun c29 => ?_)
        · rw [if_neg c29] at h
          refine PW.iload_n 2 dX10_date_34 rfl rfl ?_
          refine PW.iload_n 0 dX10_date_35 rfl rfl ?_
          refine PW.callSi (As := [.int a1, .int q4]) (rest := []) cal_X1_placeOf dX10_date_36 wd_417 rfl rfl (rmLe (by omega)) (Nat.le_of_ble_eq_true rfl) rm_0 (mf_X1_placeOf a1 q4 _ rfl) ?_
          refine PW.istore (l' := [(4, .int (f_X1_placeOf a1 q4)), (3, .int q4), (0, .ref (ga K a0)), (1, .int a1), (2, .int a2)]) dX10_date_39 (by decide) rfl ?_
          refine PW.iload 0 dX10_date_41 rfl ?_
          obtain ⟨q6, hq6, h⟩ := bind_some h
          refine PW.callSi (As := [.int (f_X1_placeOf a1 q4)]) (rest := []) cal_X1_monthOf dX10_date_43 wd_420 rfl rfl (rmLe (by omega)) (Nat.le_of_ble_eq_true rfl) rm_0 (mf_X1_monthOf (f_X1_placeOf a1 q4) _ hq6) ?_
          refine PW.istore (l' := [(5, .int q6), (4, .int (f_X1_placeOf a1 q4)), (3, .int q4), (0, .ref (ga K a0)), (1, .int a1), (2, .int a2)]) dX10_date_46 (by decide) rfl ?_
          refine PW.iload_n 5 dX10_date_48 rfl rfl ?_
          refine PW.iconst (x := 1) dX10_date_49 (by decide) ?_
          refine PW.icmp_ne (tgt := 58) dX10_date_50 (by decide) (fun c50 => ?_) (fun c50 => ?_)
          · rw [if_neg c50] at h
            refine PW.iload 1 dX10_date_58 rfl ?_
            refine PW.iload 0 dX10_date_60 rfl ?_
            obtain ⟨q7, hq7, h⟩ := bind_some h
            refine PW.callSi (As := [.int q6]) (rest := [.int (f_X1_placeOf a1 q4)]) cal_X1_placeOfMonth dX10_date_62 wd_423 rfl rfl (rmLe (by omega)) (Nat.le_of_ble_eq_true rfl) rm_0 (mf_X1_placeOfMonth q6 _ hq7) ?_
            refine PW.isub dX10_date_65 ?_
            refine PW.iconst (x := 1) dX10_date_66 (by decide) ?_
            refine PW.iadd dX10_date_67 ?_
            have h := Option.some.inj h; subst h
            exact PW.ret dX10_date_68 trivial rfl
          · rw [if_pos c50] at h
            refine PW.iload 0 dX10_date_53 rfl ?_
            refine PW.goto (tgt := 68) dX10_date_55 (by decide) ?_
            have h := Option.some.inj h; subst h
            exact PW.ret dX10_date_68 trivial rfl
        · rw [if_pos c29] at h
          refine PW.iload_n 0 dX10_date_32 rfl rfl ?_
          have h := Option.some.inj h; subst h
          exact PW.ret dX10_date_33 trivial rfl
      · rw [if_neg c13] at h
        refine PW.aload_n 0 dX10_date_16 rfl rfl ?_
        refine PW.bipush (x := (-2)) dX10_date_17 (by decide) ?_
        obtain ⟨q8, hq8, h⟩ := bind_some h
        obtain ⟨hkq8, hcq8, hq8⟩ := vC_spec hq8
        refine PW.callVi (As := [.int (-2)]) (rest := []) (k := a0) cal_X10_refuse dX10_date_19 wd_398 rfl rfl (rmLe (by omega)) (Nat.le_of_ble_eq_true rfl) rm_0 hkq8 hcq8 (mf_X10_refuse a0 (-2) hp _ hq8) ?_
        have h := Option.some.inj h; subst h
        exact PW.ret dX10_date_22 trivial rfl
-- X10_person
def f_X10_person (a0 : Nat) (a1 : Int32) (hp : PH) : Option (Int32 × PH) := (if (f_X1_isDay a1) = 0 then (vC hp a0 9 (f_X10_refuse a0 (-2) hp)).bind fun q9 => (some (q9.1, q9.2)) else (gR hp a0 9 0).bind fun x2 => (gR hp x2 7 0).bind fun x3 => (gI hp x3 6 0).bind fun x4 => (if 8 ≤ x4 then (vC hp a0 9 (f_X10_refuse a0 (-4) hp)).bind fun q5 => (some (q5.1, q5.2)) else (gR hp a0 9 0).bind fun x6 => (gR hp x6 7 0).bind fun x7 => (vC hp x7 6 (f_X7_addPerson x7 a1 hp)).bind fun q8 => (some (q8.1, q8.2))))
set_option maxRecDepth 100000 in
set_option maxHeartbeats 4000000 in
theorem mf_X10_person {K : GK} : ∀ (a0 : Nat) (a1 : Int32) (hp : PH) (r : (Int32 × PH)), f_X10_person a0 a1 hp = some r → PM K (3) M_X10_person [.ref (ga K a0), .int a1] hp (some (.int r.1)) r.2 := by
  intro a0 a1 hp r h
  unfold f_X10_person at h
  refine PM.enter (l0 := [(0, .ref (ga K a0)), (1, .int a1)]) (by decide +kernel) rfl (Nat.le_of_ble_eq_true rfl) rfl ?_
  refine PW.iload_n 1 dX10_person_0 rfl rfl ?_
  refine PW.callSi (As := [.int a1]) (rest := []) cal_X1_isDay dX10_person_1 wd_410 rfl rfl (rmLe (by omega)) (Nat.le_of_ble_eq_true rfl) rm_0 (mf_X1_isDay a1 _ rfl) ?_
  refine PW.if_ne (tgt := 14) dX10_person_4 (by decide) (fun c4 => ?_) (fun c4 => ?_)
  · rw [if_neg c4] at h
    refine PW.aload_n 0 dX10_person_14 rfl rfl ?_
    obtain ⟨x2, hx2, h⟩ := bind_some h
    refine PW.getR cls_X10 (j := 0) (by decide) dX10_person_15 wd_325 hx2 ?_
    obtain ⟨x3, hx3, h⟩ := bind_some h
    refine PW.getR cls_X8 (j := 0) (by decide) dX10_person_18 wd_198 hx3 ?_
    obtain ⟨x4, hx4, h⟩ := bind_some h
    refine PW.getI cls_X7 (j := 0) (by decide) dX10_person_21 wd_98 hx4 ?_
    refine PW.bipush (x := 8) dX10_person_24 (by decide) ?_
    refine PW.icmp_ge (tgt := 43) dX10_person_26 (by decide) (fun c26 => ?_) (fun c26 => ?_)
    · rw [if_pos c26] at h
      refine PW.aload_n 0 dX10_person_43 rfl rfl ?_
      refine PW.bipush (x := (-4)) dX10_person_44 (by decide) ?_
      obtain ⟨q5, hq5, h⟩ := bind_some h
      obtain ⟨hkq5, hcq5, hq5⟩ := vC_spec hq5
      refine PW.callVi (As := [.int (-4)]) (rest := []) (k := a0) cal_X10_refuse dX10_person_46 wd_398 rfl rfl (rmLe (by omega)) (Nat.le_of_ble_eq_true rfl) rm_0 hkq5 hcq5 (mf_X10_refuse a0 (-4) hp _ hq5) ?_
      have h := Option.some.inj h; subst h
      exact PW.ret dX10_person_49 trivial rfl
    · rw [if_neg c26] at h
      refine PW.aload_n 0 dX10_person_29 rfl rfl ?_
      obtain ⟨x6, hx6, h⟩ := bind_some h
      refine PW.getR cls_X10 (j := 0) (by decide) dX10_person_30 wd_325 hx6 ?_
      obtain ⟨x7, hx7, h⟩ := bind_some h
      refine PW.getR cls_X8 (j := 0) (by decide) dX10_person_33 wd_198 hx7 ?_
      refine PW.iload_n 1 dX10_person_36 rfl rfl ?_
      obtain ⟨q8, hq8, h⟩ := bind_some h
      obtain ⟨hkq8, hcq8, hq8⟩ := vC_spec hq8
      refine PW.callVi (As := [.int a1]) (rest := []) (k := x7) cal_X7_addPerson dX10_person_37 wd_428 rfl rfl (rmLe (by omega)) (Nat.le_of_ble_eq_true rfl) rm_0 hkq8 hcq8 (mf_X7_addPerson x7 a1 hp _ hq8) ?_
      refine PW.goto (tgt := 49) dX10_person_40 (by decide) ?_
      have h := Option.some.inj h; subst h
      exact PW.ret dX10_person_49 trivial rfl
  · rw [if_pos c4] at h
    refine PW.aload_n 0 dX10_person_7 rfl rfl ?_
    refine PW.bipush (x := (-2)) dX10_person_8 (by decide) ?_
    obtain ⟨q9, hq9, h⟩ := bind_some h
    obtain ⟨hkq9, hcq9, hq9⟩ := vC_spec hq9
    refine PW.callVi (As := [.int (-2)]) (rest := []) (k := a0) cal_X10_refuse dX10_person_10 wd_398 rfl rfl (rmLe (by omega)) (Nat.le_of_ble_eq_true rfl) rm_0 hkq9 hcq9 (mf_X10_refuse a0 (-2) hp _ hq9) ?_
    have h := Option.some.inj h; subst h
    exact PW.ret dX10_person_13 trivial rfl
-- X10_gate
def f_X10_gate (a0 : Nat) (a1 : Int32) (a2 : Int32) (hp : PH) : Option (Int32 × PH) := (if (f_X7_isLaw a1) = 0 then (vC hp a0 9 (f_X10_refuse a0 (-2) hp)).bind fun q2 => (some (q2.1, q2.2)) else (if (f_X7_isSeats a2) = 0 then (vC hp a0 9 (f_X10_refuse a0 (-2) hp)).bind fun q11 => (some (q11.1, q11.2)) else (gR hp a0 9 0).bind fun x4 => (gR hp x4 7 0).bind fun x5 => (gI hp x5 6 1).bind fun x6 => (if 4 ≤ x6 then (vC hp a0 9 (f_X10_refuse a0 (-4) hp)).bind fun q7 => (some (q7.1, q7.2)) else (gR hp a0 9 0).bind fun x8 => (gR hp x8 7 0).bind fun x9 => (vC hp x9 6 (f_X7_addGate x9 a1 a2 hp)).bind fun q10 => (some (q10.1, q10.2)))))
set_option maxRecDepth 100000 in
set_option maxHeartbeats 4000000 in
theorem mf_X10_gate {K : GK} : ∀ (a0 : Nat) (a1 : Int32) (a2 : Int32) (hp : PH) (r : (Int32 × PH)), f_X10_gate a0 a1 a2 hp = some r → PM K (2) M_X10_gate [.ref (ga K a0), .int a1, .int a2] hp (some (.int r.1)) r.2 := by
  intro a0 a1 a2 hp r h
  unfold f_X10_gate at h
  refine PM.enter (l0 := [(0, .ref (ga K a0)), (1, .int a1), (2, .int a2)]) (by decide +kernel) rfl (Nat.le_of_ble_eq_true rfl) rfl ?_
  refine PW.iload_n 1 dX10_gate_0 rfl rfl ?_
  refine PW.callSi (As := [.int a1]) (rest := []) cal_X7_isLaw dX10_gate_1 wd_438 rfl rfl (rmLe (by omega)) (Nat.le_of_ble_eq_true rfl) rm_0 (mf_X7_isLaw a1 _ rfl) ?_
  refine PW.if_eq (tgt := 14) dX10_gate_4 (by decide) (fun c4 => ?_) (fun c4 => ?_)
  · rw [if_pos c4] at h
    refine PW.aload_n 0 dX10_gate_14 rfl rfl ?_
    refine PW.bipush (x := (-2)) dX10_gate_15 (by decide) ?_
    obtain ⟨q2, hq2, h⟩ := bind_some h
    obtain ⟨hkq2, hcq2, hq2⟩ := vC_spec hq2
    refine PW.callVi (As := [.int (-2)]) (rest := []) (k := a0) cal_X10_refuse dX10_gate_17 wd_398 rfl rfl (rmLe (by omega)) (Nat.le_of_ble_eq_true rfl) rm_0 hkq2 hcq2 (mf_X10_refuse a0 (-2) hp _ hq2) ?_
    have h := Option.some.inj h; subst h
    exact PW.ret dX10_gate_20 trivial rfl
  · rw [if_neg c4] at h
    refine PW.iload_n 2 dX10_gate_7 rfl rfl ?_
    refine PW.callSi (As := [.int a2]) (rest := []) cal_X7_isSeats dX10_gate_8 wd_441 rfl rfl (rmLe (by omega)) (Nat.le_of_ble_eq_true rfl) rm_0 (mf_X7_isSeats a2 _ rfl) ?_
    refine PW.if_ne (tgt := 21) dX10_gate_11 (by decide) (fun c11 => ?_) (fun c11 => ?_)
    · rw [if_neg c11] at h
      refine PW.aload_n 0 dX10_gate_21 rfl rfl ?_
      obtain ⟨x4, hx4, h⟩ := bind_some h
      refine PW.getR cls_X10 (j := 0) (by decide) dX10_gate_22 wd_325 hx4 ?_
      obtain ⟨x5, hx5, h⟩ := bind_some h
      refine PW.getR cls_X8 (j := 0) (by decide) dX10_gate_25 wd_198 hx5 ?_
      obtain ⟨x6, hx6, h⟩ := bind_some h
      refine PW.getI cls_X7 (j := 1) (by decide) dX10_gate_28 wd_102 hx6 ?_
      refine PW.iconst (x := 4) dX10_gate_31 (by decide) ?_
      refine PW.icmp_ge (tgt := 50) dX10_gate_32 (by decide) (fun c32 => ?_) (fun c32 => ?_)
      · rw [if_pos c32] at h
        refine PW.aload_n 0 dX10_gate_50 rfl rfl ?_
        refine PW.bipush (x := (-4)) dX10_gate_51 (by decide) ?_
        obtain ⟨q7, hq7, h⟩ := bind_some h
        obtain ⟨hkq7, hcq7, hq7⟩ := vC_spec hq7
        refine PW.callVi (As := [.int (-4)]) (rest := []) (k := a0) cal_X10_refuse dX10_gate_53 wd_398 rfl rfl (rmLe (by omega)) (Nat.le_of_ble_eq_true rfl) rm_0 hkq7 hcq7 (mf_X10_refuse a0 (-4) hp _ hq7) ?_
        have h := Option.some.inj h; subst h
        exact PW.ret dX10_gate_56 trivial rfl
      · rw [if_neg c32] at h
        refine PW.aload_n 0 dX10_gate_35 rfl rfl ?_
        obtain ⟨x8, hx8, h⟩ := bind_some h
        refine PW.getR cls_X10 (j := 0) (by decide) dX10_gate_36 wd_325 hx8 ?_
        obtain ⟨x9, hx9, h⟩ := bind_some h
        refine PW.getR cls_X8 (j := 0) (by decide) dX10_gate_39 wd_198 hx9 ?_
        refine PW.iload_n 1 dX10_gate_42 rfl rfl ?_
        refine PW.iload_n 2 dX10_gate_43 rfl rfl ?_
        obtain ⟨q10, hq10, h⟩ := bind_some h
        obtain ⟨hkq10, hcq10, hq10⟩ := vC_spec hq10
        refine PW.callVi (As := [.int a1, .int a2]) (rest := []) (k := x9) cal_X7_addGate dX10_gate_44 wd_444 rfl rfl (rmLe (by omega)) (Nat.le_of_ble_eq_true rfl) rm_0 hkq10 hcq10 (mf_X7_addGate x9 a1 a2 hp _ hq10) ?_
        refine PW.goto (tgt := 56) dX10_gate_47 (by decide) ?_
        have h := Option.some.inj h; subst h
        exact PW.ret dX10_gate_56 trivial rfl
    · rw [if_pos c11] at h
      refine PW.aload_n 0 dX10_gate_14 rfl rfl ?_
      refine PW.bipush (x := (-2)) dX10_gate_15 (by decide) ?_
      obtain ⟨q11, hq11, h⟩ := bind_some h
      obtain ⟨hkq11, hcq11, hq11⟩ := vC_spec hq11
      refine PW.callVi (As := [.int (-2)]) (rest := []) (k := a0) cal_X10_refuse dX10_gate_17 wd_398 rfl rfl (rmLe (by omega)) (Nat.le_of_ble_eq_true rfl) rm_0 hkq11 hcq11 (mf_X10_refuse a0 (-2) hp _ hq11) ?_
      have h := Option.some.inj h; subst h
      exact PW.ret dX10_gate_20 trivial rfl
