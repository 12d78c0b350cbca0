/-! PARTS: the class's tables -/
/-- the next part of o behind a -/
def nxt (a o : Nat) : Nat := (a + 4294967296 - o) &&& o
def orb (o : Nat) : Nat → Nat → List Nat
  | 0, _ => []
  | n + 1, a => a :: (if a = o then [] else orb o n (nxt a o))
theorem orb_all : ∀ o, o < 256 → orb o 256 0 = (List.range 256).filter (fun x => dif x o == 0) := by decide +kernel
theorem nxt_n (a : Nat) {o : Nat} (ho : o < 256) : (nI a - nI o) &&& nI o = nI (nxt a o) := by
  have e : nI a = nI (a + 4294967296) := by
    rw [← nI_add, show nI 4294967296 = 0 by decide, Int32.add_zero]
  rw [e, pk_sub (by omega), nx_and]; rfl
theorem nxt_lt (a : Nat) {o : Nat} (ho : o < 256) : nxt a o < 256 := Nat.lt_of_le_of_lt Nat.and_le_right ho
theorem mn_n {a b : Nat} (ha : a < 2 ^ 31) (hb : b < 2 ^ 31) : mnI (nI a) (nI b) = nI (min a b) := by
  unfold mnI
  rw [iteL hb ha]
  by_cases c : b < a
  · rw [if_pos c, Nat.min_eq_right (by omega)]
  · rw [if_neg c, Nat.min_eq_left (by omega)]
/-- the class's tables up to m -/
def CTab (iv : Nat → Nat → Int32) (w : Nat → Nat) (set m : Nat) : Prop := iv 64 0 = 0 ∧ ∀ s, 0 < s → s < m → dif s set = 0 → iv 63 s = bI (w s == 0) ∧ iv 64 s = nI (costN w s)
theorem CTab.c0 {iv : Nat → Nat → Int32} {w : Nat → Nat} {set m s : Nat} (h : CTab iv w set m) (hs : s < m) (hp : dif s set = 0) : iv 64 s = nI (costN w s) := by
  rcases Nat.eq_zero_or_pos s with e | e
  · subst e; rw [h.1, cost_0]; rfl
  · exact (h.2 s e hs hp).2
theorem bI_w (w s : Nat) {α : Type} {x y : α} : (if bI (w == s) = 0 then x else y) = if w = s then y else x := by
  rw [bI_0]
  by_cases c : w = s <;> simp [c]
section WEIGH
variable {V ag : Nat → Nat}
theorem c_lcL {iv : Nat → Nat → Int32} {jv : Nat → Nat → Int64} {w : Nat → Nat} {set s : Nat} (hset : set < 256) (hs : s ≤ set) (h0 : s ≠ 0) (hp : dif s set = 0) (ht : CTab iv w set s) (hm : iv 63 s = bI (w s == 0)) : ∀ (n N a b : Nat), n ≤ 256 → dif a (dif s (2 ^ lsN s)) = 0 → a < 256 → b ≤ 10000 → f_X4_leastCost_L26 (N + n + 1) 62 (nI (2 ^ lsN s)) (nI (dif s (2 ^ lsN s))) (nI b) (nI a) (nI (256 - n)) (hpOf iv jv) = some (nI ((orb (dif s (2 ^ lsN s)) n a).foldl (fun b x => if w (x ||| 2 ^ lsN s) = 0 then min b (1 + costN w (dif s (2 ^ lsN s) ^^^ x)) else b) b)) := by
  have h8 : s < 256 := by omega
  obtain ⟨l1, l2⟩ := ls_ok s h8 h0
  have ol := dif_ls h8 h0
  have p8 := pow8 l2
  intro n
  induction n with
  | zero =>
    intro N a b _ _ _ _
    rw [f_X4_leastCost_L26, show (256 : Int32) = nI 256 by decide, iteE (by omega) (by omega), if_pos (by omega)]; rfl
  | succ n ih =>
    intro N a b hn ha ha8 hb
    have a_o := part_le ha8 ha
    have pt : dif (a ||| 2 ^ lsN s) s = 0 := by
      refine part_of (or_lt (n := 8) ha8 p8) (fun i hi => ?_)
      rw [Nat.testBit_or, tb_pow] at hi
      cases hai : a.testBit i
      · rw [hai] at hi
        have e : lsN s = i := by simpa using hi
        rw [← e]; exact l1
      · exact part_bit (by omega) (part_dif h8) (part_bit ha8 ha hai)
    have t8 : a ||| 2 ^ lsN s < 256 := or_lt (n := 8) ha8 p8
    have ts := part_le t8 pt
    have t0 : 0 < a ||| 2 ^ lsN s := Nat.lt_of_lt_of_le (Nat.two_pow_pos _) Nat.right_le_or
    have mv : iv 63 (a ||| 2 ^ lsN s) = bI (w (a ||| 2 ^ lsN s) == 0) := by
      rcases Nat.lt_or_ge (a ||| 2 ^ lsN s) s with q | q
      · exact (ht.2 _ t0 q (part_tr t8 h8 pt hp)).1
      · have e : a ||| 2 ^ lsN s = s := by omega
        rw [e]; exact hm
    have xl : dif s (2 ^ lsN s) ^^^ a = dif (dif s (2 ^ lsN s)) a := xor_dif (by omega) ha8 ha
    have xs := dif_le (dif s (2 ^ lsN s)) a
    have xp : dif (dif s (2 ^ lsN s) ^^^ a) set = 0 := by
      rw [xl]; exact part_tr (b := dif s (2 ^ lsN s)) (by omega) (by omega) (part_dif (by omega)) (part_tr (by omega) h8 (part_dif h8) hp)
    have cv : iv 64 (dif s (2 ^ lsN s) ^^^ a) = nI (costN w (dif s (2 ^ lsN s) ^^^ a)) := ht.c0 (by omega) xp
    have cb := cost_b w (s := dif s (2 ^ lsN s) ^^^ a) (by omega)
    have J : ∀ b', b' ≤ 10000 → f_X4_leastCost_J64 (f_X4_leastCost_L26 (N + n + 1)) 62 (nI (2 ^ lsN s)) (nI (dif s (2 ^ lsN s))) (nI b') (nI a) (nI (256 - (n + 1))) (hpOf iv jv) = some (nI ((if a = dif s (2 ^ lsN s) then [] else orb (dif s (2 ^ lsN s)) n (nxt a (dif s (2 ^ lsN s)))).foldl (fun b x => if w (x ||| 2 ^ lsN s) = 0 then min b (1 + costN w (dif s (2 ^ lsN s) ^^^ x)) else b) b')) := by
      intro b' hb'
      unfold f_X4_leastCost_J64
      rw [iteQ (by omega) (by omega), nxt_n a (by omega), nI_1, show 256 - (n + 1) + 1 = 256 - n by omega]
      by_cases e : a = dif s (2 ^ lsN s)
      · rw [if_pos e, if_pos e]; rfl
      · rw [if_neg e, if_neg e]
        refine ih N _ b' (by omega) ?_ (nxt_lt a (by omega)) hb'
        refine part_of (nxt_lt a (by omega)) (fun i hi => ?_)
        unfold nxt at hi
        rw [Nat.testBit_and, Bool.and_eq_true] at hi
        exact hi.2
    rw [show N + (n + 1) + 1 = (N + n + 1) + 1 by omega, f_X4_leastCost_L26, show (256 : Int32) = nI 256 by decide, iteE (by omega) (by omega), if_neg (by omega), G_62_1, Option.bind_some, nx_or, a_63 _ _ t8, Option.bind_some, mv, bI_w, G_62_2, Option.bind_some, nx_xor, a_64 _ _ (by omega), Option.bind_some, cv, show (1 : Int32) + nI (costN w (dif s (2 ^ lsN s) ^^^ a)) = nI (1 + costN w (dif s (2 ^ lsN s) ^^^ a)) by rw [show (1 : Int32) = nI 1 by decide, nI_add], mn_n (by omega) (by omega), orb, List.foldl_cons, J b hb, J _ (Nat.le_trans (Nat.min_le_left _ _) hb)]
    by_cases c : w (a ||| 2 ^ lsN s) = 0
    · rw [if_pos c, if_pos c]
    · rw [if_neg c, if_neg c]
theorem c_lc {iv : Nat → Nat → Int32} {jv : Nat → Nat → Int64} {w : Nat → Nat} {set s : Nat} (hset : set < 256) (hs : s ≤ set) (h0 : s ≠ 0) (hp : dif s set = 0) (ht : CTab iv w set s) (hm : iv 63 s = bI (w s == 0)) : f_X4_leastCost 62 (nI s) (hpOf iv jv) = some (nI (costN w s)) := by
  have h8 : s < 256 := by omega
  obtain ⟨l1, l2⟩ := ls_ok s h8 h0
  have ol := dif_ls h8 h0
  have p8 := pow8 l2
  have lp : dif (2 ^ lsN s) s = 0 := part_of p8 (fun i hi => by
    rw [tb_pow] at hi
    rw [← show lsN s = i by simpa using hi]; exact l1)
  have cv : iv 64 (dif s (2 ^ lsN s)) = nI (costN w (dif s (2 ^ lsN s))) := ht.c0 ol (part_tr (by omega) h8 (part_dif h8) hp)
  have cb := cost_b w (s := dif s (2 ^ lsN s)) (by omega)
  unfold f_X4_leastCost
  rw [ls_neg s h8 h0, nx_xor, xor_dif h8 p8 lp, G_62_2, Option.bind_some, a_64 _ _ (by omega), Option.bind_some, cv, show (16 : Int32) = nI 16 by decide, nI_add]
  have := c_lcL (jv := jv) hset hs h0 hp ht hm 256 199743 0 (16 + costN w (dif s (2 ^ lsN s))) (by omega) (by unfold dif; simp) (by omega) (by omega)
  rw [Nat.sub_self, nI_0] at this
  rw [show NN = 199743 + 256 + 1 from rfl, this, orb_all _ (by omega), List.foldl_filter]
  congr 2
  -- the fold is the least cost
  have fm := fold_min (16 + costN w (dif s (2 ^ lsN s))) (fun x => dif x (dif s (2 ^ lsN s)) == 0 && w (x ||| 2 ^ lsN s) == 0) (fun x => 1 + costN w (dif s (2 ^ lsN s) ^^^ x)) 256
  have e : ((List.range 256).foldl (fun x y => if (dif y (dif s (2 ^ lsN s)) == 0) = true then (if w (y ||| 2 ^ lsN s) = 0 then min x (1 + costN w (dif s (2 ^ lsN s) ^^^ y)) else x) else x) (16 + costN w (dif s (2 ^ lsN s)))) = ((List.range 256).foldl (fun b t => if (dif t (dif s (2 ^ lsN s)) == 0 && w (t ||| 2 ^ lsN s) == 0) then min b (1 + costN w (dif s (2 ^ lsN s) ^^^ t)) else b) (16 + costN w (dif s (2 ^ lsN s)))) := by
    congr 1
    funext x y
    by_cases c1 : dif y (dif s (2 ^ lsN s)) = 0
    · by_cases c2 : w (y ||| 2 ^ lsN s) = 0
      · simp [c1, c2]
      · simp [c1, c2]
    · simp [c1]
  rw [e]
  refine (fm.map (R := Good w s) (u := fun t => 1 + costN w (dif s t)) (fun x => x ||| 2 ^ lsN s) (fun t => dif t (2 ^ lsN s)) ?_ ?_).uniq (cost_min w h8 h0) rfl (fun t q => rfl)
  · rintro x ⟨x8, hx⟩
    rw [Bool.and_eq_true, beq_iff_eq, beq_iff_eq] at hx
    have o8 : x ||| 2 ^ lsN s < 256 := or_lt (n := 8) x8 p8
    refine ⟨⟨o8, part_of o8 (fun i hi => ?_), ?_, hx.2⟩, ?_⟩
    · rw [Nat.testBit_or, tb_pow] at hi
      cases hxi : x.testBit i
      · rw [hxi] at hi
        rw [← show lsN s = i by simpa using hi]; exact l1
      · exact part_bit (by omega) (part_dif h8) (part_bit x8 hx.1 hxi)
    · rw [Nat.testBit_or, tb_pow]; simp
    · show 1 + costN w (dif s (x ||| 2 ^ lsN s)) = 1 + costN w (dif s (2 ^ lsN s) ^^^ x)
      congr 2
      rw [xor_dif (by omega) x8 hx.1]
      apply tb_ext; intro i
      have dl := dif_le s (2 ^ lsN s)
      rw [dif_bit _ (by omega), dif_bit _ (by omega), dif_bit _ (by omega), Nat.testBit_or]
      cases s.testBit i <;> cases x.testBit i <;> cases (2 ^ lsN s).testBit i <;> rfl
  · rintro t ⟨t8, t1, t2, t3⟩
    have tor : dif t (2 ^ lsN s) ||| 2 ^ lsN s = t := by
      apply tb_ext; intro i
      rw [Nat.testBit_or, dif_bit _ (by omega), tb_pow]
      by_cases e : lsN s = i
      · subst e; rw [t2]; simp
      · simp [e]
    have dl := dif_le t (2 ^ lsN s)
    have sub : dif (dif t (2 ^ lsN s)) (dif s (2 ^ lsN s)) = 0 := by
      refine part_of (by omega) (fun i hi => ?_)
      rw [dif_bit _ (by omega)] at hi ⊢
      cases hti : t.testBit i
      · rw [hti] at hi; cases hi
      · rw [part_bit t8 t1 hti]
        rw [hti] at hi; exact hi
    refine ⟨⟨by omega, ?_⟩, ?_⟩
    · rw [Bool.and_eq_true, beq_iff_eq, beq_iff_eq, tor]
      exact ⟨sub, t3⟩
    · show 1 + costN w (dif s (2 ^ lsN s) ^^^ dif t (2 ^ lsN s)) = 1 + costN w (dif s t)
      congr 2
      rw [xor_dif (by omega) (by omega) sub]
      apply tb_ext; intro i
      rw [dif_bit _ (by omega), dif_bit _ (by omega), dif_bit _ (by omega), dif_bit _ (by omega), tb_pow]
      by_cases e : lsN s = i
      · subst e; rw [t2]; simp
      · simp [e]
theorem c_weiL {jv : Nat → Nat → Int64} (hag : ∀ p, p < V 0 → ag p ≤ 400) {g : Nat} (hg : g < V 1) {set : Nat} (hset : set < 2 ^ V 0) : ∀ (j n s : Nat) (iv : Nat → Nat → Int32), 1 ≤ s → s + j = set + 1 → SR 1 73 iv V → CAg iv V ag → CTab iv (whyN V ag g) set s → ∃ iv', f_X4_weigh_L9 (n + j + 1) 62 (nI set) (nI g) (nI s) (hpOf iv jv) = some (hpOf iv' jv) ∧ (∀ k, k ≠ 63 → k ≠ 64 → iv' k = iv k) ∧ CTab iv' (whyN V ag g) set (set + 1) := by
  intro j
  induction j with
  | zero =>
    intro n s iv h1 e h ha ht
    have k8 := V0_256 h
    refine ⟨iv, ?_, fun _ _ _ => rfl, by rw [← show s = set + 1 by omega]; exact ht⟩
    rw [f_X4_weigh_L9, iteL (by omega) (by omega), if_pos (by omega)]
  | succ j ih =>
    intro n s iv h1 e h ha ht
    have k8 := V0_256 h
    have dl := dif_le s set
    have wl := why_le V ag g s
    rw [show n + (j + 1) + 1 = (n + j + 1) + 1 by omega, f_X4_weigh_L9, iteL (by omega) (by omega), if_neg (by omega), show (256 : Int32) = nI 256 by decide, iteE (by omega) (by omega), if_neg (by omega), dif_n, nI_0I (by omega), G_62_1, Option.bind_some, G_62_0, Option.bind_some, V_60, c_reason h ha hag (by omega) hg, Option.bind_some, nI_0I (by omega)]
    by_cases c : dif s set = 0
    · rw [if_pos c]
      have J : ∀ z : Int32, (z = 0 ∨ z = 1) → z = bI (whyN V ag g s == 0) → ∃ iv', f_X4_weigh_J51 (f_X4_weigh_L9 (n + j + 1)) 62 (nI set) (nI g) (nI s) z (nI s) 63 (hpOf iv jv) = some (hpOf iv' jv) ∧ (∀ k, k ≠ 63 → k ≠ 64 → iv' k = iv k) ∧ CTab iv' (whyN V ag g) set (set + 1) := by
        intro z hz01 hz
        have nz : nZ z = z := by rcases hz01 with q | q <;> subst q <;> decide +kernel
        unfold f_X4_weigh_J51
        have t1 : CTab (up iv 63 s z) (whyN V ag g) set s := ⟨by rw [up_ne _ _ _ (by decide)]; exact ht.1, fun x a b p => by
          rw [up_in _ _ (by omega), up_ne _ _ _ (by decide)]; exact ht.2 x a b p⟩
        rw [u_63 _ _ (by omega), Option.bind_some, nz, G_62_2, Option.bind_some, V_62, c_lc (w := whyN V ag g) (set := set) (by omega) (by omega) (by omega) c t1 (by rw [up_at]; exact hz), Option.bind_some, u_64 _ _ (by omega), Option.bind_some, nI_1]
        obtain ⟨iv', g1, g2, g3⟩ := ih n (s + 1) (up (up iv 63 s z) 64 s (nI (costN (whyN V ag g) s))) (by omega) (by omega) ((scr_up (jv := jv) 64 s _ (by omega)).sr ((scr_up (jv := jv) 63 s _ (by omega)).sr h)) (by
          refine ⟨fun p hp => ?_, ?_⟩
          · rw [up_ne _ _ _ (by decide), up_ne _ _ _ (by decide)]; exact ha.1 p hp
          · rw [up_ne _ _ _ (by decide), up_ne _ _ _ (by decide)]; exact ha.2) (by
          refine ⟨by rw [up_in _ _ (by omega)]; exact t1.1, fun x a b p => ?_⟩
          rw [up_ne _ _ _ (by decide)]
          by_cases ex : x = s
          · subst ex; rw [up_at, up_at]; exact ⟨hz, rfl⟩
          · have q := t1.2 x a (by omega) p
            refine ⟨q.1, ?_⟩
            rw [up_in _ _ ex]; exact q.2)
        exact ⟨iv', g1, fun k a b => by rw [g2 k a b, up_ne _ _ _ b, up_ne _ _ _ a], g3⟩
      by_cases c2 : whyN V ag g s = 0
      · rw [if_pos c2]; exact J 1 (Or.inr rfl) (by rw [c2]; rfl)
      · rw [if_neg c2]; exact J 0 (Or.inl rfl) (by rw [show (whyN V ag g s == 0) = false from beq_false_of_ne c2]; rfl)
    · rw [if_neg c, nI_1]
      exact ih n (s + 1) iv (by omega) (by omega) h ha ⟨ht.1, fun x a b p => ht.2 x a (by
        rcases Nat.lt_or_ge x s with q | q
        · exact q
        · exact absurd (by rw [← show x = s by omega]; exact p) c) p⟩
theorem c_weigh {iv : Nat → Nat → Int32} {jv : Nat → Nat → Int64} (hag : ∀ p, p < V 0 → ag p ≤ 400) {g : Nat} (hg : g < V 1) {set : Nat} (hset : set < 2 ^ V 0) (h : SR 1 73 iv V) (ha : CAg iv V ag) : ∃ iv', f_X4_weigh 62 (nI set) (nI g) (hpOf iv jv) = some (hpOf iv' jv) ∧ (∀ k, k ≠ 63 → k ≠ 64 → iv' k = iv k) ∧ CTab iv' (whyN V ag g) set (set + 1) := by
  have k8 := V0_256 h
  unfold f_X4_weigh
  have u0 : uI (hpOf iv jv) 64 0 0 = some (hpOf (up iv 64 0 0) jv) := u_64 iv jv (i := 0) (by decide) 0
  rw [G_62_2, Option.bind_some, u0, Option.bind_some, show NN = (199999 - set) + set + 1 by show 200000 = _; omega]
  obtain ⟨iv', g1, g2, g3⟩ := c_weiL (jv := jv) hag hg hset set (199999 - set) 1 (up iv 64 0 0) (by omega) (by omega) ((scr_up (jv := jv) 64 0 _ (by omega)).sr h) ⟨fun p hp => by rw [up_ne _ _ _ (by decide)]; exact ha.1 p hp, by rw [up_ne _ _ _ (by decide)]; exact ha.2⟩ ⟨up_at _ _ _ _, fun s a b _ => absurd b (by omega)⟩
  exact ⟨iv', g1, fun k a b => by rw [g2 k a b, up_ne _ _ _ b], g3⟩
end WEIGH
