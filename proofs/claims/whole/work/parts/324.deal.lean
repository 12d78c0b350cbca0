/-! PARTS: dealing out, on both sides; OVER, PARTS -/
/-- how it is dealt: how many companies, who is left, the companies -/
def dealF (w : Nat → Nat) : Nat → Nat → Nat → Nat → (Nat → Nat) → Nat × Nat × (Nat → Nat)
  | 0, _, m, l, f => (m, l, f)
  | n + 1, s, m, l, f => if s = 0 then (m, l, f) else if bstN w s = 0 then dealF w n (dif s (2 ^ lsN s)) m (l ||| 2 ^ lsN s) f else dealF w n (dif s (bstN w s)) (m + 1) l (vs f m (bstN w s))
theorem good_p {w : Nat → Nat} {s t : Nat} (h : goodB w s t = true) : dif t s = 0 ∧ t.testBit (lsN s) = true ∧ w t = 0 := by
  unfold goodB at h
  rw [Bool.and_eq_true, Bool.and_eq_true, beq_iff_eq, beq_iff_eq] at h
  exact ⟨h.1.1, h.1.2, h.2⟩
theorem pc_mono {a b : Nat} (ha : a < 256) (h : dif a b = 0) : pcN a ≤ pcN b := by
  unfold pcN
  exact List.countP_mono_left (fun i _ hi => part_bit ha h hi)
theorem pc_good {s t : Nat} (hs : s < 256) (h0 : s ≠ 0) (ht : t.testBit (lsN s) = true) : pcN (dif s t) + 1 ≤ pcN s := by
  have := pc_ls s hs h0
  have dl := dif_le s t
  have dl2 := dif_le s (2 ^ lsN s)
  have : pcN (dif s t) ≤ pcN (dif s (2 ^ lsN s)) := by
    refine pc_mono (by omega) (part_of (by omega) (fun i hi => ?_))
    rw [dif_bit _ (by omega)] at hi ⊢
    rw [tb_pow]
    by_cases e : lsN s = i
    · subst e; rw [ht] at hi; simp at hi
    · rw [Bool.and_eq_true] at hi
      simp [e, hi.1]
  omega
theorem deal_sum {w : Nat → Nat} : ∀ (n s m l : Nat) (f : Nat → Nat), s < 256 → l < 256 → (∀ i, s.testBit i = true → l.testBit i = false) → pcN s ≤ n → m + n ≤ 8 → 16 * pcN (dealF w n s m l f).2.1 + (dealF w n s m l f).1 = 16 * pcN l + m + costN w s ∧ (dealF w n s m l f).1 ≤ 8 ∧ (dealF w n s m l f).2.1 < 256 := by
  intro n
  induction n with
  | zero =>
    intro s m l f hs hl hd hp hm
    have : s = 0 := pc_0 s hs (by omega)
    subst this
    rw [dealF, cost_0]
    dsimp only
    exact ⟨by omega, by omega, hl⟩
  | succ n ih =>
    intro s m l f hs hl hd hp hm
    rw [dealF]
    by_cases h0 : s = 0
    · subst h0; rw [if_pos rfl, cost_0]
      dsimp only
      exact ⟨by omega, by omega, hl⟩
    · rw [if_neg h0]
      obtain ⟨l1, l2⟩ := ls_ok s hs h0
      have p8 := pow8 l2
      rcases bst_case (w := w) hs h0 with ⟨b0, bc⟩ | ⟨b0, b1, b2, b3⟩
      · rw [if_pos b0]
        have dl := dif_ls hs h0
        have pp := pc_ls s hs h0
        have ps := pc_set l hl (lsN s) l2 (hd _ l1)
        obtain ⟨r1, r2, r3⟩ := ih (dif s (2 ^ lsN s)) m (l ||| 2 ^ lsN s) f (by omega) (or_lt (n := 8) hl p8) (fun i hi => by
          rw [dif_bit _ (by omega), Bool.and_eq_true] at hi
          rw [Nat.testBit_or, hd i hi.1]
          simpa using hi.2) (by omega) (by omega)
        exact ⟨by omega, r2, r3⟩
      · rw [if_neg b0]
        obtain ⟨g1, g2, g3⟩ := good_p b2
        have dl := dif_le s (bstN w s)
        have pp := pc_good hs h0 g2
        obtain ⟨r1, r2, r3⟩ := ih (dif s (bstN w s)) (m + 1) l (vs f m (bstN w s)) (by omega) hl (fun i hi => by
          rw [dif_bit _ (by omega), Bool.and_eq_true] at hi
          exact hd i hi.1) (by omega) (by omega)
        exact ⟨by omega, r2, r3⟩
theorem lt_1 {t : Nat} (h : t < 2 ^ 31) {α : Type} {x y : α} : (if nI t < 1 then x else y) = if t < 1 then x else y := by rw [show (1 : Int32) = nI 1 by decide, iteL h (by decide)]
theorem c_bstL {iv : Nat → Nat → Int32} {jv : Nat → Nat → Int64} {w : Nat → Nat} {set s : Nat} (hset : set < 256) (hs : dif s set = 0) (h8 : s < 256) (h0 : s ≠ 0) (ht : CTab iv w set (set + 1)) : ∀ (j n t : Nat), 1 ≤ t → t + j = s + 1 → f_X4_leastBestCompany_L7 (n + j + 1) 62 (nI s) (nI (2 ^ lsN s)) (nI t) (hpOf iv jv) = some (nI (bstF w s j t)) := by
  have ss := part_le h8 hs
  obtain ⟨l1, l2⟩ := ls_ok s h8 h0
  have p8 := pow8 l2
  intro j
  induction j with
  | zero =>
    intro n t h1 e
    rw [f_X4_leastBestCompany_L7, iteL (by omega) (by omega), if_pos (by omega)]; rfl
  | succ j ih =>
    intro n t h1 e
    have t8 : t < 256 := by omega
    have dl := dif_le t s
    have al : t &&& 2 ^ lsN s ≤ t := Nat.and_le_left
    have az : t &&& 2 ^ lsN s = 0 ↔ t.testBit (lsN s) = false := by
      constructor
      · intro q
        have := congrArg (fun z => z.testBit (lsN s)) q
        simp only [Nat.testBit_and, tb_pow, Nat.zero_testBit] at this
        simpa using this
      · intro q
        apply tb_ext; intro i
        rw [Nat.testBit_and, tb_pow, Nat.zero_testBit]
        by_cases e : lsN s = i
        · subst e; rw [q]; rfl
        · simp [e]
    have J0 : f_X4_leastBestCompany_J38 (f_X4_leastBestCompany_L7 (n + j + 1)) 62 (nI s) (nI (2 ^ lsN s)) (nI t) 0 (hpOf iv jv) = some (nI (bstF w s j (t + 1))) := by
      unfold f_X4_leastBestCompany_J38
      rw [if_pos rfl, nI_1, ih n (t + 1) (by omega) (by omega)]
    rw [show n + (j + 1) + 1 = (n + j + 1) + 1 by omega, f_X4_leastBestCompany_L7, iteL (by omega) (by omega), if_neg (by omega), show (256 : Int32) = nI 256 by decide, iteE (by omega) (by omega), if_neg (by omega), dif_n, nI_0I (by omega), nx_and, nI_0I (by omega), J0, bstF]
    by_cases c1 : dif t s = 0
    · rw [if_pos c1]
      cases c2 : t.testBit (lsN s)
      · rw [if_pos (az.mpr c2)]
        have : bstB w s t = false := by unfold bstB goodB; rw [c2]; simp
        rw [this]; rfl
      · rw [if_neg (fun q => by rw [az.mp q] at c2; cases c2)]
        unfold f_X4_leastBestCompany_J38
        have tp := part_tr t8 h8 c1 hs
        have mv := (ht.2 t (by omega) (by omega) tp).1
        have dl2 := dif_le s t
        have cv : iv 64 (dif s t) = nI (costN w (dif s t)) := ht.c0 (by omega) (part_tr (by omega) h8 (part_dif h8) hs)
        have cs : iv 64 s = nI (costN w s) := ht.c0 (by omega) hs
        have cb := cost_b w (s := dif s t) (by omega)
        have cb2 := cost_b w h8
        rw [if_neg (by decide), G_62_1, Option.bind_some, a_63 _ _ t8, Option.bind_some, mv, bI_w, G_62_2, Option.bind_some, nx_xor, xor_dif h8 t8 c1, a_64 _ _ (by omega), Option.bind_some, Option.bind_some, a_64 _ _ h8, Option.bind_some, cv, cs, show (1 : Int32) + nI (costN w (dif s t)) = nI (1 + costN w (dif s t)) by rw [show (1 : Int32) = nI 1 by decide, nI_add], iteQ (by omega) (by omega), nI_1, ih n (t + 1) (by omega) (by omega)]
        have : bstB w s t = (w t == 0 && (1 + costN w (dif s t) == costN w s)) := by unfold bstB goodB; rw [c2, c1]; simp
        rw [this]
        by_cases c3 : w t = 0
        · by_cases c4 : 1 + costN w (dif s t) = costN w s
          · simp [c3, c4]
          · simp [c3, c4]
        · simp [c3]
    · rw [if_neg c1]
      have : bstB w s t = false := by unfold bstB goodB; rw [show (dif t s == 0) = false from beq_false_of_ne c1]; simp
      rw [this]; rfl
theorem c_bst {iv : Nat → Nat → Int32} {jv : Nat → Nat → Int64} {w : Nat → Nat} {set s : Nat} (hset : set < 256) (hs : dif s set = 0) (h8 : s < 256) (h0 : s ≠ 0) (ht : CTab iv w set (set + 1)) : f_X4_leastBestCompany 62 (nI s) (hpOf iv jv) = some (nI (bstN w s)) := by
  obtain ⟨l1, l2⟩ := ls_ok s h8 h0
  have p : 2 ^ lsN s ≤ s := Nat.ge_two_pow_of_testBit l1
  have p1 : 1 ≤ 2 ^ lsN s := Nat.one_le_two_pow
  unfold f_X4_leastBestCompany
  rw [ls_neg s h8 h0, bst_ls h8 h0, fuel (j := s + 1 - 2 ^ lsN s) (n := 0) (by omega)]
  exact c_bstL (jv := jv) hset hs h8 h0 ht (s + 1 - 2 ^ lsN s) _ (2 ^ lsN s) p1 (by omega)
theorem m_bstL {iv : Nat → Nat → Int32} {jv : Nat → Nat → Int64} {w : Nat → Nat} {all s : Nat} (hall : all < 256) (hs : dif s all = 0) (h8 : s < 256) (h0 : s ≠ 0) (t1 : MT1 iv w all (all + 1)) (t2 : MT2 iv w all (all + 1)) (k12 : Nat → Int32 → PH → Option PH) : ∀ (t n j : Nat), t + j = s → f_X11_takeParts_L27 k12 (n + t + 1) 72 (nI s) (nI (lsN s)) (nI (bstF w s j (t + 1))) (nI t) (hpOf iv jv) = if bstN w s = 0 then (gI (hpOf iv jv) 72 10 21).bind fun x9 => (pI (hpOf iv jv) 72 10 21 (x9 ||| nI (2 ^ lsN s))).bind fun hp10 => (k12 72 (nI (dif s (2 ^ lsN s))) hp10) else (gI (hpOf iv jv) 72 10 22).bind fun x5 => (uI (hpOf iv jv) 83 x5 (nI (bstN w s))).bind fun hp6 => (gI hp6 72 10 22).bind fun x7 => (pI hp6 72 10 22 (x7 + 1)).bind fun hp8 => (k12 72 (nI (dif s (bstN w s))) hp8) := by
  have ss := part_le h8 hs
  obtain ⟨l1, l2⟩ := ls_ok s h8 h0
  have p8 := pow8 l2
  intro t
  induction t with
  | zero =>
    intro n j e
    have ej : j = s := by omega
    subst ej
    have hb : bstN w j ≤ j := by
      rcases bst_case (w := w) h8 h0 with ⟨b0, bc⟩ | ⟨b0, b1, b2, b3⟩
      · omega
      · exact b1
    rw [f_X11_takeParts_L27, lt_1 (by omega), if_pos (by omega), show bstF w j j (0 + 1) = bstN w j from rfl, nI_0I (by omega), iL_n (by omega), dif_n, dif_n, G_72_23, Option.bind_some]
  | succ t ih =>
    intro n j e
    have t8 : t + 1 < 256 := by omega
    have nx := ih n (j + 1) (by omega)
    have no : bstB w s (t + 1) = false → bstF w s (j + 1) (t + 1) = bstF w s j (t + 1 + 1) := fun q => by rw [bstF, q]; exact if_neg (by decide)
    have yes : bstB w s (t + 1) = true → bstF w s (j + 1) (t + 1) = t + 1 := fun q => by rw [bstF, q]; exact if_pos rfl
    have mv := t1 (t + 1) (by omega) (by omega)
    have dl2 := dif_le s (t + 1)
    have cb := cost_b w (s := dif s (t + 1)) (by omega)
    have cb2 := cost_b w h8
    have cs : iv 82 s = nI (costN w s) := t2.c0 (by omega) hs
    have cv : iv 82 (dif s (t + 1)) = nI (costN w (dif s (t + 1))) := t2.c0 (by omega) (part_tr (by omega) h8 (part_dif h8) hs)
    rw [show n + (t + 1) + 1 = (n + t + 1) + 1 by omega, f_X11_takeParts_L27, lt_1 (by omega), if_neg (by omega), isPartN t8, hasI t8 l2, G_72_19, Option.bind_some, a_81 _ _ t8, Option.bind_some, mv, bI_0, G_72_20, Option.bind_some, dif_n, a_82 _ _ (by omega), Option.bind_some, Option.bind_some, a_82 _ _ h8, Option.bind_some, cs, cv, nI_1, iteQ (by omega) (by omega), pk_m1]
    by_cases c1 : dif (t + 1) s = 0
    · rw [if_pos c1]
      cases c2 : (t + 1).testBit (lsN s)
      · rw [if_neg (by decide)]
        rw [no (by unfold bstB goodB; rw [c2]; simp)] at nx
        exact nx
      · rw [if_pos rfl, show dif (t + 1) all = 0 from part_tr t8 h8 c1 hs]
        have bv : bstB w s (t + 1) = (w (t + 1) == 0 && (1 + costN w (dif s (t + 1)) == costN w s)) := by unfold bstB goodB; rw [c2, c1]; simp
        by_cases c3 : w (t + 1) = 0
        · rw [if_pos (by rw [c3]; rfl)]
          by_cases c4 : 1 + costN w (dif s (t + 1)) = costN w s
          · rw [if_pos (by omega)]
            rw [yes (by rw [bv, c3, c4]; simp)] at nx
            exact nx
          · rw [if_neg (by omega)]
            rw [no (by rw [bv, c3]; simp [c4])] at nx
            exact nx
        · rw [if_neg (by simp [c3])]
          rw [no (by rw [bv]; simp [c3])] at nx
          exact nx
    · rw [if_neg c1]
      rw [no (by unfold bstB goodB; simp [c1])] at nx
      exact nx
/-- the class's dealt parts -/
def CD (iv : Nat → Nat → Int32) (m l : Nat) (f : Nat → Nat) : Prop := iv 62 4 = nI m ∧ iv 62 5 = nI l ∧ ∀ i, i < m → iv 65 i = nI (f i)
def MD (iv : Nat → Nat → Int32) (m l : Nat) (f : Nat → Nat) : Prop := iv 72 22 = nI m ∧ iv 72 21 = nI l ∧ ∀ i, i < m → iv 83 i = nI (f i)
theorem c_dealL {jv : Nat → Nat → Int64} {w : Nat → Nat} {set : Nat} (hset : set < 256) : ∀ (n N s m l : Nat) (f : Nat → Nat) (iv : Nat → Nat → Int32), n ≤ 8 → s < 256 → dif s set = 0 → pcN s ≤ n → m + n ≤ 8 → CTab iv w set (set + 1) → CD iv m l f → ∃ iv', f_X4_deal_L21 (N + n + 1) 62 (nI s) (nI (8 - n)) (hpOf iv jv) = some (hpOf iv' jv) ∧ (∀ k, k ≠ 62 → k ≠ 65 → iv' k = iv k) ∧ CD iv' (dealF w n s m l f).1 (dealF w n s m l f).2.1 (dealF w n s m l f).2.2 := by
  intro n
  induction n with
  | zero =>
    intro N s m l f iv _ hs hp hc hm ht hd
    refine ⟨iv, ?_, fun _ _ _ => rfl, hd⟩
    rw [f_X4_deal_L21, show (8 : Int32) = nI 8 by decide, iteE (by omega) (by omega), if_pos (by omega)]
  | succ n ih =>
    intro N s m l f iv hn hs hp hc hm ht hd
    rw [show N + (n + 1) + 1 = (N + n + 1) + 1 by omega, f_X4_deal_L21, show (8 : Int32) = nI 8 by decide, iteE (by omega) (by omega), if_neg (by omega), nI_0I (by omega), dealF]
    by_cases h0 : s = 0
    · rw [if_pos h0, if_pos h0]
      exact ⟨iv, rfl, fun _ _ _ => rfl, hd⟩
    · obtain ⟨l1, l2⟩ := ls_ok s hs h0
      have p8 := pow8 l2
      have bb : bstN w s ≤ s := by
        rcases bst_case (w := w) hs h0 with ⟨b0, bc⟩ | ⟨b0, b1, b2, b3⟩
        · omega
        · exact b1
      rw [if_neg h0, if_neg h0, V_62, c_bst hset hp hs h0 ht, Option.bind_some, nI_0I (by omega), nI_1, show 8 - (n + 1) + 1 = 8 - n by omega, ls_neg s hs h0, ls_dec s hs h0]
      obtain ⟨d1, d2, d3⟩ := hd
      rcases bst_case (w := w) hs h0 with ⟨b0, bc⟩ | ⟨b0, b1, b2, b3⟩
      · have dl := dif_ls hs h0
        have pp := pc_ls s hs h0
        rw [if_pos b0, if_pos b0, G_62_5, Option.bind_some, S_62_5, Option.bind_some, d2, nx_or]
        obtain ⟨iv', g1, g2, g3⟩ := ih N (dif s (2 ^ lsN s)) m (l ||| 2 ^ lsN s) f (up iv 62 5 (nI (l ||| 2 ^ lsN s))) (by omega) (by omega) (part_tr (by omega) hs (part_dif hs) hp) (by omega) (by omega) ⟨ht.1, fun x a b p => by rw [up_ne _ _ _ (by decide), up_ne _ _ _ (by decide)]; exact ht.2 x a b p⟩ ⟨by rw [up_in _ _ (by decide)]; exact d1, up_at _ _ _ _, fun i hi => by rw [up_ne _ _ _ (by decide)]; exact d3 i hi⟩
        exact ⟨iv', g1, fun k a b => by rw [g2 k a b, up_ne _ _ _ a], g3⟩
      · obtain ⟨q1, q2, q3⟩ := good_p b2
        have dl := dif_le s (bstN w s)
        have pp := pc_good hs h0 q2
        rw [if_neg b0, if_neg b0, G_62_3, Option.bind_some, G_62_4, Option.bind_some, d1, u_65 _ _ (by omega), Option.bind_some, G_62_4, Option.bind_some, S_62_4, Option.bind_some, up_ne _ _ _ (by decide), d1, nI_1, nx_xor, xor_dif hs (by omega) q1]
        obtain ⟨iv', g1, g2, g3⟩ := ih N (dif s (bstN w s)) (m + 1) l (vs f m (bstN w s)) (up (up iv 65 m (nI (bstN w s))) 62 4 (nI (m + 1))) (by omega) (by omega) (part_tr (by omega) hs (part_dif hs) hp) (by omega) (by omega) ⟨by rw [up_ne _ _ _ (by decide), up_ne _ _ _ (by decide)]; exact ht.1, fun x a b p => by rw [up_ne _ _ _ (by decide), up_ne _ _ _ (by decide), up_ne _ _ _ (by decide), up_ne _ _ _ (by decide)]; exact ht.2 x a b p⟩ ⟨up_at _ _ _ _, by rw [up_in _ _ (by decide), up_ne _ _ _ (by decide)]; exact d2, fun i hi => by
          rw [up_ne _ _ _ (by decide)]
          by_cases ei : i = m
          · subst ei; rw [up_at, vs_at]
          · rw [up_in _ _ ei, vs_ne _ _ ei]; exact d3 i (by omega)⟩
        exact ⟨iv', g1, fun k a b => by rw [g2 k a b, up_ne _ _ _ a, up_ne _ _ _ b], g3⟩
theorem m_dealL {jv : Nat → Nat → Int64} {w : Nat → Nat} {all : Nat} (hall : all < 256) : ∀ (n N s m l : Nat) (f : Nat → Nat) (iv : Nat → Nat → Int32), n ≤ 8 → s < 256 → dif s all = 0 → pcN s ≤ n → m + n ≤ 8 → MT1 iv w all (all + 1) → MT2 iv w all (all + 1) → MD iv m l f → ∃ iv', f_X11_takeParts_L12 (N + n + 1) 72 (nI s) (hpOf iv jv) = some (hpOf iv' jv) ∧ (∀ k, k ≠ 72 → k ≠ 83 → iv' k = iv k) ∧ (∀ i, i < 8 → iv' 72 i = iv 72 i) ∧ MD iv' (dealF w n s m l f).1 (dealF w n s m l f).2.1 (dealF w n s m l f).2.2 := by
  intro n
  induction n with
  | zero =>
    intro N s m l f iv _ hs hp hc hm t1 t2 hd
    have : s = 0 := pc_0 s hs (by omega)
    subst this
    refine ⟨iv, ?_, fun _ _ _ => rfl, fun _ _ => rfl, hd⟩
    rw [f_X11_takeParts_L12, nI_0, if_pos rfl]
  | succ n ih =>
    intro N s m l f iv hn hs hp hc hm t1 t2 hd
    rw [show N + (n + 1) + 1 = (N + n + 1) + 1 by omega, f_X11_takeParts_L12, nI_0I (by omega), dealF]
    by_cases h0 : s = 0
    · rw [if_pos h0, if_pos h0]
      exact ⟨iv, rfl, fun _ _ _ => rfl, fun _ _ => rfl, hd⟩
    · obtain ⟨l1, l2⟩ := ls_ok s hs h0
      have p8 := pow8 l2
      have bs := m_bstL (jv := jv) hall hp hs h0 t1 t2 (f_X11_takeParts_L12 (N + n + 1)) s (199999 - s) 0 (by omega)
      rw [show 199999 - s + s + 1 = NN by show _ = 200000; omega, show nI (bstF w s 0 (s + 1)) = 0 from rfl] at bs
      rw [if_neg h0, if_neg h0, ls_m s hs h0, Option.bind_some, bs]
      obtain ⟨d1, d2, d3⟩ := hd
      rcases bst_case (w := w) hs h0 with ⟨b0, bc⟩ | ⟨b0, b1, b2, b3⟩
      · have dl := dif_ls hs h0
        have pp := pc_ls s hs h0
        rw [if_pos b0, if_pos b0, G_72_21, Option.bind_some, S_72_21, Option.bind_some, d2, nx_or]
        obtain ⟨iv', g1, g2, g3, g4⟩ := ih N (dif s (2 ^ lsN s)) m (l ||| 2 ^ lsN s) f (up iv 72 21 (nI (l ||| 2 ^ lsN s))) (by omega) (by omega) (part_tr (by omega) hs (part_dif hs) hp) (by omega) (by omega) (fun x a b => by rw [up_ne _ _ _ (by decide)]; exact t1 x a b) ⟨t2.1, fun x a b p => by rw [up_ne _ _ _ (by decide)]; exact t2.2 x a b p⟩ ⟨by rw [up_in _ _ (by decide)]; exact d1, up_at _ _ _ _, fun i hi => by rw [up_ne _ _ _ (by decide)]; exact d3 i hi⟩
        exact ⟨iv', g1, fun k a b => by rw [g2 k a b, up_ne _ _ _ a], fun i hi => by rw [g3 i hi, up_in _ _ (by omega)], g4⟩
      · obtain ⟨q1, q2, q3⟩ := good_p b2
        have dl := dif_le s (bstN w s)
        have pp := pc_good hs h0 q2
        rw [if_neg b0, if_neg b0, G_72_22, Option.bind_some, d1, u_83 _ _ (by omega), Option.bind_some, G_72_22, Option.bind_some, S_72_22, Option.bind_some, up_ne _ _ _ (by decide), d1, nI_1]
        obtain ⟨iv', g1, g2, g3, g4⟩ := ih N (dif s (bstN w s)) (m + 1) l (vs f m (bstN w s)) (up (up iv 83 m (nI (bstN w s))) 72 22 (nI (m + 1))) (by omega) (by omega) (part_tr (by omega) hs (part_dif hs) hp) (by omega) (by omega) (fun x a b => by rw [up_ne _ _ _ (by decide), up_ne _ _ _ (by decide)]; exact t1 x a b) ⟨by rw [up_ne _ _ _ (by decide), up_ne _ _ _ (by decide)]; exact t2.1, fun x a b p => by rw [up_ne _ _ _ (by decide), up_ne _ _ _ (by decide)]; exact t2.2 x a b p⟩ ⟨up_at _ _ _ _, by rw [up_in _ _ (by decide), up_ne _ _ _ (by decide)]; exact d2, fun i hi => by
          rw [up_ne _ _ _ (by decide)]
          by_cases ei : i = m
          · subst ei; rw [up_at, vs_at]
          · rw [up_in _ _ ei, vs_ne _ _ ei]; exact d3 i (by omega)⟩
        exact ⟨iv', g1, fun k a b => by rw [g2 k a b, up_ne _ _ _ a, up_ne _ _ _ b], fun i hi => by rw [g3 i hi, up_in _ _ (by omega), up_ne _ _ _ (by decide)], g4⟩
section DEAL
variable {iv : Nat → Nat → Int32} {jv : Nat → Nat → Int64} {V ag : Nat → Nat}
theorem c_deal (hag : ∀ p, p < V 0 → ag p ≤ 400) {g : Nat} (hg : g < V 1) {set : Nat} (hset : set < 2 ^ V 0) (h : SR 1 73 iv V) (ha : CAg iv V ag) : ∃ iv' f m l, f_X4_deal 62 (nI set) (nI g) (hpOf iv jv) = some (hpOf iv' jv) ∧ (∀ k, k < 62 ∨ 65 < k → iv' k = iv k) ∧ CD iv' m l f ∧ dealF (whyN V ag g) 8 set 0 0 (fun _ => 0) = (m, l, f) := by
  have k8 := V0_256 h
  obtain ⟨iv1, f1, f2, f3⟩ := c_weigh (jv := jv) hag hg hset h ha
  obtain ⟨iv2, g1, g2, g3⟩ := c_dealL (jv := jv) (w := whyN V ag g) (set := set) (by omega) 8 199991 set 0 0 (fun _ => 0) (up (up iv1 62 4 0) 62 5 0) (by omega) (by omega) (part_self set (by omega)) (pc_le set) (by omega) ⟨f3.1, fun x a b p => by rw [up_ne _ _ _ (by decide), up_ne _ _ _ (by decide), up_ne _ _ _ (by decide), up_ne _ _ _ (by decide)]; exact f3.2 x a b p⟩ ⟨by rw [up_in _ _ (by decide), up_at]; rfl, by rw [up_at]; rfl, fun i hi => absurd hi (by omega)⟩
  refine ⟨iv2, _, _, _, ?_, fun k hk => ?_, g3, rfl⟩
  · unfold f_X4_deal
    rw [V_62, f1, Option.bind_some, S_62_4, Option.bind_some, S_62_5, Option.bind_some]
    exact g1
  · rw [g2 k (by omega) (by omega), up_ne _ _ _ (by omega), up_ne _ _ _ (by omega), f2 k (by omega) (by omega)]
theorem m_deal (hag : ∀ p, p < V 0 → ag p ≤ 400) {g : Nat} (hg : g < V 1) {set : Nat} (hset : set < 2 ^ V 0) (h : SR 1 73 iv V) (ha : MAg iv V ag) : ∃ iv' iv'' f m l, f_X11_layParts 72 (nI set) (nI g) (hpOf iv jv) = some (hpOf iv' jv) ∧ f_X11_takeParts 72 (nI set) (hpOf iv' jv) = some (hpOf iv'' jv) ∧ Scr iv jv iv'' jv ∧ MD iv'' m l f ∧ dealF (whyN V ag g) 8 set 0 0 (fun _ => 0) = (m, l, f) ∧ iv'' 82 set = nI (costN (whyN V ag g) set) := by
  have k8 := V0_256 h
  obtain ⟨iv1, f1, f2, f3, f4⟩ := m_lay (jv := jv) hag hg hset h ha
  obtain ⟨iv2, g1, g2, g2', g3⟩ := m_dealL (jv := jv) (w := whyN V ag g) (all := set) (by omega) 8 199991 set 0 0 (fun _ => 0) (up (up iv1 72 21 0) 72 22 0) (by omega) (by omega) (part_self set (by omega)) (pc_le set) (by omega) (fun x a b => by rw [up_ne _ _ _ (by decide), up_ne _ _ _ (by decide)]; exact f3 x a b) ⟨f4.1, fun x a b p => by rw [up_ne _ _ _ (by decide), up_ne _ _ _ (by decide)]; exact f4.2 x a b p⟩ ⟨by rw [up_at]; rfl, by rw [up_in _ _ (by decide), up_at]; rfl, fun i hi => absurd hi (by omega)⟩
  refine ⟨iv1, iv2, _, _, _, f1, ?_, ⟨fun k hk => ?_, ?_, ?_, rfl, rfl⟩, g3, rfl, ?_⟩
  · unfold f_X11_takeParts
    rw [S_72_21, Option.bind_some, S_72_22, Option.bind_some]
    exact g1
  · rw [g2 k (by omega) (by omega), up_ne _ _ _ (by omega), up_ne _ _ _ (by omega), f2 k (by omega) (by omega)]
  · rw [g2' 3 (by omega), up_in _ _ (by omega), up_in _ _ (by omega), f2 72 (by decide) (by decide)]
  · rw [g2' 4 (by omega), up_in _ _ (by omega), up_in _ _ (by omega), f2 72 (by decide) (by decide)]
  · rw [g2 82 (by decide) (by decide), up_ne _ _ _ (by decide), up_ne _ _ _ (by decide)]
    exact f4.c0 (by omega) (part_self set (by omega))
end DEAL
theorem op_over (a b d k : Int32) : OpOK (f_X10_over 0 a b d k) (f_X11_over 72 a b d k) := by
  rintro hp ⟨iv, jv, V, W, Y, rfl, h1, h2, h3, h4⟩
  by_cases c : ((0 ≤ a ∧ a ≤ nI (2 ^ V 0 - 1)) ∧ (0 ≤ b ∧ b ≤ nI (V 1) - 1) ∧ 0 ≤ d ∧ d ≤ 146096) ∧ 0 ≤ k ∧ k ≤ 2
  · obtain ⟨⟨c1, c2, c3⟩, c4⟩ := id c
    obtain ⟨x, hx, hx8, rfl⟩ := set_of h1.1.1 c1
    obtain ⟨g, hg, rfl⟩ := (hasP (n := V 1) (by have := h1.1.2.1; omega)).mp c2
    obtain ⟨t, ht, rfl⟩ := in01 (hi := 146096) (by decide) c3
    obtain ⟨iv1, f1, f2, f3⟩ := c_stand ht (jv := jv) h1
    have s1 : Scr iv jv iv1 jv := c_scr f2
    obtain ⟨iv2, F, M, L, g1, g2, g3, g4⟩ := c_deal (jv := jv) (agV_le V ht) hg hx (s1.sr h1) f3
    have s2 : Scr iv1 jv iv2 jv := ⟨fun k hk => g2 k (by omega), by rw [g2 72 (by omega)], by rw [g2 72 (by omega)], rfl, rfl⟩
    have s12 := s1.trans s2
    obtain ⟨iv3, e1, s3, e3⟩ := m_look ht (jv := jv) (s12.sr h1)
    have s13 := s12.trans s3
    obtain ⟨iv4, iv5, F', M', L', m1, m2, m3, m4, m5, m6⟩ := m_deal (jv := jv) (agV_le V ht) hg hx (s13.sr h1) e3
    have s15 := s13.trans m3
    rw [g4] at m5
    obtain ⟨rfl, rfl, rfl⟩ : M = M' ∧ L = L' ∧ F = F' := by simpa [Prod.mk.injEq] using m5
    have ds := deal_sum (w := whyN V (agV V t) g) 8 x 0 0 (fun _ => 0) hx8 (by decide) (fun i _ => Nat.zero_testBit i) (pc_le x) (by omega)
    rw [g4] at ds
    have p0 : pcN 0 = 0 := by decide +kernel
    rw [p0] at ds
    obtain ⟨q1, q2, q3⟩ := ds
    dsimp only at q1 q2 q3
    have pl := pc_le L
    generalize costN (whyN V (agV V t) g) x = C at *
    have n1 : ¬ k < 0 := Int32.not_lt.mpr c4.1
    have ci : f_X11_in k.toInt64 0 2 = 1 := by rw [f_in k 0 2 (LO := 0) (HI := 2) (by decide) (by decide), if_pos c4]
    by_cases k0 : k = 0
    · refine ⟨nI (pcN L), iv2, jv, hpOf iv5 jv, ?_, ?_, s15.inv h1 h2 h3 h4⟩
      · unfold f_X10_over
        rw [G_0_0, Option.bind_some, G_1_0, Option.bind_some, V_2, c_hasSet h1, Option.bind_some, if_pos c1, if_neg (by decide), V_0, c_isPlace h1, Option.bind_some, if_pos c.1.2, if_neg (by decide), if_neg n1, if_pos c4.2, G_0_5, Option.bind_some, V_60, f1, Option.bind_some, G_0_6, Option.bind_some, V_62, g1, Option.bind_some, if_pos k0, G_0_6, Option.bind_some, G_62_5, Option.bind_some, g3.2.1, pc_c L q3]
      · unfold f_X11_over
        rw [V_72, m_isLook (s12.sr h1), Option.bind_some, if_pos c.1, if_neg (by decide), ci, if_neg (by decide), V_72, e1, Option.bind_some, V_72, m1, Option.bind_some, V_72, m2, Option.bind_some, if_pos k0, G_72_20, Option.bind_some, a_82 _ _ hx8, Option.bind_some, m6, show (16 : Int32) = nI 16 by decide, pk_div (by omega) (by omega) (by omega), show C / 16 = pcN L by omega]
    · by_cases k1 : k = 1
      · refine ⟨nI M, iv2, jv, hpOf iv5 jv, ?_, ?_, s15.inv h1 h2 h3 h4⟩
        · unfold f_X10_over
          rw [G_0_0, Option.bind_some, G_1_0, Option.bind_some, V_2, c_hasSet h1, Option.bind_some, if_pos c1, if_neg (by decide), V_0, c_isPlace h1, Option.bind_some, if_pos c.1.2, if_neg (by decide), if_neg n1, if_pos c4.2, G_0_5, Option.bind_some, V_60, f1, Option.bind_some, G_0_6, Option.bind_some, V_62, g1, Option.bind_some, if_neg k0, if_pos k1, G_0_6, Option.bind_some, G_62_4, Option.bind_some, g3.1]
        · unfold f_X11_over
          rw [V_72, m_isLook (s12.sr h1), Option.bind_some, if_pos c.1, if_neg (by decide), ci, if_neg (by decide), V_72, e1, Option.bind_some, V_72, m1, Option.bind_some, V_72, m2, Option.bind_some, if_neg k0, if_pos k1, G_72_20, Option.bind_some, a_82 _ _ hx8, Option.bind_some, m6, show iR (nI C) 16 = nI (C % 16) from rem_n (m := 16) (by omega) (by omega) (by omega), show C % 16 = M by omega]
      · refine ⟨nI L, iv2, jv, hpOf iv5 jv, ?_, ?_, s15.inv h1 h2 h3 h4⟩
        · unfold f_X10_over
          rw [G_0_0, Option.bind_some, G_1_0, Option.bind_some, V_2, c_hasSet h1, Option.bind_some, if_pos c1, if_neg (by decide), V_0, c_isPlace h1, Option.bind_some, if_pos c.1.2, if_neg (by decide), if_neg n1, if_pos c4.2, G_0_5, Option.bind_some, V_60, f1, Option.bind_some, G_0_6, Option.bind_some, V_62, g1, Option.bind_some, if_neg k0, if_neg k1, G_0_6, Option.bind_some, G_62_5, Option.bind_some, g3.2.1]
        · unfold f_X11_over
          rw [V_72, m_isLook (s12.sr h1), Option.bind_some, if_pos c.1, if_neg (by decide), ci, if_neg (by decide), V_72, e1, Option.bind_some, V_72, m1, Option.bind_some, V_72, m2, Option.bind_some, if_neg k0, if_neg k1, G_72_21, Option.bind_some, m4.2.1]
  · refine both_bad h1 h2 h3 h4 (t := -2) ?_ (fun iv' e => ?_)
    · by_cases c1 : 0 ≤ a ∧ a ≤ nI (2 ^ V 0 - 1)
      · by_cases c2 : (0 ≤ b ∧ b ≤ nI (V 1) - 1) ∧ 0 ≤ d ∧ d ≤ 146096
        · by_cases c3 : k < 0
          · simp [f_X10_over, G_0_0, G_1_0, V_2, c_hasSet h1, V_0, c_isPlace h1, c1, c2, c3, c_bad]
          · have c4 : ¬ k ≤ 2 := fun h => c ⟨⟨c1, c2⟩, nlt c3, h⟩
            simp [f_X10_over, G_0_0, G_1_0, V_2, c_hasSet h1, V_0, c_isPlace h1, c1, c2, c3, c4, c_bad]
        · simp [f_X10_over, G_0_0, G_1_0, V_2, c_hasSet h1, V_0, c_isPlace h1, c1, c2, c_bad]
      · simp [f_X10_over, G_0_0, G_1_0, V_2, c_hasSet h1, V_0, c1, c_bad]
    · unfold f_X11_over
      rw [V_72, m_isLook (m_sr h1 e), Option.bind_some, V_72, m_bad, Option.bind_some, f_in k 0 2 (LO := 0) (HI := 2) (by decide) (by decide)]
      by_cases c1 : (0 ≤ a ∧ a ≤ nI (2 ^ V 0 - 1)) ∧ (0 ≤ b ∧ b ≤ nI (V 1) - 1) ∧ 0 ≤ d ∧ d ≤ 146096
      · have c2 : ¬ (0 ≤ k ∧ k ≤ 2) := fun h => c ⟨c1, h⟩
        rw [if_pos c1, if_neg (by decide), if_neg c2, if_pos rfl]
      · rw [if_neg c1, if_pos rfl]
theorem op_parts (a b d k : Int32) : OpOK (f_X10_parts 0 a b d k) (f_X11_parts 72 a b d k) := by
  rintro hp ⟨iv, jv, V, W, Y, rfl, h1, h2, h3, h4⟩
  by_cases c : ((0 ≤ a ∧ a ≤ nI (2 ^ V 0 - 1)) ∧ (0 ≤ b ∧ b ≤ nI (V 1) - 1) ∧ 0 ≤ d ∧ d ≤ 146096) ∧ 0 ≤ k
  · obtain ⟨⟨c1, c2, c3⟩, c4⟩ := id c
    obtain ⟨x, hx, hx8, rfl⟩ := set_of h1.1.1 c1
    obtain ⟨g, hg, rfl⟩ := (hasP (n := V 1) (by have := h1.1.2.1; omega)).mp c2
    obtain ⟨t, ht, rfl⟩ := in01 (hi := 146096) (by decide) c3
    obtain ⟨i, hi, rfl⟩ := nI_of (Int32.not_lt.mpr c4)
    obtain ⟨iv1, f1, f2, f3⟩ := c_stand ht (jv := jv) h1
    have s1 : Scr iv jv iv1 jv := c_scr f2
    obtain ⟨iv2, F, M, L, g1, g2, g3, g4⟩ := c_deal (jv := jv) (agV_le V ht) hg hx (s1.sr h1) f3
    have s2 : Scr iv1 jv iv2 jv := ⟨fun k hk => g2 k (by omega), by rw [g2 72 (by omega)], by rw [g2 72 (by omega)], rfl, rfl⟩
    have s12 := s1.trans s2
    obtain ⟨iv3, e1, s3, e3⟩ := m_look ht (jv := jv) (s12.sr h1)
    have s13 := s12.trans s3
    obtain ⟨iv4, iv5, F', M', L', m1, m2, m3, m4, m5, m6⟩ := m_deal (jv := jv) (agV_le V ht) hg hx (s13.sr h1) e3
    have s15 := s13.trans m3
    rw [g4] at m5
    obtain ⟨rfl, rfl, rfl⟩ : M = M' ∧ L = L' ∧ F = F' := by simpa [Prod.mk.injEq] using m5
    have ds := deal_sum (w := whyN V (agV V t) g) 8 x 0 0 (fun _ => 0) hx8 (by decide) (fun i _ => Nat.zero_testBit i) (pc_le x) (by omega)
    rw [g4] at ds
    obtain ⟨q1, q2, q3⟩ := ds
    dsimp only at q2
    refine ⟨if M ≤ i then -5 else nI (F i), iv2, jv, hpOf iv5 jv, ?_, ?_, s15.inv h1 h2 h3 h4⟩
    · unfold f_X10_parts
      rw [G_0_0, Option.bind_some, G_1_0, Option.bind_some, V_2, c_hasSet h1, Option.bind_some, if_pos c1, if_neg (by decide), V_0, c_isPlace h1, Option.bind_some, if_pos c.1.2, if_neg (by decide), if_pos c4, G_0_5, Option.bind_some, V_60, f1, Option.bind_some, G_0_6, Option.bind_some, V_62, g1, Option.bind_some, G_0_6, Option.bind_some, G_62_4, Option.bind_some, g3.1, iteE (by omega) (by omega)]
      by_cases z : M ≤ i
      · rw [if_pos z, if_pos z]
      · rw [if_neg z, if_neg z, Option.bind_some, G_62_3, Option.bind_some, a_65 _ _ (by omega), Option.bind_some, g3.2.2 i (by omega)]
    · unfold f_X11_parts
      rw [V_72, m_isLook (s12.sr h1), Option.bind_some, if_pos c.1, if_neg (by decide), if_pos c4, V_72, e1, Option.bind_some, V_72, m1, Option.bind_some, V_72, m2, Option.bind_some, G_72_22, Option.bind_some, m4.1, iteE (by omega) (by omega)]
      by_cases z : M ≤ i
      · rw [if_pos z, if_pos z]
      · rw [if_neg z, if_neg z, G_72_23, Option.bind_some, a_83 _ _ (by omega), Option.bind_some, m4.2.2 i (by omega)]
  · refine both_bad h1 h2 h3 h4 (t := -10) ?_ (fun iv' e => ?_)
    · by_cases c1 : 0 ≤ a ∧ a ≤ nI (2 ^ V 0 - 1)
      · by_cases c2 : (0 ≤ b ∧ b ≤ nI (V 1) - 1) ∧ 0 ≤ d ∧ d ≤ 146096
        · have c4 : ¬ 0 ≤ k := fun h => c ⟨⟨c1, c2⟩, h⟩
          simp [f_X10_parts, G_0_0, G_1_0, V_2, c_hasSet h1, V_0, c_isPlace h1, c1, c2, c4, c_refAs]
        · simp [f_X10_parts, G_0_0, G_1_0, V_2, c_hasSet h1, V_0, c_isPlace h1, c1, c2, c_refAs]
      · simp [f_X10_parts, G_0_0, G_1_0, V_2, c_hasSet h1, V_0, c1, c_refAs]
    · unfold f_X11_parts
      rw [V_72, m_isLook (m_sr h1 e), Option.bind_some, V_72, m_bad, Option.bind_some]
      by_cases c1 : (0 ≤ a ∧ a ≤ nI (2 ^ V 0 - 1)) ∧ (0 ≤ b ∧ b ≤ nI (V 1) - 1) ∧ 0 ≤ d ∧ d ≤ 146096
      · have c2 : ¬ 0 ≤ k := fun h => c ⟨c1, h⟩
        rw [if_pos c1, if_neg (by decide), if_neg c2]
      · rw [if_neg c1, if_pos rfl]
