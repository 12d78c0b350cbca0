/-! PARTS: the reference's tables -/
def MT1 (iv : Nat → Nat → Int32) (w : Nat → Nat) (all m : Nat) : Prop := ∀ s, 0 < s → s < m → iv 81 s = bI (dif s all == 0 && w s == 0)
def MT2 (iv : Nat → Nat → Int32) (w : Nat → Nat) (all m : Nat) : Prop := iv 82 0 = 0 ∧ ∀ s, 0 < s → s < m → dif s all = 0 → iv 82 s = nI (costN w s)
theorem MT2.c0 {iv : Nat → Nat → Int32} {w : Nat → Nat} {all m s : Nat} (h : MT2 iv w all m) (hs : s < m) (hp : dif s all = 0) : iv 82 s = nI (costN w s) := by
  rcases Nat.eq_zero_or_pos s with e | e
  · subst e; rw [h.1, cost_0]; rfl
  · exact h.2 s e hs hp
theorem isPartN {a b : Nat} (ha : a < 256) {α : Type} {x y : α} : (if f_X11_isPart (nI a) (nI b) = 0 then x else y) = if dif a b = 0 then y else x := by
  have := dif_le a b
  unfold f_X11_isPart
  rw [dif_n, nI_0I (by omega)]
  by_cases c : dif a b = 0
  · rw [if_pos c, if_pos c, if_neg (by decide)]
  · rw [if_neg c, if_neg c, if_pos rfl]
section LAY
variable {V ag : Nat → Nat}
theorem m_lay1 {jv : Nat → Nat → Int64} (hag : ∀ p, p < V 0 → ag p ≤ 400) {g : Nat} (hg : g < V 1) {all : Nat} (hall : all < 2 ^ V 0) : ∀ (j n s : Nat) (iv : Nat → Nat → Int32), 1 ≤ s → s + j = all + 1 → SR 1 73 iv V → MAg iv V ag → MT1 iv (whyN V ag g) all s → ∃ iv', f_X11_layParts_L2 (n + j + 1) 72 (nI all) (nI g) (nI s) (hpOf iv jv) = (uI (hpOf iv' jv) 82 0 0).bind (fun hp2 => f_X11_layParts_L50 NN 72 (nI all) 1 hp2) ∧ (∀ k, k ≠ 81 → iv' k = iv k) ∧ MT1 iv' (whyN V ag g) all (all + 1) := by
  intro j
  induction j with
  | zero =>
    intro n s iv h1 e h ha ht
    have k8 := V0_256 h
    refine ⟨iv, ?_, fun _ _ => rfl, by rw [← show s = all + 1 by omega]; exact ht⟩
    rw [f_X11_layParts_L2, iteL (by omega) (by omega), if_pos (by omega), G_72_20, Option.bind_some]
  | succ j ih =>
    intro n s iv h1 e h ha ht
    have k8 := V0_256 h
    have wl := why_le V ag g s
    have J : ∀ z : Int32, (z = 0 ∨ z = 1) → z = bI (dif s all == 0 && whyN V ag g s == 0) → ∃ iv', (uZ (hpOf iv jv) 81 (nI s) z).bind (fun hp => f_X11_layParts_L2 (n + j + 1) 72 (nI all) (nI g) (nI s + 1) hp) = (uI (hpOf iv' jv) 82 0 0).bind (fun hp2 => f_X11_layParts_L50 NN 72 (nI all) 1 hp2) ∧ (∀ k, k ≠ 81 → iv' k = iv k) ∧ MT1 iv' (whyN V ag g) all (all + 1) := by
      intro z h01 hz
      have nz : nZ z = z := by rcases h01 with q | q <;> subst q <;> decide +kernel
      rw [u_81 _ _ (by omega), Option.bind_some, nz, nI_1]
      obtain ⟨iv', g1, g2, g3⟩ := ih n (s + 1) (up iv 81 s z) (by omega) (by omega) ((scr_up (jv := jv) 81 s _ (by omega)).sr h) (fun p hp => by rw [up_ne _ _ _ (by decide)]; exact ha p hp) (fun x a b => by
        by_cases ex : x = s
        · subst ex; rw [up_at]; exact hz
        · rw [up_in _ _ ex]; exact ht x a (by omega))
      exact ⟨iv', g1, fun k a => by rw [g2 k a, up_ne _ _ _ a], g3⟩
    rw [show n + (j + 1) + 1 = (n + j + 1) + 1 by omega, f_X11_layParts_L2, iteL (by omega) (by omega), if_neg (by omega), G_72_19, Option.bind_some, isPartN (by omega), V_72, m_why h ha hag (by omega) hg, Option.bind_some, nI_0I (by omega)]
    by_cases c : dif s all = 0
    · rw [if_pos c]
      by_cases c2 : whyN V ag g s = 0
      · rw [if_pos c2]; exact J 1 (Or.inr rfl) (by rw [c, c2]; rfl)
      · rw [if_neg c2]; exact J 0 (Or.inl rfl) (by rw [show (whyN V ag g s == 0) = false from beq_false_of_ne c2, Bool.and_false]; rfl)
    · rw [if_neg c]; exact J 0 (Or.inl rfl) (by rw [show (dif s all == 0) = false from beq_false_of_ne c, Bool.false_and]; rfl)
theorem m_inn {jv : Nat → Nat → Int64} {w : Nat → Nat} {all s : Nat} (hall : all < 256) (hs : s ≤ all) (h0 : s ≠ 0) (hp : dif s all = 0) (k50 : Nat → Int32 → Int32 → PH → Option PH) : ∀ (j n t r : Nat) (iv : Nat → Nat → Int32), 1 ≤ t → t + j = s + 1 → MT1 iv w all (all + 1) → MT2 iv w all s → iv 82 s = nI r → r ≤ 10000 → MinOf (16 + costN w (dif s (2 ^ lsN s))) (fun u => u < t ∧ Good w s u) (fun u => 1 + costN w (dif s u)) r → f_X11_layParts_L94 k50 (n + j + 1) 72 (nI all) (nI s) (nI (lsN s)) (nI t) (hpOf iv jv) = k50 72 (nI all) (nI (s + 1)) (hpOf (up iv 82 s (nI (costN w s))) jv) := by
  have h8 : s < 256 := by omega
  obtain ⟨l1, l2⟩ := ls_ok s h8 h0
  intro j
  induction j with
  | zero =>
    intro n t r iv h1 e t1 t2 hr hr2 hm
    have er : r = costN w s := by
      refine (hm.same (R := Good w s) (fun u => ?_)).uniq (cost_min w h8 h0) rfl (fun _ _ => rfl)
      exact ⟨fun q => ⟨by have := part_le q.1 q.2.1; omega, q⟩, fun q => q.2⟩
    rw [f_X11_layParts_L94, iteL (by omega) (by omega), if_pos (by omega), nI_1, ← er, up_same hr]
  | succ j ih =>
    intro n t r iv h1 e t1 t2 hr hr2 hm
    have t8 : t < 256 := by omega
    have keep : ¬ Good w s t → f_X11_layParts_L94 k50 (n + j + 1) 72 (nI all) (nI s) (nI (lsN s)) (nI t + 1) (hpOf iv jv) = k50 72 (nI all) (nI (s + 1)) (hpOf (up iv 82 s (nI (costN w s))) jv) := by
      intro ng
      rw [nI_1]
      refine ih n (t + 1) r iv (by omega) (by omega) t1 t2 hr hr2 (hm.same (fun u => ?_))
      constructor
      · rintro ⟨a, b⟩
        rcases Nat.lt_or_ge u t with q | q
        · exact ⟨q, b⟩
        · exact absurd (by rw [← show u = t by omega]; exact b) ng
      · rintro ⟨a, b⟩; exact ⟨by omega, b⟩
    have mv := t1 t (by omega) (by omega)
    have xd := dif_le s t
    rw [show n + (j + 1) + 1 = (n + j + 1) + 1 by omega, f_X11_layParts_L94, iteL (by omega) (by omega), if_neg (by omega), isPartN t8, hasI t8 l2, G_72_19, Option.bind_some, a_81 _ _ t8, Option.bind_some, mv, bI_0, G_72_20, Option.bind_some, dif_n, a_82 _ _ (by omega), Option.bind_some, Option.bind_some, a_82 _ _ h8, Option.bind_some, Option.bind_some, Option.bind_some, a_82 _ _ (show dif s t < 256 by omega), Option.bind_some, hr]
    by_cases c1 : dif t s = 0
    · rw [if_pos c1]
      cases c2 : t.testBit (lsN s)
      · rw [if_neg (by decide)]; exact keep (fun q => by have := q.2.2.1; rw [c2] at this; cases this)
      · rw [if_pos rfl, show dif t all = 0 from part_tr t8 h8 c1 hp]
        by_cases c3 : w t = 0
        · have gd : Good w s t := ⟨t8, c1, c2, c3⟩
          have lt := good_lt h8 h0 gd
          have cv : iv 82 (dif s t) = nI (costN w (dif s t)) := t2.c0 lt (part_tr (by omega) h8 (part_dif h8) hp)
          have cb := cost_b w (s := dif s t) (by omega)
          have ms := hm.step (R := fun u => u < t + 1 ∧ Good w s u) (z := t) (fun u => by
            constructor
            · rintro ⟨a, b⟩
              rcases Nat.lt_or_ge u t with q | q
              · exact Or.inl ⟨q, b⟩
              · exact Or.inr (by omega)
            · rintro (⟨a, b⟩ | q)
              · exact ⟨by omega, b⟩
              · subst q; exact ⟨by omega, gd⟩)
          rw [c3, cv, nI_1, iteE (by omega) (by omega), u_82 _ _ h8, Option.bind_some, nI_1]
          simp only [BEq.rfl, Bool.and_self, if_true]
          by_cases c4 : r ≤ costN w (dif s t) + 1
          · rw [if_pos c4]
            rw [Nat.min_eq_left (by omega)] at ms
            exact ih n (t + 1) r iv (by omega) (by omega) t1 t2 hr hr2 ms
          · rw [if_neg c4]
            rw [Nat.min_eq_right (by omega)] at ms
            have := ih n (t + 1) (costN w (dif s t) + 1) (up iv 82 s (nI (costN w (dif s t) + 1))) (by omega) (by omega) (fun x a b => by rw [up_ne _ _ _ (by decide)]; exact t1 x a b) ⟨by rw [up_in _ _ (by omega)]; exact t2.1, fun x a b p => by rw [up_in _ _ (by omega)]; exact t2.2 x a b p⟩ (up_at _ _ _ _) (by omega) (by rw [Nat.add_comm (costN w (dif s t)) 1]; exact ms)
            rw [this, up_up]
        · have kp := keep (fun q => c3 q.2.2.2)
          rw [show (w t == 0) = false from beq_false_of_ne c3, Bool.and_false, if_neg (by decide)]
          exact kp
    · rw [if_neg c1]; exact keep (fun q => c1 q.2.1)
theorem m_lay2 {jv : Nat → Nat → Int64} {w : Nat → Nat} {all : Nat} (hall : all < 256) : ∀ (j n s : Nat) (iv : Nat → Nat → Int32), 1 ≤ s → s + j = all + 1 → MT1 iv w all (all + 1) → MT2 iv w all s → ∃ iv', f_X11_layParts_L50 (n + j + 1) 72 (nI all) (nI s) (hpOf iv jv) = some (hpOf iv' jv) ∧ (∀ k, k ≠ 82 → iv' k = iv k) ∧ MT2 iv' w all (all + 1) := by
  intro j
  induction j with
  | zero =>
    intro n s iv h1 e t1 t2
    refine ⟨iv, ?_, fun _ _ => rfl, by rw [← show s = all + 1 by omega]; exact t2⟩
    rw [f_X11_layParts_L50, iteL (by omega) (by omega), if_pos (by omega)]
  | succ j ih =>
    intro n s iv h1 e t1 t2
    have h8 : s < 256 := by omega
    have h0 : s ≠ 0 := by omega
    obtain ⟨l1, l2⟩ := ls_ok s h8 h0
    have ol := dif_ls h8 h0
    rw [show n + (j + 1) + 1 = (n + j + 1) + 1 by omega, f_X11_layParts_L50, iteL (by omega) (by omega), if_neg (by omega), isPartN h8, ls_m s h8 h0, Option.bind_some, G_72_20, Option.bind_some, Option.bind_some, iL_n (by omega), dif_n, a_82 _ _ (by omega), Option.bind_some]
    by_cases c : dif s all = 0
    · have cv : iv 82 (dif s (2 ^ lsN s)) = nI (costN w (dif s (2 ^ lsN s))) := t2.c0 ol (part_tr (by omega) h8 (part_dif h8) c)
      have cb := cost_b w (s := dif s (2 ^ lsN s)) (by omega)
      have inn := m_inn (jv := jv) (w := w) hall (by omega) h0 c (f_X11_layParts_L50 (n + j + 1)) s (199999 - s) 1 (16 + costN w (dif s (2 ^ lsN s))) (up iv 82 s (nI (16 + costN w (dif s (2 ^ lsN s))))) (by omega) (by omega) (fun x a b => by rw [up_ne _ _ _ (by decide)]; exact t1 x a b) ⟨by rw [up_in _ _ (by omega)]; exact t2.1, fun x a b p => by rw [up_in _ _ (by omega)]; exact t2.2 x a b p⟩ (up_at _ _ _ _) (by omega) (MinOf.none (by
        rintro t ⟨a, b⟩
        have tz : t = 0 := by omega
        have := b.2.2.1
        rw [tz, Nat.zero_testBit] at this; cases this))
      rw [show 199999 - s + s + 1 = NN by show _ = 200000; omega, show nI 1 = 1 by decide] at inn
      rw [if_pos c, cv, show (16 : Int32) = nI 16 by decide, nI_add, Nat.add_comm _ 16, u_82 _ _ h8, Option.bind_some, inn, up_up]
      obtain ⟨iv', g1, g2, g3⟩ := ih n (s + 1) (up iv 82 s (nI (costN w s))) (by omega) (by omega) (fun x a b => by rw [up_ne _ _ _ (by decide)]; exact t1 x a b) ⟨by rw [up_in _ _ (by omega)]; exact t2.1, fun x a b p => by
        by_cases ex : x = s
        · subst ex; exact up_at _ _ _ _
        · rw [up_in _ _ ex]; exact t2.2 x a (by omega) p⟩
      exact ⟨iv', g1, fun k a => by rw [g2 k a, up_ne _ _ _ a], g3⟩
    · rw [if_neg c, nI_1]
      exact ih n (s + 1) iv (by omega) (by omega) t1 ⟨t2.1, fun x a b p => t2.2 x a (by
        rcases Nat.lt_or_ge x s with q | q
        · exact q
        · exact absurd (by rw [← show x = s by omega]; exact p) c) p⟩
theorem m_lay {iv : Nat → Nat → Int32} {jv : Nat → Nat → Int64} (hag : ∀ p, p < V 0 → ag p ≤ 400) {g : Nat} (hg : g < V 1) {all : Nat} (hall : all < 2 ^ V 0) (h : SR 1 73 iv V) (ha : MAg iv V ag) : ∃ iv', f_X11_layParts 72 (nI all) (nI g) (hpOf iv jv) = some (hpOf iv' jv) ∧ (∀ k, k ≠ 81 → k ≠ 82 → iv' k = iv k) ∧ MT1 iv' (whyN V ag g) all (all + 1) ∧ MT2 iv' (whyN V ag g) all (all + 1) := by
  have k8 := V0_256 h
  unfold f_X11_layParts
  obtain ⟨iv1, f1, f2, f3⟩ := m_lay1 (jv := jv) hag hg hall all (199999 - all) 1 iv (by omega) (by omega) h ha (fun s a b => absurd b (by omega))
  have u0 : uI (hpOf iv1 jv) 82 0 0 = some (hpOf (up iv1 82 0 0) jv) := u_82 iv1 jv (i := 0) (by decide) 0
  rw [u0, Option.bind_some, show 199999 - all + all + 1 = NN by show _ = 200000; omega] at f1
  obtain ⟨iv2, g1, g2, g3⟩ := m_lay2 (jv := jv) (w := whyN V ag g) (show all < 256 by omega) all (199999 - all) 1 (up iv1 82 0 0) (by omega) (by omega) (fun x a b => by rw [up_ne _ _ _ (by decide)]; exact f3 x a b) ⟨up_at _ _ _ _, fun s a b _ => absurd b (by omega)⟩
  rw [show 199999 - all + all + 1 = NN by show _ = 200000; omega, show nI 1 = 1 by decide] at g1
  refine ⟨iv2, by rw [← show nI 1 = 1 by decide, f1]; exact g1, fun k a b => by rw [g2 k b, up_ne _ _ _ b, f2 k a], fun x a b => ?_, g3⟩
  rw [g2 81 (by decide), up_ne _ _ _ (by decide)]; exact f3 x a b
end LAY
