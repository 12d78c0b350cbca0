/-! ITEMS -/
def numQ (W : Nat → Nat) (q : Nat) (lo hi : Int32) : Bool := decide ((tK W q = 2 ∧ tE W q - tS W q ≤ 4) ∧ lo ≤ nI (vl W q) ∧ nI (vl W q) ≤ hi)
theorem numQ_b {W : Nat → Nat} {q : Nat} {lo hi : Int32} : numQ W q lo hi = true ↔ numB W q lo hi := decide_eq_true_iff
theorem vl_r {W : Nat → Nat} {q lo hi : Nat} (hl : lo < 2 ^ 31) (hh : hi < 2 ^ 31) (h : numQ W q (nI lo) (nI hi) = true) : lo ≤ vl W q ∧ vl W q ≤ hi := by
  obtain ⟨⟨h1, h2⟩, h3, h4⟩ := numQ_b.mp h
  have v := vl_lt h1 h2
  exact ⟨(nI_leI hl (by omega)).mp h3, (nI_leI (by omega) hh).mp h4⟩
theorem vl_p {W : Nat → Nat} {q n : Nat} (hn : n ≤ 8) (h : numQ W q 0 (nI n - 1) = true) : vl W q < n := by
  obtain ⟨⟨h1, h2⟩, h3, h4⟩ := numQ_b.mp h
  have v := vl_lt h1 h2
  obtain ⟨p, hp, e⟩ := (hasP hn).mp ⟨h3, h4⟩
  rw [nI_eq (by omega) (by omega)] at e
  omega
theorem sm_le : ∀ l : Bool, ∀ m, m < 13 → 1 ≤ m → ∀ d, d < 32 → d ≤ mlN l m → smN l m + d ≤ 365 + (if l = true then 1 else 0) := by decide +kernel
theorem day_le {y m d : Nat} (hy : 1800 ≤ y) (hy2 : y ≤ 2199) (hm : 1 ≤ m) (hm2 : m ≤ 12) (hd2 : d ≤ mlN (lpN y) m) : fdN y + smN (lpN y) m + d - 1 ≤ 146096 := by
  have h1 := sm_le (lpN y) m (by omega) hm d (by have := ml_le (lpN y) m; omega) hd2
  have h2 := fds (y := y) hy (by omega)
  have h3 := fd_le (x := y + 1) (y := 2200) (by omega) (by omega) (by omega)
  rw [fd_400] at h3
  omega
def perN (W R : Nat → Nat) (q : Nat) : Bool × Nat × (Nat → Nat) :=
  if 8 ≤ R 0 then (false, q, R) else
  if numQ W (tE W q) 1800 2199 = true then
    (if numQ W (tE W (tE W q)) 1 12 = true then
      (if numQ W (tE W (tE W (tE W q))) 1 (nI (mlN (lpN (vl W (tE W q))) (vl W (tE W (tE W q))))) = true then (true, tE W (tE W (tE W q)), addP R (fdN (vl W (tE W q)) + smN (lpN (vl W (tE W q))) (vl W (tE W (tE W q))) + vl W (tE W (tE W (tE W q))) - 1)) else (false, tE W (tE W (tE W q)), R))
     else (false, tE W (tE W q), R))
  else (false, tE W q, R)
def gatN (W R : Nat → Nat) (q : Nat) : Bool × Nat × (Nat → Nat) :=
  if 4 ≤ R 1 then (false, q, R) else
  if numQ W (tE W q) 0 4 = true then
    (if numQ W (tE W (tE W q)) 1 8 = true then (true, tE W (tE W q), addG R (vl W (tE W q)) (vl W (tE W (tE W q)))) else (false, tE W (tE W q), R))
  else (false, tE W q, R)
def tieN (W R : Nat → Nat) (o q : Nat) : Bool × Nat × (Nat → Nat) :=
  if numQ W (tE W q) 0 (nI (R 0) - 1) = true then
    (if numQ W (tE W (tE W q)) 0 (nI (R 0) - 1) = true then (if vl W (tE W (tE W q)) = vl W (tE W q) then (false, tE W (tE W q), R) else (true, tE W (tE W q), addT R o (vl W (tE W q)) (vl W (tE W (tE W q))))) else (false, tE W (tE W q), R))
  else (false, tE W q, R)
def conN (W R : Nat → Nat) (q : Nat) : Bool × Nat × (Nat → Nat) :=
  if wdQ W 0 q = true then perN W R q else if wdQ W 1 q = true then gatN W R q else if wdQ W 2 q = true then tieN W R 13 q else if wdQ W 3 q = true then tieN W R 21 q else (false, q, R)
def okI (b : Bool) : Int32 := if b then 1 else 0
def COut (W : Nat → Nat) (iv iv' : Nat → Nat → Int32) (o : Bool × Nat × (Nat → Nat)) : Prop := (∀ k, (k < 51 ∨ 59 < k) → iv' k = iv k) ∧ CT W iv' o.2.1 ∧ o.2.1 ≤ W 2 ∧ (o.1 = true → DC iv' o.2.2)
theorem DC.fr {iv iv' : Nat → Nat → Int32} {R : Nat → Nat} (h : DC iv R) (e : ∀ k, 51 ≤ k → k ≤ 58 → iv' k = iv k) : DC iv' R := by
  unfold DC at h ⊢
  rw [e 51 (by decide) (by decide), e 52 (by decide) (by decide), e 53 (by decide) (by decide), e 54 (by decide) (by decide), e 55 (by decide) (by decide), e 56 (by decide) (by decide), e 57 (by decide) (by decide), e 58 (by decide) (by decide)]; exact h
theorem ite4 {α : Type} {x : Nat} {a b : α} (hx : x < 2 ^ 31) : (if (4 : Int32) ≤ nI x then a else b) = (if 4 ≤ x then a else b) := by
  rw [show (4 : Int32) = nI 4 by decide, iteE (by decide) hx]
section IT
variable {W R : Nat → Nat} {iv : Nat → Nat → Int32} {jv : Nat → Nat → Int64}
theorem c_nq (h2 : SB 1 73 iv W) {q : Nat} (hq : q ≤ W 2) (h3 : iv 59 3 = nI q) (lo hi : Int32) : ∃ iv', f_X6_takeNumber 59 lo hi (hpOf iv jv) = some (okI (numQ W q lo hi), hpOf iv' jv) ∧ (∀ k, k ≠ 59 → iv' k = iv k) ∧ CT W iv' q ∧ (numQ W q lo hi = true → iv' 59 5 = nI (vl W q)) := by
  obtain ⟨iv', x, g1, g2, g3, g4⟩ := c_num (jv := jv) h2 hq h3 lo hi
  refine ⟨iv', ?_, g2, g3, fun h => ?_⟩
  · rcases g4 with ⟨a, b, -⟩ | ⟨a, b⟩
    · rw [g1, b, numQ_b.mpr a]; rfl
    · rw [g1, b]
      cases e : numQ W q lo hi
      · rfl
      · exact absurd (numQ_b.mp e) a
  · rcases g4 with ⟨a, b, c⟩ | ⟨a, b⟩
    · exact c
    · exact absurd (numQ_b.mp h) a
theorem okI_0 {α : Type} (b : Bool) {x y : α} : (if okI b = 0 then x else y) = if b = true then y else x := by cases b <;> rfl
theorem c_per (h2 : SB 1 73 iv W) {q : Nat} (hq : q ≤ W 2) (ct : CT W iv q) (hk : Vkr R) (hd : DC iv R) : ∃ iv', f_X6_takePerson 59 (hpOf iv jv) = some (okI (perN W R q).1, hpOf iv' jv) ∧ COut W iv iv' (perN W R q) := by
  have k0 := hk.1
  have p0 : iv 51 0 = nI (R 0) := hd.1.1
  obtain ⟨-, q1, -⟩ := tE_b hq
  obtain ⟨-, q2, -⟩ := tE_b q1
  obtain ⟨-, q3, -⟩ := tE_b q2
  unfold f_X6_takePerson perN
  rw [G_59_1, Option.bind_some, G_51_0, Option.bind_some, p0, show (8 : Int32) = nI 8 by decide, iteE (by decide) (by omega)]
  by_cases c8 : 8 ≤ R 0
  · rw [if_pos c8, if_pos c8]
    exact ⟨iv, rfl, fun _ _ => rfl, ct, hq, fun h => by cases h⟩
  · rw [if_neg c8, if_neg c8]
    obtain ⟨i1, a1, a2, a3, a4⟩ := c_nq (jv := jv) h2 q1 ct.2.1 1800 2199
    rw [V_59, a1, Option.bind_some]
    dsimp only
    rw [okI_0]
    by_cases c1 : numQ W (tE W q) 1800 2199 = true
    · rw [if_pos c1, if_pos c1]
      obtain ⟨y1, y2⟩ := vl_r (lo := 1800) (hi := 2199) (by decide) (by decide) c1
      have s1 : SB 1 73 i1 W := sb59 h2 (fun k hk => a2 k (by omega))
      obtain ⟨i2, b1, b2, b3, b4⟩ := c_nq (jv := jv) s1 q2 a3.2.1 1 12
      rw [G_59_5, Option.bind_some, a4 c1, V_59, b1, Option.bind_some]
      dsimp only
      rw [okI_0]
      by_cases c2 : numQ W (tE W (tE W q)) 1 12 = true
      · rw [if_pos c2, if_pos c2]
        obtain ⟨m1, m2⟩ := vl_r (lo := 1) (hi := 12) (by decide) (by decide) c2
        have s2 : SB 1 73 i2 W := sb59 s1 (fun k hk => b2 k (by omega))
        obtain ⟨i3, d1, d2, d3, d4⟩ := c_nq (jv := jv) s2 q3 b3.2.1 1 (nI (mlN (lpN (vl W (tE W q))) (vl W (tE W (tE W q)))))
        rw [G_59_5, Option.bind_some, b4 c2, dmc y1 (by omega) (by omega) m1, Option.bind_some, V_59, d1, Option.bind_some]
        dsimp only
        rw [okI_0]
        have fr : ∀ k, k ≠ 59 → i3 k = iv k := fun k h => by rw [d2 k h, b2 k h, a2 k h]
        by_cases c3 : numQ W (tE W (tE W (tE W q))) 1 (nI (mlN (lpN (vl W (tE W q))) (vl W (tE W (tE W q))))) = true
        · rw [if_pos c3, if_pos c3]
          have ml := ml_le (lpN (vl W (tE W q))) (vl W (tE W (tE W q)))
          obtain ⟨e1, e2⟩ := vl_r (lo := 1) (by decide) (by omega) c3
          have dl := day_le y1 y2 m1 m2 e2
          obtain ⟨i4, g1, g2, g3⟩ := c_adP (jv := jv) (hd.fr (iv' := i3) (fun k x y => fr k (by omega))) (by omega) dl
          rw [G_59_1, Option.bind_some, G_59_5, Option.bind_some, d4 c3, num_c y1 (by omega) (by omega) m1 e1 e2, Option.bind_some, V_51, g1, Option.bind_some]
          refine ⟨i4, rfl, fun k h => by rw [g2 k (by omega), fr k (by omega)], ?_, q3, fun _ => g3⟩
          unfold CT
          rw [g2 59 (by decide)]; exact d3
        · rw [if_neg c3, if_neg c3]
          exact ⟨i3, rfl, fun k h => fr k (by omega), d3, q3, fun h => by cases h⟩
      · rw [if_neg c2, if_neg c2]
        exact ⟨i2, rfl, fun k h => by rw [b2 k (by omega), a2 k (by omega)], b3, q2, fun h => by cases h⟩
    · rw [if_neg c1, if_neg c1]
      exact ⟨i1, rfl, fun k h => a2 k (by omega), a3, q1, fun h => by cases h⟩
theorem c_gat (h2 : SB 1 73 iv W) {q : Nat} (hq : q ≤ W 2) (ct : CT W iv q) (hk : Vkr R) (hd : DC iv R) : ∃ iv', f_X6_takeGate 59 (hpOf iv jv) = some (okI (gatN W R q).1, hpOf iv' jv) ∧ COut W iv iv' (gatN W R q) := by
  have k1 := hk.2.1
  have p1 : iv 51 1 = nI (R 1) := hd.1.2
  obtain ⟨-, q1, -⟩ := tE_b hq
  obtain ⟨-, q2, -⟩ := tE_b q1
  unfold f_X6_takeGate gatN
  rw [G_59_1, Option.bind_some, G_51_1, Option.bind_some, p1, ite4 (by omega)]
  by_cases c8 : 4 ≤ R 1
  · rw [if_pos c8, if_pos c8]
    exact ⟨iv, rfl, fun _ _ => rfl, ct, hq, fun h => by cases h⟩
  · rw [if_neg c8, if_neg c8]
    obtain ⟨i1, a1, a2, a3, a4⟩ := c_nq (jv := jv) h2 q1 ct.2.1 0 4
    rw [V_59, a1, Option.bind_some]
    dsimp only
    rw [okI_0]
    by_cases c1 : numQ W (tE W q) 0 4 = true
    · rw [if_pos c1, if_pos c1]
      have s1 : SB 1 73 i1 W := sb59 h2 (fun k hk => a2 k (by omega))
      obtain ⟨i2, b1, b2, b3, b4⟩ := c_nq (jv := jv) s1 q2 a3.2.1 1 8
      rw [G_59_5, Option.bind_some, a4 c1, V_59, b1, Option.bind_some]
      dsimp only
      rw [okI_0]
      have fr : ∀ k, k ≠ 59 → i2 k = iv k := fun k h => by rw [b2 k h, a2 k h]
      by_cases c2 : numQ W (tE W (tE W q)) 1 8 = true
      · rw [if_pos c2, if_pos c2]
        obtain ⟨i4, g1, g2, g3⟩ := c_adG (jv := jv) hk (hd.fr (iv' := i2) (fun k x y => fr k (by omega))) (by omega) (l := vl W (tE W q)) (s := vl W (tE W (tE W q)))
        rw [G_59_1, Option.bind_some, G_59_5, Option.bind_some, b4 c2, V_51, g1, Option.bind_some]
        refine ⟨i4, rfl, fun k h => by rw [g2 k (by omega) (by omega) (by omega), fr k (by omega)], ?_, q2, fun _ => g3⟩
        unfold CT
        rw [g2 59 (by decide) (by decide) (by decide)]; exact b3
      · rw [if_neg c2, if_neg c2]
        exact ⟨i2, rfl, fun k h => fr k (by omega), b3, q2, fun h => by cases h⟩
    · rw [if_neg c1, if_neg c1]
      exact ⟨i1, rfl, fun k h => a2 k (by omega), a3, q1, fun h => by cases h⟩
theorem c_tieI (h2 : SB 1 73 iv W) {q : Nat} (hq : q ≤ W 2) (ct : CT W iv q) (hk : Vkr R) (hs : SymR R) (hd : DC iv R) {k : Nat} (hk2 : k < 2) : ∃ iv', f_X6_takeTie 59 (55 + k) (hpOf iv jv) = some (okI (tieN W R (13 + 8 * k) q).1, hpOf iv' jv) ∧ COut W iv iv' (tieN W R (13 + 8 * k) q) := by
  have k0 := hk.1
  have p0 : iv 51 0 = nI (R 0) := hd.1.1
  obtain ⟨-, q1, -⟩ := tE_b hq
  obtain ⟨-, q2, -⟩ := tE_b q1
  unfold f_X6_takeTie tieN
  obtain ⟨i1, a1, a2, a3, a4⟩ := c_nq (jv := jv) h2 q1 ct.2.1 0 (nI (R 0) - 1)
  rw [G_59_1, Option.bind_some, G_51_0, Option.bind_some, p0, V_59, a1, Option.bind_some]
  dsimp only
  rw [okI_0]
  by_cases c1 : numQ W (tE W q) 0 (nI (R 0) - 1) = true
  · rw [if_pos c1, if_pos c1]
    have s1 : SB 1 73 i1 W := sb59 h2 (fun k hk => a2 k (by omega))
    have p0' : i1 51 0 = nI (R 0) := by rw [a2 51 (by decide)]; exact p0
    obtain ⟨i2, b1, b2, b3, b4⟩ := c_nq (jv := jv) s1 q2 a3.2.1 0 (nI (R 0) - 1)
    rw [G_59_5, Option.bind_some, a4 c1, G_59_1, Option.bind_some, G_51_0, Option.bind_some, p0', V_59, b1, Option.bind_some]
    dsimp only
    rw [okI_0]
    have fr : ∀ k, k ≠ 59 → i2 k = iv k := fun k h => by rw [b2 k h, a2 k h]
    by_cases c2 : numQ W (tE W (tE W q)) 0 (nI (R 0) - 1) = true
    · have v1 := vl_p k0 c1
      have v2 := vl_p k0 c2
      rw [if_pos c2, if_pos c2, G_59_5, Option.bind_some, b4 c2, iteQ (by omega) (by omega), Option.bind_some]
      by_cases c3 : vl W (tE W (tE W q)) = vl W (tE W q)
      · rw [if_pos c3, if_pos c3]
        exact ⟨i2, rfl, fun k h => fr k (by omega), b3, q2, fun h => by cases h⟩
      · obtain ⟨i4, x, g1, g2, g3⟩ := c_adT (jv := jv) hk hs (hd.fr (iv' := i2) (fun k x y => fr k (by omega))) hk2 v1 v2 c3
        rw [if_neg c3, if_neg c3, g1, Option.bind_some]
        refine ⟨i4, rfl, fun k h => by rw [g2 k (by omega), fr k (by omega)], ?_, q2, fun _ => g3⟩
        unfold CT
        rw [g2 59 (by omega)]; exact b3
    · rw [if_neg c2, if_neg c2]
      exact ⟨i2, rfl, fun k h => fr k (by omega), b3, q2, fun h => by cases h⟩
  · rw [if_neg c1, if_neg c1]
    exact ⟨i1, rfl, fun k h => a2 k (by omega), a3, q1, fun h => by cases h⟩
theorem zR_ok (b : Bool) : zR (okI b) = some (okI b) := by cases b <;> rfl
theorem c_con (h2 : SB 1 73 iv W) {q : Nat} (hq : q ≤ W 2) (ct : CT W iv q) (hk : Vkr R) (hs : SymR R) (hd : DC iv R) : ∃ iv', f_X6_takeContent 59 (hpOf iv jv) = some (okI (conN W R q).1, hpOf iv' jv) ∧ COut W iv iv' (conN W R q) := by
  have w : ∀ j, j < 4 → f_X6_isWord 59 j (hpOf iv jv) = some (okI (wdQ W j q)) := fun j hj => c_word h2 hq ct hj
  unfold f_X6_takeContent conN
  simp only [V_59, w 0 (by decide), w 1 (by decide), w 2 (by decide), w 3 (by decide), Option.bind_some, okI_0]
  by_cases c0 : wdQ W 0 q = true
  · obtain ⟨iv', g1, g2⟩ := c_per (jv := jv) h2 hq ct hk hd
    rw [if_pos c0, if_pos c0, g1, Option.bind_some]
    dsimp only
    rw [zR_ok, Option.bind_some]
    exact ⟨iv', rfl, g2⟩
  · rw [if_neg c0, if_neg c0]
    by_cases c1 : wdQ W 1 q = true
    · obtain ⟨iv', g1, g2⟩ := c_gat (jv := jv) h2 hq ct hk hd
      rw [if_pos c1, if_pos c1, g1, Option.bind_some]
      dsimp only
      rw [zR_ok, Option.bind_some]
      exact ⟨iv', rfl, g2⟩
    · rw [if_neg c1, if_neg c1]
      by_cases c2 : wdQ W 2 q = true
      · obtain ⟨iv', g1, g2⟩ := c_tieI (jv := jv) h2 hq ct hk hs hd (k := 0) (by decide)
        rw [if_pos c2, if_pos c2, G_59_1, Option.bind_some, G_51_5, Option.bind_some, show f_X6_takeTie 59 55 (hpOf iv jv) = _ from g1, Option.bind_some]
        dsimp only
        rw [zR_ok, Option.bind_some]
        exact ⟨iv', rfl, g2⟩
      · rw [if_neg c2, if_neg c2]
        by_cases c3 : wdQ W 3 q = true
        · obtain ⟨iv', g1, g2⟩ := c_tieI (jv := jv) h2 hq ct hk hs hd (k := 1) (by decide)
          rw [if_pos c3, if_pos c3, G_59_1, Option.bind_some, G_51_6, Option.bind_some, show f_X6_takeTie 59 56 (hpOf iv jv) = _ from g1, Option.bind_some]
          dsimp only
          rw [okI_0]
          refine ⟨iv', ?_, g2⟩
          cases (tieN W R (13 + 8 * 1) q).1 <;> rfl
        · rw [if_neg c3, if_neg c3]
          exact ⟨iv, rfl, fun _ _ => rfl, ct, hq, fun h => by cases h⟩
end IT
theorem con_ok {W R : Nat → Nat} {q : Nat} (hk : Vkr R) (hs : SymR R) (h : (conN W R q).1 = true) : Vkr (conN W R q).2.2 ∧ SymR (conN W R q).2.2 := by
  have k0 := hk.1
  have tie : ∀ o, (o = 13 ∨ o = 21) → (tieN W R o q).1 = true → Vkr (tieN W R o q).2.2 ∧ SymR (tieN W R o q).2.2 := by
    intro o ho h
    unfold tieN at h ⊢
    by_cases c1 : numQ W (tE W q) 0 (nI (R 0) - 1) = true
    · rw [if_pos c1] at h ⊢
      by_cases c2 : numQ W (tE W (tE W q)) 0 (nI (R 0) - 1) = true
      · rw [if_pos c2] at h ⊢
        by_cases c3 : vl W (tE W (tE W q)) = vl W (tE W q)
        · rw [if_pos c3] at h; cases h
        · rw [if_neg c3]
          exact ⟨vk_T hk ho c3 (vl_p k0 c1) (vl_p k0 c2), sym_T hk hs ho c3 (vl_p k0 c1) (vl_p k0 c2)⟩
      · rw [if_neg c2] at h; cases h
    · rw [if_neg c1] at h; cases h
  unfold conN at h ⊢
  by_cases c0 : wdQ W 0 q = true
  · rw [if_pos c0] at h ⊢
    unfold perN at h ⊢
    by_cases c8 : 8 ≤ R 0
    · rw [if_pos c8] at h; cases h
    · rw [if_neg c8] at h ⊢
      by_cases c1 : numQ W (tE W q) 1800 2199 = true
      · rw [if_pos c1] at h ⊢
        by_cases c2 : numQ W (tE W (tE W q)) 1 12 = true
        · rw [if_pos c2] at h ⊢
          by_cases c3 : numQ W (tE W (tE W (tE W q))) 1 (nI (mlN (lpN (vl W (tE W q))) (vl W (tE W (tE W q))))) = true
          · rw [if_pos c3]
            obtain ⟨y1, y2⟩ := vl_r (lo := 1800) (hi := 2199) (by decide) (by decide) c1
            obtain ⟨m1, m2⟩ := vl_r (lo := 1) (hi := 12) (by decide) (by decide) c2
            have ml := ml_le (lpN (vl W (tE W q))) (vl W (tE W (tE W q)))
            obtain ⟨e1, e2⟩ := vl_r (lo := 1) (by decide) (by omega) c3
            exact ⟨vk_P hk (by omega) (day_le y1 y2 m1 m2 e2), sym_P hs (by omega)⟩
          · rw [if_neg c3] at h; cases h
        · rw [if_neg c2] at h; cases h
      · rw [if_neg c1] at h; cases h
  · rw [if_neg c0] at h ⊢
    by_cases c1 : wdQ W 1 q = true
    · rw [if_pos c1] at h ⊢
      unfold gatN at h ⊢
      by_cases c8 : 4 ≤ R 1
      · rw [if_pos c8] at h; cases h
      · rw [if_neg c8] at h ⊢
        by_cases c2 : numQ W (tE W q) 0 4 = true
        · rw [if_pos c2] at h ⊢
          by_cases c3 : numQ W (tE W (tE W q)) 1 8 = true
          · rw [if_pos c3]
            obtain ⟨l1, l2⟩ := vl_r (lo := 0) (hi := 4) (by decide) (by decide) c2
            obtain ⟨e1, e2⟩ := vl_r (lo := 1) (hi := 8) (by decide) (by decide) c3
            exact ⟨vk_G hk (by omega) l2 e1 e2, sym_G hk hs (by omega)⟩
          · rw [if_neg c3] at h; cases h
        · rw [if_neg c2] at h; cases h
    · rw [if_neg c1] at h ⊢
      by_cases c2 : wdQ W 2 q = true
      · rw [if_pos c2] at h ⊢
        exact tie 13 (Or.inl rfl) h
      · rw [if_neg c2] at h ⊢
        by_cases c3 : wdQ W 3 q = true
        · rw [if_pos c3] at h ⊢
          exact tie 21 (Or.inr rfl) h
        · rw [if_neg c3] at h; cases h
