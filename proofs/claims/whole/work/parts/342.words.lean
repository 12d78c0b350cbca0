/-! WORDS -/
def twL : List (List Nat) := [[112, 101, 114, 115, 111, 110], [103, 97, 116, 101], [119, 105, 116, 104], [97, 112, 97, 114, 116]]
def tl (j : Nat) : Nat := (twL.getD j []).length
def tc (j i : Nat) : Nat := (twL.getD j []).getD i 0
theorem tw_l : ∀ j, j < 4 → sLn j = some (nI (tl j)) ∧ tl j ≤ 6 ∧ 1 ≤ tl j := by decide +kernel
theorem tw_c : ∀ j, j < 4 → ∀ i, i < 6 → i < tl j → sCh j (nI i) = some (nI (tc j i)) ∧ 97 ≤ tc j i ∧ tc j i ≤ 122 := by decide +kernel
def eqF (W : Nat → Nat) (s j : Nat) : Nat → Nat → Bool
  | 0, _ => true
  | n + 1, i => (W (77 + (s + i)) == tc j i) && eqF W s j n (i + 1)
theorem eqF_all {W : Nat → Nat} {s j : Nat} : ∀ n i, eqF W s j n i = true ↔ ∀ x, i ≤ x → x < i + n → W (77 + (s + x)) = tc j x := by
  intro n
  induction n with
  | zero => intro i; exact ⟨fun _ x a b => by omega, fun _ => rfl⟩
  | succ n ih =>
    intro i
    rw [eqF, Bool.and_eq_true_iff, ih (i + 1), beq_iff_eq]
    refine ⟨fun ⟨h1, h2⟩ x a b => ?_, fun h => ⟨h i (by omega) (by omega), fun x a b => h x (by omega) (by omega)⟩⟩
    by_cases e : x = i
    · rw [e]; exact h1
    · exact h2 x (by omega) (by omega)
def wdQ (W : Nat → Nat) (j q : Nat) : Bool := decide (tK W q = 1) && (decide (tE W q - tS W q = tl j) && eqF W (tS W q) j (tl j) 0)
section WORD
variable {W : Nat → Nat} {iv : Nat → Nat → Int32} {jv : Nat → Nat → Int64}
theorem c_wdL (h2 : SB 1 73 iv W) {q : Nat} (hq : q ≤ W 2) (ct : CT W iv q) {j : Nat} (hj : j < 4) (hl : tE W q - tS W q = tl j) : ∀ n N i, i + n = tl j → f_X6_isWord_L28 (N + n + 1) 59 j (nI i) (hpOf iv jv) = some (if eqF W (tS W q) j n i then 1 else 0) := by
  obtain ⟨b1, b2, b3⟩ := tE_b hq
  obtain ⟨l1, l2, l3⟩ := tw_l j hj
  have k2 := h2.1.1
  intro n
  induction n with
  | zero =>
    intro N i e
    rw [f_X6_isWord_L28, l1, Option.bind_some, iteE (by omega) (by omega), if_pos (by omega), eqF, if_pos rfl]
  | succ n ih =>
    intro N i e
    obtain ⟨c1, c2, c3⟩ := tw_c j hj i (by omega) (by omega)
    have bl := h2.1.2.1 (tS W q + i) (by omega)
    rw [show N + (n + 1) + 1 = (N + n + 1) + 1 by omega, f_X6_isWord_L28, l1, Option.bind_some, iteE (by omega) (by omega), if_neg (by omega), G_59_0, Option.bind_some, G_59_2, Option.bind_some, ct.1, nI_add, V_10, c_at h2 (by omega), Option.bind_some, if_pos (show tS W q + i < W 2 by omega), c1, Option.bind_some, iteQ (by omega) (by omega), nI_1, ih N (i + 1) (by omega), eqF]
    by_cases c : W (77 + (tS W q + i)) = tc j i
    · rw [if_pos c, c, beq_self_eq_true, Bool.true_and]
    · rw [if_neg c, show (W (77 + (tS W q + i)) == tc j i) = false by simp [c], Bool.false_and, if_neg Bool.false_ne_true]
theorem c_word (h2 : SB 1 73 iv W) {q : Nat} (hq : q ≤ W 2) (ct : CT W iv q) {j : Nat} (hj : j < 4) : f_X6_isWord 59 j (hpOf iv jv) = some (if wdQ W j q then 1 else 0) := by
  obtain ⟨b1, b2, b3⟩ := tE_b hq
  obtain ⟨l1, l2, l3⟩ := tw_l j hj
  have k2 := h2.1.1
  have kl := tK_le W q
  unfold f_X6_isWord wdQ
  rw [G_59_4, Option.bind_some, ct.2.2, show (if nI (tK W q) = 1 then _ else (some 0 : Option Int32)) = (if tK W q = 1 then _ else some 0) from by rw [show (1 : Int32) = nI 1 by decide, iteQ (by omega) (by decide)], G_59_3, Option.bind_some, G_59_2, Option.bind_some, ct.1, ct.2.1, pk_sub b1, l1, Option.bind_some, iteQ (by omega) (by omega)]
  by_cases c1 : tK W q = 1
  · rw [if_pos c1, decide_eq_true c1, Bool.true_and]
    by_cases c2 : tE W q - tS W q = tl j
    · have r := c_wdL (jv := jv) h2 hq ct hj c2 (tl j) (199999 - tl j) 0 (by omega)
      rw [← NNj (by omega), nI_0] at r
      rw [if_pos c2, decide_eq_true c2, Bool.true_and, r]
    · rw [if_neg c2, decide_eq_false c2, Bool.false_and, if_neg Bool.false_ne_true]
  · rw [if_neg c1, decide_eq_false c1, Bool.false_and, if_neg Bool.false_ne_true]
/-- the reference's words, as numbers -/
def wvN (W : Nat → Nat) (s : Nat) : Nat → Nat
  | 0 => 0
  | c + 1 => 27 * wvN W s c + (W (77 + (s + c)) - 96)
def cdN (j : Nat) : Nat → Nat
  | 0 => 0
  | c + 1 => 27 * cdN j c + (tc j c - 96)
theorem wv_ok {s : Nat} : ∀ c, (∀ i, i < c → kbN (W (77 + (s + i))) = 1) → c ≤ 8 → wdI W s c = lN (wvN W s c) ∧ wvN W s c < 27 ^ c := by
  intro c
  induction c with
  | zero => intro _ _; exact ⟨rfl, Nat.one_pos⟩
  | succ c ih =>
    intro h hc
    obtain ⟨h1, h2⟩ := ih (fun i hi => h i (by omega)) (by omega)
    obtain ⟨k1, k2⟩ := kb1 (h c (by omega))
    refine ⟨?_, ?_⟩
    · rw [wdI, wvN, if_pos (by omega), h1, show (27 : Int64) = lN 27 from rfl, show (96 : Int64) = lN 96 from rfl, lN_mul, lN_add, lN_sub (by omega)]
      congr 1; omega
    · rw [wvN, Nat.pow_succ]; omega
theorem wv_big {s : Nat} {c : Nat} (h : 8 < c) : wdI W s c = -1 := by
  obtain ⟨m, rfl⟩ : ∃ m, c = m + 1 := ⟨c - 1, by omega⟩
  rw [wdI, if_neg (by omega)]
theorem wv_inj {s j : Nat} (hj : j < 4) : ∀ m c, (∀ i, i < c → kbN (W (77 + (s + i))) = 1) → m ≤ tl j → wvN W s c = cdN j m → c = m ∧ ∀ i, i < m → W (77 + (s + i)) = tc j i := by
  have tl6 := (tw_l j hj).2.1
  intro m
  induction m with
  | zero =>
    intro c h _ e
    rcases Nat.eq_zero_or_pos c with z | z
    · exact ⟨z, fun i hi => by omega⟩
    · obtain ⟨d, rfl⟩ : ∃ d, c = d + 1 := ⟨c - 1, by omega⟩
      obtain ⟨k1, k2⟩ := kb1 (h d (by omega))
      rw [wvN, cdN] at e; omega
  | succ m ih =>
    intro c h hm e
    obtain ⟨-, t1, t2⟩ := tw_c j hj m (by omega) (by omega)
    rcases Nat.eq_zero_or_pos c with z | z
    · subst z; rw [wvN, cdN] at e; omega
    · obtain ⟨d, rfl⟩ : ∃ d, c = d + 1 := ⟨c - 1, by omega⟩
      obtain ⟨k1, k2⟩ := kb1 (h d (by omega))
      rw [wvN, cdN] at e
      obtain ⟨g1, g2⟩ := ih d (fun i hi => h i (by omega)) (by omega) (by omega)
      refine ⟨by omega, fun i hi => ?_⟩
      by_cases x : i = m
      · subst x; subst g1; omega
      · exact g2 i (by omega)
theorem wv_eq {s j : Nat} : ∀ m, (∀ i, i < m → W (77 + (s + i)) = tc j i) → wvN W s m = cdN j m := by
  intro m
  induction m with
  | zero => intro _; rfl
  | succ m ih => intro h; rw [wvN, cdN, ih (fun i hi => h i (by omega)), h m (by omega)]
theorem p27 {c : Nat} (h : c ≤ 8) : 27 ^ c < 2 ^ 62 := Nat.lt_of_le_of_lt (Nat.pow_le_pow_right (by decide) h) (by decide)
theorem cd_lt : ∀ j, j < 4 → cdN j (tl j) < 2 ^ 62 := by decide +kernel
theorem m_word {q : Nat} {K : Int64} {j : Nat} (hj : j < 4) (hK : K = lN (cdN j (tl j))) (hk : tK W q = 1) : lg_cmp (woN W q) K = 0 ↔ wdQ W j q = true := by
  have cl := cd_lt j hj
  obtain ⟨l1, l2, l3⟩ := tw_l j hj
  have hin : ∀ i, i < tE W q - tS W q → kbN (W (77 + (tS W q + i))) = 1 := fun i hi => by rw [tE_in (Or.inl hk) (by omega) (by omega)]; exact hk
  unfold woN wdQ
  rw [cmp_eq, if_pos hk, decide_eq_true hk, Bool.true_and, Bool.and_eq_true_iff, decide_eq_true_iff, eqF_all, hK]
  by_cases c : tE W q - tS W q ≤ 8
  · obtain ⟨w1, w2⟩ := wv_ok (tE W q - tS W q) hin c
    have := p27 c
    rw [w1, pk_lEQ (by omega) (by omega)]
    refine ⟨fun h => ?_, fun ⟨h1, h2⟩ => ?_⟩
    · obtain ⟨g1, g2⟩ := wv_inj hj (tl j) _ hin (Nat.le_refl _) h
      exact ⟨g1, fun x _ b => g2 x (by omega)⟩
    · rw [h1]
      exact wv_eq (tl j) (fun i hi => h2 i (Nat.zero_le _) (by omega))
  · rw [wv_big (by omega)]
    refine ⟨fun h => ?_, fun ⟨h1, h2⟩ => by omega⟩
    exfalso
    have h3 : ¬ lN (cdN j (tl j)) < 0 := by
      rw [show (0 : Int64) = lN 0 from rfl, pk_lLT (by omega) (by decide)]; omega
    rw [← h] at h3
    exact h3 (by decide)
theorem cd_v : (232608281 : Int64) = lN (cdN 0 (tl 0)) ∧ (139055 : Int64) = lN (cdN 1 (tl 1)) ∧ (459818 : Int64) = lN (cdN 2 (tl 2)) ∧ (847604 : Int64) = lN (cdN 3 (tl 3)) := by decide +kernel
end WORD
