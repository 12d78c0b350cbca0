/-! THE LAW'S LOOP -/
def GG (e : Option (Int32 × PH)) : Prop := ∃ hp', e = some (1, hp')
theorem gg_ite {c : Prop} {d : Decidable c} {a b : Option (Int32 × PH)} (h1 : GG a) (h2 : GG b) : GG (@ite _ c d a b) := by
  by_cases h : c
  · rw [if_pos h]; exact h1
  · rw [if_neg h]; exact h2
theorem gg_v {α : Type} {hp : PH} (hi : InvH hp) (r : Option α) : vC hp 0 9 r = r ∧ vC hp 72 10 r = r := by
  obtain ⟨iv, jv, V, W, Y, rfl, -⟩ := hi
  exact ⟨V_0 iv jv r, V_72 iv jv r⟩
theorem gg_op {fc fm : PH → Option (Int32 × PH)} {hp : PH} {k : PH → Option (Int32 × PH)} (h : OpOK fc fm) (hi : InvH hp) (hk : ∀ hp', InvH hp' → GG (k hp')) : GG ((vC hp 0 9 (fc hp)).bind fun q => (vC q.2 72 10 (fm q.2)).bind fun q' => (if q.1 = q'.1 then k q'.2 else some (0, q'.2))) := by
  obtain ⟨r, iv1, jv1, hp2, e1, e2, e3⟩ := h hp hi
  rw [(gg_v hi _).1, e1, Option.bind_some]
  dsimp only
  rw [V_72, e2, Option.bind_some]
  dsimp only
  rw [if_pos rfl]
  exact hk hp2 e3
theorem gg_opL {fc fm : PH → Option (Int64 × PH)} {hp : PH} {k : PH → Option (Int32 × PH)} (h : OpOK fc fm) (hi : InvH hp) (hk : ∀ hp', InvH hp' → GG (k hp')) : GG ((vC hp 0 9 (fc hp)).bind fun q => (vC q.2 72 10 (fm q.2)).bind fun q' => (if lg_cmp q.1 q'.1 = 0 then k q'.2 else some (0, q'.2))) := by
  obtain ⟨r, iv1, jv1, hp2, e1, e2, e3⟩ := h hp hi
  rw [(gg_v hi _).1, e1, Option.bind_some]
  dsimp only
  rw [V_72, e2, Option.bind_some]
  dsimp only
  rw [if_pos ((cmp_eq r r).mpr rfl)]
  exact hk hp2 e3
theorem lt5 {L i : Nat} (hL : L ≤ 2560) (hi : i ≤ 3000) : nI L - 5 < nI i ↔ L < i + 5 := by
  rw [Int32.lt_iff_toInt_lt, show (5 : Int32) = nI 5 by decide, pk_sub_toInt (by omega) (by omega), nI_toInt (by omega)]
  omega
theorem sx_n {L : Nat} {xs : Nat → Int32} {i : Nat} (h : i < L) (hL : L ≤ 2560) : sX L xs (nI i) = some (xs i) := by
  unfold sX
  rw [nI_clamp (by omega), if_pos ⟨nI_pos (by omega), h⟩]
theorem law_L {L : Nat} {xs : Nat → Int32} (hL : L ≤ 2560) : ∀ (n N i : Nat) (hp : PH), InvH hp → i ≤ L → L - i ≤ n → GG (f_L_law_L18 L xs (N + n + 1) 0 0 72 (nI i) hp) := by
  intro n
  induction n with
  | zero =>
    intro N i hp hi hl hn
    rw [f_L_law_L18, if_pos ((lt5 hL (by omega)).mpr (by omega))]
    exact ⟨hp, rfl⟩
  | succ n ih =>
    intro N i hp hi hl hn
    by_cases c : L < i + 5
    · rw [show N + (n + 1) + 1 = (N + n + 1) + 1 by omega, f_L_law_L18, if_pos ((lt5 hL (by omega)).mpr c)]
      exact ⟨hp, rfl⟩
    · have s0 : sX L xs (nI i) = some (xs i) := sx_n (by omega) hL
      have s1 : sX L xs (nI i + 1) = some (xs (i + 1)) := by rw [show nI i + 1 = nI (i + 1) from nI_add i 1]; exact sx_n (by omega) hL
      have s2 : sX L xs (nI i + 2) = some (xs (i + 2)) := by rw [show nI i + 2 = nI (i + 2) from nI_add i 2]; exact sx_n (by omega) hL
      have s3 : sX L xs (nI i + 3) = some (xs (i + 3)) := by rw [show nI i + 3 = nI (i + 3) from nI_add i 3]; exact sx_n (by omega) hL
      have s4 : sX L xs (nI i + 4) = some (xs (i + 4)) := by rw [show nI i + 4 = nI (i + 4) from nI_add i 4]; exact sx_n (by omega) hL
      have hk : ∀ hp', InvH hp' → GG (f_L_law_L18 L xs (N + n + 1) 0 0 72 (nI i + 5) hp') := fun hp' h => by
        rw [show nI i + 5 = nI (i + 5) from nI_add i 5]
        exact ih N (i + 5) hp' h (by omega) (by omega)
      rw [show N + (n + 1) + 1 = (N + n + 1) + 1 by omega, f_L_law_L18, if_neg (fun h => c ((lt5 hL (by omega)).mp h)), s0, Option.bind_some]
      simp only [s1, s2, s3, s4, Option.bind_some]
      generalize f_L_law_L18 L xs (N + n + 1) 0 0 72 (nI i + 5) = K at hk ⊢
      refine gg_ite (gg_op (k := K) (op_day _ _ _) hi hk) ?_
      refine gg_ite (gg_op (k := K) (op_date _ _) hi hk) ?_
      refine gg_ite (gg_op (k := K) (op_person _) hi hk) ?_
      refine gg_ite (gg_op (k := K) (op_gate _ _) hi hk) ?_
      refine gg_ite (gg_op (k := K) (op_pair _ _ _) hi hk) ?_
      refine gg_ite (gg_op (k := K) (op_age _ _) hi hk) ?_
      refine gg_ite (gg_op (k := K) (op_why _ _ _) hi hk) ?_
      refine gg_ite (gg_op (k := K) (op_type _ _) hi hk) ?_
      refine gg_ite (gg_op (k := K) op_clear hi hk) ?_
      refine gg_ite (gg_op (k := K) op_read hi hk) ?_
      refine gg_ite (gg_op (k := K) (op_can _ _ _ _) hi hk) ?_
      refine gg_ite (gg_op (k := K) (op_over _ _ _ _) hi hk) ?_
      refine gg_ite (gg_op (k := K) (op_parts _ _ _ _) hi hk) ?_
      refine gg_ite (gg_op (k := K) (op_lent _ _ _) hi hk) ?_
      refine gg_ite (gg_op (k := K) (op_worth _ _ _) hi hk) ?_
      refine gg_ite (gg_op (k := K) (op_dates _ _ _) hi hk) ?_
      refine gg_ite (gg_op (k := K) (op_next _ _ _) hi hk) ?_
      refine gg_ite (gg_op (k := K) (op_wedding _ _ _ _) hi hk) ?_
      refine gg_ite (gg_op (k := K) (op_crowd _ _) hi hk) ?_
      refine gg_ite (gg_opL (k := K) (op_tens _) hi hk) ?_
      refine gg_ite (gg_op (k := K) op_spare hi hk) ?_
      refine gg_ite ?_ ?_
      · by_cases z : xs (i + 3) = 0
        · simp only [if_pos z]
          exact gg_op (k := K) (op_passing _ _ 0 (Or.inl rfl)) hi hk
        · simp only [if_neg z]
          exact gg_op (k := K) (op_passing _ _ 1 (Or.inr rfl)) hi hk
      refine gg_ite (gg_op (k := K) op_forget hi hk) ?_
      refine gg_ite (gg_op (k := K) (op_liars _) hi hk) ?_
      refine gg_ite (gg_op (k := K) (op_fits _) hi hk) ?_
      refine gg_ite (gg_op (k := K) (op_untold _ _) hi hk) ?_
      refine gg_ite (gg_op (k := K) (op_part _) hi hk) ?_
      refine gg_ite (gg_op (k := K) (op_image _) hi hk) ?_
      refine gg_ite (gg_op (k := K) (op_from _) hi hk) ?_
      refine gg_ite (gg_op (k := K) (op_status _) hi hk) ?_
      refine gg_ite (gg_op (k := K) (op_count _) hi hk) ?_
      refine gg_ite ?_ (hk hp hi)
      obtain ⟨r, e1, e2⟩ := op_digest hp hi
      rw [(gg_v hi _).1, e1, Option.bind_some, (gg_v hi _).2, e2, Option.bind_some, if_pos ((cmp_eq r r).mpr rfl)]
      exact hk hp hi
theorem inv0 : InvH hp0 := by
  refine ⟨iv0, jv0, fun _ => 0, fun _ => 0, fun _ => 0, hp0_of, ⟨vk_0, ⟨⟨rfl, rfl⟩, fun i hi => absurd hi (Nat.not_lt_zero _), fun i hi => absurd hi (Nat.not_lt_zero _)⟩, rfl, rfl, fun i hi => absurd hi (Nat.not_lt_zero _), fun i hi => absurd hi (Nat.not_lt_zero _)⟩, ⟨⟨Nat.zero_le _, fun j hj => absurd hj (Nat.not_lt_zero _), fun j hj => Nat.zero_le _⟩, ⟨rfl, fun j hj => absurd hj (Nat.not_lt_zero _), fun j hj => rfl⟩, rfl, fun j hj => absurd hj (Nat.not_lt_zero _), fun j hj => rfl⟩, ⟨⟨Nat.zero_le _, Nat.zero_le _, fun j hj => absurd hj (Nat.not_lt_zero _)⟩, ⟨⟨rfl, rfl, Or.inl rfl⟩, fun j hj => absurd hj (Nat.not_lt_zero _), fun j hj => Or.inl rfl⟩, rfl, rfl, fun j hj => absurd hj (Nat.not_lt_zero _)⟩, Or.inl ⟨rfl, rfl⟩, Or.inl ⟨rfl, rfl⟩, ⟨0, 1, by decide, by decide, by decide, rfl, rfl, rfl, rfl⟩, ⟨rfl, rfl, rfl⟩, fun j hj => ⟨Or.inl rfl, Or.inl rfl⟩⟩
theorem law_pure (L : Nat) (xs : Nat → Int32) (hL : L ≤ 2560) : ∃ hp', f_L_law_L18 L xs NN 0 0 72 0 hp0 = some (1, hp') := by
  have := law_L (xs := xs) hL 2560 (199999 - 2560) 0 hp0 inv0 (Nat.zero_le _) (by omega)
  rw [nI_0] at this
  exact this
