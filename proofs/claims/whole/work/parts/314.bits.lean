/-! BITS of small numbers -/
theorem nx_and (a b : Nat) : nI a &&& nI b = nI (a &&& b) := by
  apply Int32.toBitVec_inj.1
  show BitVec.ofNat 32 a &&& BitVec.ofNat 32 b = BitVec.ofNat 32 (a &&& b)
  apply BitVec.eq_of_getLsbD_eq
  intro i hi
  simp [hi]
theorem nx_or (a b : Nat) : nI a ||| nI b = nI (a ||| b) := by
  apply Int32.toBitVec_inj.1
  show BitVec.ofNat 32 a ||| BitVec.ofNat 32 b = BitVec.ofNat 32 (a ||| b)
  apply BitVec.eq_of_getLsbD_eq
  intro i hi
  simp [hi]
theorem nx_xor (a b : Nat) : nI a ^^^ nI b = nI (a ^^^ b) := by
  apply Int32.toBitVec_inj.1
  show BitVec.ofNat 32 a ^^^ BitVec.ofNat 32 b = BitVec.ofNat 32 (a ^^^ b)
  apply BitVec.eq_of_getLsbD_eq
  intro i hi
  simp [hi]
theorem sm31 : ∀ p, p < 32 → ((nI p &&& 31).toBitVec.smod 32).toNat = p := by decide +kernel
theorem iS_n {c p : Nat} (hc : c < 2 ^ 31) (hp : p < 32) : iS (nI c) (nI p) = nI (c / 2 ^ p) := pk_shrN hc _ p (sm31 p hp)
theorem iL_n {p : Nat} (hp : p < 31) : iL 1 (nI p) = nI (2 ^ p) := by
  have h := pk_shlN (n := 1) (nI p &&& 31) p (sm31 p (by omega)) (by
    have : 2 ^ p ≤ 2 ^ 30 := Nat.pow_le_pow_right (by decide) (by omega)
    omega)
  rw [Nat.one_mul] at h
  exact h
theorem and1 (n : Nat) : nI n &&& 1 = nI (n % 2) := by
  show nI n &&& nI 1 = _
  rw [nx_and, Nat.and_one_is_mod]
theorem tb_eq (c p : Nat) : c / 2 ^ p % 2 = if c.testBit p then 1 else 0 := by
  rw [Nat.testBit_eq_decide_div_mod_eq]
  by_cases h : c / 2 ^ p % 2 = 1
  · simp [h]
  · have : c / 2 ^ p % 2 = 0 := by omega
    simp [this]
theorem bitAt {c p : Nat} (hc : c < 2 ^ 31) (hp : p < 32) : iS (nI c) (nI p) &&& 1 = if c.testBit p then 1 else 0 := by
  rw [iS_n hc hp, and1, tb_eq]
  split <;> decide
theorem hasN {c p : Nat} (hc : c < 2 ^ 31) (hp : p < 32) : f_X11_has (nI c) (nI p) = if c.testBit p then 1 else 0 := by
  unfold f_X11_has
  rw [bitAt hc hp]
  cases c.testBit p <;> simp
/-- a without b -/
def dif (a b : Nat) : Nat := a &&& (b ^^^ 4294967295)
theorem dif_bit {a : Nat} (b : Nat) (ha : a < 2 ^ 32) (i : Nat) : (dif a b).testBit i = (a.testBit i && !b.testBit i) := by
  unfold dif
  rw [Nat.testBit_and, Nat.testBit_xor]
  rcases Nat.lt_or_ge i 32 with h | h
  · rw [show (4294967295 : Nat) = 2 ^ 32 - 1 from rfl, Nat.testBit_two_pow_sub_one]
    simp [h]
  · rw [Nat.testBit_lt_two_pow (Nat.lt_of_lt_of_le ha (Nat.pow_le_pow_right (by decide) h))]
    simp
theorem cpl (b : Nat) : nI b ^^^ (-1) = nI (b ^^^ 4294967295) := by
  rw [show (-1 : Int32) = nI 4294967295 by decide, nx_xor]
theorem dif_n (a b : Nat) : nI a &&& (nI b ^^^ (-1)) = nI (dif a b) := by rw [cpl, nx_and]; rfl
theorem dif_le (a b : Nat) : dif a b ≤ a := Nat.and_le_left
theorem or_lt {a b n : Nat} (ha : a < 2 ^ n) (hb : b < 2 ^ n) : a ||| b < 2 ^ n := Nat.or_lt_two_pow ha hb
theorem xor_lt {a b n : Nat} (ha : a < 2 ^ n) (hb : b < 2 ^ n) : a ^^^ b < 2 ^ n := Nat.xor_lt_two_pow ha hb
theorem tb_ext {a b : Nat} (h : ∀ i, a.testBit i = b.testBit i) : a = b := Nat.eq_of_testBit_eq h
theorem tb_lt {a n i : Nat} (h : a < 2 ^ n) (hi : a.testBit i = true) : i < n := by
  rcases Nat.lt_or_ge i n with g | g
  · exact g
  · rw [Nat.testBit_lt_two_pow (Nat.lt_of_lt_of_le h (Nat.pow_le_pow_right (by decide) g))] at hi
    exact absurd hi (by decide)
theorem tb_pow (p i : Nat) : (2 ^ p).testBit i = decide (p = i) := Nat.testBit_two_pow
theorem pow8 {p : Nat} (h : p < 8) : 2 ^ p < 256 := by
  have := Nat.pow_lt_pow_right (a := 2) (by decide) h
  exact this
theorem pow8' {p : Nat} (h : p ≤ 8) : 2 ^ p ≤ 256 := Nat.pow_le_pow_right (n := 2) (by decide) h
def pcN (c : Nat) : Nat := (List.range 8).countP (fun i => c.testBit i)
theorem pc_c : ∀ c, c < 256 → f_J6_bitCount_0f7a4 (nI c) = nI (pcN c) := by decide +kernel
theorem pc_m : ∀ c, c < 256 → f_X11_bits (nI c) = some (nI (pcN c)) := by decide +kernel
theorem pc_le (c : Nat) : pcN c ≤ 8 := by
  have := List.countP_le_length (p := fun i => c.testBit i) (l := List.range 8)
  rwa [List.length_range] at this
/-- whether one is there -/
theorem hasP {a : Int32} {n : Nat} (hn : n ≤ 8) : (0 ≤ a ∧ a ≤ nI n - 1) ↔ ∃ p, p < n ∧ a = nI p := by
  rcases Nat.eq_zero_or_pos n with h | h
  · subst h
    refine ⟨fun ⟨h1, h2⟩ => ?_, fun ⟨p, hp, _⟩ => absurd hp (by omega)⟩
    exact absurd (Int32.le_trans h1 h2) (by decide)
  · obtain ⟨m, rfl⟩ : ∃ m, n = m + 1 := ⟨n - 1, by omega⟩
    rw [nI_pred]
    refine ⟨fun h2 => ?_, fun ⟨p, hp, e⟩ => ?_⟩
    · obtain ⟨p, hp, e⟩ := in01 (hi := m) (by omega) h2
      exact ⟨p, by omega, e⟩
    · subst e
      exact ⟨nI_pos' (by omega), (nI_leI (by omega) (by omega)).mpr (by omega)⟩
theorem in_n (a : Int32) {n : Nat} (hn : n ≤ 8) : f_X11_in a.toInt64 0 (nI n - 1).toInt64 = if 0 ≤ a ∧ a ≤ nI n - 1 then 1 else 0 := f_in a 0 (nI n - 1) (by decide) rfl
