/-! DIGEST -/
def dgP (V : Nat → Nat) : Nat → Nat → Int64 → Int64
  | 0, _, h => h
  | j + 1, p, h => dgP V j (p + 1) (31 * (31 * (31 * h + lN (V (5 + p))) + lN (V (13 + p))) + lN (V (21 + p)))
def dgG (V : Nat → Nat) : Nat → Nat → Int64 → Int64
  | 0, _, h => h
  | j + 1, p, h => dgG V j (p + 1) (31 * (31 * h + lN (V (29 + p))) + lN (V (33 + p)))
def dgB (V : Nat → Nat) (o : Nat) : Nat → Nat → Int64 → Int64
  | 0, _, h => h
  | j + 1, p, h => dgB V o j (p + 1) (31 * h + lN (V (o + p)))
def dgS (V : Nat → Nat) : Nat → Nat → Int64 → Int64
  | 0, _, h => h
  | j + 1, p, h => dgS V j (p + 1) (31 * (31 * (31 * h + lN (V (47 + 3 * p))) + lN (V (48 + 3 * p))) + lN (V (49 + 3 * p)))
section DIG
variable {iv : Nat → Nat → Int32} {jv : Nat → Nat → Int64} {V W Y : Nat → Nat}
theorem c_dS (h3 : SP 1 73 iv Y) : ∀ (j n p : Nat) (h : Int64), p + j = Y 3 → f_X8_digestFrom_L254 (n + j + 1) 1 h (nI p) (hpOf iv jv) = some (31 * dgS Y j p h + lN (Y 4)) := by
  obtain ⟨⟨k3, k4, kp⟩, ⟨⟨p3, p4, -⟩, pp, pz⟩, -⟩ := h3
  have p3' : iv 13 0 = nI (Y 3) := p3
  have p4' : iv 13 1 = nI (Y 4) := p4
  intro j
  induction j with
  | zero =>
    intro n p h e
    rw [f_X8_digestFrom_L254, G_1_3, Option.bind_some, G_13_0, Option.bind_some, p3', iteE (by omega) (by omega), if_pos (by omega), Option.bind_some, G_13_1, Option.bind_some, p4', nI_l (by omega)]; rfl
  | succ j ih =>
    intro n p h e
    obtain ⟨a1, a2, a3⟩ := pp p (by omega)
    have b1 : iv 14 p = nI (Y (47 + 3 * p)) := a1
    have b2 : iv 15 p = nI (Y (48 + 3 * p)) := a2
    have b3 : iv 16 p = nI (Y (49 + 3 * p)) := a3
    obtain ⟨l0, l1, l2, l3⟩ := kp p (by omega)
    have p10 : p < 10 := by omega
    rw [show n + (j + 1) + 1 = (n + j + 1) + 1 by omega, f_X8_digestFrom_L254]
    simp only [G_1_3, G_13_0, G_13_1, G_13_3, G_13_4, G_13_5, Option.bind_some, a_14 iv jv p10, a_15 iv jv p10, a_16 iv jv p10, p3', b1, b2, b3]
    rw [iteE (by omega) (by omega), if_neg (by omega), nI_1, ih n (p + 1) _ (by omega), ih n (p + 1) _ (by omega), nI_l (by omega), nI_l (by omega), nI_0I (by omega), dgS]
    rcases (show Y (49 + 3 * p) = 0 ∨ Y (49 + 3 * p) = 1 by omega) with q | q
    · rw [q, if_pos rfl]; rfl
    · rw [q, if_neg (by decide)]; rfl
theorem c_dC (h2 : SB 1 73 iv W) : ∀ (j n p : Nat) (h : Int64), p + j = 10 → f_X8_digestFrom_L223 (n + j + 1) 1 h (nI p) (hpOf iv jv) = f_X8_digestFrom_L254 NN 1 (dgB W 37 j p h) 0 (hpOf iv jv) := by
  obtain ⟨⟨k2, kb, kc⟩, ⟨p2, pb, pc⟩, -⟩ := h2
  intro j
  induction j with
  | zero =>
    intro n p h e
    rw [f_X8_digestFrom_L223, show (10 : Int32) = nI 10 by decide, iteE (by omega) (by omega), if_pos (by omega)]; rfl
  | succ j ih =>
    intro n p h e
    have b1 : iv 12 p = nI (W (37 + p)) := pc p (by omega)
    have k := kc p (by omega)
    rw [show n + (j + 1) + 1 = (n + j + 1) + 1 by omega, f_X8_digestFrom_L223, show (10 : Int32) = nI 10 by decide, iteE (by omega) (by omega), if_neg (by omega), G_1_2, Option.bind_some, a_12 iv jv (by omega), Option.bind_some, b1, nI_l (by omega), nI_1, ih n (p + 1) _ (by omega), dgB]
theorem c_at (h2 : SB 1 73 iv W) {p : Nat} (hp : p < 1000) : f_X0_at 10 (nI p) (hpOf iv jv) = some (if p < W 2 then nI (W (77 + p)) else -1) := by
  obtain ⟨⟨k2, kb, kc⟩, ⟨p2, pb, pc⟩, -⟩ := h2
  have p2' : iv 10 0 = nI (W 2) := p2
  unfold f_X0_at
  rw [if_neg (nI_pos (by omega)), G_10_0, Option.bind_some, p2', iteE (by omega) (by omega)]
  by_cases c : p < W 2
  · have b1 : iv 11 p = nI (W (77 + p)) := pb p c
    rw [if_neg (by omega), if_pos c, G_10_1, Option.bind_some, a_11 iv jv (by omega), Option.bind_some, b1]
  · rw [if_pos (by omega), if_neg c]
theorem c_dB (h2 : SB 1 73 iv W) : ∀ (j n p : Nat) (h : Int64), p + j = W 2 → f_X8_digestFrom_L185 (n + j + 1) 1 h (nI p) (hpOf iv jv) = f_X8_digestFrom_L223 NN 1 (dgB W 77 j p h) 0 (hpOf iv jv) := by
  obtain ⟨⟨k2, kb, kc⟩, ⟨p2, pb, pc⟩, -⟩ := id h2
  have p2' : iv 10 0 = nI (W 2) := p2
  intro j
  induction j with
  | zero =>
    intro n p h e
    rw [f_X8_digestFrom_L185, G_1_1, Option.bind_some, G_10_0, Option.bind_some, p2', iteE (by omega) (by omega), if_pos (by omega)]; rfl
  | succ j ih =>
    intro n p h e
    have k := kb p (by omega)
    rw [show n + (j + 1) + 1 = (n + j + 1) + 1 by omega, f_X8_digestFrom_L185, G_1_1, Option.bind_some, G_10_0, Option.bind_some, p2', iteE (by omega) (by omega), if_neg (by omega), Option.bind_some, V_10, c_at h2 (by omega), Option.bind_some, if_pos (by omega), nI_l (by omega), nI_1, ih n (p + 1) _ (by omega), dgB]
theorem c_dG (h1 : SR 1 73 iv V) : ∀ (j n p : Nat) (h : Int64), p + j = V 1 → f_X8_digestFrom_L130 (n + j + 1) 1 h (nI p) (hpOf iv jv) = f_X8_digestFrom_L185 NN 1 (dgG V j p h) 0 (hpOf iv jv) := by
  obtain ⟨⟨k0, k1, kp, kg⟩, ⟨⟨p0, p1⟩, pp, pg⟩, -⟩ := id h1
  have p1' : iv 2 1 = nI (V 1) := p1
  intro j
  induction j with
  | zero =>
    intro n p h e
    rw [f_X8_digestFrom_L130, G_1_0, Option.bind_some, G_2_1, Option.bind_some, p1', iteE (by omega) (by omega), if_pos (by omega)]; rfl
  | succ j ih =>
    intro n p h e
    obtain ⟨a1, a2⟩ := pg p (by omega)
    have b1 : iv 8 p = nI (V (29 + p)) := a1
    have b2 : iv 9 p = nI (V (33 + p)) := a2
    obtain ⟨l0, l1, l2⟩ := kg p (by omega)
    have p4 : p < 4 := by omega
    rw [show n + (j + 1) + 1 = (n + j + 1) + 1 by omega, f_X8_digestFrom_L130]
    simp only [G_1_0, G_2_1, G_2_7, G_2_8, Option.bind_some, a_8 iv jv p4, a_9 iv jv p4, p1', b1, b2]
    rw [iteE (by omega) (by omega), if_neg (by omega), nI_1, nI_l (by omega), nI_l (by omega), ih n (p + 1) _ (by omega), dgG]
theorem c_dP (h1 : SR 1 73 iv V) : ∀ (j n p : Nat) (h : Int64), p + j = V 0 → f_X8_digestFrom_L59 (n + j + 1) 1 h (nI p) (hpOf iv jv) = f_X8_digestFrom_L130 NN 1 (dgP V j p h) 0 (hpOf iv jv) := by
  obtain ⟨⟨k0, k1, kp, kg⟩, ⟨⟨p0, p1⟩, pp, pg⟩, -⟩ := id h1
  have p0' : iv 2 0 = nI (V 0) := p0
  intro j
  induction j with
  | zero =>
    intro n p h e
    rw [f_X8_digestFrom_L59, G_1_0, Option.bind_some, G_2_0, Option.bind_some, p0', iteE (by omega) (by omega), if_pos (by omega)]; rfl
  | succ j ih =>
    intro n p h e
    obtain ⟨a1, -, -, a2, a3⟩ := pp p (by omega)
    have b1 : iv 3 p = nI (V (5 + p)) := a1
    have b2 : iv 6 p = nI (V (13 + p)) := a2
    have b3 : iv 7 p = nI (V (21 + p)) := a3
    obtain ⟨l0, l1, l2⟩ := kp p (by omega)
    have p8 : p < 8 := by omega
    rw [show n + (j + 1) + 1 = (n + j + 1) + 1 by omega, f_X8_digestFrom_L59]
    simp only [G_1_0, G_2_0, G_2_2, G_2_5, G_2_6, Option.bind_some, a_3 iv jv p8, a_6 iv jv p8, a_7 iv jv p8, p0', b1, b2, b3]
    rw [iteE (by omega) (by omega), if_neg (by omega), nI_1, nI_l (by omega), nI_l (by omega), nI_l (by omega), ih n (p + 1) _ (by omega), dgP]
def dgN (V W Y : Nat → Nat) : Int64 := 31 * dgS Y (Y 3) 0 (dgB W 37 10 0 (dgB W 77 (W 2) 0 (dgG V (V 1) 0 (dgP V (V 0) 0 (31 * (31 * (31 * (31 * 641 + lN (V 0)) + lN (V 1)) + lN (W 2)) + lN (Y 3)))))) + lN (Y 4)
theorem NNj {j : Nat} (h : j ≤ 199999) : NN = (199999 - j) + j + 1 := fuel (n := 0) h
theorem c_dig (h1 : SR 1 73 iv V) (h2 : SB 1 73 iv W) (h3 : SP 1 73 iv Y) : f_X8_digestFrom 1 641 (hpOf iv jv) = some (dgN V W Y) := by
  have k0 := h1.1.1
  have k1 := h1.1.2.1
  have k2 := h2.1.1
  have k3 := h3.1.1
  have p0' : iv 2 0 = nI (V 0) := h1.2.1.1.1
  have p1' : iv 2 1 = nI (V 1) := h1.2.1.1.2
  have p2' : iv 10 0 = nI (W 2) := h2.2.1.1
  have p3' : iv 13 0 = nI (Y 3) := h3.2.1.1.1
  have e1 := fun h => c_dP (jv := jv) h1 (V 0) (199999 - V 0) 0 h (by omega)
  have e2 := fun h => c_dG (jv := jv) h1 (V 1) (199999 - V 1) 0 h (by omega)
  have e3 := fun h => c_dB (jv := jv) h2 (W 2) (199999 - W 2) 0 h (by omega)
  have e4 := fun h => c_dC (jv := jv) h2 10 (199999 - 10) 0 h (by omega)
  have e5 := fun h => c_dS (jv := jv) h3 (Y 3) (199999 - Y 3) 0 h (by omega)
  rw [← NNj (by omega), nI_0] at e1 e2 e3 e4 e5
  unfold f_X8_digestFrom dgN
  rw [G_1_0, Option.bind_some, G_2_0, Option.bind_some, Option.bind_some, G_2_1, Option.bind_some, G_1_1, Option.bind_some, G_10_0, Option.bind_some, G_1_3, Option.bind_some, G_13_0, Option.bind_some, p0', p1', p2', p3', nI_l (by omega), nI_l (by omega), nI_l (by omega), nI_l (by omega), e1, e2, e3, e4, e5]
theorem m_dS (h3 : SP 1 73 iv Y) : ∀ (j n p : Nat) (h : Int64), p + j = Y 3 → f_X11_digest_L219 (n + 3 * j + 1) 72 h (nI (3 * p)) (hpOf iv jv) = some (31 * (31 * (31 * dgS Y j p h + lN (Y 4)) + jv 72 5) + jv 72 6) := by
  obtain ⟨⟨k3, k4, kp⟩, -, m3, m4, mp⟩ := h3
  have z3 : aI (hpOf iv jv) 73 0 3 = some (iv 73 3) := a_73 iv jv (i := 3) (by decide)
  have z4 : aI (hpOf iv jv) 73 0 4 = some (iv 73 4) := a_73 iv jv (i := 4) (by decide)
  have t3 : (3 : Int32) * nI (Y 3) = nI (3 * Y 3) := by rw [show (3 : Int32) = nI 3 by decide, pk_mul]
  have t47 : ∀ q, (47 : Int32) + nI q = nI (47 + q) := fun q => by rw [show (47 : Int32) = nI 47 by decide, nI_add]
  intro j
  induction j with
  | zero =>
    intro n p h e
    rw [f_X11_digest_L219, G_72_0, Option.bind_some, z3, Option.bind_some, m3, t3, iteE (by omega) (by omega), if_pos (by omega), Option.bind_some, z4, Option.bind_some, G_72_5, Option.bind_some, G_72_6, Option.bind_some, m4, nI_l (by omega)]; rfl
  | succ j ih =>
    intro n p h e
    obtain ⟨b1, b2, b3⟩ := mp p (by omega)
    obtain ⟨l0, l1, l2, l3⟩ := kp p (by omega)
    have st : ∀ (N q v : Nat) (h : Int64), q < 3 * Y 3 → iv 73 (47 + q) = nI v → v < 2 ^ 31 → f_X11_digest_L219 (N + 1) 72 h (nI q) (hpOf iv jv) = f_X11_digest_L219 N 72 (31 * h + lN v) (nI (q + 1)) (hpOf iv jv) := by
      intro N q v h hq hv hl
      rw [f_X11_digest_L219, G_72_0, Option.bind_some, z3, Option.bind_some, m3, t3, iteE (by omega) (by omega), if_neg (by omega), Option.bind_some, t47, a_73 iv jv (by omega), Option.bind_some, hv, nI_l hl, nI_1]
    rw [show n + 3 * (j + 1) + 1 = (n + 3 * j + 1) + 1 + 1 + 1 by omega, st _ (3 * p) (Y (47 + 3 * p)) _ (by omega) b1 (by omega), st _ (3 * p + 1) (Y (48 + 3 * p)) _ (by omega) (by rw [← b2]; congr 1; omega) (by omega), st _ (3 * p + 1 + 1) (Y (49 + 3 * p)) _ (by omega) (by rw [← b3]; congr 1; omega) (by omega), show 3 * p + 1 + 1 + 1 = 3 * (p + 1) by omega, ih n (p + 1) _ (by omega), dgS]
theorem m_dC (h2 : SB 1 73 iv W) : ∀ (j n p : Nat) (h : Int64), p + j = 10 → f_X11_digest_L188 (n + j + 1) 72 h (nI p) (hpOf iv jv) = f_X11_digest_L219 NN 72 (dgB W 37 j p h) 0 (hpOf iv jv) := by
  obtain ⟨⟨k2, kb, kc⟩, -, m2, mb, mc⟩ := h2
  intro j
  induction j with
  | zero =>
    intro n p h e
    rw [f_X11_digest_L188, show (10 : Int32) = nI 10 by decide, iteE (by omega) (by omega), if_pos (by omega)]; rfl
  | succ j ih =>
    intro n p h e
    have b1 := mc p (by omega)
    have k := kc p (by omega)
    rw [show n + (j + 1) + 1 = (n + j + 1) + 1 by omega, f_X11_digest_L188, show (10 : Int32) = nI 10 by decide, iteE (by omega) (by omega), if_neg (by omega), G_72_0, Option.bind_some, show (37 : Int32) = nI 37 by decide, nI_add, a_73 iv jv (by omega), Option.bind_some, b1, nI_l (by omega), nI_1, ih n (p + 1) _ (by omega), dgB]
theorem m_dB (h2 : SB 1 73 iv W) : ∀ (j n p : Nat) (h : Int64), p + j = W 2 → f_X11_digest_L153 (n + j + 1) 72 h (nI p) (hpOf iv jv) = f_X11_digest_L188 NN 72 (dgB W 77 j p h) 0 (hpOf iv jv) := by
  obtain ⟨⟨k2, kb, kc⟩, -, m2, mb, mc⟩ := h2
  have z2 : aI (hpOf iv jv) 73 0 2 = some (iv 73 2) := a_73 iv jv (i := 2) (by decide)
  intro j
  induction j with
  | zero =>
    intro n p h e
    rw [f_X11_digest_L153, G_72_0, Option.bind_some, z2, Option.bind_some, m2, iteE (by omega) (by omega), if_pos (by omega)]; rfl
  | succ j ih =>
    intro n p h e
    have b1 := mb p (by omega)
    have k := kb p (by omega)
    rw [show n + (j + 1) + 1 = (n + j + 1) + 1 by omega, f_X11_digest_L153, G_72_0, Option.bind_some, z2, Option.bind_some, m2, iteE (by omega) (by omega), if_neg (by omega), Option.bind_some, show (77 : Int32) = nI 77 by decide, nI_add, a_73 iv jv (by omega), Option.bind_some, b1, nI_l (by omega), nI_1, ih n (p + 1) _ (by omega), dgB]
theorem m_dG (h1 : SR 1 73 iv V) : ∀ (j n p : Nat) (h : Int64), p + j = V 1 → f_X11_digest_L101 (n + j + 1) 72 h (nI p) (hpOf iv jv) = f_X11_digest_L153 NN 72 (dgG V j p h) 0 (hpOf iv jv) := by
  obtain ⟨⟨k0, k1, kp, kg⟩, -, m0, m1, mp, mg⟩ := h1
  intro j
  induction j with
  | zero =>
    intro n p h e
    rw [f_X11_digest_L101, G_72_0, Option.bind_some, z73_1, Option.bind_some, m1, iteE (by omega) (by omega), if_pos (by omega)]; rfl
  | succ j ih =>
    intro n p h e
    obtain ⟨b1, b2⟩ := mg p (by omega)
    obtain ⟨l0, l1, l2⟩ := kg p (by omega)
    rw [show n + (j + 1) + 1 = (n + j + 1) + 1 by omega, f_X11_digest_L101, G_72_0, Option.bind_some, z73_1, Option.bind_some, m1, iteE (by omega) (by omega), if_neg (by omega), Option.bind_some, show (29 : Int32) = nI 29 by decide, nI_add, a_73 iv jv (by omega), Option.bind_some, Option.bind_some, show (33 : Int32) = nI 33 by decide, nI_add, a_73 iv jv (by omega), Option.bind_some, b1, b2, nI_l (by omega), nI_l (by omega), nI_1, ih n (p + 1) _ (by omega), dgG]
theorem m_dP (h1 : SR 1 73 iv V) : ∀ (j n p : Nat) (h : Int64), p + j = V 0 → f_X11_digest_L33 (n + j + 1) 72 h (nI p) (hpOf iv jv) = f_X11_digest_L101 NN 72 (dgP V j p h) 0 (hpOf iv jv) := by
  obtain ⟨⟨k0, k1, kp, kg⟩, -, m0, m1, mp, mg⟩ := h1
  intro j
  induction j with
  | zero =>
    intro n p h e
    rw [f_X11_digest_L33, G_72_0, Option.bind_some, z73_0, Option.bind_some, m0, iteE (by omega) (by omega), if_pos (by omega)]; rfl
  | succ j ih =>
    intro n p h e
    obtain ⟨b1, b2, b3⟩ := mp p (by omega)
    obtain ⟨l0, l1, l2⟩ := kp p (by omega)
    rw [show n + (j + 1) + 1 = (n + j + 1) + 1 by omega, f_X11_digest_L33, G_72_0, Option.bind_some, z73_0, Option.bind_some, m0, iteE (by omega) (by omega), if_neg (by omega), Option.bind_some, show (5 : Int32) = nI 5 by decide, nI_add, a_73 iv jv (by omega), Option.bind_some, Option.bind_some, show (13 : Int32) = nI 13 by decide, nI_add, a_73 iv jv (by omega), Option.bind_some, Option.bind_some, show (21 : Int32) = nI 21 by decide, nI_add, a_73 iv jv (by omega), Option.bind_some, b1, b2, b3, nI_l (by omega), nI_l (by omega), nI_l (by omega), nI_1, ih n (p + 1) _ (by omega), dgP]
theorem m_dig (h1 : SR 1 73 iv V) (h2 : SB 1 73 iv W) (h3 : SP 1 73 iv Y) : f_X11_digest 72 (hpOf iv jv) = some (31 * (31 * dgN V W Y + jv 72 5) + jv 72 6) := by
  have k0 := h1.1.1
  have k1 := h1.1.2.1
  have k2 := h2.1.1
  have k3 := h3.1.1
  have e1 := fun h => m_dP (jv := jv) h1 (V 0) (199999 - V 0) 0 h (by omega)
  have e2 := fun h => m_dG (jv := jv) h1 (V 1) (199999 - V 1) 0 h (by omega)
  have e3 := fun h => m_dB (jv := jv) h2 (W 2) (199999 - W 2) 0 h (by omega)
  have e4 := fun h => m_dC (jv := jv) h2 10 (199999 - 10) 0 h (by omega)
  have e5 := fun h => m_dS (jv := jv) h3 (Y 3) (199999 - 3 * Y 3) 0 h (by omega)
  rw [← NNj (by omega), nI_0] at e1 e2 e3 e4
  rw [← NNj (j := 3 * Y 3) (by omega), Nat.mul_zero, nI_0] at e5
  have st : ∀ (N q v : Nat) (h : Int64), q < 4 → iv 73 q = nI v → v < 2 ^ 31 → f_X11_digest_L6 (N + 1) 72 h (nI q) (hpOf iv jv) = f_X11_digest_L6 N 72 (31 * h + lN v) (nI (q + 1)) (hpOf iv jv) := by
    intro N q v h hq hv hl
    rw [f_X11_digest_L6, show (4 : Int32) = nI 4 by decide, iteE (by omega) (by omega), if_neg (by omega), G_72_0, Option.bind_some, a_73 iv jv (by omega), Option.bind_some, hv, nI_l hl, nI_1]
  unfold f_X11_digest
  rw [show NN = 199995 + 1 + 1 + 1 + 1 + 1 from rfl, ← nI_0, st _ 0 (V 0) _ (by omega) h1.2.2.1 (by omega), st _ 1 (V 1) _ (by omega) h1.2.2.2.1 (by omega), st _ 2 (W 2) _ (by omega) h2.2.2.1 (by omega), st _ 3 (Y 3) _ (by omega) h3.2.2.1 (by omega), f_X11_digest_L6, if_pos (by decide), e1, e2, e3, e4, e5]
  rfl
end DIG
theorem op_digest (hp : PH) (h : InvH hp) : ∃ r, f_X10_digest 0 hp = some r ∧ f_X11_digest 72 hp = some r := by
  obtain ⟨iv, jv, V, W, Y, rfl, h1, h2, h3, h4⟩ := h
  obtain ⟨x, y, hx, hy, hy1, e1, e2, e3, e4⟩ := h4.2.2.1
  refine ⟨_, ?_, m_dig h1 h2 h3⟩
  unfold f_X10_digest
  rw [G_0_0, Option.bind_some, V_1, c_dig h1 h2 h3, Option.bind_some, G_0_9, Option.bind_some, G_0_10, Option.bind_some, e1, e2, e3, e4, nI_l (by omega), nI_l (by omega)]
