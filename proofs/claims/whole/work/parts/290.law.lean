theorem lwLe {d : Nat} (h : d ≤ 1000) : d + 1 ≤ room_1.frames ∧ 41 * d + 41 ≤ room_1.locals := ⟨by show d + 1 ≤ 2048; omega, by show 41 * d + 41 ≤ 84000; omega⟩
theorem lw_0 : 1000 ≤ room_1.cells ∧ 100000 ≤ room_1.slots := ⟨Nat.le_of_ble_eq_true rfl, Nat.le_of_ble_eq_true rfl⟩
def sX (L : Nat) (xs : Nat → Int32) (i : Int32) : Option Int32 := if ¬ i < 0 ∧ i.toNatClampNeg < L then some (xs i.toNatClampNeg) else none
theorem PW.sldX {K : GK} {R : Room} {cs ss : Nat} {M : MK} {pc : Nat} {l : List (Nat × Value)} {st : List Value} {hp hp' : PH} {v : Option Value} {i x : Int32} (hd : decode (mC M) pc = .ok (.iaload, 1)) (hg : sX (gL K) (gx K) i = some x) (kk : PW K R cs ss M (pc + 1) l (.int x :: st) hp v hp') : PW K R cs ss M pc l (.int i :: .ref (gb K) :: st) hp v hp' := by
  unfold sX at hg
  split at hg
  · rename_i hc
    cases hg
    exact PW.sald hd (in_of hc) kk
  · cases hg
theorem sw_out32 {x : Int32} (h0 : ¬ x.toInt = (0 : Int32).toInt) (h1 : ¬ x.toInt = (1 : Int32).toInt) (h2 : ¬ x.toInt = (2 : Int32).toInt) (h3 : ¬ x.toInt = (3 : Int32).toInt) (h4 : ¬ x.toInt = (4 : Int32).toInt) (h5 : ¬ x.toInt = (5 : Int32).toInt) (h6 : ¬ x.toInt = (6 : Int32).toInt) (h7 : ¬ x.toInt = (7 : Int32).toInt) (h8 : ¬ x.toInt = (8 : Int32).toInt) (h9 : ¬ x.toInt = (9 : Int32).toInt) (h10 : ¬ x.toInt = (10 : Int32).toInt) (h11 : ¬ x.toInt = (11 : Int32).toInt) (h12 : ¬ x.toInt = (12 : Int32).toInt) (h13 : ¬ x.toInt = (13 : Int32).toInt) (h14 : ¬ x.toInt = (14 : Int32).toInt) (h15 : ¬ x.toInt = (15 : Int32).toInt) (h16 : ¬ x.toInt = (16 : Int32).toInt) (h17 : ¬ x.toInt = (17 : Int32).toInt) (h18 : ¬ x.toInt = (18 : Int32).toInt) (h19 : ¬ x.toInt = (19 : Int32).toInt) (h20 : ¬ x.toInt = (20 : Int32).toInt) (h21 : ¬ x.toInt = (21 : Int32).toInt) (h22 : ¬ x.toInt = (22 : Int32).toInt) (h23 : ¬ x.toInt = (23 : Int32).toInt) (h24 : ¬ x.toInt = (24 : Int32).toInt) (h25 : ¬ x.toInt = (25 : Int32).toInt) (h26 : ¬ x.toInt = (26 : Int32).toInt) (h27 : ¬ x.toInt = (27 : Int32).toInt) (h28 : ¬ x.toInt = (28 : Int32).toInt) (h29 : ¬ x.toInt = (29 : Int32).toInt) (h30 : ¬ x.toInt = (30 : Int32).toInt) (h31 : ¬ x.toInt = (31 : Int32).toInt) : x.toInt < 0 ∨ 31 < x.toInt := by
  rw [show (0 : Int32).toInt = 0 by decide] at h0
  rw [show (1 : Int32).toInt = 1 by decide] at h1
  rw [show (2 : Int32).toInt = 2 by decide] at h2
  rw [show (3 : Int32).toInt = 3 by decide] at h3
  rw [show (4 : Int32).toInt = 4 by decide] at h4
  rw [show (5 : Int32).toInt = 5 by decide] at h5
  rw [show (6 : Int32).toInt = 6 by decide] at h6
  rw [show (7 : Int32).toInt = 7 by decide] at h7
  rw [show (8 : Int32).toInt = 8 by decide] at h8
  rw [show (9 : Int32).toInt = 9 by decide] at h9
  rw [show (10 : Int32).toInt = 10 by decide] at h10
  rw [show (11 : Int32).toInt = 11 by decide] at h11
  rw [show (12 : Int32).toInt = 12 by decide] at h12
  rw [show (13 : Int32).toInt = 13 by decide] at h13
  rw [show (14 : Int32).toInt = 14 by decide] at h14
  rw [show (15 : Int32).toInt = 15 by decide] at h15
  rw [show (16 : Int32).toInt = 16 by decide] at h16
  rw [show (17 : Int32).toInt = 17 by decide] at h17
  rw [show (18 : Int32).toInt = 18 by decide] at h18
  rw [show (19 : Int32).toInt = 19 by decide] at h19
  rw [show (20 : Int32).toInt = 20 by decide] at h20
  rw [show (21 : Int32).toInt = 21 by decide] at h21
  rw [show (22 : Int32).toInt = 22 by decide] at h22
  rw [show (23 : Int32).toInt = 23 by decide] at h23
  rw [show (24 : Int32).toInt = 24 by decide] at h24
  rw [show (25 : Int32).toInt = 25 by decide] at h25
  rw [show (26 : Int32).toInt = 26 by decide] at h26
  rw [show (27 : Int32).toInt = 27 by decide] at h27
  rw [show (28 : Int32).toInt = 28 by decide] at h28
  rw [show (29 : Int32).toInt = 29 by decide] at h29
  rw [show (30 : Int32).toInt = 30 by decide] at h30
  rw [show (31 : Int32).toInt = 31 by decide] at h31
  omega
def f_L_law_L18 (L : Nat) (xs : Nat → Int32) : Nat → Nat → Nat → Nat → Int32 → PH → Option (Int32 × PH)
  | 0, _, _, _, _, _ => none
  | n + 1, a0, a1, a2, a3, hp => (if ((nI L) - 5) < a3 then (some (1, hp)) else (sX L xs a3).bind fun x1 => (if (x1 &&& 31) = 0 then (sX L xs (a3 + 1)).bind fun x2 => (sX L xs (a3 + 2)).bind fun x3 => (sX L xs (a3 + 3)).bind fun x4 => (vC hp a1 9 (f_X10_day a1 x2 x3 x4 hp)).bind fun q5 => (sX L xs (a3 + 1)).bind fun x6 => (sX L xs (a3 + 2)).bind fun x7 => (sX L xs (a3 + 3)).bind fun x8 => (vC q5.2 a2 10 (f_X11_day a2 x6 x7 x8 q5.2)).bind fun q9 => (if q5.1 = q9.1 then ((f_L_law_L18 L xs n) a0 a1 a2 (a3 + 5) q9.2) else (some (0, q9.2))) else if (x1 &&& 31) = 1 then (sX L xs (a3 + 1)).bind fun x10 => (sX L xs (a3 + 2)).bind fun x11 => (vC hp a1 9 (f_X10_date a1 x10 x11 hp)).bind fun q12 => (sX L xs (a3 + 1)).bind fun x13 => (sX L xs (a3 + 2)).bind fun x14 => (vC q12.2 a2 10 (f_X11_date a2 x13 x14 q12.2)).bind fun q15 => (if q12.1 = q15.1 then ((f_L_law_L18 L xs n) a0 a1 a2 (a3 + 5) q15.2) else (some (0, q15.2))) else if (x1 &&& 31) = 2 then (sX L xs (a3 + 1)).bind fun x16 => (vC hp a1 9 (f_X10_person a1 x16 hp)).bind fun q17 => (sX L xs (a3 + 1)).bind fun x18 => (vC q17.2 a2 10 (f_X11_person a2 x18 q17.2)).bind fun q19 => (if q17.1 = q19.1 then ((f_L_law_L18 L xs n) a0 a1 a2 (a3 + 5) q19.2) else (some (0, q19.2))) else if (x1 &&& 31) = 3 then (sX L xs (a3 + 1)).bind fun x20 => (sX L xs (a3 + 2)).bind fun x21 => (vC hp a1 9 (f_X10_gate a1 x20 x21 hp)).bind fun q22 => (sX L xs (a3 + 1)).bind fun x23 => (sX L xs (a3 + 2)).bind fun x24 => (vC q22.2 a2 10 (f_X11_gate a2 x23 x24 q22.2)).bind fun q25 => (if q22.1 = q25.1 then ((f_L_law_L18 L xs n) a0 a1 a2 (a3 + 5) q25.2) else (some (0, q25.2))) else if (x1 &&& 31) = 4 then (sX L xs (a3 + 1)).bind fun x26 => (sX L xs (a3 + 2)).bind fun x27 => (sX L xs (a3 + 3)).bind fun x28 => (vC hp a1 9 (f_X10_pair a1 x26 x27 x28 hp)).bind fun q29 => (sX L xs (a3 + 1)).bind fun x30 => (sX L xs (a3 + 2)).bind fun x31 => (sX L xs (a3 + 3)).bind fun x32 => (vC q29.2 a2 10 (f_X11_pair a2 x30 x31 x32 q29.2)).bind fun q33 => (if q29.1 = q33.1 then ((f_L_law_L18 L xs n) a0 a1 a2 (a3 + 5) q33.2) else (some (0, q33.2))) else if (x1 &&& 31) = 5 then (sX L xs (a3 + 1)).bind fun x34 => (sX L xs (a3 + 2)).bind fun x35 => (vC hp a1 9 (f_X10_age a1 x34 x35 hp)).bind fun q36 => (sX L xs (a3 + 1)).bind fun x37 => (sX L xs (a3 + 2)).bind fun x38 => (vC q36.2 a2 10 (f_X11_age a2 x37 x38 q36.2)).bind fun q39 => (if q36.1 = q39.1 then ((f_L_law_L18 L xs n) a0 a1 a2 (a3 + 5) q39.2) else (some (0, q39.2))) else if (x1 &&& 31) = 6 then (sX L xs (a3 + 1)).bind fun x40 => (sX L xs (a3 + 2)).bind fun x41 => (sX L xs (a3 + 3)).bind fun x42 => (vC hp a1 9 (f_X10_why a1 x40 x41 x42 hp)).bind fun q43 => (sX L xs (a3 + 1)).bind fun x44 => (sX L xs (a3 + 2)).bind fun x45 => (sX L xs (a3 + 3)).bind fun x46 => (vC q43.2 a2 10 (f_X11_why a2 x44 x45 x46 q43.2)).bind fun q47 => (if q43.1 = q47.1 then ((f_L_law_L18 L xs n) a0 a1 a2 (a3 + 5) q47.2) else (some (0, q47.2))) else if (x1 &&& 31) = 7 then (sX L xs (a3 + 1)).bind fun x48 => (sX L xs (a3 + 2)).bind fun x49 => (sX L xs (a3 + 3)).bind fun x50 => (vC hp a1 9 (f_X10_type a1 ((jL (Int32.toInt64 x48) 32) ||| ((Int32.toInt64 x49) &&& 4294967295)) x50 hp)).bind fun q51 => (sX L xs (a3 + 1)).bind fun x52 => (sX L xs (a3 + 2)).bind fun x53 => (sX L xs (a3 + 3)).bind fun x54 => (vC q51.2 a2 10 (f_X11_type a2 ((jL (Int32.toInt64 x52) 32) ||| ((Int32.toInt64 x53) &&& 4294967295)) x54 q51.2)).bind fun q55 => (if q51.1 = q55.1 then ((f_L_law_L18 L xs n) a0 a1 a2 (a3 + 5) q55.2) else (some (0, q55.2))) else if (x1 &&& 31) = 8 then (vC hp a1 9 (f_X10_clear a1 hp)).bind fun q56 => (vC q56.2 a2 10 (f_X11_clear a2 q56.2)).bind fun q57 => (if q56.1 = q57.1 then ((f_L_law_L18 L xs n) a0 a1 a2 (a3 + 5) q57.2) else (some (0, q57.2))) else if (x1 &&& 31) = 9 then (vC hp a1 9 (f_X10_read a1 hp)).bind fun q58 => (vC q58.2 a2 10 (f_X11_read a2 q58.2)).bind fun q59 => (if q58.1 = q59.1 then ((f_L_law_L18 L xs n) a0 a1 a2 (a3 + 5) q59.2) else (some (0, q59.2))) else if (x1 &&& 31) = 10 then (sX L xs (a3 + 1)).bind fun x60 => (sX L xs (a3 + 2)).bind fun x61 => (sX L xs (a3 + 3)).bind fun x62 => (sX L xs (a3 + 4)).bind fun x63 => (vC hp a1 9 (f_X10_can a1 x60 x61 x62 x63 hp)).bind fun q64 => (sX L xs (a3 + 1)).bind fun x65 => (sX L xs (a3 + 2)).bind fun x66 => (sX L xs (a3 + 3)).bind fun x67 => (sX L xs (a3 + 4)).bind fun x68 => (vC q64.2 a2 10 (f_X11_can a2 x65 x66 x67 x68 q64.2)).bind fun q69 => (if q64.1 = q69.1 then ((f_L_law_L18 L xs n) a0 a1 a2 (a3 + 5) q69.2) else (some (0, q69.2))) else if (x1 &&& 31) = 11 then (sX L xs (a3 + 1)).bind fun x70 => (sX L xs (a3 + 2)).bind fun x71 => (sX L xs (a3 + 3)).bind fun x72 => (sX L xs (a3 + 4)).bind fun x73 => (vC hp a1 9 (f_X10_over a1 x70 x71 x72 x73 hp)).bind fun q74 => (sX L xs (a3 + 1)).bind fun x75 => (sX L xs (a3 + 2)).bind fun x76 => (sX L xs (a3 + 3)).bind fun x77 => (sX L xs (a3 + 4)).bind fun x78 => (vC q74.2 a2 10 (f_X11_over a2 x75 x76 x77 x78 q74.2)).bind fun q79 => (if q74.1 = q79.1 then ((f_L_law_L18 L xs n) a0 a1 a2 (a3 + 5) q79.2) else (some (0, q79.2))) else if (x1 &&& 31) = 12 then (sX L xs (a3 + 1)).bind fun x80 => (sX L xs (a3 + 2)).bind fun x81 => (sX L xs (a3 + 3)).bind fun x82 => (sX L xs (a3 + 4)).bind fun x83 => (vC hp a1 9 (f_X10_parts a1 x80 x81 x82 x83 hp)).bind fun q84 => (sX L xs (a3 + 1)).bind fun x85 => (sX L xs (a3 + 2)).bind fun x86 => (sX L xs (a3 + 3)).bind fun x87 => (sX L xs (a3 + 4)).bind fun x88 => (vC q84.2 a2 10 (f_X11_parts a2 x85 x86 x87 x88 q84.2)).bind fun q89 => (if q84.1 = q89.1 then ((f_L_law_L18 L xs n) a0 a1 a2 (a3 + 5) q89.2) else (some (0, q89.2))) else if (x1 &&& 31) = 13 then (sX L xs (a3 + 1)).bind fun x90 => (sX L xs (a3 + 2)).bind fun x91 => (sX L xs (a3 + 3)).bind fun x92 => (vC hp a1 9 (f_X10_lent a1 x90 x91 x92 hp)).bind fun q93 => (sX L xs (a3 + 1)).bind fun x94 => (sX L xs (a3 + 2)).bind fun x95 => (sX L xs (a3 + 3)).bind fun x96 => (vC q93.2 a2 10 (f_X11_lent a2 x94 x95 x96 q93.2)).bind fun q97 => (if q93.1 = q97.1 then ((f_L_law_L18 L xs n) a0 a1 a2 (a3 + 5) q97.2) else (some (0, q97.2))) else if (x1 &&& 31) = 14 then (sX L xs (a3 + 1)).bind fun x98 => (sX L xs (a3 + 2)).bind fun x99 => (sX L xs (a3 + 3)).bind fun x100 => (vC hp a1 9 (f_X10_worth a1 x98 x99 x100 hp)).bind fun q101 => (sX L xs (a3 + 1)).bind fun x102 => (sX L xs (a3 + 2)).bind fun x103 => (sX L xs (a3 + 3)).bind fun x104 => (vC q101.2 a2 10 (f_X11_worth a2 x102 x103 x104 q101.2)).bind fun q105 => (if q101.1 = q105.1 then ((f_L_law_L18 L xs n) a0 a1 a2 (a3 + 5) q105.2) else (some (0, q105.2))) else if (x1 &&& 31) = 15 then (sX L xs (a3 + 1)).bind fun x106 => (sX L xs (a3 + 2)).bind fun x107 => (sX L xs (a3 + 3)).bind fun x108 => (vC hp a1 9 (f_X10_dates a1 x106 x107 x108 hp)).bind fun q109 => (sX L xs (a3 + 1)).bind fun x110 => (sX L xs (a3 + 2)).bind fun x111 => (sX L xs (a3 + 3)).bind fun x112 => (vC q109.2 a2 10 (f_X11_dates a2 x110 x111 x112 q109.2)).bind fun q113 => (if q109.1 = q113.1 then ((f_L_law_L18 L xs n) a0 a1 a2 (a3 + 5) q113.2) else (some (0, q113.2))) else if (x1 &&& 31) = 16 then (sX L xs (a3 + 1)).bind fun x114 => (sX L xs (a3 + 2)).bind fun x115 => (sX L xs (a3 + 3)).bind fun x116 => (vC hp a1 9 (f_X10_next a1 x114 x115 x116 hp)).bind fun q117 => (sX L xs (a3 + 1)).bind fun x118 => (sX L xs (a3 + 2)).bind fun x119 => (sX L xs (a3 + 3)).bind fun x120 => (vC q117.2 a2 10 (f_X11_next a2 x118 x119 x120 q117.2)).bind fun q121 => (if q117.1 = q121.1 then ((f_L_law_L18 L xs n) a0 a1 a2 (a3 + 5) q121.2) else (some (0, q121.2))) else if (x1 &&& 31) = 17 then (sX L xs (a3 + 1)).bind fun x122 => (sX L xs (a3 + 2)).bind fun x123 => (sX L xs (a3 + 3)).bind fun x124 => (sX L xs (a3 + 4)).bind fun x125 => (vC hp a1 9 (f_X10_wedding a1 x122 x123 x124 x125 hp)).bind fun q126 => (sX L xs (a3 + 1)).bind fun x127 => (sX L xs (a3 + 2)).bind fun x128 => (sX L xs (a3 + 3)).bind fun x129 => (sX L xs (a3 + 4)).bind fun x130 => (vC q126.2 a2 10 (f_X11_wedding a2 x127 x128 x129 x130 q126.2)).bind fun q131 => (if q126.1 = q131.1 then ((f_L_law_L18 L xs n) a0 a1 a2 (a3 + 5) q131.2) else (some (0, q131.2))) else if (x1 &&& 31) = 18 then (sX L xs (a3 + 1)).bind fun x132 => (sX L xs (a3 + 2)).bind fun x133 => (vC hp a1 9 (f_X10_crowd a1 x132 x133 hp)).bind fun q134 => (sX L xs (a3 + 1)).bind fun x135 => (sX L xs (a3 + 2)).bind fun x136 => (vC q134.2 a2 10 (f_X11_crowd a2 x135 x136 q134.2)).bind fun q137 => (if q134.1 = q137.1 then ((f_L_law_L18 L xs n) a0 a1 a2 (a3 + 5) q137.2) else (some (0, q137.2))) else if (x1 &&& 31) = 19 then (sX L xs (a3 + 1)).bind fun x138 => (vC hp a1 9 (f_X10_tens a1 x138 hp)).bind fun q139 => (sX L xs (a3 + 1)).bind fun x140 => (vC q139.2 a2 10 (f_X11_tens a2 x140 q139.2)).bind fun q141 => (if (lg_cmp q139.1 q141.1) = 0 then ((f_L_law_L18 L xs n) a0 a1 a2 (a3 + 5) q141.2) else (some (0, q141.2))) else if (x1 &&& 31) = 20 then (vC hp a1 9 (f_X10_spare a1 hp)).bind fun q142 => (vC q142.2 a2 10 (f_X11_spare a2 q142.2)).bind fun q143 => (if q142.1 = q143.1 then ((f_L_law_L18 L xs n) a0 a1 a2 (a3 + 5) q143.2) else (some (0, q143.2))) else if (x1 &&& 31) = 21 then (sX L xs (a3 + 1)).bind fun x144 => (sX L xs (a3 + 2)).bind fun x145 => (sX L xs (a3 + 3)).bind fun x146 => (if x146 = 0 then (vC hp a1 9 (f_X10_passing a1 x144 x145 0 hp)).bind fun q147 => (sX L xs (a3 + 1)).bind fun x148 => (sX L xs (a3 + 2)).bind fun x149 => (sX L xs (a3 + 3)).bind fun x150 => (if x150 = 0 then (vC q147.2 a2 10 (f_X11_passing a2 x148 x149 0 q147.2)).bind fun q151 => (if q147.1 = q151.1 then ((f_L_law_L18 L xs n) a0 a1 a2 (a3 + 5) q151.2) else (some (0, q151.2))) else (vC q147.2 a2 10 (f_X11_passing a2 x148 x149 1 q147.2)).bind fun q152 => (if q147.1 = q152.1 then ((f_L_law_L18 L xs n) a0 a1 a2 (a3 + 5) q152.2) else (some (0, q152.2)))) else (vC hp a1 9 (f_X10_passing a1 x144 x145 1 hp)).bind fun q153 => (sX L xs (a3 + 1)).bind fun x154 => (sX L xs (a3 + 2)).bind fun x155 => (sX L xs (a3 + 3)).bind fun x156 => (if x156 = 0 then (vC q153.2 a2 10 (f_X11_passing a2 x154 x155 0 q153.2)).bind fun q157 => (if q153.1 = q157.1 then ((f_L_law_L18 L xs n) a0 a1 a2 (a3 + 5) q157.2) else (some (0, q157.2))) else (vC q153.2 a2 10 (f_X11_passing a2 x154 x155 1 q153.2)).bind fun q158 => (if q153.1 = q158.1 then ((f_L_law_L18 L xs n) a0 a1 a2 (a3 + 5) q158.2) else (some (0, q158.2))))) else if (x1 &&& 31) = 22 then (vC hp a1 9 (f_X10_forget a1 hp)).bind fun q159 => (vC q159.2 a2 10 (f_X11_forget a2 q159.2)).bind fun q160 => (if q159.1 = q160.1 then ((f_L_law_L18 L xs n) a0 a1 a2 (a3 + 5) q160.2) else (some (0, q160.2))) else if (x1 &&& 31) = 23 then (sX L xs (a3 + 1)).bind fun x161 => (vC hp a1 9 (f_X10_liars a1 x161 hp)).bind fun q162 => (sX L xs (a3 + 1)).bind fun x163 => (vC q162.2 a2 10 (f_X11_liars a2 x163 q162.2)).bind fun q164 => (if q162.1 = q164.1 then ((f_L_law_L18 L xs n) a0 a1 a2 (a3 + 5) q164.2) else (some (0, q164.2))) else if (x1 &&& 31) = 24 then (sX L xs (a3 + 1)).bind fun x165 => (vC hp a1 9 (f_X10_fits a1 x165 hp)).bind fun q166 => (sX L xs (a3 + 1)).bind fun x167 => (vC q166.2 a2 10 (f_X11_fits a2 x167 q166.2)).bind fun q168 => (if q166.1 = q168.1 then ((f_L_law_L18 L xs n) a0 a1 a2 (a3 + 5) q168.2) else (some (0, q168.2))) else if (x1 &&& 31) = 25 then (sX L xs (a3 + 1)).bind fun x169 => (sX L xs (a3 + 2)).bind fun x170 => (vC hp a1 9 (f_X10_untold a1 x169 x170 hp)).bind fun q171 => (sX L xs (a3 + 1)).bind fun x172 => (sX L xs (a3 + 2)).bind fun x173 => (vC q171.2 a2 10 (f_X11_untold a2 x172 x173 q171.2)).bind fun q174 => (if q171.1 = q174.1 then ((f_L_law_L18 L xs n) a0 a1 a2 (a3 + 5) q174.2) else (some (0, q174.2))) else if (x1 &&& 31) = 26 then (sX L xs (a3 + 1)).bind fun x175 => (vC hp a1 9 (f_X10_part a1 x175 hp)).bind fun q176 => (sX L xs (a3 + 1)).bind fun x177 => (vC q176.2 a2 10 (f_X11_part a2 x177 q176.2)).bind fun q178 => (if q176.1 = q178.1 then ((f_L_law_L18 L xs n) a0 a1 a2 (a3 + 5) q178.2) else (some (0, q178.2))) else if (x1 &&& 31) = 27 then (sX L xs (a3 + 1)).bind fun x179 => (vC hp a1 9 (f_X10_image a1 x179 hp)).bind fun q180 => (sX L xs (a3 + 1)).bind fun x181 => (vC q180.2 a2 10 (f_X11_image a2 x181 q180.2)).bind fun q182 => (if q180.1 = q182.1 then ((f_L_law_L18 L xs n) a0 a1 a2 (a3 + 5) q182.2) else (some (0, q182.2))) else if (x1 &&& 31) = 28 then (sX L xs (a3 + 1)).bind fun x183 => (vC hp a1 9 (f_X10_from a1 x183 hp)).bind fun q184 => (sX L xs (a3 + 1)).bind fun x185 => (vC q184.2 a2 10 (f_X11_from a2 x185 q184.2)).bind fun q186 => (if q184.1 = q186.1 then ((f_L_law_L18 L xs n) a0 a1 a2 (a3 + 5) q186.2) else (some (0, q186.2))) else if (x1 &&& 31) = 29 then (sX L xs (a3 + 1)).bind fun x187 => (vC hp a1 9 (f_X10_status a1 x187 hp)).bind fun q188 => (sX L xs (a3 + 1)).bind fun x189 => (vC q188.2 a2 10 (f_X11_status a2 x189 q188.2)).bind fun q190 => (if q188.1 = q190.1 then ((f_L_law_L18 L xs n) a0 a1 a2 (a3 + 5) q190.2) else (some (0, q190.2))) else if (x1 &&& 31) = 30 then (sX L xs (a3 + 1)).bind fun x191 => (vC hp a1 9 (f_X10_count a1 x191 hp)).bind fun q192 => (sX L xs (a3 + 1)).bind fun x193 => (vC q192.2 a2 10 (f_X11_count a2 x193 q192.2)).bind fun q194 => (if q192.1 = q194.1 then ((f_L_law_L18 L xs n) a0 a1 a2 (a3 + 5) q194.2) else (some (0, q194.2))) else if (x1 &&& 31) = 31 then (vC hp a1 9 (f_X10_digest a1 hp)).bind fun q195 => (vC hp a2 10 (f_X11_digest a2 hp)).bind fun q196 => (if (lg_cmp q195 q196) = 0 then ((f_L_law_L18 L xs n) a0 a1 a2 (a3 + 5) hp) else (some (0, hp))) else ((f_L_law_L18 L xs n) a0 a1 a2 (a3 + 5) hp)))
set_option maxRecDepth 100000 in
set_option maxHeartbeats 4000000 in
theorem mf_L_law_L18 {K : GK} : ∀ (n : Nat) (a0 : Nat) (a1 : Nat) (a2 : Nat) (a3 : Int32) (hp : PH) (r : (Int32 × PH)), f_L_law_L18 (gL K) (gx K) n a0 a1 a2 a3 hp = some r → PW K room_1 1000 100000 M_L_law 18 [(0, .ref (gb K)), (1, .ref (ga K a1)), (2, .ref (ga K a2)), (3, .int a3)] [] hp (some (.int r.1)) r.2 := by
  intro n
  induction n with
  | zero =>
    intro a0 a1 a2 a3 hp r h
    rw [f_L_law_L18] at h
    cases h
  | succ n ih =>
    intro a0 a1 a2 a3 hp r h
    rw [f_L_law_L18] at h
    refine PW.iload_n 3 dL_law_18 rfl rfl ?_
    refine PW.aload_n 0 dL_law_19 rfl rfl ?_
    refine PW.slen dL_law_20 ?_
    refine PW.iconst (x := 5) dL_law_21 (by decide) ?_
    refine PW.isub dL_law_22 ?_
    refine PW.icmp_gt (tgt := 1256) dL_law_23 (by decide) (fun c23 => ?_) (fun c23 => ?_)
    · rw [if_pos c23] at h
      refine PW.iconst (x := 1) dL_law_1256 (by decide) ?_
      have h := Option.some.inj h; subst h
      exact PW.ret dL_law_1257 (z_nar (Or.inr rfl)).1 rfl
    · rw [if_neg c23] at h
      refine PW.aload_n 0 dL_law_26 rfl rfl ?_
      refine PW.iload_n 3 dL_law_27 rfl rfl ?_
      obtain ⟨x1, hx1, h⟩ := bind_some h
      refine PW.sldX dL_law_28 hx1 ?_
      refine PW.bipush (x := 31) dL_law_29 (by decide) ?_
      refine PW.iand dL_law_31 ?_
      by_cases c32 : (x1 &&& 31) = 0
      · rw [if_pos c32] at h
        refine PW.tabE c32 (tgt := 176) (off := 144) dL_law_32 (by decide) (by decide) (by decide) (by decide) ?_
        refine PW.aload_n 1 dL_law_176 rfl rfl ?_
        refine PW.aload_n 0 dL_law_177 rfl rfl ?_
        refine PW.iload_n 3 dL_law_178 rfl rfl ?_
        refine PW.iconst (x := 1) dL_law_179 (by decide) ?_
        refine PW.iadd dL_law_180 ?_
        obtain ⟨x2, hx2, h⟩ := bind_some h
        refine PW.sldX dL_law_181 hx2 ?_
        refine PW.aload_n 0 dL_law_182 rfl rfl ?_
        refine PW.iload_n 3 dL_law_183 rfl rfl ?_
        refine PW.iconst (x := 2) dL_law_184 (by decide) ?_
        refine PW.iadd dL_law_185 ?_
        obtain ⟨x3, hx3, h⟩ := bind_some h
        refine PW.sldX dL_law_186 hx3 ?_
        refine PW.aload_n 0 dL_law_187 rfl rfl ?_
        refine PW.iload_n 3 dL_law_188 rfl rfl ?_
        refine PW.iconst (x := 3) dL_law_189 (by decide) ?_
        refine PW.iadd dL_law_190 ?_
        obtain ⟨x4, hx4, h⟩ := bind_some h
        refine PW.sldX dL_law_191 hx4 ?_
        obtain ⟨q5, hq5, h⟩ := bind_some h
        obtain ⟨hkq5, hcq5, hq5⟩ := vC_spec hq5
        refine PW.callVi (As := [.int x2, .int x3, .int x4]) (rest := []) (k := a1) cal_X10_day dL_law_192 wd_368 rfl rfl (lwLe (by omega)) (Nat.le_of_ble_eq_true rfl) lw_0 hkq5 hcq5 (mf_X10_day a1 x2 x3 x4 hp _ hq5) ?_
        refine PW.aload_n 2 dL_law_195 rfl rfl ?_
        refine PW.aload_n 0 dL_law_196 rfl rfl ?_
        refine PW.iload_n 3 dL_law_197 rfl rfl ?_
        refine PW.iconst (x := 1) dL_law_198 (by decide) ?_
        refine PW.iadd dL_law_199 ?_
        obtain ⟨x6, hx6, h⟩ := bind_some h
        refine PW.sldX dL_law_200 hx6 ?_
        refine PW.aload_n 0 dL_law_201 rfl rfl ?_
        refine PW.iload_n 3 dL_law_202 rfl rfl ?_
        refine PW.iconst (x := 2) dL_law_203 (by decide) ?_
        refine PW.iadd dL_law_204 ?_
        obtain ⟨x7, hx7, h⟩ := bind_some h
        refine PW.sldX dL_law_205 hx7 ?_
        refine PW.aload_n 0 dL_law_206 rfl rfl ?_
        refine PW.iload_n 3 dL_law_207 rfl rfl ?_
        refine PW.iconst (x := 3) dL_law_208 (by decide) ?_
        refine PW.iadd dL_law_209 ?_
        obtain ⟨x8, hx8, h⟩ := bind_some h
        refine PW.sldX dL_law_210 hx8 ?_
        obtain ⟨q9, hq9, h⟩ := bind_some h
        obtain ⟨hkq9, hcq9, hq9⟩ := vC_spec hq9
        refine PW.callVi (As := [.int x6, .int x7, .int x8]) (rest := [.int q5.1]) (k := a2) cal_X11_day dL_law_211 wd_977 rfl rfl (lwLe (by omega)) (Nat.le_of_ble_eq_true rfl) lw_0 hkq9 hcq9 (mf_X11_day a2 x6 x7 x8 q5.2 _ hq9) ?_
        refine PW.icmp_eq (tgt := 1250) dL_law_214 (by decide) (fun c214 => ?_) (fun c214 => ?_)
        · rw [if_pos c214] at h
          refine PW.iinc 3 (l' := [(3, .int (a3 + 5)), (0, .ref (gb K)), (1, .ref (ga K a1)), (2, .ref (ga K a2))]) dL_law_1250 rfl (x := a3) (y := (a3 + 5)) rfl (by decide) rfl ?_
          refine PW.goto (tgt := 18) dL_law_1253 (by decide) ?_
          exact PW.sub (l' := [(0, .ref (gb K)), (1, .ref (ga K a1)), (2, .ref (ga K a2)), (3, .int (a3 + 5))]) [1, 2, 3, 0] rfl (ih a0 a1 a2 (a3 + 5) q9.2 _ h)
        · rw [if_neg c214] at h
          refine PW.iconst (x := 0) dL_law_217 (by decide) ?_
          have h := Option.some.inj h; subst h
          exact PW.ret dL_law_218 (z_nar (Or.inl rfl)).1 rfl
      · rw [if_neg c32] at h
        have c32_0 := sw_ne c32
        by_cases c32 : (x1 &&& 31) = 1
        · rw [if_pos c32] at h
          refine PW.tabE c32 (tgt := 219) (off := 187) dL_law_32 (by decide) (by decide) (by decide) (by decide) ?_
          refine PW.aload_n 1 dL_law_219 rfl rfl ?_
          refine PW.aload_n 0 dL_law_220 rfl rfl ?_
          refine PW.iload_n 3 dL_law_221 rfl rfl ?_
          refine PW.iconst (x := 1) dL_law_222 (by decide) ?_
          refine PW.iadd dL_law_223 ?_
          obtain ⟨x10, hx10, h⟩ := bind_some h
          refine PW.sldX dL_law_224 hx10 ?_
          refine PW.aload_n 0 dL_law_225 rfl rfl ?_
          refine PW.iload_n 3 dL_law_226 rfl rfl ?_
          refine PW.iconst (x := 2) dL_law_227 (by decide) ?_
          refine PW.iadd dL_law_228 ?_
          obtain ⟨x11, hx11, h⟩ := bind_some h
          refine PW.sldX dL_law_229 hx11 ?_
          obtain ⟨q12, hq12, h⟩ := bind_some h
          obtain ⟨hkq12, hcq12, hq12⟩ := vC_spec hq12
          refine PW.callVi (As := [.int x10, .int x11]) (rest := []) (k := a1) cal_X10_date dL_law_230 wd_406 rfl rfl (lwLe (by omega)) (Nat.le_of_ble_eq_true rfl) lw_0 hkq12 hcq12 (mf_X10_date a1 x10 x11 hp _ hq12) ?_
          refine PW.aload_n 2 dL_law_233 rfl rfl ?_
          refine PW.aload_n 0 dL_law_234 rfl rfl ?_
          refine PW.iload_n 3 dL_law_235 rfl rfl ?_
          refine PW.iconst (x := 1) dL_law_236 (by decide) ?_
          refine PW.iadd dL_law_237 ?_
          obtain ⟨x13, hx13, h⟩ := bind_some h
          refine PW.sldX dL_law_238 hx13 ?_
          refine PW.aload_n 0 dL_law_239 rfl rfl ?_
          refine PW.iload_n 3 dL_law_240 rfl rfl ?_
          refine PW.iconst (x := 2) dL_law_241 (by decide) ?_
          refine PW.iadd dL_law_242 ?_
          obtain ⟨x14, hx14, h⟩ := bind_some h
          refine PW.sldX dL_law_243 hx14 ?_
          obtain ⟨q15, hq15, h⟩ := bind_some h
          obtain ⟨hkq15, hcq15, hq15⟩ := vC_spec hq15
          refine PW.callVi (As := [.int x13, .int x14]) (rest := [.int q12.1]) (k := a2) cal_X11_date dL_law_244 wd_1006 rfl rfl (lwLe (by omega)) (Nat.le_of_ble_eq_true rfl) lw_0 hkq15 hcq15 (mf_X11_date a2 x13 x14 q12.2 _ hq15) ?_
          refine PW.icmp_eq (tgt := 1250) dL_law_247 (by decide) (fun c247 => ?_) (fun c247 => ?_)
          · rw [if_pos c247] at h
            refine PW.iinc 3 (l' := [(3, .int (a3 + 5)), (0, .ref (gb K)), (1, .ref (ga K a1)), (2, .ref (ga K a2))]) dL_law_1250 rfl (x := a3) (y := (a3 + 5)) rfl (by decide) rfl ?_
            refine PW.goto (tgt := 18) dL_law_1253 (by decide) ?_
            exact PW.sub (l' := [(0, .ref (gb K)), (1, .ref (ga K a1)), (2, .ref (ga K a2)), (3, .int (a3 + 5))]) [1, 2, 3, 0] rfl (ih a0 a1 a2 (a3 + 5) q15.2 _ h)
          · rw [if_neg c247] at h
            refine PW.iconst (x := 0) dL_law_250 (by decide) ?_
            have h := Option.some.inj h; subst h
            exact PW.ret dL_law_251 (z_nar (Or.inl rfl)).1 rfl
        · rw [if_neg c32] at h
          have c32_1 := sw_ne c32
          by_cases c32 : (x1 &&& 31) = 2
          · rw [if_pos c32] at h
            refine PW.tabE c32 (tgt := 252) (off := 220) dL_law_32 (by decide) (by decide) (by decide) (by decide) ?_
            refine PW.aload_n 1 dL_law_252 rfl rfl ?_
            refine PW.aload_n 0 dL_law_253 rfl rfl ?_
            refine PW.iload_n 3 dL_law_254 rfl rfl ?_
            refine PW.iconst (x := 1) dL_law_255 (by decide) ?_
            refine PW.iadd dL_law_256 ?_
            obtain ⟨x16, hx16, h⟩ := bind_some h
            refine PW.sldX dL_law_257 hx16 ?_
            obtain ⟨q17, hq17, h⟩ := bind_some h
            obtain ⟨hkq17, hcq17, hq17⟩ := vC_spec hq17
            refine PW.callVi (As := [.int x16]) (rest := []) (k := a1) cal_X10_person dL_law_258 wd_424 rfl rfl (lwLe (by omega)) (Nat.le_of_ble_eq_true rfl) lw_0 hkq17 hcq17 (mf_X10_person a1 x16 hp _ hq17) ?_
            refine PW.aload_n 2 dL_law_261 rfl rfl ?_
            refine PW.aload_n 0 dL_law_262 rfl rfl ?_
            refine PW.iload_n 3 dL_law_263 rfl rfl ?_
            refine PW.iconst (x := 1) dL_law_264 (by decide) ?_
            refine PW.iadd dL_law_265 ?_
            obtain ⟨x18, hx18, h⟩ := bind_some h
            refine PW.sldX dL_law_266 hx18 ?_
            obtain ⟨q19, hq19, h⟩ := bind_some h
            obtain ⟨hkq19, hcq19, hq19⟩ := vC_spec hq19
            refine PW.callVi (As := [.int x18]) (rest := [.int q17.1]) (k := a2) cal_X11_person dL_law_267 wd_1022 rfl rfl (lwLe (by omega)) (Nat.le_of_ble_eq_true rfl) lw_0 hkq19 hcq19 (mf_X11_person a2 x18 q17.2 _ hq19) ?_
            refine PW.icmp_eq (tgt := 1250) dL_law_270 (by decide) (fun c270 => ?_) (fun c270 => ?_)
            · rw [if_pos c270] at h
              refine PW.iinc 3 (l' := [(3, .int (a3 + 5)), (0, .ref (gb K)), (1, .ref (ga K a1)), (2, .ref (ga K a2))]) dL_law_1250 rfl (x := a3) (y := (a3 + 5)) rfl (by decide) rfl ?_
              refine PW.goto (tgt := 18) dL_law_1253 (by decide) ?_
              exact PW.sub (l' := [(0, .ref (gb K)), (1, .ref (ga K a1)), (2, .ref (ga K a2)), (3, .int (a3 + 5))]) [1, 2, 3, 0] rfl (ih a0 a1 a2 (a3 + 5) q19.2 _ h)
            · rw [if_neg c270] at h
              refine PW.iconst (x := 0) dL_law_273 (by decide) ?_
              have h := Option.some.inj h; subst h
              exact PW.ret dL_law_274 (z_nar (Or.inl rfl)).1 rfl
          · rw [if_neg c32] at h
            have c32_2 := sw_ne c32
            by_cases c32 : (x1 &&& 31) = 3
            · rw [if_pos c32] at h
              refine PW.tabE c32 (tgt := 275) (off := 243) dL_law_32 (by decide) (by decide) (by decide) (by decide) ?_
              refine PW.aload_n 1 dL_law_275 rfl rfl ?_
              refine PW.aload_n 0 dL_law_276 rfl rfl ?_
              refine PW.iload_n 3 dL_law_277 rfl rfl ?_
              refine PW.iconst (x := 1) dL_law_278 (by decide) ?_
              refine PW.iadd dL_law_279 ?_
              obtain ⟨x20, hx20, h⟩ := bind_some h
              refine PW.sldX dL_law_280 hx20 ?_
              refine PW.aload_n 0 dL_law_281 rfl rfl ?_
              refine PW.iload_n 3 dL_law_282 rfl rfl ?_
              refine PW.iconst (x := 2) dL_law_283 (by decide) ?_
              refine PW.iadd dL_law_284 ?_
              obtain ⟨x21, hx21, h⟩ := bind_some h
              refine PW.sldX dL_law_285 hx21 ?_
              obtain ⟨q22, hq22, h⟩ := bind_some h
              obtain ⟨hkq22, hcq22, hq22⟩ := vC_spec hq22
              refine PW.callVi (As := [.int x20, .int x21]) (rest := []) (k := a1) cal_X10_gate dL_law_286 wd_434 rfl rfl (lwLe (by omega)) (Nat.le_of_ble_eq_true rfl) lw_0 hkq22 hcq22 (mf_X10_gate a1 x20 x21 hp _ hq22) ?_
              refine PW.aload_n 2 dL_law_289 rfl rfl ?_
              refine PW.aload_n 0 dL_law_290 rfl rfl ?_
              refine PW.iload_n 3 dL_law_291 rfl rfl ?_
              refine PW.iconst (x := 1) dL_law_292 (by decide) ?_
              refine PW.iadd dL_law_293 ?_
              obtain ⟨x23, hx23, h⟩ := bind_some h
              refine PW.sldX dL_law_294 hx23 ?_
              refine PW.aload_n 0 dL_law_295 rfl rfl ?_
              refine PW.iload_n 3 dL_law_296 rfl rfl ?_
              refine PW.iconst (x := 2) dL_law_297 (by decide) ?_
              refine PW.iadd dL_law_298 ?_
              obtain ⟨x24, hx24, h⟩ := bind_some h
              refine PW.sldX dL_law_299 hx24 ?_
              obtain ⟨q25, hq25, h⟩ := bind_some h
              obtain ⟨hkq25, hcq25, hq25⟩ := vC_spec hq25
              refine PW.callVi (As := [.int x23, .int x24]) (rest := [.int q22.1]) (k := a2) cal_X11_gate dL_law_300 wd_1030 rfl rfl (lwLe (by omega)) (Nat.le_of_ble_eq_true rfl) lw_0 hkq25 hcq25 (mf_X11_gate a2 x23 x24 q22.2 _ hq25) ?_
              refine PW.icmp_eq (tgt := 1250) dL_law_303 (by decide) (fun c303 => ?_) (fun c303 => ?_)
              · rw [if_pos c303] at h
                refine PW.iinc 3 (l' := [(3, .int (a3 + 5)), (0, .ref (gb K)), (1, .ref (ga K a1)), (2, .ref (ga K a2))]) dL_law_1250 rfl (x := a3) (y := (a3 + 5)) rfl (by decide) rfl ?_
                refine PW.goto (tgt := 18) dL_law_1253 (by decide) ?_
                exact PW.sub (l' := [(0, .ref (gb K)), (1, .ref (ga K a1)), (2, .ref (ga K a2)), (3, .int (a3 + 5))]) [1, 2, 3, 0] rfl (ih a0 a1 a2 (a3 + 5) q25.2 _ h)
              · rw [if_neg c303] at h
                refine PW.iconst (x := 0) dL_law_306 (by decide) ?_
                have h := Option.some.inj h; subst h
                exact PW.ret dL_law_307 (z_nar (Or.inl rfl)).1 rfl
            · rw [if_neg c32] at h
              have c32_3 := sw_ne c32
              by_cases c32 : (x1 &&& 31) = 4
              · rw [if_pos c32] at h
                refine PW.tabE c32 (tgt := 308) (off := 276) dL_law_32 (by decide) (by decide) (by decide) (by decide) ?_
                refine PW.aload_n 1 dL_law_308 rfl rfl ?_
                refine PW.aload_n 0 dL_law_309 rfl rfl ?_
                refine PW.iload_n 3 dL_law_310 rfl rfl ?_
                refine PW.iconst (x := 1) dL_law_311 (by decide) ?_
                refine PW.iadd dL_law_312 ?_
                obtain ⟨x26, hx26, h⟩ := bind_some h
                refine PW.sldX dL_law_313 hx26 ?_
                refine PW.aload_n 0 dL_law_314 rfl rfl ?_
                refine PW.iload_n 3 dL_law_315 rfl rfl ?_
                refine PW.iconst (x := 2) dL_law_316 (by decide) ?_
                refine PW.iadd dL_law_317 ?_
                obtain ⟨x27, hx27, h⟩ := bind_some h
                refine PW.sldX dL_law_318 hx27 ?_
                refine PW.aload_n 0 dL_law_319 rfl rfl ?_
                refine PW.iload_n 3 dL_law_320 rfl rfl ?_
                refine PW.iconst (x := 3) dL_law_321 (by decide) ?_
                refine PW.iadd dL_law_322 ?_
                obtain ⟨x28, hx28, h⟩ := bind_some h
                refine PW.sldX dL_law_323 hx28 ?_
                obtain ⟨q29, hq29, h⟩ := bind_some h
                obtain ⟨hkq29, hcq29, hq29⟩ := vC_spec hq29
                refine PW.callVi (As := [.int x26, .int x27, .int x28]) (rest := []) (k := a1) cal_X10_pair dL_law_324 wd_448 rfl rfl (lwLe (by omega)) (Nat.le_of_ble_eq_true rfl) lw_0 hkq29 hcq29 (mf_X10_pair a1 x26 x27 x28 hp _ hq29) ?_
                refine PW.aload_n 2 dL_law_327 rfl rfl ?_
                refine PW.aload_n 0 dL_law_328 rfl rfl ?_
                refine PW.iload_n 3 dL_law_329 rfl rfl ?_
                refine PW.iconst (x := 1) dL_law_330 (by decide) ?_
                refine PW.iadd dL_law_331 ?_
                obtain ⟨x30, hx30, h⟩ := bind_some h
                refine PW.sldX dL_law_332 hx30 ?_
                refine PW.aload_n 0 dL_law_333 rfl rfl ?_
                refine PW.iload_n 3 dL_law_334 rfl rfl ?_
                refine PW.iconst (x := 2) dL_law_335 (by decide) ?_
                refine PW.iadd dL_law_336 ?_
                obtain ⟨x31, hx31, h⟩ := bind_some h
                refine PW.sldX dL_law_337 hx31 ?_
                refine PW.aload_n 0 dL_law_338 rfl rfl ?_
                refine PW.iload_n 3 dL_law_339 rfl rfl ?_
                refine PW.iconst (x := 3) dL_law_340 (by decide) ?_
                refine PW.iadd dL_law_341 ?_
                obtain ⟨x32, hx32, h⟩ := bind_some h
                refine PW.sldX dL_law_342 hx32 ?_
                obtain ⟨q33, hq33, h⟩ := bind_some h
                obtain ⟨hkq33, hcq33, hq33⟩ := vC_spec hq33
                refine PW.callVi (As := [.int x30, .int x31, .int x32]) (rest := [.int q29.1]) (k := a2) cal_X11_pair dL_law_343 wd_1036 rfl rfl (lwLe (by omega)) (Nat.le_of_ble_eq_true rfl) lw_0 hkq33 hcq33 (mf_X11_pair a2 x30 x31 x32 q29.2 _ hq33) ?_
                refine PW.icmp_eq (tgt := 1250) dL_law_346 (by decide) (fun c346 => ?_) (fun c346 => ?_)
                · rw [if_pos c346] at h
                  refine PW.iinc 3 (l' := [(3, .int (a3 + 5)), (0, .ref (gb K)), (1, .ref (ga K a1)), (2, .ref (ga K a2))]) dL_law_1250 rfl (x := a3) (y := (a3 + 5)) rfl (by decide) rfl ?_
                  refine PW.goto (tgt := 18) dL_law_1253 (by decide) ?_
                  exact PW.sub (l' := [(0, .ref (gb K)), (1, .ref (ga K a1)), (2, .ref (ga K a2)), (3, .int (a3 + 5))]) [1, 2, 3, 0] rfl (ih a0 a1 a2 (a3 + 5) q33.2 _ h)
                · rw [if_neg c346] at h
                  refine PW.iconst (x := 0) dL_law_349 (by decide) ?_
                  have h := Option.some.inj h; subst h
                  exact PW.ret dL_law_350 (z_nar (Or.inl rfl)).1 rfl
              · rw [if_neg c32] at h
                have c32_4 := sw_ne c32
                by_cases c32 : (x1 &&& 31) = 5
                · rw [if_pos c32] at h
                  refine PW.tabE c32 (tgt := 351) (off := 319) dL_law_32 (by decide) (by decide) (by decide) (by decide) ?_
                  refine PW.aload_n 1 dL_law_351 rfl rfl ?_
                  refine PW.aload_n 0 dL_law_352 rfl rfl ?_
                  refine PW.iload_n 3 dL_law_353 rfl rfl ?_
                  refine PW.iconst (x := 1) dL_law_354 (by decide) ?_
                  refine PW.iadd dL_law_355 ?_
                  obtain ⟨x34, hx34, h⟩ := bind_some h
                  refine PW.sldX dL_law_356 hx34 ?_
                  refine PW.aload_n 0 dL_law_357 rfl rfl ?_
                  refine PW.iload_n 3 dL_law_358 rfl rfl ?_
                  refine PW.iconst (x := 2) dL_law_359 (by decide) ?_
                  refine PW.iadd dL_law_360 ?_
                  obtain ⟨x35, hx35, h⟩ := bind_some h
                  refine PW.sldX dL_law_361 hx35 ?_
                  obtain ⟨q36, hq36, h⟩ := bind_some h
                  obtain ⟨hkq36, hcq36, hq36⟩ := vC_spec hq36
                  refine PW.callVi (As := [.int x34, .int x35]) (rest := []) (k := a1) cal_X10_age dL_law_362 wd_459 rfl rfl (lwLe (by omega)) (Nat.le_of_ble_eq_true rfl) lw_0 hkq36 hcq36 (mf_X10_age a1 x34 x35 hp _ hq36) ?_
                  refine PW.aload_n 2 dL_law_365 rfl rfl ?_
                  refine PW.aload_n 0 dL_law_366 rfl rfl ?_
                  refine PW.iload_n 3 dL_law_367 rfl rfl ?_
                  refine PW.iconst (x := 1) dL_law_368 (by decide) ?_
                  refine PW.iadd dL_law_369 ?_
                  obtain ⟨x37, hx37, h⟩ := bind_some h
                  refine PW.sldX dL_law_370 hx37 ?_
                  refine PW.aload_n 0 dL_law_371 rfl rfl ?_
                  refine PW.iload_n 3 dL_law_372 rfl rfl ?_
                  refine PW.iconst (x := 2) dL_law_373 (by decide) ?_
                  refine PW.iadd dL_law_374 ?_
                  obtain ⟨x38, hx38, h⟩ := bind_some h
                  refine PW.sldX dL_law_375 hx38 ?_
                  obtain ⟨q39, hq39, h⟩ := bind_some h
                  obtain ⟨hkq39, hcq39, hq39⟩ := vC_spec hq39
                  refine PW.callVi (As := [.int x37, .int x38]) (rest := [.int q36.1]) (k := a2) cal_X11_age dL_law_376 wd_1051 rfl rfl (lwLe (by omega)) (Nat.le_of_ble_eq_true rfl) lw_0 hkq39 hcq39 (mf_X11_age a2 x37 x38 q36.2 _ hq39) ?_
                  refine PW.icmp_eq (tgt := 1250) dL_law_379 (by decide) (fun c379 => ?_) (fun c379 => ?_)
                  · rw [if_pos c379] at h
                    refine PW.iinc 3 (l' := [(3, .int (a3 + 5)), (0, .ref (gb K)), (1, .ref (ga K a1)), (2, .ref (ga K a2))]) dL_law_1250 rfl (x := a3) (y := (a3 + 5)) rfl (by decide) rfl ?_
                    refine PW.goto (tgt := 18) dL_law_1253 (by decide) ?_
                    exact PW.sub (l' := [(0, .ref (gb K)), (1, .ref (ga K a1)), (2, .ref (ga K a2)), (3, .int (a3 + 5))]) [1, 2, 3, 0] rfl (ih a0 a1 a2 (a3 + 5) q39.2 _ h)
                  · rw [if_neg c379] at h
                    refine PW.iconst (x := 0) dL_law_382 (by decide) ?_
                    have h := Option.some.inj h; subst h
                    exact PW.ret dL_law_383 (z_nar (Or.inl rfl)).1 rfl
                · rw [if_neg c32] at h
                  have c32_5 := sw_ne c32
                  by_cases c32 : (x1 &&& 31) = 6
                  · rw [if_pos c32] at h
                    refine PW.tabE c32 (tgt := 384) (off := 352) dL_law_32 (by decide) (by decide) (by decide) (by decide) ?_
                    refine PW.aload_n 1 dL_law_384 rfl rfl ?_
                    refine PW.aload_n 0 dL_law_385 rfl rfl ?_
                    refine PW.iload_n 3 dL_law_386 rfl rfl ?_
                    refine PW.iconst (x := 1) dL_law_387 (by decide) ?_
                    refine PW.iadd dL_law_388 ?_
                    obtain ⟨x40, hx40, h⟩ := bind_some h
                    refine PW.sldX dL_law_389 hx40 ?_
                    refine PW.aload_n 0 dL_law_390 rfl rfl ?_
                    refine PW.iload_n 3 dL_law_391 rfl rfl ?_
                    refine PW.iconst (x := 2) dL_law_392 (by decide) ?_
                    refine PW.iadd dL_law_393 ?_
                    obtain ⟨x41, hx41, h⟩ := bind_some h
                    refine PW.sldX dL_law_394 hx41 ?_
                    refine PW.aload_n 0 dL_law_395 rfl rfl ?_
                    refine PW.iload_n 3 dL_law_396 rfl rfl ?_
                    refine PW.iconst (x := 3) dL_law_397 (by decide) ?_
                    refine PW.iadd dL_law_398 ?_
                    obtain ⟨x42, hx42, h⟩ := bind_some h
                    refine PW.sldX dL_law_399 hx42 ?_
                    obtain ⟨q43, hq43, h⟩ := bind_some h
                    obtain ⟨hkq43, hcq43, hq43⟩ := vC_spec hq43
                    refine PW.callVi (As := [.int x40, .int x41, .int x42]) (rest := []) (k := a1) cal_X10_why dL_law_400 wd_468 rfl rfl (lwLe (by omega)) (Nat.le_of_ble_eq_true rfl) lw_0 hkq43 hcq43 (mf_X10_why a1 x40 x41 x42 hp _ hq43) ?_
                    refine PW.aload_n 2 dL_law_403 rfl rfl ?_
                    refine PW.aload_n 0 dL_law_404 rfl rfl ?_
                    refine PW.iload_n 3 dL_law_405 rfl rfl ?_
                    refine PW.iconst (x := 1) dL_law_406 (by decide) ?_
                    refine PW.iadd dL_law_407 ?_
                    obtain ⟨x44, hx44, h⟩ := bind_some h
                    refine PW.sldX dL_law_408 hx44 ?_
                    refine PW.aload_n 0 dL_law_409 rfl rfl ?_
                    refine PW.iload_n 3 dL_law_410 rfl rfl ?_
                    refine PW.iconst (x := 2) dL_law_411 (by decide) ?_
                    refine PW.iadd dL_law_412 ?_
                    obtain ⟨x45, hx45, h⟩ := bind_some h
                    refine PW.sldX dL_law_413 hx45 ?_
                    refine PW.aload_n 0 dL_law_414 rfl rfl ?_
                    refine PW.iload_n 3 dL_law_415 rfl rfl ?_
                    refine PW.iconst (x := 3) dL_law_416 (by decide) ?_
                    refine PW.iadd dL_law_417 ?_
                    obtain ⟨x46, hx46, h⟩ := bind_some h
                    refine PW.sldX dL_law_418 hx46 ?_
                    obtain ⟨q47, hq47, h⟩ := bind_some h
                    obtain ⟨hkq47, hcq47, hq47⟩ := vC_spec hq47
                    refine PW.callVi (As := [.int x44, .int x45, .int x46]) (rest := [.int q43.1]) (k := a2) cal_X11_why dL_law_419 wd_1067 rfl rfl (lwLe (by omega)) (Nat.le_of_ble_eq_true rfl) lw_0 hkq47 hcq47 (mf_X11_why a2 x44 x45 x46 q43.2 _ hq47) ?_
                    refine PW.icmp_eq (tgt := 1250) dL_law_422 (by decide) (fun c422 => ?_) (fun c422 => ?_)
                    · rw [if_pos c422] at h
                      refine PW.iinc 3 (l' := [(3, .int (a3 + 5)), (0, .ref (gb K)), (1, .ref (ga K a1)), (2, .ref (ga K a2))]) dL_law_1250 rfl (x := a3) (y := (a3 + 5)) rfl (by decide) rfl ?_
                      refine PW.goto (tgt := 18) dL_law_1253 (by decide) ?_
                      exact PW.sub (l' := [(0, .ref (gb K)), (1, .ref (ga K a1)), (2, .ref (ga K a2)), (3, .int (a3 + 5))]) [1, 2, 3, 0] rfl (ih a0 a1 a2 (a3 + 5) q47.2 _ h)
                    · rw [if_neg c422] at h
                      refine PW.iconst (x := 0) dL_law_425 (by decide) ?_
                      have h := Option.some.inj h; subst h
                      exact PW.ret dL_law_426 (z_nar (Or.inl rfl)).1 rfl
                  · rw [if_neg c32] at h
                    have c32_6 := sw_ne c32
                    by_cases c32 : (x1 &&& 31) = 7
                    · rw [if_pos c32] at h
                      refine PW.tabE c32 (tgt := 427) (off := 395) dL_law_32 (by decide) (by decide) (by decide) (by decide) ?_
                      refine PW.aload_n 1 dL_law_427 rfl rfl ?_
                      refine PW.aload_n 0 dL_law_428 rfl rfl ?_
                      refine PW.iload_n 3 dL_law_429 rfl rfl ?_
                      refine PW.iconst (x := 1) dL_law_430 (by decide) ?_
                      refine PW.iadd dL_law_431 ?_
                      obtain ⟨x48, hx48, h⟩ := bind_some h
                      refine PW.sldX dL_law_432 hx48 ?_
                      refine PW.i2l dL_law_433 ?_
                      refine PW.bipush (x := 32) dL_law_434 (by decide) ?_
                      refine PW.lshl dL_law_436 ?_
                      refine PW.aload_n 0 dL_law_437 rfl rfl ?_
                      refine PW.iload_n 3 dL_law_438 rfl rfl ?_
                      refine PW.iconst (x := 2) dL_law_439 (by decide) ?_
                      refine PW.iadd dL_law_440 ?_
                      obtain ⟨x49, hx49, h⟩ := bind_some h
                      refine PW.sldX dL_law_441 hx49 ?_
                      refine PW.i2l dL_law_442 ?_
                      refine PW.ldc2 (x := 4294967295) dL_law_443 wd_1284 ?_
                      refine PW.land dL_law_446 ?_
                      refine PW.lor dL_law_447 ?_
                      refine PW.aload_n 0 dL_law_448 rfl rfl ?_
                      refine PW.iload_n 3 dL_law_449 rfl rfl ?_
                      refine PW.iconst (x := 3) dL_law_450 (by decide) ?_
                      refine PW.iadd dL_law_451 ?_
                      obtain ⟨x50, hx50, h⟩ := bind_some h
                      refine PW.sldX dL_law_452 hx50 ?_
                      obtain ⟨q51, hq51, h⟩ := bind_some h
                      obtain ⟨hkq51, hcq51, hq51⟩ := vC_spec hq51
                      refine PW.callVi (As := [.long ((jL (Int32.toInt64 x48) 32) ||| ((Int32.toInt64 x49) &&& 4294967295)), .int x50]) (rest := []) (k := a1) cal_X10_type dL_law_453 wd_527 rfl rfl (lwLe (by omega)) (Nat.le_of_ble_eq_true rfl) lw_0 hkq51 hcq51 (mf_X10_type a1 ((jL (Int32.toInt64 x48) 32) ||| ((Int32.toInt64 x49) &&& 4294967295)) x50 hp _ hq51) ?_
                      refine PW.aload_n 2 dL_law_456 rfl rfl ?_
                      refine PW.aload_n 0 dL_law_457 rfl rfl ?_
                      refine PW.iload_n 3 dL_law_458 rfl rfl ?_
                      refine PW.iconst (x := 1) dL_law_459 (by decide) ?_
                      refine PW.iadd dL_law_460 ?_
                      obtain ⟨x52, hx52, h⟩ := bind_some h
                      refine PW.sldX dL_law_461 hx52 ?_
                      refine PW.i2l dL_law_462 ?_
                      refine PW.bipush (x := 32) dL_law_463 (by decide) ?_
                      refine PW.lshl dL_law_465 ?_
                      refine PW.aload_n 0 dL_law_466 rfl rfl ?_
                      refine PW.iload_n 3 dL_law_467 rfl rfl ?_
                      refine PW.iconst (x := 2) dL_law_468 (by decide) ?_
                      refine PW.iadd dL_law_469 ?_
                      obtain ⟨x53, hx53, h⟩ := bind_some h
                      refine PW.sldX dL_law_470 hx53 ?_
                      refine PW.i2l dL_law_471 ?_
                      refine PW.ldc2 (x := 4294967295) dL_law_472 wd_1284 ?_
                      refine PW.land dL_law_475 ?_
                      refine PW.lor dL_law_476 ?_
                      refine PW.aload_n 0 dL_law_477 rfl rfl ?_
                      refine PW.iload_n 3 dL_law_478 rfl rfl ?_
                      refine PW.iconst (x := 3) dL_law_479 (by decide) ?_
                      refine PW.iadd dL_law_480 ?_
                      obtain ⟨x54, hx54, h⟩ := bind_some h
                      refine PW.sldX dL_law_481 hx54 ?_
                      obtain ⟨q55, hq55, h⟩ := bind_some h
                      obtain ⟨hkq55, hcq55, hq55⟩ := vC_spec hq55
                      refine PW.callVi (As := [.long ((jL (Int32.toInt64 x52) 32) ||| ((Int32.toInt64 x53) &&& 4294967295)), .int x54]) (rest := [.int q51.1]) (k := a2) cal_X11_type dL_law_482 wd_1090 rfl rfl (lwLe (by omega)) (Nat.le_of_ble_eq_true rfl) lw_0 hkq55 hcq55 (mf_X11_type a2 ((jL (Int32.toInt64 x52) 32) ||| ((Int32.toInt64 x53) &&& 4294967295)) x54 q51.2 _ hq55) ?_
                      refine PW.icmp_eq (tgt := 1250) dL_law_485 (by decide) (fun c485 => ?_) (fun c485 => ?_)
                      · rw [if_pos c485] at h
                        refine PW.iinc 3 (l' := [(3, .int (a3 + 5)), (0, .ref (gb K)), (1, .ref (ga K a1)), (2, .ref (ga K a2))]) dL_law_1250 rfl (x := a3) (y := (a3 + 5)) rfl (by decide) rfl ?_
                        refine PW.goto (tgt := 18) dL_law_1253 (by decide) ?_
                        exact PW.sub (l' := [(0, .ref (gb K)), (1, .ref (ga K a1)), (2, .ref (ga K a2)), (3, .int (a3 + 5))]) [1, 2, 3, 0] rfl (ih a0 a1 a2 (a3 + 5) q55.2 _ h)
                      · rw [if_neg c485] at h
                        refine PW.iconst (x := 0) dL_law_488 (by decide) ?_
                        have h := Option.some.inj h; subst h
                        exact PW.ret dL_law_489 (z_nar (Or.inl rfl)).1 rfl
                    · rw [if_neg c32] at h
                      have c32_7 := sw_ne c32
                      by_cases c32 : (x1 &&& 31) = 8
                      · rw [if_pos c32] at h
                        refine PW.tabE c32 (tgt := 490) (off := 458) dL_law_32 (by decide) (by decide) (by decide) (by decide) ?_
                        refine PW.aload_n 1 dL_law_490 rfl rfl ?_
                        obtain ⟨q56, hq56, h⟩ := bind_some h
                        obtain ⟨hkq56, hcq56, hq56⟩ := vC_spec hq56
                        refine PW.callVi (As := []) (rest := []) (k := a1) cal_X10_clear dL_law_491 wd_536 rfl rfl (lwLe (by omega)) (Nat.le_of_ble_eq_true rfl) lw_0 hkq56 hcq56 (mf_X10_clear a1 hp _ hq56) ?_
                        refine PW.aload_n 2 dL_law_494 rfl rfl ?_
                        obtain ⟨q57, hq57, h⟩ := bind_some h
                        obtain ⟨hkq57, hcq57, hq57⟩ := vC_spec hq57
                        refine PW.callVi (As := []) (rest := [.int q56.1]) (k := a2) cal_X11_clear dL_law_495 wd_1095 rfl rfl (lwLe (by omega)) (Nat.le_of_ble_eq_true rfl) lw_0 hkq57 hcq57 (mf_X11_clear a2 q56.2 _ hq57) ?_
                        refine PW.icmp_eq (tgt := 1250) dL_law_498 (by decide) (fun c498 => ?_) (fun c498 => ?_)
                        · rw [if_pos c498] at h
                          refine PW.iinc 3 (l' := [(3, .int (a3 + 5)), (0, .ref (gb K)), (1, .ref (ga K a1)), (2, .ref (ga K a2))]) dL_law_1250 rfl (x := a3) (y := (a3 + 5)) rfl (by decide) rfl ?_
                          refine PW.goto (tgt := 18) dL_law_1253 (by decide) ?_
                          exact PW.sub (l' := [(0, .ref (gb K)), (1, .ref (ga K a1)), (2, .ref (ga K a2)), (3, .int (a3 + 5))]) [1, 2, 3, 0] rfl (ih a0 a1 a2 (a3 + 5) q57.2 _ h)
                        · rw [if_neg c498] at h
                          refine PW.iconst (x := 0) dL_law_501 (by decide) ?_
                          have h := Option.some.inj h; subst h
                          exact PW.ret dL_law_502 (z_nar (Or.inl rfl)).1 rfl
                      · rw [if_neg c32] at h
                        have c32_8 := sw_ne c32
                        by_cases c32 : (x1 &&& 31) = 9
                        · rw [if_pos c32] at h
                          refine PW.tabE c32 (tgt := 503) (off := 471) dL_law_32 (by decide) (by decide) (by decide) (by decide) ?_
                          refine PW.aload_n 1 dL_law_503 rfl rfl ?_
                          obtain ⟨q58, hq58, h⟩ := bind_some h
                          obtain ⟨hkq58, hcq58, hq58⟩ := vC_spec hq58
                          refine PW.callVi (As := []) (rest := []) (k := a1) cal_X10_read dL_law_504 wd_540 rfl rfl (lwLe (by omega)) (Nat.le_of_ble_eq_true rfl) lw_0 hkq58 hcq58 (mf_X10_read a1 hp _ hq58) ?_
                          refine PW.aload_n 2 dL_law_507 rfl rfl ?_
                          obtain ⟨q59, hq59, h⟩ := bind_some h
                          obtain ⟨hkq59, hcq59, hq59⟩ := vC_spec hq59
                          refine PW.callVi (As := []) (rest := [.int q58.1]) (k := a2) cal_X11_read dL_law_508 wd_1099 rfl rfl (lwLe (by omega)) (Nat.le_of_ble_eq_true rfl) lw_0 hkq59 hcq59 (mf_X11_read a2 q58.2 _ hq59) ?_
                          refine PW.icmp_eq (tgt := 1250) dL_law_511 (by decide) (fun c511 => ?_) (fun c511 => ?_)
                          · rw [if_pos c511] at h
                            refine PW.iinc 3 (l' := [(3, .int (a3 + 5)), (0, .ref (gb K)), (1, .ref (ga K a1)), (2, .ref (ga K a2))]) dL_law_1250 rfl (x := a3) (y := (a3 + 5)) rfl (by decide) rfl ?_
                            refine PW.goto (tgt := 18) dL_law_1253 (by decide) ?_
                            exact PW.sub (l' := [(0, .ref (gb K)), (1, .ref (ga K a1)), (2, .ref (ga K a2)), (3, .int (a3 + 5))]) [1, 2, 3, 0] rfl (ih a0 a1 a2 (a3 + 5) q59.2 _ h)
                          · rw [if_neg c511] at h
                            refine PW.iconst (x := 0) dL_law_514 (by decide) ?_
                            have h := Option.some.inj h; subst h
                            exact PW.ret dL_law_515 (z_nar (Or.inl rfl)).1 rfl
                        · rw [if_neg c32] at h
                          have c32_9 := sw_ne c32
                          by_cases c32 : (x1 &&& 31) = 10
                          · rw [if_pos c32] at h
                            refine PW.tabE c32 (tgt := 516) (off := 484) dL_law_32 (by decide) (by decide) (by decide) (by decide) ?_
                            refine PW.aload_n 1 dL_law_516 rfl rfl ?_
                            refine PW.aload_n 0 dL_law_517 rfl rfl ?_
                            refine PW.iload_n 3 dL_law_518 rfl rfl ?_
                            refine PW.iconst (x := 1) dL_law_519 (by decide) ?_
                            refine PW.iadd dL_law_520 ?_
                            obtain ⟨x60, hx60, h⟩ := bind_some h
                            refine PW.sldX dL_law_521 hx60 ?_
                            refine PW.aload_n 0 dL_law_522 rfl rfl ?_
                            refine PW.iload_n 3 dL_law_523 rfl rfl ?_
                            refine PW.iconst (x := 2) dL_law_524 (by decide) ?_
                            refine PW.iadd dL_law_525 ?_
                            obtain ⟨x61, hx61, h⟩ := bind_some h
                            refine PW.sldX dL_law_526 hx61 ?_
                            refine PW.aload_n 0 dL_law_527 rfl rfl ?_
                            refine PW.iload_n 3 dL_law_528 rfl rfl ?_
                            refine PW.iconst (x := 3) dL_law_529 (by decide) ?_
                            refine PW.iadd dL_law_530 ?_
                            obtain ⟨x62, hx62, h⟩ := bind_some h
                            refine PW.sldX dL_law_531 hx62 ?_
                            refine PW.aload_n 0 dL_law_532 rfl rfl ?_
                            refine PW.iload_n 3 dL_law_533 rfl rfl ?_
                            refine PW.iconst (x := 4) dL_law_534 (by decide) ?_
                            refine PW.iadd dL_law_535 ?_
                            obtain ⟨x63, hx63, h⟩ := bind_some h
                            refine PW.sldX dL_law_536 hx63 ?_
                            obtain ⟨q64, hq64, h⟩ := bind_some h
                            obtain ⟨hkq64, hcq64, hq64⟩ := vC_spec hq64
                            refine PW.callVi (As := [.int x60, .int x61, .int x62, .int x63]) (rest := []) (k := a1) cal_X10_can dL_law_537 wd_656 rfl rfl (lwLe (by omega)) (Nat.le_of_ble_eq_true rfl) lw_0 hkq64 hcq64 (mf_X10_can a1 x60 x61 x62 x63 hp _ hq64) ?_
                            refine PW.aload_n 2 dL_law_540 rfl rfl ?_
                            refine PW.aload_n 0 dL_law_541 rfl rfl ?_
                            refine PW.iload_n 3 dL_law_542 rfl rfl ?_
                            refine PW.iconst (x := 1) dL_law_543 (by decide) ?_
                            refine PW.iadd dL_law_544 ?_
                            obtain ⟨x65, hx65, h⟩ := bind_some h
                            refine PW.sldX dL_law_545 hx65 ?_
                            refine PW.aload_n 0 dL_law_546 rfl rfl ?_
                            refine PW.iload_n 3 dL_law_547 rfl rfl ?_
                            refine PW.iconst (x := 2) dL_law_548 (by decide) ?_
                            refine PW.iadd dL_law_549 ?_
                            obtain ⟨x66, hx66, h⟩ := bind_some h
                            refine PW.sldX dL_law_550 hx66 ?_
                            refine PW.aload_n 0 dL_law_551 rfl rfl ?_
                            refine PW.iload_n 3 dL_law_552 rfl rfl ?_
                            refine PW.iconst (x := 3) dL_law_553 (by decide) ?_
                            refine PW.iadd dL_law_554 ?_
                            obtain ⟨x67, hx67, h⟩ := bind_some h
                            refine PW.sldX dL_law_555 hx67 ?_
                            refine PW.aload_n 0 dL_law_556 rfl rfl ?_
                            refine PW.iload_n 3 dL_law_557 rfl rfl ?_
                            refine PW.iconst (x := 4) dL_law_558 (by decide) ?_
                            refine PW.iadd dL_law_559 ?_
                            obtain ⟨x68, hx68, h⟩ := bind_some h
                            refine PW.sldX dL_law_560 hx68 ?_
                            obtain ⟨q69, hq69, h⟩ := bind_some h
                            obtain ⟨hkq69, hcq69, hq69⟩ := vC_spec hq69
                            refine PW.callVi (As := [.int x65, .int x66, .int x67, .int x68]) (rest := [.int q64.1]) (k := a2) cal_X11_can dL_law_561 wd_1143 rfl rfl (lwLe (by omega)) (Nat.le_of_ble_eq_true rfl) lw_0 hkq69 hcq69 (mf_X11_can a2 x65 x66 x67 x68 q64.2 _ hq69) ?_
                            refine PW.icmp_eq (tgt := 1250) dL_law_564 (by decide) (fun c564 => ?_) (fun c564 => ?_)
                            · rw [if_pos c564] at h
                              refine PW.iinc 3 (l' := [(3, .int (a3 + 5)), (0, .ref (gb K)), (1, .ref (ga K a1)), (2, .ref (ga K a2))]) dL_law_1250 rfl (x := a3) (y := (a3 + 5)) rfl (by decide) rfl ?_
                              refine PW.goto (tgt := 18) dL_law_1253 (by decide) ?_
                              exact PW.sub (l' := [(0, .ref (gb K)), (1, .ref (ga K a1)), (2, .ref (ga K a2)), (3, .int (a3 + 5))]) [1, 2, 3, 0] rfl (ih a0 a1 a2 (a3 + 5) q69.2 _ h)
                            · rw [if_neg c564] at h
                              refine PW.iconst (x := 0) dL_law_567 (by decide) ?_
                              have h := Option.some.inj h; subst h
                              exact PW.ret dL_law_568 (z_nar (Or.inl rfl)).1 rfl
                          · rw [if_neg c32] at h
                            have c32_10 := sw_ne c32
                            by_cases c32 : (x1 &&& 31) = 11
                            · rw [if_pos c32] at h
                              refine PW.tabE c32 (tgt := 569) (off := 537) dL_law_32 (by decide) (by decide) (by decide) (by decide) ?_
                              refine PW.aload_n 1 dL_law_569 rfl rfl ?_
                              refine PW.aload_n 0 dL_law_570 rfl rfl ?_
                              refine PW.iload_n 3 dL_law_571 rfl rfl ?_
                              refine PW.iconst (x := 1) dL_law_572 (by decide) ?_
                              refine PW.iadd dL_law_573 ?_
                              obtain ⟨x70, hx70, h⟩ := bind_some h
                              refine PW.sldX dL_law_574 hx70 ?_
                              refine PW.aload_n 0 dL_law_575 rfl rfl ?_
                              refine PW.iload_n 3 dL_law_576 rfl rfl ?_
                              refine PW.iconst (x := 2) dL_law_577 (by decide) ?_
                              refine PW.iadd dL_law_578 ?_
                              obtain ⟨x71, hx71, h⟩ := bind_some h
                              refine PW.sldX dL_law_579 hx71 ?_
                              refine PW.aload_n 0 dL_law_580 rfl rfl ?_
                              refine PW.iload_n 3 dL_law_581 rfl rfl ?_
                              refine PW.iconst (x := 3) dL_law_582 (by decide) ?_
                              refine PW.iadd dL_law_583 ?_
                              obtain ⟨x72, hx72, h⟩ := bind_some h
                              refine PW.sldX dL_law_584 hx72 ?_
                              refine PW.aload_n 0 dL_law_585 rfl rfl ?_
                              refine PW.iload_n 3 dL_law_586 rfl rfl ?_
                              refine PW.iconst (x := 4) dL_law_587 (by decide) ?_
                              refine PW.iadd dL_law_588 ?_
                              obtain ⟨x73, hx73, h⟩ := bind_some h
                              refine PW.sldX dL_law_589 hx73 ?_
                              obtain ⟨q74, hq74, h⟩ := bind_some h
                              obtain ⟨hkq74, hcq74, hq74⟩ := vC_spec hq74
                              refine PW.callVi (As := [.int x70, .int x71, .int x72, .int x73]) (rest := []) (k := a1) cal_X10_over dL_law_590 wd_662 rfl rfl (lwLe (by omega)) (Nat.le_of_ble_eq_true rfl) lw_0 hkq74 hcq74 (mf_X10_over a1 x70 x71 x72 x73 hp _ hq74) ?_
                              refine PW.aload_n 2 dL_law_593 rfl rfl ?_
                              refine PW.aload_n 0 dL_law_594 rfl rfl ?_
                              refine PW.iload_n 3 dL_law_595 rfl rfl ?_
                              refine PW.iconst (x := 1) dL_law_596 (by decide) ?_
                              refine PW.iadd dL_law_597 ?_
                              obtain ⟨x75, hx75, h⟩ := bind_some h
                              refine PW.sldX dL_law_598 hx75 ?_
                              refine PW.aload_n 0 dL_law_599 rfl rfl ?_
                              refine PW.iload_n 3 dL_law_600 rfl rfl ?_
                              refine PW.iconst (x := 2) dL_law_601 (by decide) ?_
                              refine PW.iadd dL_law_602 ?_
                              obtain ⟨x76, hx76, h⟩ := bind_some h
                              refine PW.sldX dL_law_603 hx76 ?_
                              refine PW.aload_n 0 dL_law_604 rfl rfl ?_
                              refine PW.iload_n 3 dL_law_605 rfl rfl ?_
                              refine PW.iconst (x := 3) dL_law_606 (by decide) ?_
                              refine PW.iadd dL_law_607 ?_
                              obtain ⟨x77, hx77, h⟩ := bind_some h
                              refine PW.sldX dL_law_608 hx77 ?_
                              refine PW.aload_n 0 dL_law_609 rfl rfl ?_
                              refine PW.iload_n 3 dL_law_610 rfl rfl ?_
                              refine PW.iconst (x := 4) dL_law_611 (by decide) ?_
                              refine PW.iadd dL_law_612 ?_
                              obtain ⟨x78, hx78, h⟩ := bind_some h
                              refine PW.sldX dL_law_613 hx78 ?_
                              obtain ⟨q79, hq79, h⟩ := bind_some h
                              obtain ⟨hkq79, hcq79, hq79⟩ := vC_spec hq79
                              refine PW.callVi (As := [.int x75, .int x76, .int x77, .int x78]) (rest := [.int q74.1]) (k := a2) cal_X11_over dL_law_614 wd_1147 rfl rfl (lwLe (by omega)) (Nat.le_of_ble_eq_true rfl) lw_0 hkq79 hcq79 (mf_X11_over a2 x75 x76 x77 x78 q74.2 _ hq79) ?_
                              refine PW.icmp_eq (tgt := 1250) dL_law_617 (by decide) (fun c617 => ?_) (fun c617 => ?_)
                              · rw [if_pos c617] at h
                                refine PW.iinc 3 (l' := [(3, .int (a3 + 5)), (0, .ref (gb K)), (1, .ref (ga K a1)), (2, .ref (ga K a2))]) dL_law_1250 rfl (x := a3) (y := (a3 + 5)) rfl (by decide) rfl ?_
                                refine PW.goto (tgt := 18) dL_law_1253 (by decide) ?_
                                exact PW.sub (l' := [(0, .ref (gb K)), (1, .ref (ga K a1)), (2, .ref (ga K a2)), (3, .int (a3 + 5))]) [1, 2, 3, 0] rfl (ih a0 a1 a2 (a3 + 5) q79.2 _ h)
                              · rw [if_neg c617] at h
                                refine PW.iconst (x := 0) dL_law_620 (by decide) ?_
                                have h := Option.some.inj h; subst h
                                exact PW.ret dL_law_621 (z_nar (Or.inl rfl)).1 rfl
                            · rw [if_neg c32] at h
                              have c32_11 := sw_ne c32
                              by_cases c32 : (x1 &&& 31) = 12
                              · rw [if_pos c32] at h
                                refine PW.tabE c32 (tgt := 622) (off := 590) dL_law_32 (by decide) (by decide) (by decide) (by decide) ?_
                                refine PW.aload_n 1 dL_law_622 rfl rfl ?_
                                refine PW.aload_n 0 dL_law_623 rfl rfl ?_
                                refine PW.iload_n 3 dL_law_624 rfl rfl ?_
                                refine PW.iconst (x := 1) dL_law_625 (by decide) ?_
                                refine PW.iadd dL_law_626 ?_
                                obtain ⟨x80, hx80, h⟩ := bind_some h
                                refine PW.sldX dL_law_627 hx80 ?_
                                refine PW.aload_n 0 dL_law_628 rfl rfl ?_
                                refine PW.iload_n 3 dL_law_629 rfl rfl ?_
                                refine PW.iconst (x := 2) dL_law_630 (by decide) ?_
                                refine PW.iadd dL_law_631 ?_
                                obtain ⟨x81, hx81, h⟩ := bind_some h
                                refine PW.sldX dL_law_632 hx81 ?_
                                refine PW.aload_n 0 dL_law_633 rfl rfl ?_
                                refine PW.iload_n 3 dL_law_634 rfl rfl ?_
                                refine PW.iconst (x := 3) dL_law_635 (by decide) ?_
                                refine PW.iadd dL_law_636 ?_
                                obtain ⟨x82, hx82, h⟩ := bind_some h
                                refine PW.sldX dL_law_637 hx82 ?_
                                refine PW.aload_n 0 dL_law_638 rfl rfl ?_
                                refine PW.iload_n 3 dL_law_639 rfl rfl ?_
                                refine PW.iconst (x := 4) dL_law_640 (by decide) ?_
                                refine PW.iadd dL_law_641 ?_
                                obtain ⟨x83, hx83, h⟩ := bind_some h
                                refine PW.sldX dL_law_642 hx83 ?_
                                obtain ⟨q84, hq84, h⟩ := bind_some h
                                obtain ⟨hkq84, hcq84, hq84⟩ := vC_spec hq84
                                refine PW.callVi (As := [.int x80, .int x81, .int x82, .int x83]) (rest := []) (k := a1) cal_X10_parts dL_law_643 wd_687 rfl rfl (lwLe (by omega)) (Nat.le_of_ble_eq_true rfl) lw_0 hkq84 hcq84 (mf_X10_parts a1 x80 x81 x82 x83 hp _ hq84) ?_
                                refine PW.aload_n 2 dL_law_646 rfl rfl ?_
                                refine PW.aload_n 0 dL_law_647 rfl rfl ?_
                                refine PW.iload_n 3 dL_law_648 rfl rfl ?_
                                refine PW.iconst (x := 1) dL_law_649 (by decide) ?_
                                refine PW.iadd dL_law_650 ?_
                                obtain ⟨x85, hx85, h⟩ := bind_some h
                                refine PW.sldX dL_law_651 hx85 ?_
                                refine PW.aload_n 0 dL_law_652 rfl rfl ?_
                                refine PW.iload_n 3 dL_law_653 rfl rfl ?_
                                refine PW.iconst (x := 2) dL_law_654 (by decide) ?_
                                refine PW.iadd dL_law_655 ?_
                                obtain ⟨x86, hx86, h⟩ := bind_some h
                                refine PW.sldX dL_law_656 hx86 ?_
                                refine PW.aload_n 0 dL_law_657 rfl rfl ?_
                                refine PW.iload_n 3 dL_law_658 rfl rfl ?_
                                refine PW.iconst (x := 3) dL_law_659 (by decide) ?_
                                refine PW.iadd dL_law_660 ?_
                                obtain ⟨x87, hx87, h⟩ := bind_some h
                                refine PW.sldX dL_law_661 hx87 ?_
                                refine PW.aload_n 0 dL_law_662 rfl rfl ?_
                                refine PW.iload_n 3 dL_law_663 rfl rfl ?_
                                refine PW.iconst (x := 4) dL_law_664 (by decide) ?_
                                refine PW.iadd dL_law_665 ?_
                                obtain ⟨x88, hx88, h⟩ := bind_some h
                                refine PW.sldX dL_law_666 hx88 ?_
                                obtain ⟨q89, hq89, h⟩ := bind_some h
                                obtain ⟨hkq89, hcq89, hq89⟩ := vC_spec hq89
                                refine PW.callVi (As := [.int x85, .int x86, .int x87, .int x88]) (rest := [.int q84.1]) (k := a2) cal_X11_parts dL_law_667 wd_1173 rfl rfl (lwLe (by omega)) (Nat.le_of_ble_eq_true rfl) lw_0 hkq89 hcq89 (mf_X11_parts a2 x85 x86 x87 x88 q84.2 _ hq89) ?_
                                refine PW.icmp_eq (tgt := 1250) dL_law_670 (by decide) (fun c670 => ?_) (fun c670 => ?_)
                                · rw [if_pos c670] at h
                                  refine PW.iinc 3 (l' := [(3, .int (a3 + 5)), (0, .ref (gb K)), (1, .ref (ga K a1)), (2, .ref (ga K a2))]) dL_law_1250 rfl (x := a3) (y := (a3 + 5)) rfl (by decide) rfl ?_
                                  refine PW.goto (tgt := 18) dL_law_1253 (by decide) ?_
                                  exact PW.sub (l' := [(0, .ref (gb K)), (1, .ref (ga K a1)), (2, .ref (ga K a2)), (3, .int (a3 + 5))]) [1, 2, 3, 0] rfl (ih a0 a1 a2 (a3 + 5) q89.2 _ h)
                                · rw [if_neg c670] at h
                                  refine PW.iconst (x := 0) dL_law_673 (by decide) ?_
                                  have h := Option.some.inj h; subst h
                                  exact PW.ret dL_law_674 (z_nar (Or.inl rfl)).1 rfl
                              · rw [if_neg c32] at h
                                have c32_12 := sw_ne c32
                                by_cases c32 : (x1 &&& 31) = 13
                                · rw [if_pos c32] at h
                                  refine PW.tabE c32 (tgt := 675) (off := 643) dL_law_32 (by decide) (by decide) (by decide) (by decide) ?_
                                  refine PW.aload_n 1 dL_law_675 rfl rfl ?_
                                  refine PW.aload_n 0 dL_law_676 rfl rfl ?_
                                  refine PW.iload_n 3 dL_law_677 rfl rfl ?_
                                  refine PW.iconst (x := 1) dL_law_678 (by decide) ?_
                                  refine PW.iadd dL_law_679 ?_
                                  obtain ⟨x90, hx90, h⟩ := bind_some h
                                  refine PW.sldX dL_law_680 hx90 ?_
                                  refine PW.aload_n 0 dL_law_681 rfl rfl ?_
                                  refine PW.iload_n 3 dL_law_682 rfl rfl ?_
                                  refine PW.iconst (x := 2) dL_law_683 (by decide) ?_
                                  refine PW.iadd dL_law_684 ?_
                                  obtain ⟨x91, hx91, h⟩ := bind_some h
                                  refine PW.sldX dL_law_685 hx91 ?_
                                  refine PW.aload_n 0 dL_law_686 rfl rfl ?_
                                  refine PW.iload_n 3 dL_law_687 rfl rfl ?_
                                  refine PW.iconst (x := 3) dL_law_688 (by decide) ?_
                                  refine PW.iadd dL_law_689 ?_
                                  obtain ⟨x92, hx92, h⟩ := bind_some h
                                  refine PW.sldX dL_law_690 hx92 ?_
                                  obtain ⟨q93, hq93, h⟩ := bind_some h
                                  obtain ⟨hkq93, hcq93, hq93⟩ := vC_spec hq93
                                  refine PW.callVi (As := [.int x90, .int x91, .int x92]) (rest := []) (k := a1) cal_X10_lent dL_law_691 wd_691 rfl rfl (lwLe (by omega)) (Nat.le_of_ble_eq_true rfl) lw_0 hkq93 hcq93 (mf_X10_lent a1 x90 x91 x92 hp _ hq93) ?_
                                  refine PW.aload_n 2 dL_law_694 rfl rfl ?_
                                  refine PW.aload_n 0 dL_law_695 rfl rfl ?_
                                  refine PW.iload_n 3 dL_law_696 rfl rfl ?_
                                  refine PW.iconst (x := 1) dL_law_697 (by decide) ?_
                                  refine PW.iadd dL_law_698 ?_
                                  obtain ⟨x94, hx94, h⟩ := bind_some h
                                  refine PW.sldX dL_law_699 hx94 ?_
                                  refine PW.aload_n 0 dL_law_700 rfl rfl ?_
                                  refine PW.iload_n 3 dL_law_701 rfl rfl ?_
                                  refine PW.iconst (x := 2) dL_law_702 (by decide) ?_
                                  refine PW.iadd dL_law_703 ?_
                                  obtain ⟨x95, hx95, h⟩ := bind_some h
                                  refine PW.sldX dL_law_704 hx95 ?_
                                  refine PW.aload_n 0 dL_law_705 rfl rfl ?_
                                  refine PW.iload_n 3 dL_law_706 rfl rfl ?_
                                  refine PW.iconst (x := 3) dL_law_707 (by decide) ?_
                                  refine PW.iadd dL_law_708 ?_
                                  obtain ⟨x96, hx96, h⟩ := bind_some h
                                  refine PW.sldX dL_law_709 hx96 ?_
                                  obtain ⟨q97, hq97, h⟩ := bind_some h
                                  obtain ⟨hkq97, hcq97, hq97⟩ := vC_spec hq97
                                  refine PW.callVi (As := [.int x94, .int x95, .int x96]) (rest := [.int q93.1]) (k := a2) cal_X11_lent dL_law_710 wd_1177 rfl rfl (lwLe (by omega)) (Nat.le_of_ble_eq_true rfl) lw_0 hkq97 hcq97 (mf_X11_lent a2 x94 x95 x96 q93.2 _ hq97) ?_
                                  refine PW.icmp_eq (tgt := 1250) dL_law_713 (by decide) (fun c713 => ?_) (fun c713 => ?_)
                                  · rw [if_pos c713] at h
                                    refine PW.iinc 3 (l' := [(3, .int (a3 + 5)), (0, .ref (gb K)), (1, .ref (ga K a1)), (2, .ref (ga K a2))]) dL_law_1250 rfl (x := a3) (y := (a3 + 5)) rfl (by decide) rfl ?_
                                    refine PW.goto (tgt := 18) dL_law_1253 (by decide) ?_
                                    exact PW.sub (l' := [(0, .ref (gb K)), (1, .ref (ga K a1)), (2, .ref (ga K a2)), (3, .int (a3 + 5))]) [1, 2, 3, 0] rfl (ih a0 a1 a2 (a3 + 5) q97.2 _ h)
                                  · rw [if_neg c713] at h
                                    refine PW.iconst (x := 0) dL_law_716 (by decide) ?_
                                    have h := Option.some.inj h; subst h
                                    exact PW.ret dL_law_717 (z_nar (Or.inl rfl)).1 rfl
                                · rw [if_neg c32] at h
                                  have c32_13 := sw_ne c32
                                  by_cases c32 : (x1 &&& 31) = 14
                                  · rw [if_pos c32] at h
                                    refine PW.tabE c32 (tgt := 718) (off := 686) dL_law_32 (by decide) (by decide) (by decide) (by decide) ?_
                                    refine PW.aload_n 1 dL_law_718 rfl rfl ?_
                                    refine PW.aload_n 0 dL_law_719 rfl rfl ?_
                                    refine PW.iload_n 3 dL_law_720 rfl rfl ?_
                                    refine PW.iconst (x := 1) dL_law_721 (by decide) ?_
                                    refine PW.iadd dL_law_722 ?_
                                    obtain ⟨x98, hx98, h⟩ := bind_some h
                                    refine PW.sldX dL_law_723 hx98 ?_
                                    refine PW.aload_n 0 dL_law_724 rfl rfl ?_
                                    refine PW.iload_n 3 dL_law_725 rfl rfl ?_
                                    refine PW.iconst (x := 2) dL_law_726 (by decide) ?_
                                    refine PW.iadd dL_law_727 ?_
                                    obtain ⟨x99, hx99, h⟩ := bind_some h
                                    refine PW.sldX dL_law_728 hx99 ?_
                                    refine PW.aload_n 0 dL_law_729 rfl rfl ?_
                                    refine PW.iload_n 3 dL_law_730 rfl rfl ?_
                                    refine PW.iconst (x := 3) dL_law_731 (by decide) ?_
                                    refine PW.iadd dL_law_732 ?_
                                    obtain ⟨x100, hx100, h⟩ := bind_some h
                                    refine PW.sldX dL_law_733 hx100 ?_
                                    obtain ⟨q101, hq101, h⟩ := bind_some h
                                    obtain ⟨hkq101, hcq101, hq101⟩ := vC_spec hq101
                                    refine PW.callVi (As := [.int x98, .int x99, .int x100]) (rest := []) (k := a1) cal_X10_worth dL_law_734 wd_695 rfl rfl (lwLe (by omega)) (Nat.le_of_ble_eq_true rfl) lw_0 hkq101 hcq101 (mf_X10_worth a1 x98 x99 x100 hp _ hq101) ?_
                                    refine PW.aload_n 2 dL_law_737 rfl rfl ?_
                                    refine PW.aload_n 0 dL_law_738 rfl rfl ?_
                                    refine PW.iload_n 3 dL_law_739 rfl rfl ?_
                                    refine PW.iconst (x := 1) dL_law_740 (by decide) ?_
                                    refine PW.iadd dL_law_741 ?_
                                    obtain ⟨x102, hx102, h⟩ := bind_some h
                                    refine PW.sldX dL_law_742 hx102 ?_
                                    refine PW.aload_n 0 dL_law_743 rfl rfl ?_
                                    refine PW.iload_n 3 dL_law_744 rfl rfl ?_
                                    refine PW.iconst (x := 2) dL_law_745 (by decide) ?_
                                    refine PW.iadd dL_law_746 ?_
                                    obtain ⟨x103, hx103, h⟩ := bind_some h
                                    refine PW.sldX dL_law_747 hx103 ?_
                                    refine PW.aload_n 0 dL_law_748 rfl rfl ?_
                                    refine PW.iload_n 3 dL_law_749 rfl rfl ?_
                                    refine PW.iconst (x := 3) dL_law_750 (by decide) ?_
                                    refine PW.iadd dL_law_751 ?_
                                    obtain ⟨x104, hx104, h⟩ := bind_some h
                                    refine PW.sldX dL_law_752 hx104 ?_
                                    obtain ⟨q105, hq105, h⟩ := bind_some h
                                    obtain ⟨hkq105, hcq105, hq105⟩ := vC_spec hq105
                                    refine PW.callVi (As := [.int x102, .int x103, .int x104]) (rest := [.int q101.1]) (k := a2) cal_X11_worth dL_law_753 wd_1181 rfl rfl (lwLe (by omega)) (Nat.le_of_ble_eq_true rfl) lw_0 hkq105 hcq105 (mf_X11_worth a2 x102 x103 x104 q101.2 _ hq105) ?_
                                    refine PW.icmp_eq (tgt := 1250) dL_law_756 (by decide) (fun c756 => ?_) (fun c756 => ?_)
                                    · rw [if_pos c756] at h
                                      refine PW.iinc 3 (l' := [(3, .int (a3 + 5)), (0, .ref (gb K)), (1, .ref (ga K a1)), (2, .ref (ga K a2))]) dL_law_1250 rfl (x := a3) (y := (a3 + 5)) rfl (by decide) rfl ?_
                                      refine PW.goto (tgt := 18) dL_law_1253 (by decide) ?_
                                      exact PW.sub (l' := [(0, .ref (gb K)), (1, .ref (ga K a1)), (2, .ref (ga K a2)), (3, .int (a3 + 5))]) [1, 2, 3, 0] rfl (ih a0 a1 a2 (a3 + 5) q105.2 _ h)
                                    · rw [if_neg c756] at h
                                      refine PW.iconst (x := 0) dL_law_759 (by decide) ?_
                                      have h := Option.some.inj h; subst h
                                      exact PW.ret dL_law_760 (z_nar (Or.inl rfl)).1 rfl
                                  · rw [if_neg c32] at h
                                    have c32_14 := sw_ne c32
                                    by_cases c32 : (x1 &&& 31) = 15
                                    · rw [if_pos c32] at h
                                      refine PW.tabE c32 (tgt := 761) (off := 729) dL_law_32 (by decide) (by decide) (by decide) (by decide) ?_
                                      refine PW.aload_n 1 dL_law_761 rfl rfl ?_
                                      refine PW.aload_n 0 dL_law_762 rfl rfl ?_
                                      refine PW.iload_n 3 dL_law_763 rfl rfl ?_
                                      refine PW.iconst (x := 1) dL_law_764 (by decide) ?_
                                      refine PW.iadd dL_law_765 ?_
                                      obtain ⟨x106, hx106, h⟩ := bind_some h
                                      refine PW.sldX dL_law_766 hx106 ?_
                                      refine PW.aload_n 0 dL_law_767 rfl rfl ?_
                                      refine PW.iload_n 3 dL_law_768 rfl rfl ?_
                                      refine PW.iconst (x := 2) dL_law_769 (by decide) ?_
                                      refine PW.iadd dL_law_770 ?_
                                      obtain ⟨x107, hx107, h⟩ := bind_some h
                                      refine PW.sldX dL_law_771 hx107 ?_
                                      refine PW.aload_n 0 dL_law_772 rfl rfl ?_
                                      refine PW.iload_n 3 dL_law_773 rfl rfl ?_
                                      refine PW.iconst (x := 3) dL_law_774 (by decide) ?_
                                      refine PW.iadd dL_law_775 ?_
                                      obtain ⟨x108, hx108, h⟩ := bind_some h
                                      refine PW.sldX dL_law_776 hx108 ?_
                                      obtain ⟨q109, hq109, h⟩ := bind_some h
                                      obtain ⟨hkq109, hcq109, hq109⟩ := vC_spec hq109
                                      refine PW.callVi (As := [.int x106, .int x107, .int x108]) (rest := []) (k := a1) cal_X10_dates dL_law_777 wd_699 rfl rfl (lwLe (by omega)) (Nat.le_of_ble_eq_true rfl) lw_0 hkq109 hcq109 (mf_X10_dates a1 x106 x107 x108 hp _ hq109) ?_
                                      refine PW.aload_n 2 dL_law_780 rfl rfl ?_
                                      refine PW.aload_n 0 dL_law_781 rfl rfl ?_
                                      refine PW.iload_n 3 dL_law_782 rfl rfl ?_
                                      refine PW.iconst (x := 1) dL_law_783 (by decide) ?_
                                      refine PW.iadd dL_law_784 ?_
                                      obtain ⟨x110, hx110, h⟩ := bind_some h
                                      refine PW.sldX dL_law_785 hx110 ?_
                                      refine PW.aload_n 0 dL_law_786 rfl rfl ?_
                                      refine PW.iload_n 3 dL_law_787 rfl rfl ?_
                                      refine PW.iconst (x := 2) dL_law_788 (by decide) ?_
                                      refine PW.iadd dL_law_789 ?_
                                      obtain ⟨x111, hx111, h⟩ := bind_some h
                                      refine PW.sldX dL_law_790 hx111 ?_
                                      refine PW.aload_n 0 dL_law_791 rfl rfl ?_
                                      refine PW.iload_n 3 dL_law_792 rfl rfl ?_
                                      refine PW.iconst (x := 3) dL_law_793 (by decide) ?_
                                      refine PW.iadd dL_law_794 ?_
                                      obtain ⟨x112, hx112, h⟩ := bind_some h
                                      refine PW.sldX dL_law_795 hx112 ?_
                                      obtain ⟨q113, hq113, h⟩ := bind_some h
                                      obtain ⟨hkq113, hcq113, hq113⟩ := vC_spec hq113
                                      refine PW.callVi (As := [.int x110, .int x111, .int x112]) (rest := [.int q109.1]) (k := a2) cal_X11_dates dL_law_796 wd_1185 rfl rfl (lwLe (by omega)) (Nat.le_of_ble_eq_true rfl) lw_0 hkq113 hcq113 (mf_X11_dates a2 x110 x111 x112 q109.2 _ hq113) ?_
                                      refine PW.icmp_eq (tgt := 1250) dL_law_799 (by decide) (fun c799 => ?_) (fun c799 => ?_)
                                      · rw [if_pos c799] at h
                                        refine PW.iinc 3 (l' := [(3, .int (a3 + 5)), (0, .ref (gb K)), (1, .ref (ga K a1)), (2, .ref (ga K a2))]) dL_law_1250 rfl (x := a3) (y := (a3 + 5)) rfl (by decide) rfl ?_
                                        refine PW.goto (tgt := 18) dL_law_1253 (by decide) ?_
                                        exact PW.sub (l' := [(0, .ref (gb K)), (1, .ref (ga K a1)), (2, .ref (ga K a2)), (3, .int (a3 + 5))]) [1, 2, 3, 0] rfl (ih a0 a1 a2 (a3 + 5) q113.2 _ h)
                                      · rw [if_neg c799] at h
                                        refine PW.iconst (x := 0) dL_law_802 (by decide) ?_
                                        have h := Option.some.inj h; subst h
                                        exact PW.ret dL_law_803 (z_nar (Or.inl rfl)).1 rfl
                                    · rw [if_neg c32] at h
                                      have c32_15 := sw_ne c32
                                      by_cases c32 : (x1 &&& 31) = 16
                                      · rw [if_pos c32] at h
                                        refine PW.tabE c32 (tgt := 804) (off := 772) dL_law_32 (by decide) (by decide) (by decide) (by decide) ?_
                                        refine PW.aload_n 1 dL_law_804 rfl rfl ?_
                                        refine PW.aload_n 0 dL_law_805 rfl rfl ?_
                                        refine PW.iload_n 3 dL_law_806 rfl rfl ?_
                                        refine PW.iconst (x := 1) dL_law_807 (by decide) ?_
                                        refine PW.iadd dL_law_808 ?_
                                        obtain ⟨x114, hx114, h⟩ := bind_some h
                                        refine PW.sldX dL_law_809 hx114 ?_
                                        refine PW.aload_n 0 dL_law_810 rfl rfl ?_
                                        refine PW.iload_n 3 dL_law_811 rfl rfl ?_
                                        refine PW.iconst (x := 2) dL_law_812 (by decide) ?_
                                        refine PW.iadd dL_law_813 ?_
                                        obtain ⟨x115, hx115, h⟩ := bind_some h
                                        refine PW.sldX dL_law_814 hx115 ?_
                                        refine PW.aload_n 0 dL_law_815 rfl rfl ?_
                                        refine PW.iload_n 3 dL_law_816 rfl rfl ?_
                                        refine PW.iconst (x := 3) dL_law_817 (by decide) ?_
                                        refine PW.iadd dL_law_818 ?_
                                        obtain ⟨x116, hx116, h⟩ := bind_some h
                                        refine PW.sldX dL_law_819 hx116 ?_
                                        obtain ⟨q117, hq117, h⟩ := bind_some h
                                        obtain ⟨hkq117, hcq117, hq117⟩ := vC_spec hq117
                                        refine PW.callVi (As := [.int x114, .int x115, .int x116]) (rest := []) (k := a1) cal_X10_next dL_law_820 wd_721 rfl rfl (lwLe (by omega)) (Nat.le_of_ble_eq_true rfl) lw_0 hkq117 hcq117 (mf_X10_next a1 x114 x115 x116 hp _ hq117) ?_
                                        refine PW.aload_n 2 dL_law_823 rfl rfl ?_
                                        refine PW.aload_n 0 dL_law_824 rfl rfl ?_
                                        refine PW.iload_n 3 dL_law_825 rfl rfl ?_
                                        refine PW.iconst (x := 1) dL_law_826 (by decide) ?_
                                        refine PW.iadd dL_law_827 ?_
                                        obtain ⟨x118, hx118, h⟩ := bind_some h
                                        refine PW.sldX dL_law_828 hx118 ?_
                                        refine PW.aload_n 0 dL_law_829 rfl rfl ?_
                                        refine PW.iload_n 3 dL_law_830 rfl rfl ?_
                                        refine PW.iconst (x := 2) dL_law_831 (by decide) ?_
                                        refine PW.iadd dL_law_832 ?_
                                        obtain ⟨x119, hx119, h⟩ := bind_some h
                                        refine PW.sldX dL_law_833 hx119 ?_
                                        refine PW.aload_n 0 dL_law_834 rfl rfl ?_
                                        refine PW.iload_n 3 dL_law_835 rfl rfl ?_
                                        refine PW.iconst (x := 3) dL_law_836 (by decide) ?_
                                        refine PW.iadd dL_law_837 ?_
                                        obtain ⟨x120, hx120, h⟩ := bind_some h
                                        refine PW.sldX dL_law_838 hx120 ?_
                                        obtain ⟨q121, hq121, h⟩ := bind_some h
                                        obtain ⟨hkq121, hcq121, hq121⟩ := vC_spec hq121
                                        refine PW.callVi (As := [.int x118, .int x119, .int x120]) (rest := [.int q117.1]) (k := a2) cal_X11_next dL_law_839 wd_1189 rfl rfl (lwLe (by omega)) (Nat.le_of_ble_eq_true rfl) lw_0 hkq121 hcq121 (mf_X11_next a2 x118 x119 x120 q117.2 _ hq121) ?_
                                        refine PW.icmp_eq (tgt := 1250) dL_law_842 (by decide) (fun c842 => ?_) (fun c842 => ?_)
                                        · rw [if_pos c842] at h
                                          refine PW.iinc 3 (l' := [(3, .int (a3 + 5)), (0, .ref (gb K)), (1, .ref (ga K a1)), (2, .ref (ga K a2))]) dL_law_1250 rfl (x := a3) (y := (a3 + 5)) rfl (by decide) rfl ?_
                                          refine PW.goto (tgt := 18) dL_law_1253 (by decide) ?_
                                          exact PW.sub (l' := [(0, .ref (gb K)), (1, .ref (ga K a1)), (2, .ref (ga K a2)), (3, .int (a3 + 5))]) [1, 2, 3, 0] rfl (ih a0 a1 a2 (a3 + 5) q121.2 _ h)
                                        · rw [if_neg c842] at h
                                          refine PW.iconst (x := 0) dL_law_845 (by decide) ?_
                                          have h := Option.some.inj h; subst h
                                          exact PW.ret dL_law_846 (z_nar (Or.inl rfl)).1 rfl
                                      · rw [if_neg c32] at h
                                        have c32_16 := sw_ne c32
                                        by_cases c32 : (x1 &&& 31) = 17
                                        · rw [if_pos c32] at h
                                          refine PW.tabE c32 (tgt := 847) (off := 815) dL_law_32 (by decide) (by decide) (by decide) (by decide) ?_
                                          refine PW.aload_n 1 dL_law_847 rfl rfl ?_
                                          refine PW.aload_n 0 dL_law_848 rfl rfl ?_
                                          refine PW.iload_n 3 dL_law_849 rfl rfl ?_
                                          refine PW.iconst (x := 1) dL_law_850 (by decide) ?_
                                          refine PW.iadd dL_law_851 ?_
                                          obtain ⟨x122, hx122, h⟩ := bind_some h
                                          refine PW.sldX dL_law_852 hx122 ?_
                                          refine PW.aload_n 0 dL_law_853 rfl rfl ?_
                                          refine PW.iload_n 3 dL_law_854 rfl rfl ?_
                                          refine PW.iconst (x := 2) dL_law_855 (by decide) ?_
                                          refine PW.iadd dL_law_856 ?_
                                          obtain ⟨x123, hx123, h⟩ := bind_some h
                                          refine PW.sldX dL_law_857 hx123 ?_
                                          refine PW.aload_n 0 dL_law_858 rfl rfl ?_
                                          refine PW.iload_n 3 dL_law_859 rfl rfl ?_
                                          refine PW.iconst (x := 3) dL_law_860 (by decide) ?_
                                          refine PW.iadd dL_law_861 ?_
                                          obtain ⟨x124, hx124, h⟩ := bind_some h
                                          refine PW.sldX dL_law_862 hx124 ?_
                                          refine PW.aload_n 0 dL_law_863 rfl rfl ?_
                                          refine PW.iload_n 3 dL_law_864 rfl rfl ?_
                                          refine PW.iconst (x := 4) dL_law_865 (by decide) ?_
                                          refine PW.iadd dL_law_866 ?_
                                          obtain ⟨x125, hx125, h⟩ := bind_some h
                                          refine PW.sldX dL_law_867 hx125 ?_
                                          obtain ⟨q126, hq126, h⟩ := bind_some h
                                          obtain ⟨hkq126, hcq126, hq126⟩ := vC_spec hq126
                                          refine PW.callVi (As := [.int x122, .int x123, .int x124, .int x125]) (rest := []) (k := a1) cal_X10_wedding dL_law_868 wd_730 rfl rfl (lwLe (by omega)) (Nat.le_of_ble_eq_true rfl) lw_0 hkq126 hcq126 (mf_X10_wedding a1 x122 x123 x124 x125 hp _ hq126) ?_
                                          refine PW.aload_n 2 dL_law_871 rfl rfl ?_
                                          refine PW.aload_n 0 dL_law_872 rfl rfl ?_
                                          refine PW.iload_n 3 dL_law_873 rfl rfl ?_
                                          refine PW.iconst (x := 1) dL_law_874 (by decide) ?_
                                          refine PW.iadd dL_law_875 ?_
                                          obtain ⟨x127, hx127, h⟩ := bind_some h
                                          refine PW.sldX dL_law_876 hx127 ?_
                                          refine PW.aload_n 0 dL_law_877 rfl rfl ?_
                                          refine PW.iload_n 3 dL_law_878 rfl rfl ?_
                                          refine PW.iconst (x := 2) dL_law_879 (by decide) ?_
                                          refine PW.iadd dL_law_880 ?_
                                          obtain ⟨x128, hx128, h⟩ := bind_some h
                                          refine PW.sldX dL_law_881 hx128 ?_
                                          refine PW.aload_n 0 dL_law_882 rfl rfl ?_
                                          refine PW.iload_n 3 dL_law_883 rfl rfl ?_
                                          refine PW.iconst (x := 3) dL_law_884 (by decide) ?_
                                          refine PW.iadd dL_law_885 ?_
                                          obtain ⟨x129, hx129, h⟩ := bind_some h
                                          refine PW.sldX dL_law_886 hx129 ?_
                                          refine PW.aload_n 0 dL_law_887 rfl rfl ?_
                                          refine PW.iload_n 3 dL_law_888 rfl rfl ?_
                                          refine PW.iconst (x := 4) dL_law_889 (by decide) ?_
                                          refine PW.iadd dL_law_890 ?_
                                          obtain ⟨x130, hx130, h⟩ := bind_some h
                                          refine PW.sldX dL_law_891 hx130 ?_
                                          obtain ⟨q131, hq131, h⟩ := bind_some h
                                          obtain ⟨hkq131, hcq131, hq131⟩ := vC_spec hq131
                                          refine PW.callVi (As := [.int x127, .int x128, .int x129, .int x130]) (rest := [.int q126.1]) (k := a2) cal_X11_wedding dL_law_892 wd_1194 rfl rfl (lwLe (by omega)) (Nat.le_of_ble_eq_true rfl) lw_0 hkq131 hcq131 (mf_X11_wedding a2 x127 x128 x129 x130 q126.2 _ hq131) ?_
                                          refine PW.icmp_eq (tgt := 1250) dL_law_895 (by decide) (fun c895 => ?_) (fun c895 => ?_)
                                          · rw [if_pos c895] at h
                                            refine PW.iinc 3 (l' := [(3, .int (a3 + 5)), (0, .ref (gb K)), (1, .ref (ga K a1)), (2, .ref (ga K a2))]) dL_law_1250 rfl (x := a3) (y := (a3 + 5)) rfl (by decide) rfl ?_
                                            refine PW.goto (tgt := 18) dL_law_1253 (by decide) ?_
                                            exact PW.sub (l' := [(0, .ref (gb K)), (1, .ref (ga K a1)), (2, .ref (ga K a2)), (3, .int (a3 + 5))]) [1, 2, 3, 0] rfl (ih a0 a1 a2 (a3 + 5) q131.2 _ h)
                                          · rw [if_neg c895] at h
                                            refine PW.iconst (x := 0) dL_law_898 (by decide) ?_
                                            have h := Option.some.inj h; subst h
                                            exact PW.ret dL_law_899 (z_nar (Or.inl rfl)).1 rfl
                                        · rw [if_neg c32] at h
                                          have c32_17 := sw_ne c32
                                          by_cases c32 : (x1 &&& 31) = 18
                                          · rw [if_pos c32] at h
                                            refine PW.tabE c32 (tgt := 900) (off := 868) dL_law_32 (by decide) (by decide) (by decide) (by decide) ?_
                                            refine PW.aload_n 1 dL_law_900 rfl rfl ?_
                                            refine PW.aload_n 0 dL_law_901 rfl rfl ?_
                                            refine PW.iload_n 3 dL_law_902 rfl rfl ?_
                                            refine PW.iconst (x := 1) dL_law_903 (by decide) ?_
                                            refine PW.iadd dL_law_904 ?_
                                            obtain ⟨x132, hx132, h⟩ := bind_some h
                                            refine PW.sldX dL_law_905 hx132 ?_
                                            refine PW.aload_n 0 dL_law_906 rfl rfl ?_
                                            refine PW.iload_n 3 dL_law_907 rfl rfl ?_
                                            refine PW.iconst (x := 2) dL_law_908 (by decide) ?_
                                            refine PW.iadd dL_law_909 ?_
                                            obtain ⟨x133, hx133, h⟩ := bind_some h
                                            refine PW.sldX dL_law_910 hx133 ?_
                                            obtain ⟨q134, hq134, h⟩ := bind_some h
                                            obtain ⟨hkq134, hcq134, hq134⟩ := vC_spec hq134
                                            refine PW.callVi (As := [.int x132, .int x133]) (rest := []) (k := a1) cal_X10_crowd dL_law_911 wd_745 rfl rfl (lwLe (by omega)) (Nat.le_of_ble_eq_true rfl) lw_0 hkq134 hcq134 (mf_X10_crowd a1 x132 x133 hp _ hq134) ?_
                                            refine PW.aload_n 2 dL_law_914 rfl rfl ?_
                                            refine PW.aload_n 0 dL_law_915 rfl rfl ?_
                                            refine PW.iload_n 3 dL_law_916 rfl rfl ?_
                                            refine PW.iconst (x := 1) dL_law_917 (by decide) ?_
                                            refine PW.iadd dL_law_918 ?_
                                            obtain ⟨x135, hx135, h⟩ := bind_some h
                                            refine PW.sldX dL_law_919 hx135 ?_
                                            refine PW.aload_n 0 dL_law_920 rfl rfl ?_
                                            refine PW.iload_n 3 dL_law_921 rfl rfl ?_
                                            refine PW.iconst (x := 2) dL_law_922 (by decide) ?_
                                            refine PW.iadd dL_law_923 ?_
                                            obtain ⟨x136, hx136, h⟩ := bind_some h
                                            refine PW.sldX dL_law_924 hx136 ?_
                                            obtain ⟨q137, hq137, h⟩ := bind_some h
                                            obtain ⟨hkq137, hcq137, hq137⟩ := vC_spec hq137
                                            refine PW.callVi (As := [.int x135, .int x136]) (rest := [.int q134.1]) (k := a2) cal_X11_crowd dL_law_925 wd_1206 rfl rfl (lwLe (by omega)) (Nat.le_of_ble_eq_true rfl) lw_0 hkq137 hcq137 (mf_X11_crowd a2 x135 x136 q134.2 _ hq137) ?_
                                            refine PW.icmp_eq (tgt := 1250) dL_law_928 (by decide) (fun c928 => ?_) (fun c928 => ?_)
                                            · rw [if_pos c928] at h
                                              refine PW.iinc 3 (l' := [(3, .int (a3 + 5)), (0, .ref (gb K)), (1, .ref (ga K a1)), (2, .ref (ga K a2))]) dL_law_1250 rfl (x := a3) (y := (a3 + 5)) rfl (by decide) rfl ?_
                                              refine PW.goto (tgt := 18) dL_law_1253 (by decide) ?_
                                              exact PW.sub (l' := [(0, .ref (gb K)), (1, .ref (ga K a1)), (2, .ref (ga K a2)), (3, .int (a3 + 5))]) [1, 2, 3, 0] rfl (ih a0 a1 a2 (a3 + 5) q137.2 _ h)
                                            · rw [if_neg c928] at h
                                              refine PW.iconst (x := 0) dL_law_931 (by decide) ?_
                                              have h := Option.some.inj h; subst h
                                              exact PW.ret dL_law_932 (z_nar (Or.inl rfl)).1 rfl
                                          · rw [if_neg c32] at h
                                            have c32_18 := sw_ne c32
                                            by_cases c32 : (x1 &&& 31) = 19
                                            · rw [if_pos c32] at h
                                              refine PW.tabE c32 (tgt := 933) (off := 901) dL_law_32 (by decide) (by decide) (by decide) (by decide) ?_
                                              refine PW.aload_n 1 dL_law_933 rfl rfl ?_
                                              refine PW.aload_n 0 dL_law_934 rfl rfl ?_
                                              refine PW.iload_n 3 dL_law_935 rfl rfl ?_
                                              refine PW.iconst (x := 1) dL_law_936 (by decide) ?_
                                              refine PW.iadd dL_law_937 ?_
                                              obtain ⟨x138, hx138, h⟩ := bind_some h
                                              refine PW.sldX dL_law_938 hx138 ?_
                                              obtain ⟨q139, hq139, h⟩ := bind_some h
                                              obtain ⟨hkq139, hcq139, hq139⟩ := vC_spec hq139
                                              refine PW.callVl (As := [.int x138]) (rest := []) (k := a1) cal_X10_tens dL_law_939 wd_749 rfl rfl (lwLe (by omega)) (Nat.le_of_ble_eq_true rfl) lw_0 hkq139 hcq139 (mf_X10_tens a1 x138 hp _ hq139) ?_
                                              refine PW.aload_n 2 dL_law_942 rfl rfl ?_
                                              refine PW.aload_n 0 dL_law_943 rfl rfl ?_
                                              refine PW.iload_n 3 dL_law_944 rfl rfl ?_
                                              refine PW.iconst (x := 1) dL_law_945 (by decide) ?_
                                              refine PW.iadd dL_law_946 ?_
                                              obtain ⟨x140, hx140, h⟩ := bind_some h
                                              refine PW.sldX dL_law_947 hx140 ?_
                                              obtain ⟨q141, hq141, h⟩ := bind_some h
                                              obtain ⟨hkq141, hcq141, hq141⟩ := vC_spec hq141
                                              refine PW.callVl (As := [.int x140]) (rest := [.long q139.1]) (k := a2) cal_X11_tens dL_law_948 wd_1212 rfl rfl (lwLe (by omega)) (Nat.le_of_ble_eq_true rfl) lw_0 hkq141 hcq141 (mf_X11_tens a2 x140 q139.2 _ hq141) ?_
                                              refine PW.lcmp dL_law_951 ?_
                                              refine PW.if_eq (tgt := 1250) dL_law_952 (by decide) (fun c952 => ?_) (fun c952 => ?_)
                                              · rw [if_pos c952] at h
                                                refine PW.iinc 3 (l' := [(3, .int (a3 + 5)), (0, .ref (gb K)), (1, .ref (ga K a1)), (2, .ref (ga K a2))]) dL_law_1250 rfl (x := a3) (y := (a3 + 5)) rfl (by decide) rfl ?_
                                                refine PW.goto (tgt := 18) dL_law_1253 (by decide) ?_
                                                exact PW.sub (l' := [(0, .ref (gb K)), (1, .ref (ga K a1)), (2, .ref (ga K a2)), (3, .int (a3 + 5))]) [1, 2, 3, 0] rfl (ih a0 a1 a2 (a3 + 5) q141.2 _ h)
                                              · rw [if_neg c952] at h
                                                refine PW.iconst (x := 0) dL_law_955 (by decide) ?_
                                                have h := Option.some.inj h; subst h
                                                exact PW.ret dL_law_956 (z_nar (Or.inl rfl)).1 rfl
                                            · rw [if_neg c32] at h
                                              have c32_19 := sw_ne c32
                                              by_cases c32 : (x1 &&& 31) = 20
                                              · rw [if_pos c32] at h
                                                refine PW.tabE c32 (tgt := 957) (off := 925) dL_law_32 (by decide) (by decide) (by decide) (by decide) ?_
                                                refine PW.aload_n 1 dL_law_957 rfl rfl ?_
                                                obtain ⟨q142, hq142, h⟩ := bind_some h
                                                obtain ⟨hkq142, hcq142, hq142⟩ := vC_spec hq142
                                                refine PW.callVi (As := []) (rest := []) (k := a1) cal_X10_spare dL_law_958 wd_765 rfl rfl (lwLe (by omega)) (Nat.le_of_ble_eq_true rfl) lw_0 hkq142 hcq142 (mf_X10_spare a1 hp _ hq142) ?_
                                                refine PW.aload_n 2 dL_law_961 rfl rfl ?_
                                                obtain ⟨q143, hq143, h⟩ := bind_some h
                                                obtain ⟨hkq143, hcq143, hq143⟩ := vC_spec hq143
                                                refine PW.callVi (As := []) (rest := [.int q142.1]) (k := a2) cal_X11_spare dL_law_962 wd_1224 rfl rfl (lwLe (by omega)) (Nat.le_of_ble_eq_true rfl) lw_0 hkq143 hcq143 (mf_X11_spare a2 q142.2 _ hq143) ?_
                                                refine PW.icmp_eq (tgt := 1250) dL_law_965 (by decide) (fun c965 => ?_) (fun c965 => ?_)
                                                · rw [if_pos c965] at h
                                                  refine PW.iinc 3 (l' := [(3, .int (a3 + 5)), (0, .ref (gb K)), (1, .ref (ga K a1)), (2, .ref (ga K a2))]) dL_law_1250 rfl (x := a3) (y := (a3 + 5)) rfl (by decide) rfl ?_
                                                  refine PW.goto (tgt := 18) dL_law_1253 (by decide) ?_
                                                  exact PW.sub (l' := [(0, .ref (gb K)), (1, .ref (ga K a1)), (2, .ref (ga K a2)), (3, .int (a3 + 5))]) [1, 2, 3, 0] rfl (ih a0 a1 a2 (a3 + 5) q143.2 _ h)
                                                · rw [if_neg c965] at h
                                                  refine PW.iconst (x := 0) dL_law_968 (by decide) ?_
                                                  have h := Option.some.inj h; subst h
                                                  exact PW.ret dL_law_969 (z_nar (Or.inl rfl)).1 rfl
                                              · rw [if_neg c32] at h
                                                have c32_20 := sw_ne c32
                                                by_cases c32 : (x1 &&& 31) = 21
                                                · rw [if_pos c32] at h
                                                  refine PW.tabE c32 (tgt := 970) (off := 938) dL_law_32 (by decide) (by decide) (by decide) (by decide) ?_
                                                  refine PW.aload_n 1 dL_law_970 rfl rfl ?_
                                                  refine PW.aload_n 0 dL_law_971 rfl rfl ?_
                                                  refine PW.iload_n 3 dL_law_972 rfl rfl ?_
                                                  refine PW.iconst (x := 1) dL_law_973 (by decide) ?_
                                                  refine PW.iadd dL_law_974 ?_
                                                  obtain ⟨x144, hx144, h⟩ := bind_some h
                                                  refine PW.sldX dL_law_975 hx144 ?_
                                                  refine PW.aload_n 0 dL_law_976 rfl rfl ?_
                                                  refine PW.iload_n 3 dL_law_977 rfl rfl ?_
                                                  refine PW.iconst (x := 2) dL_law_978 (by decide) ?_
                                                  refine PW.iadd dL_law_979 ?_
                                                  obtain ⟨x145, hx145, h⟩ := bind_some h
                                                  refine PW.sldX dL_law_980 hx145 ?_
                                                  refine PW.aload_n 0 dL_law_981 rfl rfl ?_
                                                  refine PW.iload_n 3 dL_law_982 rfl rfl ?_
                                                  refine PW.iconst (x := 3) dL_law_983 (by decide) ?_
                                                  refine PW.iadd dL_law_984 ?_
                                                  obtain ⟨x146, hx146, h⟩ := bind_some h
                                                  refine PW.sldX dL_law_985 hx146 ?_
                                                  refine PW.if_eq (tgt := 993) dL_law_986 (by decide) (fun c986 => ?_) (fun c986 => ?_)
                                                  · rw [if_pos c986] at h
                                                    refine PW.iconst (x := 0) dL_law_993 (by decide) ?_
                                                    obtain ⟨q147, hq147, h⟩ := bind_some h
                                                    obtain ⟨hkq147, hcq147, hq147⟩ := vC_spec hq147
                                                    refine PW.callVi (As := [.int x144, .int x145, .int 0]) (rest := []) (k := a1) cal_X10_passing dL_law_994 wd_769 rfl rfl (lwLe (by omega)) (Nat.le_of_ble_eq_true rfl) lw_0 hkq147 hcq147 (mf_X10_passing a1 x144 x145 0 hp _ hq147) ?_
                                                    refine PW.aload_n 2 dL_law_997 rfl rfl ?_
                                                    refine PW.aload_n 0 dL_law_998 rfl rfl ?_
                                                    refine PW.iload_n 3 dL_law_999 rfl rfl ?_
                                                    refine PW.iconst (x := 1) dL_law_1000 (by decide) ?_
                                                    refine PW.iadd dL_law_1001 ?_
                                                    obtain ⟨x148, hx148, h⟩ := bind_some h
                                                    refine PW.sldX dL_law_1002 hx148 ?_
                                                    refine PW.aload_n 0 dL_law_1003 rfl rfl ?_
                                                    refine PW.iload_n 3 dL_law_1004 rfl rfl ?_
                                                    refine PW.iconst (x := 2) dL_law_1005 (by decide) ?_
                                                    refine PW.iadd dL_law_1006 ?_
                                                    obtain ⟨x149, hx149, h⟩ := bind_some h
                                                    refine PW.sldX dL_law_1007 hx149 ?_
                                                    refine PW.aload_n 0 dL_law_1008 rfl rfl ?_
                                                    refine PW.iload_n 3 dL_law_1009 rfl rfl ?_
                                                    refine PW.iconst (x := 3) dL_law_1010 (by decide) ?_
                                                    refine PW.iadd dL_law_1011 ?_
                                                    obtain ⟨x150, hx150, h⟩ := bind_some h
                                                    refine PW.sldX dL_law_1012 hx150 ?_
                                                    refine PW.if_eq (tgt := 1020) dL_law_1013 (by decide) (fun c1013 => ?_) (fun c1013 => ?_)
                                                    · rw [if_pos c1013] at h
                                                      refine PW.iconst (x := 0) dL_law_1020 (by decide) ?_
                                                      obtain ⟨q151, hq151, h⟩ := bind_some h
                                                      obtain ⟨hkq151, hcq151, hq151⟩ := vC_spec hq151
                                                      refine PW.callVi (As := [.int x148, .int x149, .int 0]) (rest := [.int q147.1]) (k := a2) cal_X11_passing dL_law_1021 wd_1228 rfl rfl (lwLe (by omega)) (Nat.le_of_ble_eq_true rfl) lw_0 hkq151 hcq151 (mf_X11_passing a2 x148 x149 0 q147.2 _ hq151) ?_
                                                      refine PW.icmp_eq (tgt := 1250) dL_law_1024 (by decide) (fun c1024 => ?_) (fun c1024 => ?_)
                                                      · rw [if_pos c1024] at h
                                                        refine PW.iinc 3 (l' := [(3, .int (a3 + 5)), (0, .ref (gb K)), (1, .ref (ga K a1)), (2, .ref (ga K a2))]) dL_law_1250 rfl (x := a3) (y := (a3 + 5)) rfl (by decide) rfl ?_
                                                        refine PW.goto (tgt := 18) dL_law_1253 (by decide) ?_
                                                        exact PW.sub (l' := [(0, .ref (gb K)), (1, .ref (ga K a1)), (2, .ref (ga K a2)), (3, .int (a3 + 5))]) [1, 2, 3, 0] rfl (ih a0 a1 a2 (a3 + 5) q151.2 _ h)
                                                      · rw [if_neg c1024] at h
                                                        refine PW.iconst (x := 0) dL_law_1027 (by decide) ?_
                                                        have h := Option.some.inj h; subst h
                                                        exact PW.ret dL_law_1028 (z_nar (Or.inl rfl)).1 rfl
                                                    · rw [if_neg c1013] at h
                                                      refine PW.iconst (x := 1) dL_law_1016 (by decide) ?_
                                                      refine PW.goto (tgt := 1021) dL_law_1017 (by decide) ?_
                                                      obtain ⟨q152, hq152, h⟩ := bind_some h
                                                      obtain ⟨hkq152, hcq152, hq152⟩ := vC_spec hq152
                                                      refine PW.callVi (As := [.int x148, .int x149, .int 1]) (rest := [.int q147.1]) (k := a2) cal_X11_passing dL_law_1021 wd_1228 rfl rfl (lwLe (by omega)) (Nat.le_of_ble_eq_true rfl) lw_0 hkq152 hcq152 (mf_X11_passing a2 x148 x149 1 q147.2 _ hq152) ?_
                                                      refine PW.icmp_eq (tgt := 1250) dL_law_1024 (by decide) (fun c1024 => ?_) (fun c1024 => ?_)
                                                      · rw [if_pos c1024] at h
                                                        refine PW.iinc 3 (l' := [(3, .int (a3 + 5)), (0, .ref (gb K)), (1, .ref (ga K a1)), (2, .ref (ga K a2))]) dL_law_1250 rfl (x := a3) (y := (a3 + 5)) rfl (by decide) rfl ?_
                                                        refine PW.goto (tgt := 18) dL_law_1253 (by decide) ?_
                                                        exact PW.sub (l' := [(0, .ref (gb K)), (1, .ref (ga K a1)), (2, .ref (ga K a2)), (3, .int (a3 + 5))]) [1, 2, 3, 0] rfl (ih a0 a1 a2 (a3 + 5) q152.2 _ h)
                                                      · rw [if_neg c1024] at h
                                                        refine PW.iconst (x := 0) dL_law_1027 (by decide) ?_
                                                        have h := Option.some.inj h; subst h
                                                        exact PW.ret dL_law_1028 (z_nar (Or.inl rfl)).1 rfl
                                                  · rw [if_neg c986] at h
                                                    refine PW.iconst (x := 1) dL_law_989 (by decide) ?_
                                                    refine PW.goto (tgt := 994) dL_law_990 (by decide) ?_
                                                    obtain ⟨q153, hq153, h⟩ := bind_some h
                                                    obtain ⟨hkq153, hcq153, hq153⟩ := vC_spec hq153
                                                    refine PW.callVi (As := [.int x144, .int x145, .int 1]) (rest := []) (k := a1) cal_X10_passing dL_law_994 wd_769 rfl rfl (lwLe (by omega)) (Nat.le_of_ble_eq_true rfl) lw_0 hkq153 hcq153 (mf_X10_passing a1 x144 x145 1 hp _ hq153) ?_
                                                    refine PW.aload_n 2 dL_law_997 rfl rfl ?_
                                                    refine PW.aload_n 0 dL_law_998 rfl rfl ?_
                                                    refine PW.iload_n 3 dL_law_999 rfl rfl ?_
                                                    refine PW.iconst (x := 1) dL_law_1000 (by decide) ?_
                                                    refine PW.iadd dL_law_1001 ?_
                                                    obtain ⟨x154, hx154, h⟩ := bind_some h
                                                    refine PW.sldX dL_law_1002 hx154 ?_
                                                    refine PW.aload_n 0 dL_law_1003 rfl rfl ?_
                                                    refine PW.iload_n 3 dL_law_1004 rfl rfl ?_
                                                    refine PW.iconst (x := 2) dL_law_1005 (by decide) ?_
                                                    refine PW.iadd dL_law_1006 ?_
                                                    obtain ⟨x155, hx155, h⟩ := bind_some h
                                                    refine PW.sldX dL_law_1007 hx155 ?_
                                                    refine PW.aload_n 0 dL_law_1008 rfl rfl ?_
                                                    refine PW.iload_n 3 dL_law_1009 rfl rfl ?_
                                                    refine PW.iconst (x := 3) dL_law_1010 (by decide) ?_
                                                    refine PW.iadd dL_law_1011 ?_
                                                    obtain ⟨x156, hx156, h⟩ := bind_some h
                                                    refine PW.sldX dL_law_1012 hx156 ?_
                                                    refine PW.if_eq (tgt := 1020) dL_law_1013 (by decide) (fun c1013 => ?_) (fun c1013 => ?_)
                                                    · rw [if_pos c1013] at h
                                                      refine PW.iconst (x := 0) dL_law_1020 (by decide) ?_
                                                      obtain ⟨q157, hq157, h⟩ := bind_some h
                                                      obtain ⟨hkq157, hcq157, hq157⟩ := vC_spec hq157
                                                      refine PW.callVi (As := [.int x154, .int x155, .int 0]) (rest := [.int q153.1]) (k := a2) cal_X11_passing dL_law_1021 wd_1228 rfl rfl (lwLe (by omega)) (Nat.le_of_ble_eq_true rfl) lw_0 hkq157 hcq157 (mf_X11_passing a2 x154 x155 0 q153.2 _ hq157) ?_
                                                      refine PW.icmp_eq (tgt := 1250) dL_law_1024 (by decide) (fun c1024 => ?_) (fun c1024 => ?_)
                                                      · rw [if_pos c1024] at h
                                                        refine PW.iinc 3 (l' := [(3, .int (a3 + 5)), (0, .ref (gb K)), (1, .ref (ga K a1)), (2, .ref (ga K a2))]) dL_law_1250 rfl (x := a3) (y := (a3 + 5)) rfl (by decide) rfl ?_
                                                        refine PW.goto (tgt := 18) dL_law_1253 (by decide) ?_
                                                        exact PW.sub (l' := [(0, .ref (gb K)), (1, .ref (ga K a1)), (2, .ref (ga K a2)), (3, .int (a3 + 5))]) [1, 2, 3, 0] rfl (ih a0 a1 a2 (a3 + 5) q157.2 _ h)
                                                      · rw [if_neg c1024] at h
                                                        refine PW.iconst (x := 0) dL_law_1027 (by decide) ?_
                                                        have h := Option.some.inj h; subst h
                                                        exact PW.ret dL_law_1028 (z_nar (Or.inl rfl)).1 rfl
                                                    · rw [if_neg c1013] at h
                                                      refine PW.iconst (x := 1) dL_law_1016 (by decide) ?_
                                                      refine PW.goto (tgt := 1021) dL_law_1017 (by decide) ?_
                                                      obtain ⟨q158, hq158, h⟩ := bind_some h
                                                      obtain ⟨hkq158, hcq158, hq158⟩ := vC_spec hq158
                                                      refine PW.callVi (As := [.int x154, .int x155, .int 1]) (rest := [.int q153.1]) (k := a2) cal_X11_passing dL_law_1021 wd_1228 rfl rfl (lwLe (by omega)) (Nat.le_of_ble_eq_true rfl) lw_0 hkq158 hcq158 (mf_X11_passing a2 x154 x155 1 q153.2 _ hq158) ?_
                                                      refine PW.icmp_eq (tgt := 1250) dL_law_1024 (by decide) (fun c1024 => ?_) (fun c1024 => ?_)
                                                      · rw [if_pos c1024] at h
                                                        refine PW.iinc 3 (l' := [(3, .int (a3 + 5)), (0, .ref (gb K)), (1, .ref (ga K a1)), (2, .ref (ga K a2))]) dL_law_1250 rfl (x := a3) (y := (a3 + 5)) rfl (by decide) rfl ?_
                                                        refine PW.goto (tgt := 18) dL_law_1253 (by decide) ?_
                                                        exact PW.sub (l' := [(0, .ref (gb K)), (1, .ref (ga K a1)), (2, .ref (ga K a2)), (3, .int (a3 + 5))]) [1, 2, 3, 0] rfl (ih a0 a1 a2 (a3 + 5) q158.2 _ h)
                                                      · rw [if_neg c1024] at h
                                                        refine PW.iconst (x := 0) dL_law_1027 (by decide) ?_
                                                        have h := Option.some.inj h; subst h
                                                        exact PW.ret dL_law_1028 (z_nar (Or.inl rfl)).1 rfl
                                                · rw [if_neg c32] at h
                                                  have c32_21 := sw_ne c32
                                                  by_cases c32 : (x1 &&& 31) = 22
                                                  · rw [if_pos c32] at h
                                                    refine PW.tabE c32 (tgt := 1029) (off := 997) dL_law_32 (by decide) (by decide) (by decide) (by decide) ?_
                                                    refine PW.aload_n 1 dL_law_1029 rfl rfl ?_
                                                    obtain ⟨q159, hq159, h⟩ := bind_some h
                                                    obtain ⟨hkq159, hcq159, hq159⟩ := vC_spec hq159
                                                    refine PW.callVi (As := []) (rest := []) (k := a1) cal_X10_forget dL_law_1030 wd_777 rfl rfl (lwLe (by omega)) (Nat.le_of_ble_eq_true rfl) lw_0 hkq159 hcq159 (mf_X10_forget a1 hp _ hq159) ?_
                                                    refine PW.aload_n 2 dL_law_1033 rfl rfl ?_
                                                    obtain ⟨q160, hq160, h⟩ := bind_some h
                                                    obtain ⟨hkq160, hcq160, hq160⟩ := vC_spec hq160
                                                    refine PW.callVi (As := []) (rest := [.int q159.1]) (k := a2) cal_X11_forget dL_law_1034 wd_1234 rfl rfl (lwLe (by omega)) (Nat.le_of_ble_eq_true rfl) lw_0 hkq160 hcq160 (mf_X11_forget a2 q159.2 _ hq160) ?_
                                                    refine PW.icmp_eq (tgt := 1250) dL_law_1037 (by decide) (fun c1037 => ?_) (fun c1037 => ?_)
                                                    · rw [if_pos c1037] at h
                                                      refine PW.iinc 3 (l' := [(3, .int (a3 + 5)), (0, .ref (gb K)), (1, .ref (ga K a1)), (2, .ref (ga K a2))]) dL_law_1250 rfl (x := a3) (y := (a3 + 5)) rfl (by decide) rfl ?_
                                                      refine PW.goto (tgt := 18) dL_law_1253 (by decide) ?_
                                                      exact PW.sub (l' := [(0, .ref (gb K)), (1, .ref (ga K a1)), (2, .ref (ga K a2)), (3, .int (a3 + 5))]) [1, 2, 3, 0] rfl (ih a0 a1 a2 (a3 + 5) q160.2 _ h)
                                                    · rw [if_neg c1037] at h
                                                      refine PW.iconst (x := 0) dL_law_1040 (by decide) ?_
                                                      have h := Option.some.inj h; subst h
                                                      exact PW.ret dL_law_1041 (z_nar (Or.inl rfl)).1 rfl
                                                  · rw [if_neg c32] at h
                                                    have c32_22 := sw_ne c32
                                                    by_cases c32 : (x1 &&& 31) = 23
                                                    · rw [if_pos c32] at h
                                                      refine PW.tabE c32 (tgt := 1042) (off := 1010) dL_law_32 (by decide) (by decide) (by decide) (by decide) ?_
                                                      refine PW.aload_n 1 dL_law_1042 rfl rfl ?_
                                                      refine PW.aload_n 0 dL_law_1043 rfl rfl ?_
                                                      refine PW.iload_n 3 dL_law_1044 rfl rfl ?_
                                                      refine PW.iconst (x := 1) dL_law_1045 (by decide) ?_
                                                      refine PW.iadd dL_law_1046 ?_
                                                      obtain ⟨x161, hx161, h⟩ := bind_some h
                                                      refine PW.sldX dL_law_1047 hx161 ?_
                                                      obtain ⟨q162, hq162, h⟩ := bind_some h
                                                      obtain ⟨hkq162, hcq162, hq162⟩ := vC_spec hq162
                                                      refine PW.callVi (As := [.int x161]) (rest := []) (k := a1) cal_X10_liars dL_law_1048 wd_785 rfl rfl (lwLe (by omega)) (Nat.le_of_ble_eq_true rfl) lw_0 hkq162 hcq162 (mf_X10_liars a1 x161 hp _ hq162) ?_
                                                      refine PW.aload_n 2 dL_law_1051 rfl rfl ?_
                                                      refine PW.aload_n 0 dL_law_1052 rfl rfl ?_
                                                      refine PW.iload_n 3 dL_law_1053 rfl rfl ?_
                                                      refine PW.iconst (x := 1) dL_law_1054 (by decide) ?_
                                                      refine PW.iadd dL_law_1055 ?_
                                                      obtain ⟨x163, hx163, h⟩ := bind_some h
                                                      refine PW.sldX dL_law_1056 hx163 ?_
                                                      obtain ⟨q164, hq164, h⟩ := bind_some h
                                                      obtain ⟨hkq164, hcq164, hq164⟩ := vC_spec hq164
                                                      refine PW.callVi (As := [.int x163]) (rest := [.int q162.1]) (k := a2) cal_X11_liars dL_law_1057 wd_1238 rfl rfl (lwLe (by omega)) (Nat.le_of_ble_eq_true rfl) lw_0 hkq164 hcq164 (mf_X11_liars a2 x163 q162.2 _ hq164) ?_
                                                      refine PW.icmp_eq (tgt := 1250) dL_law_1060 (by decide) (fun c1060 => ?_) (fun c1060 => ?_)
                                                      · rw [if_pos c1060] at h
                                                        refine PW.iinc 3 (l' := [(3, .int (a3 + 5)), (0, .ref (gb K)), (1, .ref (ga K a1)), (2, .ref (ga K a2))]) dL_law_1250 rfl (x := a3) (y := (a3 + 5)) rfl (by decide) rfl ?_
                                                        refine PW.goto (tgt := 18) dL_law_1253 (by decide) ?_
                                                        exact PW.sub (l' := [(0, .ref (gb K)), (1, .ref (ga K a1)), (2, .ref (ga K a2)), (3, .int (a3 + 5))]) [1, 2, 3, 0] rfl (ih a0 a1 a2 (a3 + 5) q164.2 _ h)
                                                      · rw [if_neg c1060] at h
                                                        refine PW.iconst (x := 0) dL_law_1063 (by decide) ?_
                                                        have h := Option.some.inj h; subst h
                                                        exact PW.ret dL_law_1064 (z_nar (Or.inl rfl)).1 rfl
                                                    · rw [if_neg c32] at h
                                                      have c32_23 := sw_ne c32
                                                      by_cases c32 : (x1 &&& 31) = 24
                                                      · rw [if_pos c32] at h
                                                        refine PW.tabE c32 (tgt := 1065) (off := 1033) dL_law_32 (by decide) (by decide) (by decide) (by decide) ?_
                                                        refine PW.aload_n 1 dL_law_1065 rfl rfl ?_
                                                        refine PW.aload_n 0 dL_law_1066 rfl rfl ?_
                                                        refine PW.iload_n 3 dL_law_1067 rfl rfl ?_
                                                        refine PW.iconst (x := 1) dL_law_1068 (by decide) ?_
                                                        refine PW.iadd dL_law_1069 ?_
                                                        obtain ⟨x165, hx165, h⟩ := bind_some h
                                                        refine PW.sldX dL_law_1070 hx165 ?_
                                                        obtain ⟨q166, hq166, h⟩ := bind_some h
                                                        obtain ⟨hkq166, hcq166, hq166⟩ := vC_spec hq166
                                                        refine PW.callVi (As := [.int x165]) (rest := []) (k := a1) cal_X10_fits dL_law_1071 wd_793 rfl rfl (lwLe (by omega)) (Nat.le_of_ble_eq_true rfl) lw_0 hkq166 hcq166 (mf_X10_fits a1 x165 hp _ hq166) ?_
                                                        refine PW.aload_n 2 dL_law_1074 rfl rfl ?_
                                                        refine PW.aload_n 0 dL_law_1075 rfl rfl ?_
                                                        refine PW.iload_n 3 dL_law_1076 rfl rfl ?_
                                                        refine PW.iconst (x := 1) dL_law_1077 (by decide) ?_
                                                        refine PW.iadd dL_law_1078 ?_
                                                        obtain ⟨x167, hx167, h⟩ := bind_some h
                                                        refine PW.sldX dL_law_1079 hx167 ?_
                                                        obtain ⟨q168, hq168, h⟩ := bind_some h
                                                        obtain ⟨hkq168, hcq168, hq168⟩ := vC_spec hq168
                                                        refine PW.callVi (As := [.int x167]) (rest := [.int q166.1]) (k := a2) cal_X11_fits dL_law_1080 wd_1243 rfl rfl (lwLe (by omega)) (Nat.le_of_ble_eq_true rfl) lw_0 hkq168 hcq168 (mf_X11_fits a2 x167 q166.2 _ hq168) ?_
                                                        refine PW.icmp_eq (tgt := 1250) dL_law_1083 (by decide) (fun c1083 => ?_) (fun c1083 => ?_)
                                                        · rw [if_pos c1083] at h
                                                          refine PW.iinc 3 (l' := [(3, .int (a3 + 5)), (0, .ref (gb K)), (1, .ref (ga K a1)), (2, .ref (ga K a2))]) dL_law_1250 rfl (x := a3) (y := (a3 + 5)) rfl (by decide) rfl ?_
                                                          refine PW.goto (tgt := 18) dL_law_1253 (by decide) ?_
                                                          exact PW.sub (l' := [(0, .ref (gb K)), (1, .ref (ga K a1)), (2, .ref (ga K a2)), (3, .int (a3 + 5))]) [1, 2, 3, 0] rfl (ih a0 a1 a2 (a3 + 5) q168.2 _ h)
                                                        · rw [if_neg c1083] at h
                                                          refine PW.iconst (x := 0) dL_law_1086 (by decide) ?_
                                                          have h := Option.some.inj h; subst h
                                                          exact PW.ret dL_law_1087 (z_nar (Or.inl rfl)).1 rfl
                                                      · rw [if_neg c32] at h
                                                        have c32_24 := sw_ne c32
                                                        by_cases c32 : (x1 &&& 31) = 25
                                                        · rw [if_pos c32] at h
                                                          refine PW.tabE c32 (tgt := 1088) (off := 1056) dL_law_32 (by decide) (by decide) (by decide) (by decide) ?_
                                                          refine PW.aload_n 1 dL_law_1088 rfl rfl ?_
                                                          refine PW.aload_n 0 dL_law_1089 rfl rfl ?_
                                                          refine PW.iload_n 3 dL_law_1090 rfl rfl ?_
                                                          refine PW.iconst (x := 1) dL_law_1091 (by decide) ?_
                                                          refine PW.iadd dL_law_1092 ?_
                                                          obtain ⟨x169, hx169, h⟩ := bind_some h
                                                          refine PW.sldX dL_law_1093 hx169 ?_
                                                          refine PW.aload_n 0 dL_law_1094 rfl rfl ?_
                                                          refine PW.iload_n 3 dL_law_1095 rfl rfl ?_
                                                          refine PW.iconst (x := 2) dL_law_1096 (by decide) ?_
                                                          refine PW.iadd dL_law_1097 ?_
                                                          obtain ⟨x170, hx170, h⟩ := bind_some h
                                                          refine PW.sldX dL_law_1098 hx170 ?_
                                                          obtain ⟨q171, hq171, h⟩ := bind_some h
                                                          obtain ⟨hkq171, hcq171, hq171⟩ := vC_spec hq171
                                                          refine PW.callVi (As := [.int x169, .int x170]) (rest := []) (k := a1) cal_X10_untold dL_law_1099 wd_829 rfl rfl (lwLe (by omega)) (Nat.le_of_ble_eq_true rfl) lw_0 hkq171 hcq171 (mf_X10_untold a1 x169 x170 hp _ hq171) ?_
                                                          refine PW.aload_n 2 dL_law_1102 rfl rfl ?_
                                                          refine PW.aload_n 0 dL_law_1103 rfl rfl ?_
                                                          refine PW.iload_n 3 dL_law_1104 rfl rfl ?_
                                                          refine PW.iconst (x := 1) dL_law_1105 (by decide) ?_
                                                          refine PW.iadd dL_law_1106 ?_
                                                          obtain ⟨x172, hx172, h⟩ := bind_some h
                                                          refine PW.sldX dL_law_1107 hx172 ?_
                                                          refine PW.aload_n 0 dL_law_1108 rfl rfl ?_
                                                          refine PW.iload_n 3 dL_law_1109 rfl rfl ?_
                                                          refine PW.iconst (x := 2) dL_law_1110 (by decide) ?_
                                                          refine PW.iadd dL_law_1111 ?_
                                                          obtain ⟨x173, hx173, h⟩ := bind_some h
                                                          refine PW.sldX dL_law_1112 hx173 ?_
                                                          obtain ⟨q174, hq174, h⟩ := bind_some h
                                                          obtain ⟨hkq174, hcq174, hq174⟩ := vC_spec hq174
                                                          refine PW.callVi (As := [.int x172, .int x173]) (rest := [.int q171.1]) (k := a2) cal_X11_untold dL_law_1113 wd_1255 rfl rfl (lwLe (by omega)) (Nat.le_of_ble_eq_true rfl) lw_0 hkq174 hcq174 (mf_X11_untold a2 x172 x173 q171.2 _ hq174) ?_
                                                          refine PW.icmp_eq (tgt := 1250) dL_law_1116 (by decide) (fun c1116 => ?_) (fun c1116 => ?_)
                                                          · rw [if_pos c1116] at h
                                                            refine PW.iinc 3 (l' := [(3, .int (a3 + 5)), (0, .ref (gb K)), (1, .ref (ga K a1)), (2, .ref (ga K a2))]) dL_law_1250 rfl (x := a3) (y := (a3 + 5)) rfl (by decide) rfl ?_
                                                            refine PW.goto (tgt := 18) dL_law_1253 (by decide) ?_
                                                            exact PW.sub (l' := [(0, .ref (gb K)), (1, .ref (ga K a1)), (2, .ref (ga K a2)), (3, .int (a3 + 5))]) [1, 2, 3, 0] rfl (ih a0 a1 a2 (a3 + 5) q174.2 _ h)
                                                          · rw [if_neg c1116] at h
                                                            refine PW.iconst (x := 0) dL_law_1119 (by decide) ?_
                                                            have h := Option.some.inj h; subst h
                                                            exact PW.ret dL_law_1120 (z_nar (Or.inl rfl)).1 rfl
                                                        · rw [if_neg c32] at h
                                                          have c32_25 := sw_ne c32
                                                          by_cases c32 : (x1 &&& 31) = 26
                                                          · rw [if_pos c32] at h
                                                            refine PW.tabE c32 (tgt := 1121) (off := 1089) dL_law_32 (by decide) (by decide) (by decide) (by decide) ?_
                                                            refine PW.aload_n 1 dL_law_1121 rfl rfl ?_
                                                            refine PW.aload_n 0 dL_law_1122 rfl rfl ?_
                                                            refine PW.iload_n 3 dL_law_1123 rfl rfl ?_
                                                            refine PW.iconst (x := 1) dL_law_1124 (by decide) ?_
                                                            refine PW.iadd dL_law_1125 ?_
                                                            obtain ⟨x175, hx175, h⟩ := bind_some h
                                                            refine PW.sldX dL_law_1126 hx175 ?_
                                                            obtain ⟨q176, hq176, h⟩ := bind_some h
                                                            obtain ⟨hkq176, hcq176, hq176⟩ := vC_spec hq176
                                                            refine PW.callVi (As := [.int x175]) (rest := []) (k := a1) cal_X10_part dL_law_1127 wd_841 rfl rfl (lwLe (by omega)) (Nat.le_of_ble_eq_true rfl) lw_0 hkq176 hcq176 (mf_X10_part a1 x175 hp _ hq176) ?_
                                                            refine PW.aload_n 2 dL_law_1130 rfl rfl ?_
                                                            refine PW.aload_n 0 dL_law_1131 rfl rfl ?_
                                                            refine PW.iload_n 3 dL_law_1132 rfl rfl ?_
                                                            refine PW.iconst (x := 1) dL_law_1133 (by decide) ?_
                                                            refine PW.iadd dL_law_1134 ?_
                                                            obtain ⟨x177, hx177, h⟩ := bind_some h
                                                            refine PW.sldX dL_law_1135 hx177 ?_
                                                            obtain ⟨q178, hq178, h⟩ := bind_some h
                                                            obtain ⟨hkq178, hcq178, hq178⟩ := vC_spec hq178
                                                            refine PW.callVi (As := [.int x177]) (rest := [.int q176.1]) (k := a2) cal_X11_part dL_law_1136 wd_1259 rfl rfl (lwLe (by omega)) (Nat.le_of_ble_eq_true rfl) lw_0 hkq178 hcq178 (mf_X11_part a2 x177 q176.2 _ hq178) ?_
                                                            refine PW.icmp_eq (tgt := 1250) dL_law_1139 (by decide) (fun c1139 => ?_) (fun c1139 => ?_)
                                                            · rw [if_pos c1139] at h
                                                              refine PW.iinc 3 (l' := [(3, .int (a3 + 5)), (0, .ref (gb K)), (1, .ref (ga K a1)), (2, .ref (ga K a2))]) dL_law_1250 rfl (x := a3) (y := (a3 + 5)) rfl (by decide) rfl ?_
                                                              refine PW.goto (tgt := 18) dL_law_1253 (by decide) ?_
                                                              exact PW.sub (l' := [(0, .ref (gb K)), (1, .ref (ga K a1)), (2, .ref (ga K a2)), (3, .int (a3 + 5))]) [1, 2, 3, 0] rfl (ih a0 a1 a2 (a3 + 5) q178.2 _ h)
                                                            · rw [if_neg c1139] at h
                                                              refine PW.iconst (x := 0) dL_law_1142 (by decide) ?_
                                                              have h := Option.some.inj h; subst h
                                                              exact PW.ret dL_law_1143 (z_nar (Or.inl rfl)).1 rfl
                                                          · rw [if_neg c32] at h
                                                            have c32_26 := sw_ne c32
                                                            by_cases c32 : (x1 &&& 31) = 27
                                                            · rw [if_pos c32] at h
                                                              refine PW.tabE c32 (tgt := 1144) (off := 1112) dL_law_32 (by decide) (by decide) (by decide) (by decide) ?_
                                                              refine PW.aload_n 1 dL_law_1144 rfl rfl ?_
                                                              refine PW.aload_n 0 dL_law_1145 rfl rfl ?_
                                                              refine PW.iload_n 3 dL_law_1146 rfl rfl ?_
                                                              refine PW.iconst (x := 1) dL_law_1147 (by decide) ?_
                                                              refine PW.iadd dL_law_1148 ?_
                                                              obtain ⟨x179, hx179, h⟩ := bind_some h
                                                              refine PW.sldX dL_law_1149 hx179 ?_
                                                              obtain ⟨q180, hq180, h⟩ := bind_some h
                                                              obtain ⟨hkq180, hcq180, hq180⟩ := vC_spec hq180
                                                              refine PW.callVi (As := [.int x179]) (rest := []) (k := a1) cal_X10_image dL_law_1150 wd_845 rfl rfl (lwLe (by omega)) (Nat.le_of_ble_eq_true rfl) lw_0 hkq180 hcq180 (mf_X10_image a1 x179 hp _ hq180) ?_
                                                              refine PW.aload_n 2 dL_law_1153 rfl rfl ?_
                                                              refine PW.aload_n 0 dL_law_1154 rfl rfl ?_
                                                              refine PW.iload_n 3 dL_law_1155 rfl rfl ?_
                                                              refine PW.iconst (x := 1) dL_law_1156 (by decide) ?_
                                                              refine PW.iadd dL_law_1157 ?_
                                                              obtain ⟨x181, hx181, h⟩ := bind_some h
                                                              refine PW.sldX dL_law_1158 hx181 ?_
                                                              obtain ⟨q182, hq182, h⟩ := bind_some h
                                                              obtain ⟨hkq182, hcq182, hq182⟩ := vC_spec hq182
                                                              refine PW.callVi (As := [.int x181]) (rest := [.int q180.1]) (k := a2) cal_X11_image dL_law_1159 wd_1263 rfl rfl (lwLe (by omega)) (Nat.le_of_ble_eq_true rfl) lw_0 hkq182 hcq182 (mf_X11_image a2 x181 q180.2 _ hq182) ?_
                                                              refine PW.icmp_eq (tgt := 1250) dL_law_1162 (by decide) (fun c1162 => ?_) (fun c1162 => ?_)
                                                              · rw [if_pos c1162] at h
                                                                refine PW.iinc 3 (l' := [(3, .int (a3 + 5)), (0, .ref (gb K)), (1, .ref (ga K a1)), (2, .ref (ga K a2))]) dL_law_1250 rfl (x := a3) (y := (a3 + 5)) rfl (by decide) rfl ?_
                                                                refine PW.goto (tgt := 18) dL_law_1253 (by decide) ?_
                                                                exact PW.sub (l' := [(0, .ref (gb K)), (1, .ref (ga K a1)), (2, .ref (ga K a2)), (3, .int (a3 + 5))]) [1, 2, 3, 0] rfl (ih a0 a1 a2 (a3 + 5) q182.2 _ h)
                                                              · rw [if_neg c1162] at h
                                                                refine PW.iconst (x := 0) dL_law_1165 (by decide) ?_
                                                                have h := Option.some.inj h; subst h
                                                                exact PW.ret dL_law_1166 (z_nar (Or.inl rfl)).1 rfl
                                                            · rw [if_neg c32] at h
                                                              have c32_27 := sw_ne c32
                                                              by_cases c32 : (x1 &&& 31) = 28
                                                              · rw [if_pos c32] at h
                                                                refine PW.tabE c32 (tgt := 1167) (off := 1135) dL_law_32 (by decide) (by decide) (by decide) (by decide) ?_
                                                                refine PW.aload_n 1 dL_law_1167 rfl rfl ?_
                                                                refine PW.aload_n 0 dL_law_1168 rfl rfl ?_
                                                                refine PW.iload_n 3 dL_law_1169 rfl rfl ?_
                                                                refine PW.iconst (x := 1) dL_law_1170 (by decide) ?_
                                                                refine PW.iadd dL_law_1171 ?_
                                                                obtain ⟨x183, hx183, h⟩ := bind_some h
                                                                refine PW.sldX dL_law_1172 hx183 ?_
                                                                obtain ⟨q184, hq184, h⟩ := bind_some h
                                                                obtain ⟨hkq184, hcq184, hq184⟩ := vC_spec hq184
                                                                refine PW.callVi (As := [.int x183]) (rest := []) (k := a1) cal_X10_from dL_law_1173 wd_865 rfl rfl (lwLe (by omega)) (Nat.le_of_ble_eq_true rfl) lw_0 hkq184 hcq184 (mf_X10_from a1 x183 hp _ hq184) ?_
                                                                refine PW.aload_n 2 dL_law_1176 rfl rfl ?_
                                                                refine PW.aload_n 0 dL_law_1177 rfl rfl ?_
                                                                refine PW.iload_n 3 dL_law_1178 rfl rfl ?_
                                                                refine PW.iconst (x := 1) dL_law_1179 (by decide) ?_
                                                                refine PW.iadd dL_law_1180 ?_
                                                                obtain ⟨x185, hx185, h⟩ := bind_some h
                                                                refine PW.sldX dL_law_1181 hx185 ?_
                                                                obtain ⟨q186, hq186, h⟩ := bind_some h
                                                                obtain ⟨hkq186, hcq186, hq186⟩ := vC_spec hq186
                                                                refine PW.callVi (As := [.int x185]) (rest := [.int q184.1]) (k := a2) cal_X11_from dL_law_1182 wd_1267 rfl rfl (lwLe (by omega)) (Nat.le_of_ble_eq_true rfl) lw_0 hkq186 hcq186 (mf_X11_from a2 x185 q184.2 _ hq186) ?_
                                                                refine PW.icmp_eq (tgt := 1250) dL_law_1185 (by decide) (fun c1185 => ?_) (fun c1185 => ?_)
                                                                · rw [if_pos c1185] at h
                                                                  refine PW.iinc 3 (l' := [(3, .int (a3 + 5)), (0, .ref (gb K)), (1, .ref (ga K a1)), (2, .ref (ga K a2))]) dL_law_1250 rfl (x := a3) (y := (a3 + 5)) rfl (by decide) rfl ?_
                                                                  refine PW.goto (tgt := 18) dL_law_1253 (by decide) ?_
                                                                  exact PW.sub (l' := [(0, .ref (gb K)), (1, .ref (ga K a1)), (2, .ref (ga K a2)), (3, .int (a3 + 5))]) [1, 2, 3, 0] rfl (ih a0 a1 a2 (a3 + 5) q186.2 _ h)
                                                                · rw [if_neg c1185] at h
                                                                  refine PW.iconst (x := 0) dL_law_1188 (by decide) ?_
                                                                  have h := Option.some.inj h; subst h
                                                                  exact PW.ret dL_law_1189 (z_nar (Or.inl rfl)).1 rfl
                                                              · rw [if_neg c32] at h
                                                                have c32_28 := sw_ne c32
                                                                by_cases c32 : (x1 &&& 31) = 29
                                                                · rw [if_pos c32] at h
                                                                  refine PW.tabE c32 (tgt := 1190) (off := 1158) dL_law_32 (by decide) (by decide) (by decide) (by decide) ?_
                                                                  refine PW.aload_n 1 dL_law_1190 rfl rfl ?_
                                                                  refine PW.aload_n 0 dL_law_1191 rfl rfl ?_
                                                                  refine PW.iload_n 3 dL_law_1192 rfl rfl ?_
                                                                  refine PW.iconst (x := 1) dL_law_1193 (by decide) ?_
                                                                  refine PW.iadd dL_law_1194 ?_
                                                                  obtain ⟨x187, hx187, h⟩ := bind_some h
                                                                  refine PW.sldX dL_law_1195 hx187 ?_
                                                                  obtain ⟨q188, hq188, h⟩ := bind_some h
                                                                  obtain ⟨hkq188, hcq188, hq188⟩ := vC_spec hq188
                                                                  refine PW.callVi (As := [.int x187]) (rest := []) (k := a1) cal_X10_status dL_law_1196 wd_869 rfl rfl (lwLe (by omega)) (Nat.le_of_ble_eq_true rfl) lw_0 hkq188 hcq188 (mf_X10_status a1 x187 hp _ hq188) ?_
                                                                  refine PW.aload_n 2 dL_law_1199 rfl rfl ?_
                                                                  refine PW.aload_n 0 dL_law_1200 rfl rfl ?_
                                                                  refine PW.iload_n 3 dL_law_1201 rfl rfl ?_
                                                                  refine PW.iconst (x := 1) dL_law_1202 (by decide) ?_
                                                                  refine PW.iadd dL_law_1203 ?_
                                                                  obtain ⟨x189, hx189, h⟩ := bind_some h
                                                                  refine PW.sldX dL_law_1204 hx189 ?_
                                                                  obtain ⟨q190, hq190, h⟩ := bind_some h
                                                                  obtain ⟨hkq190, hcq190, hq190⟩ := vC_spec hq190
                                                                  refine PW.callVi (As := [.int x189]) (rest := [.int q188.1]) (k := a2) cal_X11_status dL_law_1205 wd_1271 rfl rfl (lwLe (by omega)) (Nat.le_of_ble_eq_true rfl) lw_0 hkq190 hcq190 (mf_X11_status a2 x189 q188.2 _ hq190) ?_
                                                                  refine PW.icmp_eq (tgt := 1250) dL_law_1208 (by decide) (fun c1208 => ?_) (fun c1208 => ?_)
                                                                  · rw [if_pos c1208] at h
                                                                    refine PW.iinc 3 (l' := [(3, .int (a3 + 5)), (0, .ref (gb K)), (1, .ref (ga K a1)), (2, .ref (ga K a2))]) dL_law_1250 rfl (x := a3) (y := (a3 + 5)) rfl (by decide) rfl ?_
                                                                    refine PW.goto (tgt := 18) dL_law_1253 (by decide) ?_
                                                                    exact PW.sub (l' := [(0, .ref (gb K)), (1, .ref (ga K a1)), (2, .ref (ga K a2)), (3, .int (a3 + 5))]) [1, 2, 3, 0] rfl (ih a0 a1 a2 (a3 + 5) q190.2 _ h)
                                                                  · rw [if_neg c1208] at h
                                                                    refine PW.iconst (x := 0) dL_law_1211 (by decide) ?_
                                                                    have h := Option.some.inj h; subst h
                                                                    exact PW.ret dL_law_1212 (z_nar (Or.inl rfl)).1 rfl
                                                                · rw [if_neg c32] at h
                                                                  have c32_29 := sw_ne c32
                                                                  by_cases c32 : (x1 &&& 31) = 30
                                                                  · rw [if_pos c32] at h
                                                                    refine PW.tabE c32 (tgt := 1213) (off := 1181) dL_law_32 (by decide) (by decide) (by decide) (by decide) ?_
                                                                    refine PW.aload_n 1 dL_law_1213 rfl rfl ?_
                                                                    refine PW.aload_n 0 dL_law_1214 rfl rfl ?_
                                                                    refine PW.iload_n 3 dL_law_1215 rfl rfl ?_
                                                                    refine PW.iconst (x := 1) dL_law_1216 (by decide) ?_
                                                                    refine PW.iadd dL_law_1217 ?_
                                                                    obtain ⟨x191, hx191, h⟩ := bind_some h
                                                                    refine PW.sldX dL_law_1218 hx191 ?_
                                                                    obtain ⟨q192, hq192, h⟩ := bind_some h
                                                                    obtain ⟨hkq192, hcq192, hq192⟩ := vC_spec hq192
                                                                    refine PW.callVi (As := [.int x191]) (rest := []) (k := a1) cal_X10_count dL_law_1219 wd_873 rfl rfl (lwLe (by omega)) (Nat.le_of_ble_eq_true rfl) lw_0 hkq192 hcq192 (mf_X10_count a1 x191 hp _ hq192) ?_
                                                                    refine PW.aload_n 2 dL_law_1222 rfl rfl ?_
                                                                    refine PW.aload_n 0 dL_law_1223 rfl rfl ?_
                                                                    refine PW.iload_n 3 dL_law_1224 rfl rfl ?_
                                                                    refine PW.iconst (x := 1) dL_law_1225 (by decide) ?_
                                                                    refine PW.iadd dL_law_1226 ?_
                                                                    obtain ⟨x193, hx193, h⟩ := bind_some h
                                                                    refine PW.sldX dL_law_1227 hx193 ?_
                                                                    obtain ⟨q194, hq194, h⟩ := bind_some h
                                                                    obtain ⟨hkq194, hcq194, hq194⟩ := vC_spec hq194
                                                                    refine PW.callVi (As := [.int x193]) (rest := [.int q192.1]) (k := a2) cal_X11_count dL_law_1228 wd_1275 rfl rfl (lwLe (by omega)) (Nat.le_of_ble_eq_true rfl) lw_0 hkq194 hcq194 (mf_X11_count a2 x193 q192.2 _ hq194) ?_
                                                                    refine PW.icmp_eq (tgt := 1250) dL_law_1231 (by decide) (fun c1231 => ?_) (fun c1231 => ?_)
                                                                    · rw [if_pos c1231] at h
                                                                      refine PW.iinc 3 (l' := [(3, .int (a3 + 5)), (0, .ref (gb K)), (1, .ref (ga K a1)), (2, .ref (ga K a2))]) dL_law_1250 rfl (x := a3) (y := (a3 + 5)) rfl (by decide) rfl ?_
                                                                      refine PW.goto (tgt := 18) dL_law_1253 (by decide) ?_
                                                                      exact PW.sub (l' := [(0, .ref (gb K)), (1, .ref (ga K a1)), (2, .ref (ga K a2)), (3, .int (a3 + 5))]) [1, 2, 3, 0] rfl (ih a0 a1 a2 (a3 + 5) q194.2 _ h)
                                                                    · rw [if_neg c1231] at h
                                                                      refine PW.iconst (x := 0) dL_law_1234 (by decide) ?_
                                                                      have h := Option.some.inj h; subst h
                                                                      exact PW.ret dL_law_1235 (z_nar (Or.inl rfl)).1 rfl
                                                                  · rw [if_neg c32] at h
                                                                    have c32_30 := sw_ne c32
                                                                    by_cases c32 : (x1 &&& 31) = 31
                                                                    · rw [if_pos c32] at h
                                                                      refine PW.tabE c32 (tgt := 1236) (off := 1204) dL_law_32 (by decide) (by decide) (by decide) (by decide) ?_
                                                                      refine PW.aload_n 1 dL_law_1236 rfl rfl ?_
                                                                      obtain ⟨q195, hq195, h⟩ := bind_some h
                                                                      obtain ⟨hkq195, hcq195, hq195⟩ := vC_spec hq195
                                                                      refine PW.callVl (As := []) (rest := []) (k := a1) cal_X10_digest dL_law_1237 wd_877 rfl rfl (lwLe (by omega)) (Nat.le_of_ble_eq_true rfl) lw_0 hkq195 hcq195 (mf_X10_digest a1 hp _ hq195) ?_
                                                                      refine PW.aload_n 2 dL_law_1240 rfl rfl ?_
                                                                      obtain ⟨q196, hq196, h⟩ := bind_some h
                                                                      obtain ⟨hkq196, hcq196, hq196⟩ := vC_spec hq196
                                                                      refine PW.callVl (As := []) (rest := [.long q195]) (k := a2) cal_X11_digest dL_law_1241 wd_1279 rfl rfl (lwLe (by omega)) (Nat.le_of_ble_eq_true rfl) lw_0 hkq196 hcq196 (mf_X11_digest a2 hp _ hq196) ?_
                                                                      refine PW.lcmp dL_law_1244 ?_
                                                                      refine PW.if_eq (tgt := 1250) dL_law_1245 (by decide) (fun c1245 => ?_) (fun c1245 => ?_)
                                                                      · rw [if_pos c1245] at h
                                                                        refine PW.iinc 3 (l' := [(3, .int (a3 + 5)), (0, .ref (gb K)), (1, .ref (ga K a1)), (2, .ref (ga K a2))]) dL_law_1250 rfl (x := a3) (y := (a3 + 5)) rfl (by decide) rfl ?_
                                                                        refine PW.goto (tgt := 18) dL_law_1253 (by decide) ?_
                                                                        exact PW.sub (l' := [(0, .ref (gb K)), (1, .ref (ga K a1)), (2, .ref (ga K a2)), (3, .int (a3 + 5))]) [1, 2, 3, 0] rfl (ih a0 a1 a2 (a3 + 5) hp _ h)
                                                                      · rw [if_neg c1245] at h
                                                                        refine PW.iconst (x := 0) dL_law_1248 (by decide) ?_
                                                                        have h := Option.some.inj h; subst h
                                                                        exact PW.ret dL_law_1249 (z_nar (Or.inl rfl)).1 rfl
                                                                    · rw [if_neg c32] at h
                                                                      have c32_31 := sw_ne c32
                                                                      refine PW.tabOut (tgt := 1250) dL_law_32 (sw_out32 c32_0 c32_1 c32_2 c32_3 c32_4 c32_5 c32_6 c32_7 c32_8 c32_9 c32_10 c32_11 c32_12 c32_13 c32_14 c32_15 c32_16 c32_17 c32_18 c32_19 c32_20 c32_21 c32_22 c32_23 c32_24 c32_25 c32_26 c32_27 c32_28 c32_29 c32_30 c32_31) (by decide) ?_
                                                                      refine PW.iinc 3 (l' := [(3, .int (a3 + 5)), (0, .ref (gb K)), (1, .ref (ga K a1)), (2, .ref (ga K a2))]) dL_law_1250 rfl (x := a3) (y := (a3 + 5)) rfl (by decide) rfl ?_
                                                                      refine PW.goto (tgt := 18) dL_law_1253 (by decide) ?_
                                                                      exact PW.sub (l' := [(0, .ref (gb K)), (1, .ref (ga K a1)), (2, .ref (ga K a2)), (3, .int (a3 + 5))]) [1, 2, 3, 0] rfl (ih a0 a1 a2 (a3 + 5) hp _ h)
