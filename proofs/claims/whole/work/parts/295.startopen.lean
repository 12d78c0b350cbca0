/-- THE LAW, out of what its mirror answers -/
theorem start_open (hpure : ∀ (L : Nat) (xs : Nat → Int32), L ≤ 2560 → ∃ hp', f_L_law_L18 L xs NN 0 0 72 0 hp0 = some (1, hp')) {p : Program} {e : Env} {s : State} {m : MethodId} {below : List Frame} {meth : Method} {c : Code} (l : Launch) {b L : Nat} {xs : Nat → Int32} (hL : L ≤ 2560) (C0 : lw_At p s m meth c b L xs) : W p l e room_1 s m #[Value.ref b] below meth c s.heap [] 0 0 (lw_Z below #[Value.ref b] s) (entryFrame m ([Value.ref b] : List Value).toArray 4) := by
  obtain ⟨K, rfl, ea, eb, eL, ex, hF, hG⟩ := world0 l C0
  obtain ⟨hx, hb, hr, hml, hown, hts, hX, hbl, hlocks, hgv⟩ := id C0
  subst eb eL ex
  have htB : ∀ w ∈ TB, w.before #[Value.ref (gb K)] s = true := fun w hw => hts w (List.mem_filter.mp hw).1
  have hls := lv_entry [.ref (gb K)] (n := 4) (Nat.le_of_ble_eq_true rfl)
  rw [lg_entry_eq]
  refine law_make (K := K) (B := s.heap.size) p e s m #[Value.ref (gb K)] below meth c ⟨hx, hb, hml, hown, htB, hG, fun h => by cases h⟩ _ ?_ s.heap [] _ ⟨fun k q h => by simp [wsT] at h, rfl⟩ va_S.rf hls
  intro H' locs' ls' hW' hS' hl'
  refine va_forget (fun q hq => hS'.2.2 q hq) ?_
  refine W.widen (k := 1000) (n := 100000) (Nat.le_of_ble_eq_true rfl) (Nat.le_of_ble_eq_true rfl) ?_
  obtain ⟨hp', hpu⟩ := hpure (gL K) (gx K) hL
  have key : PW K room_1 1000 100000 M_L_law 16 [(2, .ref (ga K 72)), (1, .ref (ga K 0)), (0, .ref (gb K))] [] hp0 (some (.int 1)) hp' := by
    refine PW.iconst (x := 0) dL_law_16 (by decide) ?_
    refine PW.istore_n (l' := [(3, .int 0), (2, .ref (ga K 72)), (1, .ref (ga K 0)), (0, .ref (gb K))]) dL_law_17 rfl (by decide) rfl ?_
    exact PW.sub (l' := [(0, .ref (gb K)), (1, .ref (ga K 0)), (2, .ref (ga K 72)), (3, .int 0)]) [3, 2, 1, 0] rfl (mf_L_law_L18 NN 0 0 72 0 hp0 (1, hp') hpu)
  have hW2 : Wd K hp0 H' := by
    unfold Wd
    rw [ea, wsO_T]
    exact hW'.1
  rw [ea] at key
  refine key p e s m #[Value.ref (gb K)] below meth c ⟨hx, hb, hml, hown, htB, hF⟩ _ ?_ H' [] ls' hW2 ⟨hS'.1, fun q h1 h2 => hS'.2.1 q h1 (fun h3 => Nat.not_le.mpr h1 h3), fun q h => by cases h⟩ hl'
  intro pc' ls2 H2 locs2 hi hn hWd hS2
  refine va_forget (fun q hq => ?_) ?_
  · obtain ⟨k, -, e9⟩ := hS2.2.2 q hq
    rw [e9, ea]
    exact Nat.le_add_right _ _
  · exact W.widen (k := 600000) (n := 7302250) (Nat.le_of_ble_eq_true rfl) (Nat.le_of_ble_eq_true rfl) (lw_ret hx hb hr hlocks hi)
