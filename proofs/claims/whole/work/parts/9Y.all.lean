/-! ALL CALLS, and the law from its entry -/
theorem all_calls {N : Nat} (hN : 2 ^ 60 ≤ N) : SPall Inv N := ⟨s_pass, s_sell, s_owner (by omega), s_heir, s_set, s_trees, s_high, s_tower, s_span, s_heat, s_spanTold (by omega), s_leave, s_leaveTold (by omega), s_renew, s_appeal, s_undo (by omega), s_has (by omega), s_yearly (by omega), s_feed (by omega), s_text (by omega), s_force, s_says (by omega), s_claim (by omega), s_doubled (by omega), s_due (by omega), s_look, s_bounds (by omega), s_hold, s_way (by omega), s_couldAsk (by omega), s_asking, s_toAsk (by omega), s_count (by omega), s_sheet (by omega), s_cell, s_copy (by omega), s_costs (by omega), s_taken (by omega)⟩
/-- from the entry, for every script of at most 3072 ints, the law comes to its end with true -/
theorem whole_start {p : Program} {e : Env} {s : State} {m : MethodId} {below : List Frame} {meth : Method} {c : Code} (l : Launch) (hflags : l.flags = flags0) {b L : Nat} {xs : Nat → Int32} (hL : L ≤ 3072) (C0 : lw_At p s m meth c b L xs) : W p l e room_1 s m #[Value.ref b] below meth c s.heap [] 0 0 (lw_Z below #[Value.ref b] s) (entryFrame m ([Value.ref b] : List Value).toArray 4) := by
  obtain ⟨N, hN⟩ : ∃ N : Nat, 2 ^ 60 ≤ N := ⟨_, Nat.le_refl _⟩
  obtain ⟨σ1, r1, σ2, r2, σ3, e1, e2, e3, hI⟩ := s_start (N := N) (by omega)
  exact whole_open l hL C0 (all_calls hN) e1 e2 e3 hI
