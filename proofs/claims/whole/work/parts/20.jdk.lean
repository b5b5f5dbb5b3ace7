/-! THE JDK's methods that are reached: fill, arraycopy, texts -/
theorem vz_up_up {α : Type} (f : Nat → α) (k : Nat) (x y : α) : va_up (va_up f k x) k y = va_up f k y := by
  funext j; unfold va_up; by_cases h : j = k <;> simp [h]
theorem vz_up_self {α : Type} (f : Nat → α) (k : Nat) : va_up f k (f k) = f := by
  funext j; unfold va_up; by_cases h : j = k <;> simp [h]
theorem sA_self (σ : St) (k : Nat) : sA σ k (σ.2.1 k) = σ := by unfold sA; rw [vz_up_self]
theorem sJ_self (σ : St) (k : Nat) : sJ σ k (σ.2.2 k) = σ := by unfold sJ; rw [vz_up_self]
theorem flI_0 (f : Nat → Int32) (v : Int32) : flI f 0 v = f := by funext j; simp [flI]
theorem flJ_0 (f : Nat → Int64) (v : Int64) : flJ f 0 v = f := by funext j; simp [flJ]
theorem flI_s (f : Nat → Int32) (j : Nat) (v : Int32) : upd (flI f j v) j v = flI f (j + 1) v := by
  funext i; unfold upd flI
  by_cases h : i = j
  · subst h; simp
  · by_cases h2 : i < j
    · simp [h, h2, Nat.lt_succ_of_lt h2]
    · simp [h, h2, show ¬ i < j + 1 by omega]
theorem flJ_s (f : Nat → Int64) (j : Nat) (v : Int64) : vp_updL (flJ f j v) j v = flJ f (j + 1) v := by
  funext i; unfold vp_updL flJ
  by_cases h : i = j
  · subst h; simp
  · by_cases h2 : i < j
    · simp [h, h2, Nat.lt_succ_of_lt h2]
    · simp [h, h2, show ¬ i < j + 1 by omega]
set_option maxHeartbeats 2000000 in
theorem tfillI {l : Launch} {w : Wl} (hok : Wok w) {σ : St} {b : Nat} {cA : ClassId} {n : Nat} (q0 : Nat) (hE : ∀ f, (w.2.1 (sA σ q0 f))[q0]? = some (b, .inl (cA, n, .inl f))) (hT : ∀ f g, (w.2.1 (sA σ q0 f)).set q0 (b, .inl (cA, n, .inl g)) = w.2.1 (sA σ q0 g)) (ht : w.2.2.1[0]? = some (cA, .int)) (hn : n < 2 ^ 31) {v : Int32} : CV l w yJ7_fill_53178 cJ7_fill_53178 4 0 0 [.ref b, .int v] σ (sA σ q0 (flI (σ.2.1 q0) n v)) := by
  refine CV.of (by decide) (Nat.le_of_ble_eq_true rfl) ?_
  intro p e s m below meth c ls S hr hlk hw hl
  have hl : lv_has ls 4 [(0, .ref b), (1, .int v)] := hl
  have loop : ∀ (k j : Nat), j + k = n → ∀ (ls : Array Slot) (H : Heap) (locs : List Loc), Hw w s (sA σ q0 (flI (σ.2.1 q0) j v)) H locs → lv_has ls 4 [(0, .ref b), (1, .int v), (2, .int (nI j)), (3, .int (nI n))] → W p l e (RM 0 0) s m [Value.ref b, .int v].toArray below meth c H locs 0 0 (QV below w [Value.ref b, .int v].toArray s (sA σ q0 (flI (σ.2.1 q0) n v))) (F0 m 5 ls []) := by
    intro k
    induction k with
    | zero =>
      intro j hj ls H locs hw hl
      have hj : j = n := by omega
      subst hj
      refine lv_iload_n S.1 S.2.1 dJ7_fill_53178_5 rfl (lv_at hl 2 rfl) ?_
      refine lv_iload_n S.1 S.2.1 dJ7_fill_53178_6 rfl (lv_at hl 3 rfl) ?_
      refine lv_icmp_ge (tgt := 20) S.1 S.2.1 dJ7_fill_53178_7 (by decide) (fun hc => ?_) (fun hc => absurd (nI_le (Nat.le_refl j) hn) hc)
      exact g_vret hok S hr hlk hw dJ7_fill_53178_20 rfl
    | succ k ih =>
      intro j hj ls H locs hw hl
      refine lv_iload_n S.1 S.2.1 dJ7_fill_53178_5 rfl (lv_at hl 2 rfl) ?_
      refine lv_iload_n S.1 S.2.1 dJ7_fill_53178_6 rfl (lv_at hl 3 rfl) ?_
      refine lv_icmp_ge (tgt := 20) S.1 S.2.1 dJ7_fill_53178_7 (by decide) (fun hc => absurd hc (nI_ge (by omega) hn)) (fun hc => ?_)
      refine lv_aload_n S.1 S.2.1 dJ7_fill_53178_10 rfl (lv_at hl 0 rfl) ?_
      refine lv_iload_n S.1 S.2.1 dJ7_fill_53178_11 rfl (lv_at hl 2 rfl) ?_
      refine lv_iload_n S.1 S.2.1 dJ7_fill_53178_12 rfl (lv_at hl 1 rfl) ?_
      refine g_iast (σ' := sA σ q0 (flI (σ.2.1 q0) (j + 1) v)) S hw q0 0 (hE _) ht (by rw [hT, nI_clamp (by omega), flI_s]) (vp_in_nI (by omega) hn) dJ7_fill_53178_13 (fun H locs hw => ?_)
      refine lv_iinc (v := nI (j + 1)) (lv' := [(2, .int (nI (j + 1))), (0, .ref b), (1, .int v), (3, .int (nI n))]) S.1 S.2.1 dJ7_fill_53178_14 hl (k := 2) rfl (nI_1 j) (by decide) rfl (fun ls hl => ?_)
      refine lv_goto (tgt := 5) S.1 S.2.1 dJ7_fill_53178_17 (by decide) ?_
      exact ih (j + 1) (by omega) ls H locs hw (lv_sub hl [1, 2, 0, 3] rfl)
  refine lv_iconst (v := 0) S.1 S.2.1 dJ7_fill_53178_0 (by decide) ?_
  refine lv_istore_n (lv' := [(2, .int 0), (0, .ref b), (1, .int v)]) S.1 S.2.1 dJ7_fill_53178_1 rfl hl (by decide) rfl (fun ls hl => ?_)
  refine lv_aload_n S.1 S.2.1 dJ7_fill_53178_2 rfl (lv_at hl 1 rfl) ?_
  have h0 : (w.2.1 σ)[q0]? = some (b, .inl (cA, n, .inl (σ.2.1 q0))) := by have := hE (σ.2.1 q0); rw [sA_self] at this; exact this
  refine g_alen (v := nI n) S hw q0 0 h0 ht rfl dJ7_fill_53178_3 ?_
  refine lv_istore_n (lv' := [(3, .int (nI n)), (2, .int 0), (0, .ref b), (1, .int v)]) S.1 S.2.1 dJ7_fill_53178_4 rfl hl (by decide) rfl (fun ls hl => ?_)
  exact loop n 0 (by omega) ls _ _ (by rw [flI_0, sA_self]; exact hw) (lv_sub hl [2, 3, 1, 0] rfl)
set_option maxHeartbeats 2000000 in
theorem tfillJ {l : Launch} {w : Wl} (hok : Wok w) {σ : St} {b : Nat} {cA : ClassId} {n : Nat} (q0 : Nat) (hE : ∀ f, (w.2.1 (sJ σ q0 f))[q0]? = some (b, .inl (cA, n, .inr (.inl f)))) (hT : ∀ f g, (w.2.1 (sJ σ q0 f)).set q0 (b, .inl (cA, n, .inr (.inl g))) = w.2.1 (sJ σ q0 g)) (ht : w.2.2.1[1]? = some (cA, .long)) (hn : n < 2 ^ 31) {v : Int64} : CV l w yJ7_fill_d0a16 cJ7_fill_d0a16 5 0 0 [.ref b, .long v] σ (sJ σ q0 (flJ (σ.2.2 q0) n v)) := by
  refine CV.of (by decide) (Nat.le_of_ble_eq_true rfl) ?_
  intro p e s m below meth c ls S hr hlk hw hl
  have hl : lv_has ls 5 [(0, .ref b), (1, .long v)] := hl
  have loop : ∀ (k j : Nat), j + k = n → ∀ (ls : Array Slot) (H : Heap) (locs : List Loc), Hw w s (sJ σ q0 (flJ (σ.2.2 q0) j v)) H locs → lv_has ls 5 [(0, .ref b), (1, .long v), (3, .int (nI j)), (4, .int (nI n))] → W p l e (RM 0 0) s m [Value.ref b, .long v].toArray below meth c H locs 0 0 (QV below w [Value.ref b, .long v].toArray s (sJ σ q0 (flJ (σ.2.2 q0) n v))) (F0 m 6 ls []) := by
    intro k
    induction k with
    | zero =>
      intro j hj ls H locs hw hl
      have hj : j = n := by omega
      subst hj
      refine lv_iload_n S.1 S.2.1 dJ7_fill_d0a16_6 rfl (lv_at hl 2 rfl) ?_
      refine lv_iload S.1 S.2.1 dJ7_fill_d0a16_7 (lv_at hl 3 rfl) ?_
      refine lv_icmp_ge (tgt := 22) S.1 S.2.1 dJ7_fill_d0a16_9 (by decide) (fun hc => ?_) (fun hc => absurd (nI_le (Nat.le_refl j) hn) hc)
      exact g_vret hok S hr hlk hw dJ7_fill_d0a16_22 rfl
    | succ k ih =>
      intro j hj ls H locs hw hl
      refine lv_iload_n S.1 S.2.1 dJ7_fill_d0a16_6 rfl (lv_at hl 2 rfl) ?_
      refine lv_iload S.1 S.2.1 dJ7_fill_d0a16_7 (lv_at hl 3 rfl) ?_
      refine lv_icmp_ge (tgt := 22) S.1 S.2.1 dJ7_fill_d0a16_9 (by decide) (fun hc => absurd hc (nI_ge (by omega) hn)) (fun hc => ?_)
      refine lv_aload_n S.1 S.2.1 dJ7_fill_d0a16_12 rfl (lv_at hl 0 rfl) ?_
      refine lv_iload_n S.1 S.2.1 dJ7_fill_d0a16_13 rfl (lv_at hl 2 rfl) ?_
      refine lv_lload_n S.1 S.2.1 dJ7_fill_d0a16_14 rfl (lv_at hl 1 rfl) ?_
      refine g_last (σ' := sJ σ q0 (flJ (σ.2.2 q0) (j + 1) v)) S hw q0 1 (hE _) ht (by rw [hT, nI_clamp (by omega), flJ_s]) (vp_in_nI (by omega) hn) dJ7_fill_d0a16_15 (fun H locs hw => ?_)
      refine lv_iinc (v := nI (j + 1)) (lv' := [(3, .int (nI (j + 1))), (0, .ref b), (1, .long v), (4, .int (nI n))]) S.1 S.2.1 dJ7_fill_d0a16_16 hl (k := 2) rfl (nI_1 j) (by decide) rfl (fun ls hl => ?_)
      refine lv_goto (tgt := 6) S.1 S.2.1 dJ7_fill_d0a16_19 (by decide) ?_
      exact ih (j + 1) (by omega) ls H locs hw (lv_sub hl [1, 2, 0, 3] rfl)
  refine lv_iconst (v := 0) S.1 S.2.1 dJ7_fill_d0a16_0 (by decide) ?_
  refine lv_istore_n (lv' := [(3, .int 0), (0, .ref b), (1, .long v)]) S.1 S.2.1 dJ7_fill_d0a16_1 rfl hl (by decide) rfl (fun ls hl => ?_)
  refine lv_aload_n S.1 S.2.1 dJ7_fill_d0a16_2 rfl (lv_at hl 1 rfl) ?_
  have h0 : (w.2.1 σ)[q0]? = some (b, .inl (cA, n, .inr (.inl (σ.2.2 q0)))) := by have := hE (σ.2.2 q0); rw [sJ_self] at this; exact this
  refine g_alen (v := nI n) S hw q0 1 h0 ht rfl dJ7_fill_d0a16_3 ?_
  refine lv_istore (lv' := [(4, .int (nI n)), (3, .int 0), (0, .ref b), (1, .long v)]) S.1 S.2.1 dJ7_fill_d0a16_4 hl (by decide) rfl (fun ls hl => ?_)
  exact loop n 0 (by omega) ls _ _ (by rw [flJ_0, sJ_self]; exact hw) (lv_sub hl [2, 3, 1, 0] rfl)
