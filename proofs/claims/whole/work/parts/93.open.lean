/-! PURE: TEXT: what opens, over the state -/
theorem mah_5 {N cA i : Nat} {T NM PL bh : Nat → Nat} {σ0 σ : St} {W E : List Nat} {cp : Nat → Bool} {x : Int32} (hP : PS T NM PL bh σ0 cA i W E cp σ) (hv : vTk (T i)) (h : T i = 40 ∨ T i = 45 ∨ (T i = 132 ∧ ¬ x = 0)) (h5 : cnO W = 5) : fX12_ahead N σ x = some (0, σ) := by
  rw [ah_1 hP.1 hv h]
  exact ah_5 (by rw [hP.2.2.2.2.2.2.1, h5]; rfl)
theorem mah_u {N cA i tk : Nat} {T NM PL bh : Nat → Nat} {σ0 σ : St} {W E : List Nat} {cp : Nat → Bool} {x : Int32} (hi : i ≤ 160) (hP : PS T NM PL bh σ0 cA i W E cp σ) (hv : vTk (T i)) (h : (T i = 45 ∧ tk = 133) ∨ (T i = 132 ∧ tk = 132 ∧ ¬ x = 0)) (h5 : cnO W < 5) : ∃ σ', fX12_ahead N σ x = some (1, σ') ∧ Cur T NM PL bh i σ' ∧ PS0 σ0 cA (i + 1) (tk :: W) E cp σ' := by
  obtain ⟨c0, c1, c2, c3, c4, c5, c6, c7, c8, c9, c10, c11, c12, c13, c14⟩ := id hP
  have ht : tk = 132 ∨ tk = 133 := by rcases h with h | h <;> omega
  have h40 : ¬ tk = 40 := by omega
  have c0' : Cur T NM PL bh i (sI σ 13 (nI (cnO W + 1))) := c0
  have s1 : fX12_isSign (sI σ 13 (nI (cnO W + 1))) 40 = bI (decide (T i = 40)) := sg_e (c := 40) c0' hv (by decide) (by decide)
  have n5 : ¬ σ.1 13 = 5 := by rw [c6]; exact fun z => by have := (nI_eq (b := 5) (by omega) (by decide)).mp z; omega
  have aw : fX12_await N (sI σ 13 (nI (cnO W + 1))) (nI (opc tk)) = some (sI (sA (sI σ 13 (nI (cnO W + 1))) 36 (upd (σ.2.1 36) W.length (nI (opc tk)))) 12 (nI (W.length + 1))) := mawait c3 (by omega)
  have he : fX12_ahead N σ x = some (1, sI (sA (sI σ 13 (nI (cnO W + 1))) 36 (upd (σ.2.1 36) W.length (nI (opc tk)))) 12 (nI (W.length + 1))) := by
    rw [ah_1 c0 hv (by rcases h with h | h; exact Or.inr (Or.inl h.1); exact Or.inr (Or.inr ⟨h.1, h.2.2⟩))]
    rcases h with ⟨h1, rfl⟩ | ⟨h1, rfl, _⟩
    · refine ah_m n5 (by rw [c6, nI_1]) (by rw [s1]; exact bI_d.mpr (by omega)) ?_ aw
      show ¬ σ.1 9 = 4
      rw [c0.2.1, h1]; decide
    · refine ah_n n5 (by rw [c6, nI_1]) (by rw [s1]; exact bI_d.mpr (by omega)) ?_ aw
      show σ.1 9 = 4
      rw [c0.2.1, h1]; decide
  have en : cnO (tk :: W) = cnO W + 1 := by
    show cnO W + (if isO tk then 1 else 0) = _
    rcases ht with rfl | rfl <;> rfl
  have ed : dpt (tk :: W) = dpt W := by
    show dpt W + (if tk = 40 then 1 else 0) = _
    rw [if_neg h40]; rfl
  refine ⟨_, he, c0, frE_I (frE_A (frE_I c1 (by omega) (by omega)) (Or.inr (Or.inr (Or.inl rfl)))) (by omega) (by omega), c2, by rw [List.length_cons]; rfl, fun t hm => ?_, fun k t hm => ?_, by rw [en]; rfl, by rw [ed]; exact c7, by omega, c9, c10, c11, c12, fun k hk => c13 k (by omega), by rw [List.length_cons]; omega⟩
  · rcases List.mem_cons.mp hm with rfl | hm
    · unfold wtT; omega
    · exact c4 t hm
  · show upd (σ.2.1 36) W.length (nI (opc tk)) k = _
    rcases rev_cases hm with ⟨rfl, rfl⟩ | ⟨hk, hm⟩
    · rw [up_s]
    · rw [pk_un (by omega)]; exact c5 k t hm
