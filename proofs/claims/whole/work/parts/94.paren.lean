/-! PURE: TEXT: a ( opens, over the state -/
theorem mah_p {N cA i : Nat} {T NM PL bh : Nat → Nat} {σ0 σ : St} {W E : List Nat} {cp : Nat → Bool} {x : Int32} (hi : i ≤ 160) (hP : PS T NM PL bh σ0 cA i W E cp σ) (hv : vTk (T i)) (h : T i = 40) (h5 : cnO W < 5) : ∃ σ', fX12_ahead N σ x = some (1, σ') ∧ Cur T NM PL bh i σ' ∧ PS0 σ0 cA (i + 1) (40 :: W) E (va_up cp (dpt W + 1) false) σ' := by
  obtain ⟨c0, c1, c2, c3, c4, c5, c6, c7, c8, c9, c10, c11, c12, c13, c14⟩ := id hP
  have hd5 := dpt_cn W
  have c0' : Cur T NM PL bh i (sI σ 13 (nI (cnO W + 1))) := c0
  have s1 : fX12_isSign (sI σ 13 (nI (cnO W + 1))) 40 = bI (decide (T i = 40)) := sg_e (c := 40) c0' hv (by decide) (by decide)
  have n5 : ¬ σ.1 13 = 5 := by rw [c6]; exact fun z => by have := (nI_eq (b := 5) (by omega) (by decide)).mp z; omega
  have aw : fX12_await N (sI σ 13 (nI (cnO W + 1))) 15 = some (sI (sA (sI σ 13 (nI (cnO W + 1))) 36 (upd (σ.2.1 36) W.length 15)) 12 (nI (W.length + 1))) := mawait c3 (by omega)
  have he := ah_p (N := N) (d := nI (dpt W + 1)) n5 (by rw [c6, nI_1]) (by rw [s1]; exact fun z => bI_d.mp z h) aw (by show σ.1 14 + 1 = _; rw [c7, nI_1]) (ix_nI (show dpt W + 1 < 8 by omega) (by decide))
  rw [show (sI (sI (sA (sI σ 13 (nI (cnO W + 1))) 36 (upd (σ.2.1 36) W.length 15)) 12 (nI (W.length + 1))) 14 (nI (dpt W + 1))).1 14 = nI (dpt W + 1) from rfl, aW_nI (by omega)] at he
  have en : cnO (40 :: W) = cnO W + 1 := rfl
  have ed : dpt (40 :: W) = dpt W + 1 := rfl
  refine ⟨_, (ah_1 c0 hv (Or.inl h)).trans he, c0, frE_A (frE_I (frE_I (frE_A (frE_I c1 (by omega) (by omega)) (Or.inr (Or.inr (Or.inl rfl)))) (by omega) (by omega)) (by omega) (by omega)) (Or.inr (Or.inr (Or.inr rfl))), c2, by rw [List.length_cons]; rfl, fun t hm => ?_, fun k t hm => ?_, by rw [en]; rfl, by rw [ed]; rfl, by omega, c9, c10, c11, c12, fun k hk => ?_, by rw [List.length_cons]; omega⟩
  · rcases List.mem_cons.mp hm with rfl | hm
    · unfold wtT; omega
    · exact c4 t hm
  · show upd (σ.2.1 36) W.length 15 k = _
    rcases rev_cases hm with ⟨rfl, rfl⟩ | ⟨hk, hm⟩
    · rw [up_s]; rfl
    · rw [pk_un (by omega)]; exact c5 k t hm
  · show upd (σ.2.1 37) (dpt W + 1) 0 k = _
    by_cases z : k = dpt W + 1
    · subst z; rw [up_s, up_e]; rfl
    · rw [pk_un z, up_n z]; exact c13 k (by omega)
