/-! PURE: TEXT: what opens -/
theorem ah_0 {N i : Nat} {T NM PL bh : Nat → Nat} {σ : St} {x : Int32} (h : Cur T NM PL bh i σ) (hv : vTk (T i)) (h1 : ¬ T i = 40) (h2 : ¬ T i = 45) (h3 : x = 0 ∨ ¬ T i = 132) : fX12_ahead N σ x = some (0, σ) := by
  have s1 : fX12_isSign σ 40 = bI (decide (T i = 40)) := sg_e (c := 40) h hv (by decide) (by decide)
  have s2 : fX12_isSign σ 45 = bI (decide (T i = 45)) := sg_e (c := 45) h hv (by decide) (by decide)
  have s3 : fX12_isKey σ 4 = bI (decide (T i = 132)) := ky_e (k := 4) h (by decide) hv
  refine (if_pos (by rw [s1]; exact bI_d.mpr h1)).trans ((if_pos (by rw [s2]; exact bI_d.mpr h2)).trans ?_)
  by_cases q : x = 0
  · exact (if_pos q).trans rfl
  · exact (if_neg q).trans ((if_pos (by rw [s3]; exact bI_d.mpr (h3.resolve_left q))).trans rfl)
theorem ah_1 {N i : Nat} {T NM PL bh : Nat → Nat} {σ : St} {x : Int32} (h : Cur T NM PL bh i σ) (hv : vTk (T i)) (h3 : T i = 40 ∨ T i = 45 ∨ (T i = 132 ∧ ¬ x = 0)) : fX12_ahead N σ x = fX12_ahead_35 N σ 1 := by
  have s1 : fX12_isSign σ 40 = bI (decide (T i = 40)) := sg_e (c := 40) h hv (by decide) (by decide)
  have s2 : fX12_isSign σ 45 = bI (decide (T i = 45)) := sg_e (c := 45) h hv (by decide) (by decide)
  have s3 : fX12_isKey σ 4 = bI (decide (T i = 132)) := ky_e (k := 4) h (by decide) hv
  by_cases q1 : T i = 40
  · exact if_neg (by rw [s1]; exact fun z => bI_d.mp z q1)
  by_cases q2 : T i = 45
  · exact (if_pos (by rw [s1]; exact bI_d.mpr q1)).trans (if_neg (by rw [s2]; exact fun z => bI_d.mp z q2))
  obtain ⟨q3, q4⟩ := (h3.resolve_left q1).resolve_left q2
  exact (if_pos (by rw [s1]; exact bI_d.mpr q1)).trans ((if_pos (by rw [s2]; exact bI_d.mpr q2)).trans ((if_neg q4).trans (if_neg (by rw [s3]; exact fun z => bI_d.mp z q3))))
theorem ah_5 {N : Nat} {σ : St} (h : σ.1 13 = 5) : fX12_ahead_35 N σ 1 = some (0, σ) := (if_neg (show ¬ (1 : Int32) = 0 from by decide)).trans (if_pos h)
theorem ah_n {N : Nat} {σ σ' : St} {o : Int32} (h5 : ¬ σ.1 13 = 5) (ho : σ.1 13 + 1 = o) (hs : fX12_isSign (sI σ 13 o) 40 = 0) (h4 : (sI σ 13 o).1 9 = 4) (ha : fX12_await N (sI σ 13 o) 13 = some σ') : fX12_ahead_35 N σ 1 = some (1, σ') := by
  subst ho
  exact (if_neg (show ¬ (1 : Int32) = 0 from by decide)).trans ((if_neg h5).trans (nm_t ((if_pos hs).trans ((if_pos h4).trans (bd_some ha)))))
theorem ah_m {N : Nat} {σ σ' : St} {o : Int32} (h5 : ¬ σ.1 13 = 5) (ho : σ.1 13 + 1 = o) (hs : fX12_isSign (sI σ 13 o) 40 = 0) (h4 : ¬ (sI σ 13 o).1 9 = 4) (ha : fX12_await N (sI σ 13 o) 14 = some σ') : fX12_ahead_35 N σ 1 = some (1, σ') := by
  subst ho
  exact (if_neg (show ¬ (1 : Int32) = 0 from by decide)).trans ((if_neg h5).trans (nm_t ((if_pos hs).trans ((if_neg h4).trans (bd_some ha)))))
theorem ah_p {N : Nat} {σ σ' : St} {o d : Int32} (h5 : ¬ σ.1 13 = 5) (ho : σ.1 13 + 1 = o) (hs : ¬ fX12_isSign (sI σ 13 o) 40 = 0) (ha : fX12_await N (sI σ 13 o) 15 = some σ') (hd : σ'.1 14 + 1 = d) (h8 : ix ((sI σ' 14 d).1 14) 8 = true) : fX12_ahead_35 N σ 1 = some (1, aW (sI σ' 14 d) 37 ((sI σ' 14 d).1 14) 0) := by
  subst ho
  subst hd
  exact (if_neg (show ¬ (1 : Int32) = 0 from by decide)).trans ((if_neg h5).trans (nm_t ((if_neg hs).trans ((bd_some ha).trans (nm_t (if_pos h8))))))
