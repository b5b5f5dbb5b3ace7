/-! PURE: TEXT: the model's loop against the descent -/
def rkm (L : Nat) : Nat := if L = 0 then 1 else if L = 1 then 2 else if L = 2 then 3 else if L = 3 then 5 else if L = 4 then 6 else 7
/-- what a fault leaves -/
def flM (σ0 : St) (cA pl : Nat) (σ : St) : Prop := σ.1 11 = nI pl ∧ frE σ0 σ ∧ σ.2.1 33 = σ0.2.1 33 ∧ ∀ k, (k < cA ∨ cA + 160 ≤ k) → σ.2.1 32 k = σ0.2.1 32 k
theorem flM_of {T NM PL bh : Nat → Nat} {σ0 σ : St} {cA i : Nat} {W E : List Nat} {cp : Nat → Bool} (h : PS T NM PL bh σ0 cA i W E cp σ) : flM σ0 cA (PL i) σ := ⟨h.1.2.2.1, h.2.1, h.2.2.1, h.2.2.2.2.2.2.2.2.2.2.2.2.1⟩
/-- the model from TOKEN i on, an operand wanted, against what the descent says -/
def okM (N la row : Nat) (T NM PL bh : Nat → Nat) (σ0 : St) (cA f i : Nat) (σ : St) (W E : List Nat) (cp : Nat → Bool) (L : Nat) (mn : Int32) (R : Nat × Option (List Nat)) : Prop := match R with
  | (j, none) => i ≤ j ∧ j ≤ la ∧ ∃ σ', fX12_readE_40 N f σ (nI row) 1 mn = some (0, σ') ∧ flM σ0 cA (PL j) σ'
  | (j, some c) => i < j ∧ j ≤ la ∧ ∃ σ' W' E' cp' mn' f', f' + (j - i) = f ∧ fX12_readE_40 N f σ (nI row) 1 mn = fX12_readE_40 N f' σ' (nI row) 0 mn' ∧ PS T NM PL bh σ0 cA j W' E' cp' σ' ∧ fl (rkm L) W' E' = fl (rkm L) W (E ++ c) ∧ dpt W' = dpt W ∧ (∀ k, k < dpt W → cp' k = cp k) ∧ (3 ≤ L → cp' (dpt W) = cp (dpt W)) ∧ (∀ l, L ≤ l → l < 5 → sgn l (T j) = true → l = 2 ∧ cp' (dpt W) = true)
/-- the model's TOKENS -/
def tkM (T NM : Nat → Nat) (la : Nat) : Prop := la ≤ 160 ∧ (∀ i, i ≤ la → vTk (T i) ∧ (T i = 2 → NM i < 10000)) ∧ (∀ i, i < la → 2 ≤ T i) ∧ T la < 2
theorem sim_num {N la row cA i f : Nat} {T NM PL bh : Nat → Nat} {σ0 σ : St} {W E : List Nat} {cp : Nat → Bool} {mn : Int32} (hN : 200 ≤ N) (hcA : cA + 160 ≤ 1920) (hX : nxH N la σ0 T NM PL bh) (hT : tkM T NM la) (hi : i < la) (hP : PS T NM PL bh σ0 cA i W E cp σ) (k : Nat) (h : (T i = 2 ∧ k = NM i) ∨ (134 ≤ T i ∧ T i ≤ 139 ∧ k = 10000 + T i)) : ∃ σ', fX12_readE_40 N (f + 1) σ (nI row) 1 mn = fX12_readE_40 N f σ' (nI row) 0 mn ∧ PS T NM PL bh σ0 cA (i + 1) (fl 7 W (E ++ [k])).1 (fl 7 W (E ++ [k])).2 cp σ' := by
  have h160 := hT.1
  obtain ⟨c0, c1, c2, c3, c4, c5, c6, c7, c8, c9, c10, c11, c12, c13, c14⟩ := id hP
  have hk : mcD k = if T i = 2 then -1 - σ.1 10 else σ.1 10 := by
    rw [c0.2.2.2 (by omega)]
    rcases h with ⟨h1, h2⟩ | ⟨h1, h2, h3⟩
    · rw [if_pos h1, h2]
      have hw : woT (T i) (NM i) = NM i := by unfold woT; rw [if_pos h1]
      have := (hT.2.1 i (by omega)).2 h1
      rw [hw]
      unfold mcD
      rw [if_pos this]
    · rw [if_neg (by omega), h3]
      have hw : woT (T i) (NM i) = T i - 134 := by unfold woT; rw [if_neg (by omega), if_neg (by omega), if_neg (by omega)]
      rw [hw]
      unfold mcD
      rw [if_neg (by omega), if_pos (by omega), show 10000 + T i - 10134 = T i - 134 by omega]
  have hem := memit (N := N) (cA := cA) (e := E.length) (σ := σ) (x := mcD k) c9 c10 (by omega)
  have hP1 : PS (fun k => T (k - 1)) (fun k => NM (k - 1)) (fun k => PL (k - 1)) (fun k => bh (k - 1)) σ0 cA (i + 1) W (E ++ [k]) cp (sI (sA σ 32 (upd (σ.2.1 32) (cA + E.length) (mcD k))) 16 (nI (E.length + 1))) := by
    refine ⟨c0, frE_I (frE_A c1 (Or.inl rfl)) (by omega) (by omega), c2, c3, c4, c5, c6, c7, c8, c9, ?_, fun j x hx => ?_, fun j hj => ?_, c13, ?_⟩
    · rw [List.length_append]; rfl
    · show upd (σ.2.1 32) (cA + E.length) (mcD k) (cA + j) = _
      rcases app_cases hx with ⟨rfl, rfl⟩ | ⟨hj, hx⟩
      · rw [up_s]
      · rw [pk_un (by omega)]; exact c11 j x hx
    · show upd (σ.2.1 32) (cA + E.length) (mcD k) j = _
      rw [pk_un (by omega)]; exact c12 j hj
    · rw [List.length_append, List.length_cons, List.length_nil]; omega
  obtain ⟨σ2, d1, d2⟩ := mdoAll (N := N) (r := 7) hN (by omega) hcA (show i + 1 ≤ 160 by omega) hP1
  obtain ⟨σ3, n1, n2⟩ := next_PS (cA := cA) hX hi (σ := σ2) d2.1 d2.2
  have n0 : ¬ (1 : Int32) = 0 := by decide
  refine ⟨σ3, ?_, n2⟩
  rw [e40_s]
  rcases h with ⟨h1, h2⟩ | ⟨h1, h2, h3⟩
  · rw [if_pos h1] at hk
    exact e_num n0 (by rw [c0.2.1, h1]; rfl) hk.symm hem d1 n1
  · rw [if_neg (by omega)] at hk
    have k2 : kdT (T i) = 2 := by unfold kdT; rw [if_neg (by omega), if_neg (by omega), if_neg (by omega), if_neg (by omega), if_neg (by omega)]
    rw [hk] at hem
    exact e_nam n0 (by rw [c0.2.1, k2]; decide) (by rw [c0.2.1, k2]; rfl) (by rw [hk] at d1; exact hem) (by rw [hk] at d1; exact d1) n1
