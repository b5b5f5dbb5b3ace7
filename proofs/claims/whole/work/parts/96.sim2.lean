/-! PURE: TEXT: the model's loop against the descent: signs of a level -/
theorem oR_s {L : Nat} (h : L < 5) : oR L < oR (L + 1) ∧ oR L ≤ rkm (L + 1) ∧ rkm L ≤ oR L ∧ oR L ≤ 6 ∧ 1 ≤ oR L := by
  rcases (show L = 0 ∨ L = 1 ∨ L = 2 ∨ L = 3 ∨ L = 4 by omega) with rfl | rfl | rfl | rfl | rfl <;> decide
theorem lp_m {N la row cA i L d o f : Nat} {T NM PL bh : Nat → Nat} {σ0 σ : St} {W E : List Nat} {cp : Nat → Bool} {mn : Int32} (hN : 200 ≤ N) (hcA : cA + 160 ≤ 1920) (hX : nxH N la σ0 T NM PL bh) (hT : tkM T NM la) (hL : L < 5) (hbs : bsT (oR L) W) (hcn : cnO W = o) (hfu : la + 2 ≤ f + i)
    (ih : ∀ (j f' : Nat) (σ' : St) (W' E' : List Nat) (cp' : Nat → Bool) (mn' : Int32), cnO W' = o → j ≤ la → la + 2 ≤ f' + j → (L + 1 < 5 → bsT (oR (L + 1)) W') → ((L + 1 ≤ 2 ∧ mn' = 1 ∧ cp' (dpt W') = false) ∨ (3 ≤ L + 1 ∧ (mn' = 0 ∨ ¬ T j = 132))) → PS T NM PL bh σ0 cA j W' E' cp' σ' → okM N la row T NM PL bh σ0 cA f' j σ' W' E' cp' (L + 1) mn' (dsD T NM d (L + 1) o j)) :
    ∀ (m j f1 : Nat) (σ1 : St) (W1 E1 c : List Nat) (cp1 : Nat → Bool) (mn1 : Int32), i < j → j ≤ la → f1 + (j - i) = f → fX12_readE_40 N f σ (nI row) 1 mn = fX12_readE_40 N f1 σ1 (nI row) 0 mn1 → PS T NM PL bh σ0 cA j W1 E1 cp1 σ1 → fl (oR L) W1 E1 = fl (oR L) W (E ++ c) → dpt W1 = dpt W → (∀ k, k < dpt W → cp1 k = cp k) → (3 ≤ L → cp1 (dpt W) = cp (dpt W)) → (∀ l, L + 1 ≤ l → l < 5 → sgn l (T j) = true → l = 2 ∧ cp1 (dpt W) = true) → (L = 2 → (m = 1 ∧ cp1 (dpt W) = false) ∨ (m = 0 ∧ cp1 (dpt W) = true)) → (¬ L = 2 → 161 ≤ j + m) → okM N la row T NM PL bh σ0 cA f i σ W E cp L mn (lpD T L (dsD T NM d (L + 1) o) m j c) := by
  have h160 := hT.1
  obtain ⟨r1, r2, r3, r4, r5⟩ := oR_s hL
  intro m
  induction m with
  | zero =>
    intro j f1 σ1 W1 E1 c cp1 mn1 hij hj hf he hP hfl hdp hcp hcp3 hst hm2 hm
    have hL2 : L = 2 := by
      by_cases q : L = 2
      · exact q
      · have := hm q; omega
    refine ⟨hij, hj, σ1, W1, E1, cp1, mn1, f1, hf, he, hP, fl_eq r3 hfl, hdp, hcp, hcp3, fun l h1 h2 h3 => ?_⟩
    by_cases q : l = L
    · rcases hm2 hL2 with ⟨z, _⟩ | ⟨_, z⟩
      · omega
      · exact ⟨by omega, z⟩
    · exact hst l (by omega) h2 h3
  | succ m ih2 =>
    intro j f1 σ1 W1 E1 c cp1 mn1 hij hj hf he hP hfl hdp hcp hcp3 hst hm2 hm
    rw [show lpD T L (dsD T NM d (L + 1) o) (m + 1) j c = (if sgn L (T j) then (match dsD T NM d (L + 1) o (j + 1) with | (j', none) => (j', none) | (j', some c') => lpD T L (dsD T NM d (L + 1) o) m j' (c ++ (c' ++ [10000 + T j]))) else (j, some c)) from rfl]
    cases hs : sgn L (T j) with
    | false =>
      rw [if_neg (by decide)]
      refine ⟨hij, hj, σ1, W1, E1, cp1, mn1, f1, hf, he, hP, fl_eq r3 hfl, hdp, hcp, hcp3, fun l h1 h2 h3 => ?_⟩
      by_cases q : l = L
      · subst q; rw [hs] at h3; cases h3
      · exact hst l (by omega) h2 h3
    | true =>
      rw [if_pos rfl]
      obtain ⟨w1, w2, w3, w4, w5, w6, w7, w8⟩ := sgn_w hL hs
      have hv := (hT.2.1 j hj).1
      have hjl : j < la := by
        by_cases e : j = la
        · have := hT.2.2.2; rw [← e] at this; have := sgn_2 hs; omega
        · omega
      rw [fl_bs hbs] at hfl
      have hc2 : L = 2 → cp1 (dpt W) = false := fun q => by
        rcases hm2 q with ⟨_, z⟩ | ⟨z, _⟩
        · exact z
        · omega
      obtain ⟨σ2, b1, b2, b3⟩ := mbet (N := N) hN hcA (by omega) hP hv hL hs hfl hc2
      obtain ⟨σ3, n1, n2⟩ := next_PS (cA := cA) hX hjl b2 b3
      have k3 : fX12_isKey σ2 3 = bI (decide (T j = 131)) := ky_e (k := 3) b2 (by decide) hv
      have k2 : fX12_isKey σ2 2 = bI (decide (T j = 130)) := ky_e (k := 2) b2 (by decide) hv
      have s59 : fX12_isSign σ1 59 = 0 := by
        have := sg_e (c := 59) hP.1 hv (by decide) (by decide)
        rw [show fX12_isSign σ1 59 = _ from this]
        exact bI_d.mpr (fun z => by rw [z] at hs; rcases sgn_t hs with q | q | q | q | q <;> omega)
      obtain ⟨f2, rfl⟩ : ∃ f2, f1 = f2 + 1 := ⟨f1 - 1, by omega⟩
      have hmn : (if fX12_isKey σ2 3 = 0 then (if fX12_isKey σ2 2 = 0 then (0 : Int32) else 1) else 1) = if L < 2 then 1 else 0 := by
        rw [k3, k2]
        rcases sgn_t hs with ⟨q, q2⟩ | ⟨q, q2⟩ | ⟨q, q2⟩ | ⟨q, q2⟩ | ⟨q, q1, q3, q4, q2⟩
        · rw [if_pos (show L < 2 by omega), if_pos (bI_d.mpr (by omega)), if_neg (fun z => bI_d.mp z q2)]
        · rw [if_pos (show L < 2 by omega), if_neg (fun z => bI_d.mp z q2)]
        · rw [if_neg (show ¬ L < 2 by omega), if_pos (bI_d.mpr (by omega)), if_pos (bI_d.mpr (by omega))]
        · rw [if_neg (show ¬ L < 2 by omega), if_pos (bI_d.mpr (by omega)), if_pos (bI_d.mpr (by omega))]
        · rw [if_neg (show ¬ L < 2 by omega), if_pos (bI_d.mpr (by omega)), if_pos (bI_d.mpr (by omega))]
      have he2 : fX12_readE_40 N f σ (nI row) 1 mn = fX12_readE_40 N f2 σ3 (nI row) 1 (if L < 2 then 1 else 0) := by
        rw [he, e40_s, e_mid rfl (Or.inl s59), e_bet b1 n1, hmn]
      have en : cnO (T j :: W) = o := by
        show cnO W + (if isO (T j) then 1 else 0) = o
        rw [w5]; exact hcn
      have ed : dpt (T j :: W) = dpt W := by
        show dpt W + (if T j = 40 then 1 else 0) = _
        rw [if_neg w6]; rfl
      have h := ih (j + 1) f2 σ3 (T j :: W) (E ++ c) _ (if L < 2 then 1 else 0) en (by omega) (by omega) (fun _ => Or.inr (by rw [w4]; exact r1)) (by
        rw [ed, up_e]
        by_cases q : L < 2
        · exact Or.inl ⟨by omega, if_pos q, by rw [if_neg (by omega), if_pos q]⟩
        · exact Or.inr ⟨by omega, Or.inl (if_neg q)⟩) n2
      generalize hR : dsD T NM d (L + 1) o (j + 1) = R at h ⊢
      obtain ⟨j', oc⟩ := R
      cases oc with
      | none =>
        obtain ⟨h1, h2, σ', h3, h4⟩ := h
        exact ⟨by omega, h2, σ', by rw [he2]; exact h3, h4⟩
      | some c' =>
        obtain ⟨h1, h2, σ4, W4, E4, cp4, mn4, f4, h3, h4, h5, h6, h7, h8, h9, h10⟩ := h
        show okM N la row T NM PL bh σ0 cA f i σ W E cp L mn (lpD T L (dsD T NM d (L + 1) o) m j' (c ++ (c' ++ [10000 + T j])))
        rw [ed] at h7 h8 h9 h10
        refine ih2 j' f4 σ4 W4 E4 (c ++ (c' ++ [10000 + T j])) cp4 mn4 (by omega) h2 (by omega) (he2.trans h4) h5 ?_ h7 (fun k hk => ?_) (fun q => ?_) h10 (fun q => ?_) (fun q => by have := hm q; omega)
        · rw [fl_eq r2 h6, fl_pop w6 (by omega)]
          simp only [List.append_assoc]
        · rw [h8 k hk, up_n (by omega)]; exact hcp k hk
        · rw [h9 (by omega), up_e, if_neg (by omega), if_neg (by omega)]; exact hcp3 q
        · refine Or.inr ⟨?_, ?_⟩
          · rcases hm2 q with ⟨z, _⟩ | ⟨z, _⟩ <;> omega
          · rw [h9 (by omega), up_e, if_pos q]
