/-! PURE: TEXT: the model's loop is the descent -/
theorem kd_12 {t : Nat} (h2 : ¬ t = 2) (h3 : ¬ (134 ≤ t ∧ t ≤ 139)) (hv : vTk t) : ¬ nI (kdT t) = 1 ∧ ¬ nI (kdT t) = 2 := by
  unfold kdT
  by_cases a : t = 0
  · rw [if_pos a]; decide
  rw [if_neg a]
  by_cases b : t = 1
  · rw [if_pos b]; decide
  rw [if_neg b, if_neg h2]
  by_cases c : t < 128
  · rw [if_pos c]; decide
  rw [if_neg c]
  by_cases d : t < 134
  · rw [if_pos d]; decide
  · exfalso; unfold vTk at hv; omega
theorem bs_le {r r' : Nat} {W : List Nat} (h : r ≤ r') (hb : bsT r W) : bsT r' W := by
  cases W with
  | nil => trivial
  | cons t W =>
    have hb : t = 40 ∨ rk t < r := hb
    show t = 40 ∨ rk t < r'
    omega
theorem mds {N la row cA : Nat} {T NM PL bh : Nat → Nat} {σ0 : St} (hN : 200 ≤ N) (hcA : cA + 160 ≤ 1920) (hX : nxH N la σ0 T NM PL bh) (hT : tkM T NM la) : ∀ (d L o i f : Nat) (σ : St) (W E : List Nat) (cp : Nat → Bool) (mn : Int32), L ≤ 5 → o ≤ 5 → 6 - L + 6 * (5 - o) ≤ d → i ≤ la → cnO W = o → la + 2 ≤ f + i → (L < 5 → bsT (oR L) W) → ((L ≤ 2 ∧ mn = 1 ∧ cp (dpt W) = false) ∨ (3 ≤ L ∧ (mn = 0 ∨ ¬ T i = 132))) → PS T NM PL bh σ0 cA i W E cp σ → okM N la row T NM PL bh σ0 cA f i σ W E cp L mn (dsD T NM d L o i) := by
  have h160 := hT.1
  intro d
  induction d with
  | zero => intro L o i f σ W E cp mn hL ho hd; omega
  | succ d ih =>
    intro L o i f σ W E cp mn hL ho hd hi hcn hf hbs hmo hP
    obtain ⟨hv, hnm⟩ := hT.2.1 i hi
    have n0 : ¬ (1 : Int32) = 0 := by decide
    have ila : 2 ≤ T i → i < la := fun q => by
      by_cases e : i = la
      · have := hT.2.2.2; rw [← e] at this; omega
      · omega
    obtain ⟨f, rfl⟩ : ∃ g, f = g + 1 := ⟨f - 1, by omega⟩
    have c9 : σ.1 9 = nI (kdT (T i)) := hP.1.2.1
    have s45 : fX12_isSign σ 45 = bI (decide (T i = 45)) := sg_e (c := 45) hP.1 hv (by decide) (by decide)
    rw [dsD_s]
    by_cases hL5 : L < 5
    · rw [if_pos hL5]
      by_cases q : L = 2 ∧ T i = 132
      · rw [if_pos q]
        obtain ⟨rfl, q2⟩ := q
        have k1 : ¬ σ.1 9 = 1 := by rw [c9, q2]; decide
        have k2 : ¬ σ.1 9 = 2 := by rw [c9, q2]; decide
        obtain ⟨hm1, hm2⟩ : mn = 1 ∧ cp (dpt W) = false := by
          rcases hmo with h | h
          · exact h.2
          · omega
        subst hm1
        unfold opD
        by_cases ho5 : o < 5
        · rw [if_pos ho5]
          obtain ⟨σ1, a1, a2, a3⟩ := mah_u (N := N) (tk := 132) (x := 1) (by omega) hP hv (Or.inr ⟨q2, rfl, n0⟩) (by omega)
          obtain ⟨σ2, n1, n2⟩ := next_PS (cA := cA) hX (ila (by omega)) a2 a3
          have he : fX12_readE_40 N (f + 1) σ (nI row) 1 1 = fX12_readE_40 N f σ2 (nI row) 1 1 := by
            rw [e40_s, e_ahk n0 k1 k2 s45 a1 n1, if_pos (bI_d.mpr (by omega))]
          have h := ih 2 (o + 1) (i + 1) f σ2 (132 :: W) E cp 1 (by omega) (by omega) (by omega) (ila (by omega)) (by show cnO W + 1 = o + 1; rw [hcn]) (by omega) (fun _ => Or.inr (by decide)) (Or.inl ⟨by omega, rfl, hm2⟩) n2
          generalize hR : dsD T NM d 2 (o + 1) (i + 1) = R at h ⊢
          obtain ⟨j, oc⟩ := R
          cases oc with
          | none =>
            obtain ⟨h1, h2, σ', h3, h4⟩ := h
            exact ⟨by omega, h2, σ', by rw [he]; exact h3, h4⟩
          | some c =>
            obtain ⟨h1, h2, σ4, W4, E4, cp4, mn4, f4, h3, h4, h5, h6, h7, h8, h9, h10⟩ := h
            refine ⟨by omega, h2, σ4, W4, E4, cp4, mn4, f4, by omega, he.trans h4, h5, ?_, h7, h8, h9, h10⟩
            rw [h6, if_neg (by decide), fl_pop (t := 132) (by decide) (by decide), List.append_assoc]
        · rw [if_neg ho5]
          exact ⟨Nat.le_refl _, hi, σ, by rw [e40_s]; exact e_ahf n0 k1 k2 (mah_5 hP hv (Or.inr (Or.inr ⟨q2, n0⟩)) (by omega)), flM_of hP⟩
      · rw [if_neg q]
        have h := ih (L + 1) o i (f + 1) σ W E cp mn (by omega) ho (by omega) hi hcn hf (fun _ => bs_le (by have := (oR_s hL5).1; omega) (hbs hL5)) (by
          rcases hmo with ⟨a, b, c⟩ | ⟨a, b⟩
          · by_cases q2 : L = 2
            · exact Or.inr ⟨by omega, Or.inr (fun z => q ⟨q2, z⟩)⟩
            · exact Or.inl ⟨by omega, b, c⟩
          · exact Or.inr ⟨by omega, b⟩) hP
        generalize hR : dsD T NM d (L + 1) o i = R at h ⊢
        obtain ⟨j, oc⟩ := R
        cases oc with
        | none =>
          obtain ⟨h1, h2, σ', h3, h4⟩ := h
          exact ⟨h1, h2, σ', h3, h4⟩
        | some c =>
          obtain ⟨h1, h2, σ4, W4, E4, cp4, mn4, f4, h3, h4, h5, h6, h7, h8, h9, h10⟩ := h
          obtain ⟨r1, r2, r3, r4, r5⟩ := oR_s hL5
          show okM N la row T NM PL bh σ0 cA (f + 1) i σ W E cp L mn (lpD T L (dsD T NM d (L + 1) o) (if L = 2 then 1 else 160) j c)
          refine lp_m (N := N) hN hcA hX hT hL5 (hbs hL5) hcn hf (fun j' f' σ' W' E' cp' mn' a b c' e g p => ih (L + 1) o j' f' σ' W' E' cp' mn' (by omega) ho (by omega) b a c' e g p) (if L = 2 then 1 else 160) j f4 σ4 W4 E4 c cp4 mn4 h1 h2 h3 h4 h5 (fl_eq r2 h6) h7 h8 (fun z => h9 (by omega)) h10 (fun z => Or.inl ⟨by rw [if_pos z], ?_⟩) (fun z => by rw [if_neg z]; omega)
          rw [h9 (by omega)]
          rcases hmo with ⟨_, _, w⟩ | ⟨w, _⟩
          · exact w
          · omega
    · have hL5' : L = 5 := by omega
      subst hL5'
      rw [if_neg (by omega)]
      have hmo' : mn = 0 ∨ ¬ T i = 132 := by
        rcases hmo with h | h
        · omega
        · exact h.2
      by_cases q1 : T i = 45
      · rw [if_pos q1]
        have k1 : ¬ σ.1 9 = 1 := by rw [c9, q1]; decide
        have k2 : ¬ σ.1 9 = 2 := by rw [c9, q1]; decide
        unfold opD
        by_cases ho5 : o < 5
        · rw [if_pos ho5]
          obtain ⟨σ1, a1, a2, a3⟩ := mah_u (N := N) (tk := 133) (x := mn) (by omega) hP hv (Or.inl ⟨q1, rfl⟩) (by omega)
          obtain ⟨σ2, n1, n2⟩ := next_PS (cA := cA) hX (ila (by omega)) a2 a3
          have he : fX12_readE_40 N (f + 1) σ (nI row) 1 mn = fX12_readE_40 N f σ2 (nI row) 1 0 := by
            rw [e40_s, e_ahk n0 k1 k2 s45 a1 n1, if_neg (fun z => bI_d.mp z q1)]
          have h := ih 5 (o + 1) (i + 1) f σ2 (133 :: W) E cp 0 (by omega) (by omega) (by omega) (ila (by omega)) (by show cnO W + 1 = o + 1; rw [hcn]) (by omega) (fun z => absurd z (by omega)) (Or.inr ⟨by omega, Or.inl rfl⟩) n2
          generalize hR : dsD T NM d 5 (o + 1) (i + 1) = R at h ⊢
          obtain ⟨j, oc⟩ := R
          cases oc with
          | none =>
            obtain ⟨h1, h2, σ', h3, h4⟩ := h
            exact ⟨by omega, h2, σ', by rw [he]; exact h3, h4⟩
          | some c =>
            obtain ⟨h1, h2, σ4, W4, E4, cp4, mn4, f4, h3, h4, h5, h6, h7, h8, h9, h10⟩ := h
            refine ⟨by omega, h2, σ4, W4, E4, cp4, mn4, f4, by omega, he.trans h4, h5, ?_, h7, h8, h9, h10⟩
            rw [h6, if_neg (by decide), fl_pop (t := 133) (by decide) (by decide), List.append_assoc]
        · rw [if_neg ho5]
          exact ⟨Nat.le_refl _, hi, σ, by rw [e40_s]; exact e_ahf n0 k1 k2 (mah_5 hP hv (Or.inr (Or.inl q1)) (by omega)), flM_of hP⟩
      · rw [if_neg q1]
        by_cases q2 : T i = 40
        · rw [if_pos q2]
          have k1 : ¬ σ.1 9 = 1 := by rw [c9, q2]; decide
          have k2 : ¬ σ.1 9 = 2 := by rw [c9, q2]; decide
          unfold opD
          by_cases ho5 : o < 5
          · rw [if_pos ho5]
            obtain ⟨σ1, a1, a2, a3⟩ := mah_p (N := N) (x := mn) (by omega) hP hv q2 (by omega)
            obtain ⟨σ2, n1, n2⟩ := next_PS (cA := cA) hX (ila (by omega)) a2 a3
            have he : fX12_readE_40 N (f + 1) σ (nI row) 1 mn = fX12_readE_40 N f σ2 (nI row) 1 1 := by
              rw [e40_s, e_ahk n0 k1 k2 s45 a1 n1, if_pos (bI_d.mpr q1)]
            have h := ih 0 (o + 1) (i + 1) f σ2 (40 :: W) E (va_up cp (dpt W + 1) false) 1 (by omega) (by omega) (by omega) (ila (by omega)) (by show cnO W + 1 = o + 1; rw [hcn]) (by omega) (fun _ => Or.inl rfl) (Or.inl ⟨by omega, rfl, up_e⟩) n2
            generalize hR : dsD T NM d 0 (o + 1) (i + 1) = R at h ⊢
            obtain ⟨j, oc⟩ := R
            cases oc with
            | none =>
              obtain ⟨h1, h2, σ', h3, h4⟩ := h
              exact ⟨by omega, h2, σ', by rw [he]; exact h3, h4⟩
            | some c =>
              obtain ⟨h1, h2, σ4, W4, E4, cp4, mn4, f4, h3, h4, h5, h6, h7, h8, h9, h10⟩ := h
              obtain ⟨hvj, _⟩ := hT.2.1 j h2
              have fb : fl 1 W4 E4 = (40 :: W, E ++ c) := (show fl 1 W4 E4 = fl 1 (40 :: W) (E ++ c) from h6).trans (fl_bs (Or.inl rfl))
              have ed : dpt (40 :: W) = dpt W + 1 := rfl
              show okM N la row T NM PL bh σ0 cA (f + 1) i σ W E cp 5 mn (if T j = 41 then (j + 1, some c) else (j, none))
              obtain ⟨g, rfl⟩ : ∃ g, f4 = g + 1 := ⟨f4 - 1, by omega⟩
              by_cases q3 : T j = 41
              · rw [if_pos q3]
                have hjl : j < la := by
                  by_cases e : j = la
                  · have := hT.2.2.2; rw [← e] at this; omega
                  · omega
                obtain ⟨σ5, b1, b2⟩ := mcl1 (N := N) hN hcA (by omega) h5 hvj q3 fb
                obtain ⟨σ6, n3, n4⟩ := next_PS (cA := cA) hX hjl b2.1 (PS0_le (b := j) b2.2 (by omega))
                have bt : fX12_between N σ4 = some (0, σ4) := mbet0 h5 hvj (fun l hl hs => by
                  rw [q3] at hs
                  rcases sgn_t hs with z | z | z | z | z <;> omega)
                have s59 : fX12_isSign σ4 59 = bI (decide (T j = 59)) := sg_e (c := 59) h5.1 hvj (by decide) (by decide)
                have s59' : fX12_isSign σ4 59 = 0 := by rw [s59]; exact bI_d.mpr (by omega)
                refine ⟨by omega, hjl, σ6, _, _, cp4, mn4, g, by omega, ?_, n4, fl_fl (Nat.le_refl 7) W (E ++ c), fl_dpt 7 W (E ++ c), fun k hk => ?_, fun _ => ?_, fun l a b => absurd a (by omega)⟩
                · rw [he, h4, e40_s, e_mid rfl (Or.inl s59'), e_clk bt b1 n3]
                · rw [h8 k (by omega), up_n (by omega)]
                · rw [h8 (dpt W) (by omega), up_n (by omega)]
              · rw [if_neg q3]
                have bt : fX12_between N σ4 = some (0, σ4) := mbet0 h5 hvj (fun l hl hs => by
                  obtain ⟨a, b⟩ := h10 l (by omega) hl hs
                  exact ⟨a, by rw [h7]; exact b⟩)
                have cl : fX12_closes N σ4 = some (0, σ4) := mcl0 h5 hvj (Or.inl q3)
                have hd4 := dpt_cn W4
                have hc4 : cnO W4 ≤ 5 := h5.2.2.2.2.2.2.2.2.1
                have d14 : ¬ σ4.1 14 = 0 := by
                  rw [show σ4.1 14 = nI (dpt W4) from h5.2.2.2.2.2.2.2.1]
                  exact nI_ne0 (by omega) (by omega)
                exact ⟨by omega, h2, σ4, by rw [he, h4, e40_s, e_mid rfl (Or.inr d14), e_clf bt cl], flM_of h5⟩
          · rw [if_neg ho5]
            exact ⟨Nat.le_refl _, hi, σ, by rw [e40_s]; exact e_ahf n0 k1 k2 (mah_5 hP hv (Or.inl q2) (by omega)), flM_of hP⟩
        · rw [if_neg q2]
          by_cases q3 : T i = 2
          · rw [if_pos q3]
            obtain ⟨σ1, a1, a2⟩ := sim_num (N := N) (row := row) (f := f) (mn := mn) hN hcA hX hT (ila (by omega)) hP (NM i) (Or.inl ⟨q3, rfl⟩)
            exact ⟨by omega, ila (by omega), σ1, _, _, cp, mn, f, by omega, a1, a2, fl_fl (Nat.le_refl 7) W (E ++ [NM i]), fl_dpt 7 W (E ++ [NM i]), fun _ _ => rfl, fun _ => rfl, fun l a b => absurd a (by omega)⟩
          · rw [if_neg q3]
            by_cases q4 : 134 ≤ T i ∧ T i ≤ 139
            · rw [if_pos q4]
              obtain ⟨σ1, a1, a2⟩ := sim_num (N := N) (row := row) (f := f) (mn := mn) hN hcA hX hT (ila (by omega)) hP (10000 + T i) (Or.inr ⟨q4.1, q4.2, rfl⟩)
              exact ⟨by omega, ila (by omega), σ1, _, _, cp, mn, f, by omega, a1, a2, fl_fl (Nat.le_refl 7) W (E ++ [10000 + T i]), fl_dpt 7 W (E ++ [10000 + T i]), fun _ _ => rfl, fun _ => rfl, fun l a b => absurd a (by omega)⟩
            · rw [if_neg q4]
              obtain ⟨k1, k2⟩ := kd_12 q3 q4 hv
              exact ⟨Nat.le_refl _, hi, σ, by rw [e40_s]; exact e_ahf n0 (by rw [c9]; exact k1) (by rw [c9]; exact k2) (ah_0 hP.1 hv q2 q1 hmo'), flM_of hP⟩
