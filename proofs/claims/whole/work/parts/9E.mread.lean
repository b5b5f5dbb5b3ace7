/-! PURE: TEXT: the model reads THE TAPE -/
theorem frE_r {σ : St} : frE σ σ := ⟨fun _ _ => rfl, fun _ _ _ _ _ => rfl, rfl⟩
theorem frE_t {σ σ' σ2 : St} (h : frE σ σ') (h' : frE σ' σ2) : frE σ σ2 := ⟨fun k hk => (h'.1 k hk).trans (h.1 k hk), fun k a c d e => (h'.2.1 k a c d e).trans (h.2.1 k a c d e), h'.2.2.trans h.2.2⟩
theorem frE_n {σ σ' : St} (h1 : ∀ k, (k < 8 ∨ 11 < k) → σ'.1 k = σ.1 k) (h2 : σ'.2 = σ.2) : frE σ σ' := ⟨fun k hk => h1 k (by omega), fun k _ _ _ _ => by rw [h2], by rw [h2]⟩
theorem tpM_f {b : Nat → Nat} {nB : Nat} {σ0 σ : St} (hM : tpM b nB σ0) (hf : frE σ0 σ) : tpM b nB σ := ⟨hM.1, by rw [hf.1 5 (by omega)]; exact hM.2.1, fun k hk => by rw [hf.2.1 31 (by decide) (by decide) (by decide) (by decide)]; exact hM.2.2.1 k hk, by rw [hf.2.1 34 (by decide) (by decide) (by decide) (by decide)]; exact hM.2.2.2.1, by rw [hf.2.1 35 (by decide) (by decide) (by decide) (by decide)]; exact hM.2.2.2.2⟩
theorem re_v {N : Nat} {σ : St} {x1 c : Int32} (hc : (160 : Int32) * x1 = c) : fX12_readE N σ x1 = fX12_readE_40 N N (sA (sI (sI (sI (sI (sI σ 15 c) 16 0) 12 0) 13 0) 14 0) 37 (upd (σ.2.1 37) 0 0)) x1 1 1 := by
  subst hc
  exact nm_t (nm_t (nm_t (nm_t (nm_t ((if_pos (show ix (0 : Int32) 8 = true from by decide)).trans rfl)))))
/-- one part, from its first TOKEN on, against the descent -/
def okH (T NM PL bh : Nat → Nat) (la row : Nat) (σ : St) (R : Nat × Option (List Nat)) (O : Option (Int32 × St)) : Prop := match R with
  | (j, none) => j ≤ la ∧ ∃ σ', O = some (0, σ') ∧ flM σ (160 * row) (PL j) σ'
  | (j, some c) => j ≤ la ∧ (¬ T j = 59 → ∃ σ', O = some (0, σ') ∧ flM σ (160 * row) (PL j) σ') ∧ (T j = 59 → c.length ≤ 160 ∧ ∃ σ', O = some (1, σ') ∧ Cur T NM PL bh j σ' ∧ frE σ σ' ∧ σ'.2.1 33 = upd (σ.2.1 33) row (nI c.length) ∧ (∀ k x, c[k]? = some x → σ'.2.1 32 (160 * row + k) = mcD x) ∧ (∀ k, (k < 160 * row ∨ 160 * row + 160 ≤ k) → σ'.2.1 32 k = σ.2.1 32 k))
theorem mhalf {N la row i : Nat} {T NM PL bh : Nat → Nat} {σ σ7 : St} (hN : 200 ≤ N) (hX : nxH N la σ T NM PL bh) (hT : tkM T NM la) (hrow : row < 12) (hi : i ≤ la) (h1 : ∀ k, (k < 8 ∨ 11 < k) → σ7.1 k = σ.1 k) (h2 : σ7.2 = σ.2) (hC : Cur T NM PL bh i σ7) : okH T NM PL bh la row σ (dsD T NM 60 0 0 i) (fX12_readE N σ7 (nI row)) := by
  have h160 := hT.1
  have hcA : 160 * row + 160 ≤ 1920 := by omega
  have ec : (160 : Int32) * nI row = nI (160 * row) := (Int32.ofNat_mul 160 row).symm
  rw [re_v ec]
  have hP : PS T NM PL bh σ (160 * row) i [] [] (fun _ => false) (sA (sI (sI (sI (sI (sI σ7 15 (nI (160 * row))) 16 0) 12 0) 13 0) 14 0) 37 (upd (σ7.2.1 37) 0 0)) := by
    have hf := frE_n h1 h2
    refine ⟨hC, frE_A (frE_I (frE_I (frE_I (frE_I (frE_I hf (by omega) (by omega)) (by omega) (by omega)) (by omega) (by omega)) (by omega) (by omega)) (by omega) (by omega)) (Or.inr (Or.inr (Or.inr rfl))), ?_, rfl, fun t ht => absurd ht List.not_mem_nil, fun k t ht => (by simp at ht), rfl, rfl, Nat.zero_le _, rfl, rfl, fun k x hx => (by simp at hx), fun k _ => ?_, fun k hk => ?_, Nat.zero_le _⟩
    · show σ7.2.1 33 = _
      rw [h2]
    · show σ7.2.1 32 k = _
      rw [h2]
    · have : k = 0 := by
        have hk : k ≤ 0 := hk
        omega
      subst this
      show upd (σ7.2.1 37) 0 0 0 = _
      rw [up_s]; rfl
  have h := mds (N := N) (row := row) hN hcA hX hT 60 0 0 i N _ [] [] (fun _ => false) 1 (by decide) (by decide) (by decide) hi rfl (by omega) (fun _ => trivial) (Or.inl ⟨by decide, rfl, rfl⟩) hP
  generalize dsD T NM 60 0 0 i = R at h ⊢
  obtain ⟨j, oc⟩ := R
  cases oc with
  | none =>
    obtain ⟨i1, i2, σ', i3, i4⟩ := h
    exact ⟨i2, σ', i3, i4⟩
  | some c =>
    obtain ⟨i1, i2, σ4, W4, E4, cp4, mn4, f4, i3, i4, i5, i6, i7, i8, i9, i10⟩ := h
    have i4 : fX12_readE_40 N N (sA (sI (sI (sI (sI (sI σ7 15 (nI (160 * row))) 16 0) 12 0) 13 0) 14 0) 37 (upd (σ7.2.1 37) 0 0)) (nI row) 1 1 = fX12_readE_40 N f4 σ4 (nI row) 0 mn4 := i4
    have i6 : fl 1 W4 E4 = ([], c) := i6
    have i7 : dpt W4 = 0 := i7
    obtain ⟨hv, _⟩ := hT.2.1 j i2
    obtain ⟨f, rfl⟩ : ∃ g, f4 = g + 1 := ⟨f4 - 1, by omega⟩
    have s59 : fX12_isSign σ4 59 = bI (decide (T j = 59)) := sg_e (c := 59) i5.1 hv (by decide) (by decide)
    refine ⟨i2, fun q => ?_, fun q => ?_⟩
    · refine ⟨σ4, ?_, flM_of i5⟩
      rw [i4, e40_s, e_mid rfl (Or.inl (by rw [s59]; exact bI_d.mpr q))]
      exact e_clf (mbet0 i5 hv (fun l hl hs => by
        obtain ⟨a, d⟩ := i10 l (Nat.zero_le _) hl hs
        exact ⟨a, by rw [i7]; exact d⟩)) (mcl0 i5 hv (Or.inr i7))
    · obtain ⟨σ5, d1, d2⟩ := mdoAll (N := N) (r := 1) hN (by decide) hcA (by omega) i5
      rw [i6] at d2
      have d2 : PS T NM PL bh σ (160 * row) j [] c cp4 σ5 := d2
      obtain ⟨c0, c1, c2, c3, c4, c5, c6, c7, c8, c9, c10, c11, c12, c13, c14⟩ := d2
      have e14 : σ4.1 14 = 0 := by
        rw [show σ4.1 14 = nI (dpt W4) from i5.2.2.2.2.2.2.2.1, i7]; rfl
      have e := e_end (k40 := fX12_readE_40 N f) (x3 := mn4) (x2 := 0) rfl (by rw [s59]; exact fun z => bI_d.mp z q) e14 d1 (ix_nI (k := row) hrow (by decide))
      rw [aW_nI (show row < 2 ^ 31 by omega), c10] at e
      rw [List.length_nil] at c14
      refine ⟨by omega, sA σ5 33 (upd (σ5.2.1 33) row (nI c.length)), by rw [i4, e40_s]; exact e, c0, frE_A c1 (Or.inr (Or.inl rfl)), ?_, c11, c12⟩
      show upd (σ5.2.1 33) row (nI c.length) = _
      rw [c2]
theorem kd_0 {t : Nat} (h : nI (kdT t) = 0) : t = 0 := by
  have hk : kdT t = 0 := (nI_eq (b := 0) (by unfold kdT; split; omega; split; omega; split; omega; split; omega; split <;> omega) (by decide)).mp h
  by_cases a : t = 0
  · exact a
  unfold kdT at hk
  rw [if_neg a] at hk
  by_cases b : t = 1
  · rw [if_pos b] at hk; cases hk
  rw [if_neg b] at hk
  by_cases c : t = 2
  · rw [if_pos c] at hk; cases hk
  rw [if_neg c] at hk
  by_cases d : t < 128
  · rw [if_pos d] at hk; cases hk
  rw [if_neg d] at hk
  by_cases e : t < 134
  · rw [if_pos e] at hk; cases hk
  · rw [if_neg e] at hk; cases hk
theorem ra_s {N f : Nat} {σ : St} {x1 x2 : Int32} : fX12_readAll_7 N (f + 1) σ x1 x2 = fX12_readAll_7b N (fX12_readAll_7 N f) σ x1 x2 := rfl
theorem ra_e {N : Nat} {σ σ3 : St} {k7 : St → Int32 → Int32 → Option (Int32 × St)} {x1 x2 : Int32} (h : (2 : Int32) ≤ x2) (hn : fX12_next N σ = some σ3) (h9 : σ3.1 9 = 0) : fX12_readAll_7b N k7 σ x1 x2 = some (-1, σ3) := (if_pos h).trans ((bd_some hn).trans (if_pos h9))
theorem ra_f {N : Nat} {σ σ3 : St} {k7 : St → Int32 → Int32 → Option (Int32 × St)} {x1 x2 v : Int32} (h : (2 : Int32) ≤ x2) (hn : fX12_next N σ = some σ3) (h9 : ¬ σ3.1 9 = 0) (hv : σ3.1 11 = v) : fX12_readAll_7b N k7 σ x1 x2 = some (v, σ3) := by
  subst hv
  exact (if_pos h).trans ((bd_some hn).trans (if_neg h9))
theorem ra_0 {N : Nat} {σ σ5 : St} {k7 : St → Int32 → Int32 → Option (Int32 × St)} {x1 x2 v : Int32} (h : ¬ (2 : Int32) ≤ x2) (hn : fX12_next N σ = some σ5) (hk : fX12_isKey σ5 x2 = 0) (hv : σ5.1 11 = v) : fX12_readAll_7b N k7 σ x1 x2 = some (v, σ5) := by
  subst hv
  exact (if_neg h).trans ((bd_some hn).trans (if_pos hk))
theorem ra_1 {N : Nat} {σ σ5 σ7 σ9 : St} {k7 : St → Int32 → Int32 → Option (Int32 × St)} {x1 x2 y v : Int32} (h : ¬ (2 : Int32) ≤ x2) (hn : fX12_next N σ = some σ5) (hk : ¬ fX12_isKey σ5 x2 = 0) (hn2 : fX12_next N σ5 = some σ7) (hy : (2 : Int32) * x1 + x2 = y) (he : fX12_readE N σ7 y = some (0, σ9)) (hv : σ9.1 11 = v) : fX12_readAll_7b N k7 σ x1 x2 = some (v, σ9) := by
  subst hv
  subst hy
  exact (if_neg h).trans ((bd_some hn).trans ((if_neg hk).trans ((bd_some hn2).trans ((bd2_some he).trans (if_pos rfl)))))
theorem ra_2 {N : Nat} {σ σ5 σ7 σ9 : St} {k7 : St → Int32 → Int32 → Option (Int32 × St)} {x1 x2 y z : Int32} (h : ¬ (2 : Int32) ≤ x2) (hn : fX12_next N σ = some σ5) (hk : ¬ fX12_isKey σ5 x2 = 0) (hn2 : fX12_next N σ5 = some σ7) (hy : (2 : Int32) * x1 + x2 = y) (he : fX12_readE N σ7 y = some (1, σ9)) (hz : x2 + 1 = z) : fX12_readAll_7b N k7 σ x1 x2 = k7 σ9 x1 z := by
  subst hy
  subst hz
  exact (if_neg h).trans ((bd_some hn).trans ((if_neg hk).trans ((bd_some hn2).trans ((bd2_some he).trans ((if_neg (show ¬ (1 : Int32) = 0 from by decide)).trans rfl)))))
/-- what reading a TEXT of number n leaves as it is -/
def frR (n : Nat) (σ τ : St) : Prop := frE σ τ ∧ (∀ k, k < 2 * n → τ.2.1 33 k = σ.2.1 33 k) ∧ ∀ k, k < 320 * n → τ.2.1 32 k = σ.2.1 32 k
theorem frR_t {n : Nat} {σ τ τ2 : St} (h : frR n σ τ) (h' : frR n τ τ2) : frR n σ τ2 := ⟨frE_t h.1 h'.1, fun k hk => (h'.2.1 k hk).trans (h.2.1 k hk), fun k hk => (h'.2.2 k hk).trans (h.2.2 k hk)⟩
theorem frR_n {n : Nat} {σ σ' : St} (h1 : ∀ k, (k < 8 ∨ 11 < k) → σ'.1 k = σ.1 k) (h2 : σ'.2 = σ.2) : frR n σ σ' := ⟨frE_n h1 h2, fun k _ => by rw [h2], fun k _ => by rw [h2]⟩
theorem frR_f {n row pl : Nat} {σ τ : St} (hr : 2 * n ≤ row) (h : flM σ (160 * row) pl τ) : frR n σ τ := ⟨h.2.1, fun k _ => by rw [h.2.2.1], fun k hk => h.2.2.2 k (by omega)⟩
theorem frR_g {n row : Nat} {v : Int32} {σ τ : St} (hr : 2 * n ≤ row) (h1 : frE σ τ) (h2 : τ.2.1 33 = upd (σ.2.1 33) row v) (h3 : ∀ k, (k < 160 * row ∨ 160 * row + 160 ≤ k) → τ.2.1 32 k = σ.2.1 32 k) : frR n σ τ := ⟨h1, fun k hk => by rw [h2, pk_un (by omega)], fun k hk => h3 k (by omega)⟩
def okA (N : Nat) (PL : Nat → Nat) (n : Nat) (σ : St) (R : Nat × Option (List Nat × List Nat)) : Prop := match R with
  | (j, none) => ∃ τ, fX12_readAll N σ (nI n) = some (nI (PL j), τ) ∧ frR n σ τ
  | (_, some (c, c')) => ∃ τ, fX12_readAll N σ (nI n) = some (-1, τ) ∧ frR n σ τ ∧ τ.2.1 33 (2 * n) = nI c.length ∧ τ.2.1 33 (2 * n + 1) = nI c'.length ∧ (∀ k x, c[k]? = some x → τ.2.1 32 (320 * n + k) = mcD x) ∧ (∀ k x, c'[k]? = some x → τ.2.1 32 (320 * n + 160 + k) = mcD x)
theorem mread {N nB la n : Nat} {b : Nat → Nat} {σ : St} (hN : 200 ≤ N) (hM : tpM b nB σ) (hn : n < 6) (h1 : la ≤ nB) (h2 : TL b nB la < 2) (h3 : ∀ i, i < la → 2 ≤ TL b nB i) : okA N (PLL b nB) n σ (rpD (TL b nB) (NML b nB)) := by
  have h160 := hM.1
  have hT := tkM_L h160 h1 h2 h3
  have lt : ∀ i, i ≤ la → 2 ≤ TL b nB i → i < la := fun i hi h => by
    by_cases e : i = la
    · subst e; omega
    · omega
  obtain ⟨N', rfl⟩ : ∃ g, N = g + 3 := ⟨N - 3, by omega⟩
  have eR : ∀ O, fX12_readAll_7b (N' + 3) (fX12_readAll_7 (N' + 3) (N' + 2)) (sI σ 8 0) (nI n) 0 = O → fX12_readAll (N' + 3) σ (nI n) = O := fun O h => h
  have hM0 : tpM b nB (sI σ 8 0) := hM
  have f0 : frR n σ (sI σ 8 0) := ⟨frE_I frE_r (by omega) (by omega), fun _ _ => rfl, fun _ _ => rfl⟩
  obtain ⟨σ5, n1, C0, g1, g2⟩ := nx_0 hN hM0 rfl
  have k0 : fX12_isKey σ5 0 = bI (decide (TL b nB 0 = 128 + 0)) := ky_e (k := 0) C0 (by decide) (hT.2.1 0 (Nat.zero_le _)).1
  have f5 := frR_t f0 (frR_n (n := n) g1 g2)
  have l2 : ¬ (2 : Int32) ≤ 0 := by decide
  unfold rpD
  by_cases q0 : TL b nB 0 = 128
  · rw [if_pos q0]
    have k0 : ¬ fX12_isKey σ5 0 = 0 := by rw [k0]; exact fun z => bI_d.mp z q0
    have l0 := lt 0 (Nat.zero_le _) (by omega)
    have hM5 := tpM_f hM f5.1
    have hX5 := nx_L (la := la) hN hM5
    obtain ⟨σ7, n2, C1, g3, g4⟩ := hX5 0 σ5 l0 frE_r C0
    have er : (2 : Int32) * nI n + 0 = nI (2 * n) := by
      rw [Int32.add_zero]; exact (Int32.ofNat_mul 2 n).symm
    have hh := mhalf (row := 2 * n) hN hX5 hT (by omega) (show 1 ≤ la by omega) g3 g4 C1
    generalize dsD (TL b nB) (NML b nB) 60 0 0 1 = R at hh ⊢
    obtain ⟨j, oc⟩ := R
    cases oc with
    | none =>
      obtain ⟨i1, σ9, i2, i3⟩ := hh
      exact ⟨σ9, eR _ (ra_1 l2 n1 k0 n2 er i2 i3.1), frR_t f5 (frR_f (Nat.le_refl _) i3)⟩
    | some c =>
      obtain ⟨i1, i2, i3⟩ := hh
      show okA (N' + 3) (PLL b nB) n σ (if TL b nB j = 59 then (if TL b nB (j + 1) = 129 then rpb (TL b nB) c (dsD (TL b nB) (NML b nB) 60 0 0 (j + 2)) else (j + 1, none)) else (j, none))
      by_cases q1 : TL b nB j = 59
      · rw [if_pos q1]
        obtain ⟨jl, σ9, j1, j2, j3, j4, j5, j6⟩ := i3 q1
        have lj := lt j i1 (by omega)
        obtain ⟨σ15, n3, C3, g5, g6⟩ := hX5 j σ9 lj j3 j2
        have f9 := frR_t f5 (frR_g (n := n) (Nat.le_refl _) j3 j4 j6)
        have f15 := frR_t f9 (frR_n (n := n) g5 g6)
        have hM15 := tpM_f hM f15.1
        have hX15 := nx_L (la := la) hN hM15
        have k1 : fX12_isKey σ15 1 = bI (decide (TL b nB (j + 1) = 128 + 1)) := ky_e (k := 1) C3 (by decide) (hT.2.1 (j + 1) lj).1
        have eR2 : ∀ O, fX12_readAll_7b (N' + 3) (fX12_readAll_7 (N' + 3) (N' + 1)) σ9 (nI n) 1 = O → fX12_readAll (N' + 3) σ (nI n) = O := fun O h => eR _ ((ra_2 l2 n1 k0 n2 er j1 (show (0 : Int32) + 1 = 1 from by decide)).trans h)
        have l21 : ¬ (2 : Int32) ≤ 1 := by decide
        by_cases q2 : TL b nB (j + 1) = 129
        · rw [if_pos q2]
          have k1 : ¬ fX12_isKey σ15 1 = 0 := by rw [k1]; exact fun z => bI_d.mp z q2
          have lj1 := lt (j + 1) lj (by omega)
          obtain ⟨σ17, n4, C4, g7, g8⟩ := hX15 (j + 1) σ15 lj1 frE_r C3
          have er2 : (2 : Int32) * nI n + 1 = nI (2 * n + 1) := by
            rw [show (2 : Int32) * nI n = nI (2 * n) from (Int32.ofNat_mul 2 n).symm, nI_1]
          have hh2 := mhalf (row := 2 * n + 1) hN hX15 hT (by omega) (show j + 2 ≤ la by omega) g7 g8 C4
          generalize dsD (TL b nB) (NML b nB) 60 0 0 (j + 2) = R2 at hh2 ⊢
          obtain ⟨k, oc2⟩ := R2
          cases oc2 with
          | none =>
            obtain ⟨m1, σ19, m2, m3⟩ := hh2
            exact ⟨σ19, eR2 _ (ra_1 l21 n3 k1 n4 er2 m2 m3.1), frR_t f15 (frR_f (by omega) m3)⟩
          | some c' =>
            obtain ⟨m1, m2, m3⟩ := hh2
            show okA (N' + 3) (PLL b nB) n σ (if TL b nB k = 59 then (if TL b nB (k + 1) = 0 then (k + 1, some (c, c')) else (k + 1, none)) else (k, none))
            by_cases q3 : TL b nB k = 59
            · rw [if_pos q3]
              obtain ⟨ol, σ19, o1, o2, o3, o4, o5, o6⟩ := m3 q3
              have lk := lt k m1 (by omega)
              obtain ⟨σ23, n5, C5, g9, g10⟩ := hX15 k σ19 lk o3 o2
              have f19 := frR_t f15 (frR_g (n := n) (by omega) o3 o4 o6)
              have f23 := frR_t f19 (frR_n (n := n) g9 g10)
              have eR3 : ∀ O, fX12_readAll_7b (N' + 3) (fX12_readAll_7 (N' + 3) N') σ19 (nI n) 2 = O → fX12_readAll (N' + 3) σ (nI n) = O := fun O h => eR2 _ ((ra_2 l21 n3 k1 n4 er2 o1 (show (1 : Int32) + 1 = 2 from by decide)).trans h)
              have l22 : (2 : Int32) ≤ 2 := by decide
              have e9 : σ23.1 9 = nI (kdT (TL b nB (k + 1))) := C5.2.1
              by_cases q4 : TL b nB (k + 1) = 0
              · rw [if_pos q4]
                rw [q4] at e9
                refine ⟨σ23, eR3 _ (ra_e l22 n5 (by rw [e9]; rfl)), f23, ?_, ?_, fun x y hx => ?_, fun x y hx => ?_⟩
                · rw [g10, o4, pk_un (by omega), g6, j4, up_s]
                · rw [g10, o4, up_s]
                · have hx1 := (List.getElem?_eq_some_iff.mp hx).1
                  rw [g10, o6 (320 * n + x) (Or.inl (by omega)), g6]
                  have := j5 x y hx
                  rw [show 160 * (2 * n) = 320 * n by omega] at this
                  exact this
                · rw [g10]
                  have := o5 x y hx
                  rw [show 160 * (2 * n + 1) = 320 * n + 160 by omega] at this
                  exact this
              · rw [if_neg q4]
                exact ⟨σ23, eR3 _ (ra_f l22 n5 (by rw [e9]; exact fun z => q4 (kd_0 z)) C5.2.2.1), f23⟩
            · rw [if_neg q3]
              obtain ⟨σ19, o1, o2⟩ := m2 q3
              exact ⟨σ19, eR2 _ (ra_1 l21 n3 k1 n4 er2 o1 o2.1), frR_t f15 (frR_f (by omega) o2)⟩
        · rw [if_neg q2]
          exact ⟨σ15, eR2 _ (ra_0 l21 n3 (by rw [k1]; exact bI_d.mpr q2) C3.2.2.1), f15⟩
      · rw [if_neg q1]
        obtain ⟨σ9, j1, j2⟩ := i2 q1
        exact ⟨σ9, eR _ (ra_1 l2 n1 k0 n2 er j1 j2.1), frR_t f5 (frR_f (Nat.le_refl _) j2)⟩
  · rw [if_neg q0]
    exact ⟨σ5, eR _ (ra_0 l2 n1 (by rw [k0]; exact bI_d.mpr q0) C0.2.2.1), f5⟩
