/-! PURE: TEXT: signs between, what opens, what closes -/
def PS0 (σ0 : St) (cA : Nat) (b : Nat) (W E : List Nat) (cp : Nat → Bool) (σ : St) : Prop := frE σ0 σ ∧ σ.2.1 33 = σ0.2.1 33 ∧ σ.1 12 = nI W.length ∧ (∀ t, t ∈ W → wtT t) ∧ (∀ k t, W.reverse[k]? = some t → σ.2.1 36 k = nI (opc t)) ∧ σ.1 13 = nI (cnO W) ∧ σ.1 14 = nI (dpt W) ∧ cnO W ≤ 5 ∧ σ.1 15 = nI cA ∧ σ.1 16 = nI E.length ∧ (∀ k x, E[k]? = some x → σ.2.1 32 (cA + k) = mcD x) ∧ (∀ k, (k < cA ∨ cA + 160 ≤ k) → σ.2.1 32 k = σ0.2.1 32 k) ∧ (∀ k, k ≤ dpt W → σ.2.1 37 k = bI (cp k)) ∧ W.length + E.length ≤ b
/-- the next TOKEN comes, and nothing else changes -/
def nxH (N la : Nat) (σ0 : St) (T NM PL bh : Nat → Nat) : Prop := ∀ (i : Nat) (σ : St), i < la → frE σ0 σ → Cur T NM PL bh i σ → ∃ σ', fX12_next N σ = some σ' ∧ Cur T NM PL bh (i + 1) σ' ∧ (∀ k, (k < 8 ∨ 11 < k) → σ'.1 k = σ.1 k) ∧ σ'.2 = σ.2
theorem PS0_next {σ0 σ σ' : St} {cA b : Nat} {W E : List Nat} {cp : Nat → Bool} (h : PS0 σ0 cA b W E cp σ) (h1 : ∀ k, (k < 8 ∨ 11 < k) → σ'.1 k = σ.1 k) (h2 : σ'.2 = σ.2) : PS0 σ0 cA b W E cp σ' := by
  obtain ⟨c1, c2, c3, c4, c5, c6, c7, c8, c9, c10, c11, c12, c13, c14⟩ := h
  refine ⟨⟨fun k hk => by rw [h1 k (by omega)]; exact c1.1 k hk, by rw [h2]; exact c1.2.1, by rw [h2]; exact c1.2.2⟩, by rw [h2]; exact c2, by rw [h1 12 (by omega)]; exact c3, c4, by rw [h2]; exact c5, by rw [h1 13 (by omega)]; exact c6, by rw [h1 14 (by omega)]; exact c7, c8, by rw [h1 15 (by omega)]; exact c9, by rw [h1 16 (by omega)]; exact c10, by rw [h2]; exact c11, by rw [h2]; exact c12, by rw [h2]; exact c13, c14⟩
theorem next_PS {N la cA i : Nat} {T NM PL bh : Nat → Nat} {σ0 σ : St} {W E : List Nat} {cp : Nat → Bool} (hX : nxH N la σ0 T NM PL bh) (hi : i < la) (hC : Cur T NM PL bh i σ) (h : PS0 σ0 cA (i + 1) W E cp σ) : ∃ σ', fX12_next N σ = some σ' ∧ PS T NM PL bh σ0 cA (i + 1) W E cp σ' := by
  obtain ⟨σ', e, c, a, b⟩ := hX i σ hi h.1 hC
  exact ⟨σ', e, c, PS0_next h a b⟩
theorem PS0_le {σ0 σ : St} {cA b b' : Nat} {W E : List Nat} {cp : Nat → Bool} (h : PS0 σ0 cA b W E cp σ) (hb : b ≤ b') : PS0 σ0 cA b' W E cp σ := by
  obtain ⟨c1, c2, c3, c4, c5, c6, c7, c8, c9, c10, c11, c12, c13, c14⟩ := h
  exact ⟨c1, c2, c3, c4, c5, c6, c7, c8, c9, c10, c11, c12, c13, by omega⟩
theorem bI_d {p : Prop} [Decidable p] : (bI (decide p) = 0) ↔ ¬ p := by
  rw [bI_0]; exact decide_eq_false_iff_not
def bop (t : Nat) : Int32 := if t = 43 then 6 else if t = 45 then 7 else if t = 42 then 8 else if t = 60 then 9 else if t = 61 then 10 else if t = 131 then 11 else if t = 130 then 12 else -1
theorem bet_v {N i : Nat} {T NM PL bh : Nat → Nat} {σ : St} (h : Cur T NM PL bh i σ) (hv : vTk (T i)) : fX12_between N σ = fX12_between_97 N σ (bop (T i)) := by
  have s1 : fX12_isSign σ 43 = bI (decide (T i = 43)) := sg_e (c := 43) h hv (by decide) (by decide)
  have s2 : fX12_isSign σ 45 = bI (decide (T i = 45)) := sg_e (c := 45) h hv (by decide) (by decide)
  have s3 : fX12_isSign σ 42 = bI (decide (T i = 42)) := sg_e (c := 42) h hv (by decide) (by decide)
  have s4 : fX12_isSign σ 60 = bI (decide (T i = 60)) := sg_e (c := 60) h hv (by decide) (by decide)
  have s5 : fX12_isSign σ 61 = bI (decide (T i = 61)) := sg_e (c := 61) h hv (by decide) (by decide)
  have s6 : fX12_isKey σ 3 = bI (decide (T i = 131)) := ky_e (k := 3) h (by decide) hv
  have s7 : fX12_isKey σ 2 = bI (decide (T i = 130)) := ky_e (k := 2) h (by decide) hv
  unfold fX12_between bop
  rw [s1, s2, s3, s4, s5, s6, s7]
  by_cases q1 : T i = 43
  · rw [if_neg (fun z => bI_d.mp z q1), if_pos q1]
  rw [if_pos (bI_d.mpr q1), if_neg q1]
  by_cases q2 : T i = 45
  · rw [if_neg (fun z => bI_d.mp z q2), if_pos q2]
  rw [if_pos (bI_d.mpr q2), if_neg q2]
  by_cases q3 : T i = 42
  · rw [if_neg (fun z => bI_d.mp z q3), if_pos q3]
  rw [if_pos (bI_d.mpr q3), if_neg q3]
  by_cases q4 : T i = 60
  · rw [if_neg (fun z => bI_d.mp z q4), if_pos q4]
  rw [if_pos (bI_d.mpr q4), if_neg q4]
  by_cases q5 : T i = 61
  · rw [if_neg (fun z => bI_d.mp z q5), if_pos q5]
  rw [if_pos (bI_d.mpr q5), if_neg q5]
  by_cases q6 : T i = 131
  · rw [if_neg (fun z => bI_d.mp z q6), if_pos q6]
  rw [if_pos (bI_d.mpr q6), if_neg q6]
  by_cases q7 : T i = 130
  · rw [if_neg (fun z => bI_d.mp z q7), if_pos q7]
  rw [if_pos (bI_d.mpr q7), if_neg q7]
theorem sgn_t {L t : Nat} (h : sgn L t = true) : (L = 0 ∧ t = 130) ∨ (L = 1 ∧ t = 131) ∨ (L = 2 ∧ (t = 60 ∨ t = 61)) ∨ (L = 3 ∧ (t = 43 ∨ t = 45)) ∨ (¬ L = 0 ∧ ¬ L = 1 ∧ ¬ L = 2 ∧ ¬ L = 3 ∧ t = 42) := by
  unfold sgn at h
  by_cases a : L = 0
  · rw [if_pos a] at h; exact Or.inl ⟨a, of_decide_eq_true h⟩
  rw [if_neg a] at h
  by_cases b : L = 1
  · rw [if_pos b] at h; exact Or.inr (Or.inl ⟨b, of_decide_eq_true h⟩)
  rw [if_neg b] at h
  by_cases c : L = 2
  · rw [if_pos c] at h
    exact Or.inr (Or.inr (Or.inl ⟨c, (Bool.or_eq_true_iff.mp h).imp of_decide_eq_true of_decide_eq_true⟩))
  rw [if_neg c] at h
  by_cases d : L = 3
  · rw [if_pos d] at h
    exact Or.inr (Or.inr (Or.inr (Or.inl ⟨d, (Bool.or_eq_true_iff.mp h).imp of_decide_eq_true of_decide_eq_true⟩)))
  rw [if_neg d] at h
  exact Or.inr (Or.inr (Or.inr (Or.inr ⟨a, b, c, d, of_decide_eq_true h⟩)))
def oR (L : Nat) : Nat := if L = 0 then 1 else if L = 1 then 2 else if L = 2 then 4 else if L = 3 then 5 else if L = 4 then 6 else 8
theorem sgn_w {L t : Nat} (hL : L < 5) (h : sgn L t = true) : wtT t ∧ bop t = nI (opc t) ∧ ¬ bop t = -1 ∧ rk t = oR L ∧ isO t = false ∧ ¬ t = 40 ∧ 1 ≤ rk t ∧ rk t ≤ 6 := by
  rcases sgn_t h with ⟨rfl, rfl⟩ | ⟨rfl, rfl⟩ | ⟨rfl, rfl | rfl⟩ | ⟨rfl, rfl | rfl⟩ | ⟨a, b, c, d, rfl⟩
  · unfold wtT; decide
  · unfold wtT; decide
  · unfold wtT; decide
  · unfold wtT; decide
  · unfold wtT; decide
  · unfold wtT; decide
  · have : L = 4 := by omega
    subst this
    unfold wtT; decide
theorem b97_n {N : Nat} {σ : St} {y : Int32} (h : y = -1) : fX12_between_97 N σ y = some (0, σ) := if_pos h
theorem b97_c {N : Nat} {σ : St} {y : Int32} (h : ¬ y = -1) (h4 : fX12_rank y = 4) (h8 : ix (σ.1 14) 8 = true) (hc : ¬ aR σ 37 (σ.1 14) = 0) : fX12_between_97 N σ y = some (0, σ) := (if_neg h).trans ((if_pos h4).trans ((if_pos h8).trans (if_neg hc)))
theorem b97_k {N : Nat} {σ : St} {y : Int32} (h : ¬ y = -1) (h8 : ix (σ.1 14) 8 = true) (hc : fX12_rank y = 4 → aR σ 37 (σ.1 14) = 0) : fX12_between_97 N σ y = fX12_between_125 N σ y := by
  refine (if_neg h).trans ?_
  by_cases q : fX12_rank y = 4
  · exact (if_pos q).trans ((if_pos h8).trans (if_pos (hc q)))
  · exact if_neg q
theorem b125 {N : Nat} {σ σ2 σ4 : St} {y r : Int32} (hr : fX12_rank y = r) (hd : fX12_doAll N σ r = some σ2) (ha : fX12_await N σ2 y = some σ4) (h8 : ix (σ4.1 14) 8 = true) : fX12_between_125 N σ y = some (1, aW σ4 37 (σ4.1 14) (if r = 4 then 1 else if r ≤ 4 then 0 else if aR σ4 37 (σ4.1 14) = 0 then 0 else 1)) := by
  subst hr
  refine (bd_some hd).trans ((bd_some ha).trans ?_)
  by_cases q1 : fX12_rank y = 4
  · rw [if_pos q1, if_pos q1]
    exact if_pos h8
  · rw [if_neg q1, if_neg q1]
    by_cases q2 : fX12_rank y ≤ 4
    · rw [if_pos q2, if_pos q2]
      exact if_pos h8
    · rw [if_neg q2, if_neg q2]
      refine (if_pos h8).trans ?_
      by_cases q3 : aR σ4 37 (σ4.1 14) = 0
      · rw [if_pos q3, if_pos q3]
        exact if_pos h8
      · rw [if_neg q3, if_neg q3]
        exact if_pos h8
theorem mbet0 {N cA i : Nat} {T NM PL bh : Nat → Nat} {σ0 σ : St} {W E : List Nat} {cp : Nat → Bool} (hP : PS T NM PL bh σ0 cA i W E cp σ) (hv : vTk (T i)) (hno : ∀ L, L < 5 → sgn L (T i) = true → L = 2 ∧ cp (dpt W) = true) : fX12_between N σ = some (0, σ) := by
  obtain ⟨c0, c1, c2, c3, c4, c5, c6, c7, c8, c9, c10, c11, c12, c13, c14⟩ := id hP
  have hd5 := dpt_cn W
  rw [bet_v c0 hv]
  have cmp : ∀ L, L < 5 → sgn L (T i) = true → fX12_between_97 N σ (bop (T i)) = some (0, σ) := by
    intro L hL hs
    obtain ⟨rfl, hcp⟩ := hno L hL hs
    obtain ⟨w1, w2, w3, w4, _⟩ := sgn_w hL hs
    refine b97_c w3 ?_ (by rw [c7]; exact ix_nI (by omega) (by decide)) ?_
    · rw [w2, (wt_e w1).1, w4]; rfl
    · rw [c7, aR_nI (by omega), c13 _ (Nat.le_refl _), hcp]; decide
  by_cases q1 : T i = 43
  · exact cmp 3 (by decide) (by rw [q1]; rfl)
  by_cases q2 : T i = 45
  · exact cmp 3 (by decide) (by rw [q2]; rfl)
  by_cases q3 : T i = 42
  · exact cmp 4 (by decide) (by rw [q3]; rfl)
  by_cases q4 : T i = 60
  · exact cmp 2 (by decide) (by rw [q4]; rfl)
  by_cases q5 : T i = 61
  · exact cmp 2 (by decide) (by rw [q5]; rfl)
  by_cases q6 : T i = 131
  · exact cmp 1 (by decide) (by rw [q6]; rfl)
  by_cases q7 : T i = 130
  · exact cmp 0 (by decide) (by rw [q7]; rfl)
  exact b97_n (by unfold bop; rw [if_neg q1, if_neg q2, if_neg q3, if_neg q4, if_neg q5, if_neg q6, if_neg q7])
theorem mbet {N cA i L : Nat} {T NM PL bh : Nat → Nat} {σ0 σ : St} {W1 E1 W E : List Nat} {cp : Nat → Bool} (hN : 200 ≤ N) (hcA : cA + 160 ≤ 1920) (hi : i ≤ 160) (hP : PS T NM PL bh σ0 cA i W1 E1 cp σ) (hv : vTk (T i)) (hL : L < 5) (hs : sgn L (T i) = true) (hfl : fl (oR L) W1 E1 = (W, E)) (hc4 : L = 2 → cp (dpt W) = false) : ∃ σ', fX12_between N σ = some (1, σ') ∧ Cur T NM PL bh i σ' ∧ PS0 σ0 cA (i + 1) (T i :: W) E (va_up cp (dpt W) (if L = 2 then true else if L < 2 then false else cp (dpt W))) σ' := by
  obtain ⟨c0, c1, c2, c3, c4, c5, c6, c7, c8, c9, c10, c11, c12, c13, c14⟩ := id hP
  obtain ⟨w1, w2, w3, w4, w5, w6, w7, w8⟩ := sgn_w hL hs
  obtain ⟨u1, u2, u3, u4, u5, u6, u7⟩ := wt_e w1
  have ed : dpt W1 = dpt W := by have := fl_dpt (oR L) W1 E1; rw [hfl] at this; exact this.symm
  have hd5 := dpt_cn W1
  obtain ⟨σ2, d1, d2⟩ := mdoAll (N := N) (r := oR L) hN (by omega) hcA hi hP
  rw [hfl] at d2
  have d2 : PS T NM PL bh σ0 cA i W E cp σ2 := d2
  obtain ⟨e0, e1, e2, e3, e4, e5, e6, e7, e8, e9, e10, e11, e12, e13, e14⟩ := id d2
  have aw := mawait (N := N) (x := nI (opc (T i))) e3 (by omega)
  have hr : fX12_rank (nI (opc (T i))) = nI (oR L) := by rw [u1, w4]
  have r4 : (nI (oR L) = 4) ↔ L = 2 := by
    rcases (show L = 0 ∨ L = 1 ∨ L = 2 ∨ L = 3 ∨ L = 4 by omega) with rfl | rfl | rfl | rfl | rfl <;> decide
  have r4l : (nI (oR L) ≤ 4) ↔ L ≤ 2 := by
    rcases (show L = 0 ∨ L = 1 ∨ L = 2 ∨ L = 3 ∨ L = 4 by omega) with rfl | rfl | rfl | rfl | rfl <;> decide
  have b1 : fX12_between_97 N σ (bop (T i)) = fX12_between_125 N σ (bop (T i)) := b97_k w3 (by rw [c7]; exact ix_nI (by omega) (by decide)) (fun z => by
    rw [w2, hr] at z
    rw [c7, aR_nI (by omega), c13 _ (Nat.le_refl _), ed, hc4 (r4.mp z)]; rfl)
  have e14' : (sI (sA σ2 36 (upd (σ2.2.1 36) W.length (nI (opc (T i))))) 12 (nI (W.length + 1))).1 14 = nI (dpt W) := e7
  have b2 := b125 hr d1 aw (by rw [e14']; exact ix_nI (by omega) (by decide))
  rw [e14', aR_nI (by omega), show (sI (sA σ2 36 (upd (σ2.2.1 36) W.length (nI (opc (T i))))) 12 (nI (W.length + 1))).2.1 37 (dpt W) = bI (cp (dpt W)) from e13 _ (Nat.le_refl _), aW_nI (by omega)] at b2
  have ev : (if nI (oR L) = 4 then (1 : Int32) else if nI (oR L) ≤ 4 then 0 else if bI (cp (dpt W)) = 0 then 0 else 1) = bI (if L = 2 then true else if L < 2 then false else cp (dpt W)) := by
    by_cases q : L = 2
    · rw [if_pos (r4.mpr q), if_pos q]; rfl
    · rw [if_neg (fun z => q (r4.mp z)), if_neg q]
      by_cases q2 : L < 2
      · rw [if_pos (r4l.mpr (by omega)), if_pos q2]; rfl
      · rw [if_neg (fun z => by have := r4l.mp z; omega), if_neg q2]
        cases cp (dpt W) <;> rfl
  rw [ev] at b2
  have bv := bet_v (N := N) c0 hv
  rw [w2] at bv b1
  refine ⟨_, bv.trans (b1.trans b2), e0, frE_A (frE_I (frE_A e1 (Or.inr (Or.inr (Or.inl rfl)))) (by omega) (by omega)) (Or.inr (Or.inr (Or.inr rfl))), e2, ?_, fun t ht => ?_, fun k t ht => ?_, ?_, ?_, ?_, e9, e10, e11, e12, fun k hk => ?_, ?_⟩
  · show nI (W.length + 1) = _
    rw [List.length_cons]
  · rcases List.mem_cons.mp ht with rfl | ht
    · exact w1
    · exact e4 t ht
  · show upd (σ2.2.1 36) W.length (nI (opc (T i))) k = _
    rcases rev_cases ht with ⟨rfl, rfl⟩ | ⟨hk, ht⟩
    · rw [up_s]
    · rw [pk_un (by omega)]; exact e5 k t ht
  · show σ2.1 13 = _
    rw [e6, show cnO (T i :: W) = cnO W + (if isO (T i) then 1 else 0) from rfl, w5]; rfl
  · show σ2.1 14 = _
    rw [e7, show dpt (T i :: W) = dpt W + (if T i = 40 then 1 else 0) from rfl, if_neg w6]; rfl
  · rw [show cnO (T i :: W) = cnO W + (if isO (T i) then 1 else 0) from rfl, w5]; exact e8
  · have hk : k ≤ dpt W := by
      rw [show dpt (T i :: W) = dpt W + (if T i = 40 then 1 else 0) from rfl, if_neg w6] at hk; exact hk
    show upd (σ2.2.1 37) (dpt W) _ k = _
    by_cases z : k = dpt W
    · subst z; rw [up_s, up_e]
    · rw [pk_un z, up_n z]; exact e13 k hk
  · rw [List.length_cons]; omega
theorem mcl0 {N cA i : Nat} {T NM PL bh : Nat → Nat} {σ0 σ : St} {W E : List Nat} {cp : Nat → Bool} (hP : PS T NM PL bh σ0 cA i W E cp σ) (hv : vTk (T i)) (h : ¬ T i = 41 ∨ dpt W = 0) : fX12_closes N σ = some (0, σ) := by
  have s1 : fX12_isSign σ 41 = bI (decide (T i = 41)) := sg_e (c := 41) hP.1 hv (by decide) (by decide)
  by_cases q : T i = 41
  · refine (if_neg (by rw [s1]; exact fun z => bI_d.mp z q)).trans (if_pos ?_)
    rw [hP.2.2.2.2.2.2.2.1, h.resolve_left (fun z => z q)]; rfl
  · exact if_pos (by rw [s1]; exact bI_d.mpr q)
theorem cl_v {N : Nat} {σ σ1 σ2 : St} {w d o : Int32} (h1 : ¬ fX12_isSign σ 41 = 0) (h2 : ¬ σ.1 14 = 0) (hd : fX12_doAll N σ 1 = some σ1) (hw : σ1.1 12 - 1 = w) (hdd : σ1.1 14 - 1 = d) (ho : σ1.1 13 - 1 = o) (hd2 : fX12_doAll N (sI (sI (sI σ1 12 w) 14 d) 13 o) 7 = some σ2) : fX12_closes N σ = some (1, σ2) := by
  subst hw
  subst hdd
  subst ho
  exact (if_neg h1).trans ((if_neg h2).trans ((bd_some hd).trans (nm_t (nm_t (nm_t (bd_some hd2))))))
theorem mcl1 {N cA i : Nat} {T NM PL bh : Nat → Nat} {σ0 σ : St} {W1 E1 W E : List Nat} {cp : Nat → Bool} (hN : 200 ≤ N) (hcA : cA + 160 ≤ 1920) (hi : i ≤ 160) (hP : PS T NM PL bh σ0 cA i W1 E1 cp σ) (hv : vTk (T i)) (h41 : T i = 41) (hfl : fl 1 W1 E1 = (40 :: W, E)) : ∃ σ', fX12_closes N σ = some (1, σ') ∧ PS T NM PL bh σ0 cA i (fl 7 W E).1 (fl 7 W E).2 cp σ' := by
  have s1 : fX12_isSign σ 41 = bI (decide (T i = 41)) := sg_e (c := 41) hP.1 hv (by decide) (by decide)
  have ed : dpt W1 = dpt W + 1 := by have := fl_dpt 1 W1 E1; rw [hfl] at this; exact this.symm
  obtain ⟨σ1, d1, d2⟩ := mdoAll (N := N) (r := 1) hN (by omega) hcA hi hP
  rw [hfl] at d2
  have d2 : PS T NM PL bh σ0 cA i (40 :: W) E cp σ1 := d2
  have d1 : fX12_doAll N σ 1 = some σ1 := d1
  obtain ⟨e0, e1, e2, e3, e4, e5, e6, e7, e8, e9, e10, e11, e12, e13, e14⟩ := id d2
  rw [List.length_cons] at e3 e14
  have en : cnO (40 :: W) = cnO W + 1 := rfl
  have edd : dpt (40 :: W) = dpt W + 1 := rfl
  have hP2 : PS T NM PL bh σ0 cA i W E cp (sI (sI (sI σ1 12 (nI W.length)) 14 (nI (dpt W))) 13 (nI (cnO W))) := ⟨e0, frE_I (frE_I (frE_I e1 (by omega) (by omega)) (by omega) (by omega)) (by omega) (by omega), e2, rfl, fun t ht => e4 t (List.mem_cons_of_mem _ ht), fun k t ht => e5 k t (rev_lo ht), rfl, rfl, by omega, e9, e10, e11, e12, fun k hk => e13 k (by omega), by omega⟩
  obtain ⟨σ2, f1, f2⟩ := mdoAll (N := N) (r := 7) hN (by omega) hcA hi hP2
  have h14 : σ.1 14 = nI (dpt W1) := hP.2.2.2.2.2.2.2.1
  have hd5 := dpt_cn W1
  have hc5 : cnO W1 ≤ 5 := hP.2.2.2.2.2.2.2.2.1
  exact ⟨σ2, cl_v (by rw [s1]; exact fun z => bI_d.mp z h41) (by rw [h14]; exact nI_ne0 (by omega) (by omega)) d1 (by rw [e3, nI_pred]) (by rw [e7, edd, nI_pred]) (by rw [e6, en, nI_pred]) f1, f2⟩
