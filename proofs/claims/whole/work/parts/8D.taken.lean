/-! PURE: taken, count -/
def undB (v kd : Nat) : Bool := decide (v = 0 ∨ kd = v ∨ (v = 1 ∧ kd = 3) ∨ (v = 2 ∧ (kd = 4 ∨ kd = 5)))
theorem xund {N m : Nat} {σ : St} : ∀ v kd, v < 6 → kd < 6 → fX5_isUnder_10 N σ (m + 7) (nI v) (nI kd) 0 = some (bI (undB v kd))
  | 0, 0, _, _ => rfl
  | 0, 1, _, _ => rfl
  | 0, 2, _, _ => rfl
  | 0, 3, _, _ => rfl
  | 0, 4, _, _ => rfl
  | 0, 5, _, _ => rfl
  | 1, 0, _, _ => rfl
  | 1, 1, _, _ => rfl
  | 1, 2, _, _ => rfl
  | 1, 3, _, _ => rfl
  | 1, 4, _, _ => rfl
  | 1, 5, _, _ => rfl
  | 2, 0, _, _ => rfl
  | 2, 1, _, _ => rfl
  | 2, 2, _, _ => rfl
  | 2, 3, _, _ => rfl
  | 2, 4, _, _ => rfl
  | 2, 5, _, _ => rfl
  | 3, 0, _, _ => rfl
  | 3, 1, _, _ => rfl
  | 3, 2, _, _ => rfl
  | 3, 3, _, _ => rfl
  | 3, 4, _, _ => rfl
  | 3, 5, _, _ => rfl
  | 4, 0, _, _ => rfl
  | 4, 1, _, _ => rfl
  | 4, 2, _, _ => rfl
  | 4, 3, _, _ => rfl
  | 4, 4, _, _ => rfl
  | 4, 5, _, _ => rfl
  | 5, 0, _, _ => rfl
  | 5, 1, _, _ => rfl
  | 5, 2, _, _ => rfl
  | 5, 3, _, _ => rfl
  | 5, 4, _, _ => rfl
  | 5, 5, _, _ => rfl
  | v + 6, _, h, _ => by omega
  | _, kd + 6, _, h => by omega
theorem mtak {A B : Option Int32} : ∀ v kd, v < 6 → kd < 6 → (if nI v = 0 then A else (if nI kd = nI v then A else (if nI v = 1 then (if nI kd = 3 then A else (if nI v = 2 then (if nI kd = 4 then A else (if nI kd = 5 then A else B)) else B)) else (if nI v = 2 then (if nI kd = 4 then A else (if nI kd = 5 then A else B)) else B)))) = if undB v kd = true then A else B
  | 0, 0, _, _ => rfl
  | 0, 1, _, _ => rfl
  | 0, 2, _, _ => rfl
  | 0, 3, _, _ => rfl
  | 0, 4, _, _ => rfl
  | 0, 5, _, _ => rfl
  | 1, 0, _, _ => rfl
  | 1, 1, _, _ => rfl
  | 1, 2, _, _ => rfl
  | 1, 3, _, _ => rfl
  | 1, 4, _, _ => rfl
  | 1, 5, _, _ => rfl
  | 2, 0, _, _ => rfl
  | 2, 1, _, _ => rfl
  | 2, 2, _, _ => rfl
  | 2, 3, _, _ => rfl
  | 2, 4, _, _ => rfl
  | 2, 5, _, _ => rfl
  | 3, 0, _, _ => rfl
  | 3, 1, _, _ => rfl
  | 3, 2, _, _ => rfl
  | 3, 3, _, _ => rfl
  | 3, 4, _, _ => rfl
  | 3, 5, _, _ => rfl
  | 4, 0, _, _ => rfl
  | 4, 1, _, _ => rfl
  | 4, 2, _, _ => rfl
  | 4, 3, _, _ => rfl
  | 4, 4, _, _ => rfl
  | 4, 5, _, _ => rfl
  | 5, 0, _, _ => rfl
  | 5, 1, _, _ => rfl
  | 5, 2, _, _ => rfl
  | 5, 3, _, _ => rfl
  | 5, 4, _, _ => rfl
  | 5, 5, _, _ => rfl
  | v + 6, _, h, _ => by omega
  | _, kd + 6, _, h => by omega
theorem s_taken {N : Nat} (hN : 41 ≤ N) : SP_taken Inv N := by
  intro σx σm a1 a2 hI
  obtain ⟨κ, hd, hs, hla, hhe, hho, hli, hle, hc, ht, hx, hcl, hlo, hsh⟩ := id hI
  unfold fX11_taken fX12_taken
  rw [isLeave_e hle, isIn_w (x := a2) (a := 0) (b := 5) (A := 0) (B := 5) rfl rfl]
  have h24 := hle.1
  by_cases h1 : fX11_within a2 0 5 = 0
  · simp only [if_pos h1]; exact ⟨_, rfl, rfl, hI⟩
  by_cases h2 : fX5_isLeave σx a1 = 0
  · simp only [if_neg h1, if_pos h2]; exact ⟨_, rfl, rfl, hI⟩
  obtain ⟨v, hv, rfl⟩ := rg_of (hi := 5) (wi_rg (a := 0) (b := 5) h1) (by decide)
  obtain ⟨k, hk, rfl⟩ := leave_of hle h2
  obtain ⟨kd, hkd, e1, f1⟩ := kind_of hle hk
  obtain ⟨sp, hsp, f2, e2⟩ := hle.2.2.2.2.1 k hk
  obtain ⟨m, rfl⟩ : ∃ m, N = m + 7 := ⟨N - 7, by omega⟩
  simp only [if_neg h1, if_neg h2]
  unfold fX5_isUnder fX12_taken_52 fX12_taken_71 fX12_taken_67 fX12_taken_72 nm
  simp only [ix_nI (show k < 24 by omega) (by decide), aR_nI (show k < 2 ^ 31 by omega), if_true, f1, e1, f2, e2, bd, xund v kd (by omega) hkd]
  rw [mtak v kd (by omega) hkd]
  cases undB v kd with
  | true => exact ⟨_, rfl, rfl, hI⟩
  | false => exact ⟨_, rfl, rfl, hI⟩
def cnL (P : Nat → Bool) : Nat → Nat → Int32 → Int32
  | 0, _, c => c
  | m + 1, i, c => cnL P m (i + 1) (if P i then c + 1 else c)
theorem mspans_loop {N nT nP : Nat} {σx σm : St} {w : Int32} {P : Nat → Bool} (hl : I_line nT nP σx σm) (hP : ∀ i, i < nP → (w = 0 ∧ ∃ r, fX12_hasIn N σm (nI i) (σm.1 0) = some r ∧ P i = decide (r = 0)) ∨ (w = 1 ∧ ∃ r, fX12_near N σm (nI i) = some r ∧ P i = decide (¬ (6 : Int32) ≤ r))) : ∀ (m f i : Nat) (c : Int32), i + m = nP → m < f → fX12_spansWith_4 N σm f w c (nI i) = some (cnL P m i c) := by
  intro m
  induction m with
  | zero =>
    intro f i c hi hf
    cases f with
    | zero => omega
    | succ f =>
      show fX12_spansWith_4b N σm (fX12_spansWith_4 N σm f) w c (nI i) = _
      unfold fX12_spansWith_4b
      rw [hl.2.2.2.2.2.1, if_pos (nI_le (by omega) (by have := hl.2.2.2.1; omega))]
      rfl
  | succ m ih =>
    intro f i c hi hf
    cases f with
    | zero => omega
    | succ f =>
      show fX12_spansWith_4b N σm (fX12_spansWith_4 N σm f) w c (nI i) = _
      unfold fX12_spansWith_4b fX12_spansWith_42 fX12_spansWith_46 fX12_spansWith_47 nm
      rw [hl.2.2.2.2.2.1, if_neg (nI_ge (by omega) (by have := hl.2.2.2.1; omega))]
      have h0 := ih f (i + 1) (c + 0) (by omega) (by omega)
      have h1 := ih f (i + 1) (c + 1) (by omega) (by omega)
      unfold cnL
      rcases hP i (by omega) with ⟨rfl, r, e1, e2⟩ | ⟨rfl, r, e1, e2⟩
      · rw [if_pos rfl, e1, e2]
        simp only [bd, nI_1 i]
        by_cases q : r = 0
        · rw [if_pos q, decide_eq_true q]; exact h1
        · rw [if_neg q, decide_eq_false q]; rw [Int32.add_zero] at h0 ⊢; exact h0
      · rw [if_neg (by decide), e1, e2]
        simp only [bd, nI_1 i]
        by_cases q : (6 : Int32) ≤ r
        · rw [if_pos q, decide_eq_false (fun z => z q)]; rw [Int32.add_zero] at h0 ⊢; exact h0
        · rw [if_neg q, decide_eq_true q]; exact h1
theorem xnear_loop {N nT nP : Nat} {σx σm : St} {P : Nat → Bool} (hl : I_line nT nP σx σm) (hP : ∀ i, i < nP → ∃ r, fX6_near N σx (nI i) = some r ∧ P i = decide (¬ (6 : Int32) ≤ r)) : ∀ (m f i : Nat) (c : Int32), i + m = nP → m < f → fX6_tooNearSpans_4 N σx f c (nI i) = some (cnL P m i c) := by
  intro m
  induction m with
  | zero =>
    intro f i c hi hf
    cases f with
    | zero => omega
    | succ f =>
      show fX6_tooNearSpans_4b N σx (fX6_tooNearSpans_4 N σx f) c (nI i) = _
      unfold fX6_tooNearSpans_4b
      rw [hl.2.2.2.2.1, if_pos (nI_le (by omega) (by have := hl.2.2.2.1; omega))]
      rfl
  | succ m ih =>
    intro f i c hi hf
    cases f with
    | zero => omega
    | succ f =>
      show fX6_tooNearSpans_4b N σx (fX6_tooNearSpans_4 N σx f) c (nI i) = _
      unfold fX6_tooNearSpans_4b fX6_tooNearSpans_23 fX6_isTooNear nm
      rw [hl.2.2.2.2.1, if_neg (nI_ge (by omega) (by have := hl.2.2.2.1; omega))]
      have h0 := ih f (i + 1) c (by omega) (by omega)
      have h1 := ih f (i + 1) (c + 1) (by omega) (by omega)
      unfold cnL
      obtain ⟨r, e1, e2⟩ := hP i (by omega)
      rw [e1, e2]
      simp only [bd, nI_1 i]
      by_cases q : (6 : Int32) ≤ r
      · rw [if_pos q, decide_eq_false (fun z => z q)]; exact h0
      · rw [if_neg q, decide_eq_true q]; exact h1
theorem xbare_loop {N d n nT nP nL : Nat} {σx σm : St} (hd : I_day d σx σm) (hs : I_sale n σx σm) (hl : I_line nT nP σx σm) (h : I_leaf nP nL σx σm) (hN : 41 ≤ N) : ∀ (m f i : Nat) (c : Int32) (g : Nat → Int32), i + m = nP → m < f → ∃ g', fX5_bareSpans_4 N f (sA σx 50 g) c (nI i) = some (cnL (fun i => decide (hasS n nL σm (nI i) (σm.1 0) = 0)) m i c, sA σx 50 g') := by
  intro m
  induction m with
  | zero =>
    intro f i c g hi hf
    cases f with
    | zero => omega
    | succ f =>
      refine ⟨g, ?_⟩
      show fX5_bareSpans_4b N (fX5_bareSpans_4 N f) (sA σx 50 g) c (nI i) = _
      unfold fX5_bareSpans_4b
      rw [sA_1, hl.2.2.2.2.1, if_pos (nI_le (by omega) (by have := hl.2.2.2.1; omega))]
      rfl
  | succ m ih =>
    intro f i c g hi hf
    cases f with
    | zero => omega
    | succ f =>
      have h16 := hl.2.2.2.1
      obtain ⟨g2, hg2⟩ := xhas (N := N) (span := nI i) (day := σx.1 0) (σx := sA σx 50 g) (σm := σm) hs hl h hN (nI_m1 (by omega))
      rw [sA_sA] at hg2
      show ∃ g', fX5_bareSpans_4b N (fX5_bareSpans_4 N f) (sA σx 50 g) c (nI i) = _
      unfold fX5_bareSpans_4b fX5_bareSpans_33 nm
      rw [sA_1, hl.2.2.2.2.1, if_neg (nI_ge (by omega) (by omega)), hg2]
      simp only [bd2, nI_1 i]
      have e0 : σx.1 0 = σm.1 0 := hd.2.1.trans hd.2.2.symm
      rw [e0]
      unfold cnL
      by_cases q : hasS n nL σm (nI i) (σm.1 0) = 0
      · simp only [if_pos q, decide_eq_true q, if_true]; exact ih f (i + 1) (c + 1) g2 (by omega) (by omega)
      · simp only [if_neg q, decide_eq_false q, Bool.false_eq_true, if_false]; exact ih f (i + 1) c g2 (by omega) (by omega)
theorem s_count {N : Nat} (hN : 41 ≤ N) : SP_count Inv N := by
  intro σx σm a1 hI
  obtain ⟨κ, hd, hs, hla, hhe, hho, hli, hle, hc, ht, hx, hcl, hlo, hsh⟩ := id hI
  have h16 := hli.2.2.2.1
  unfold fX11_count fX12_count
  rw [hd.2.1, hd.2.2, hs.2.1, hs.2.2.1, hli.2.1, hli.2.2.1, hli.2.2.2.2.1, hli.2.2.2.2.2.1, hle.2.1, hle.2.2.1, hcl.2.1, hcl.2.2.1, hlo.2.1, hlo.2.2.1, hx.2.1, hx.2.2.1, ht.2.1, ht.2.2.1, hx.2.2.2.2.1, hx.2.2.2.2.2.1]
  by_cases q0 : a1 = 0
  · simp only [if_pos q0]; exact ⟨_, _, rfl, rfl, hI⟩
  by_cases q1 : a1 = 1
  · simp only [if_neg q0, if_pos q1]; exact ⟨_, _, rfl, rfl, hI⟩
  by_cases q2 : a1 = 2
  · simp only [if_neg q0, if_neg q1, if_pos q2]; exact ⟨_, _, rfl, rfl, hI⟩
  by_cases q3 : a1 = 3
  · simp only [if_neg q0, if_neg q1, if_neg q2, if_pos q3]; exact ⟨_, _, rfl, rfl, hI⟩
  by_cases q4 : a1 = 4
  · simp only [if_neg q0, if_neg q1, if_neg q2, if_neg q3, if_pos q4]; exact ⟨_, _, rfl, rfl, hI⟩
  by_cases q5 : a1 = 5
  · simp only [if_neg q0, if_neg q1, if_neg q2, if_neg q3, if_neg q4, if_pos q5]; exact ⟨_, _, rfl, rfl, hI⟩
  by_cases q6 : a1 = 6
  · simp only [if_neg q0, if_neg q1, if_neg q2, if_neg q3, if_neg q4, if_neg q5, if_pos q6]; exact ⟨_, _, rfl, rfl, hI⟩
  by_cases q7 : a1 = 7
  · simp only [if_neg q0, if_neg q1, if_neg q2, if_neg q3, if_neg q4, if_neg q5, if_neg q6, if_pos q7]; exact ⟨_, _, rfl, rfl, hI⟩
  by_cases q8 : a1 = 8
  · simp only [if_neg q0, if_neg q1, if_neg q2, if_neg q3, if_neg q4, if_neg q5, if_neg q6, if_neg q7, if_pos q8]; exact ⟨_, _, rfl, rfl, hI⟩
  by_cases q9 : a1 = 9
  · simp only [if_neg q0, if_neg q1, if_neg q2, if_neg q3, if_neg q4, if_neg q5, if_neg q6, if_neg q7, if_neg q8, if_pos q9]; exact ⟨_, _, rfl, rfl, hI⟩
  simp only [if_neg q0, if_neg q1, if_neg q2, if_neg q3, if_neg q4, if_neg q5, if_neg q6, if_neg q7, if_neg q8, if_neg q9]
  by_cases qa : a1 = 10
  · simp only [if_pos qa]
    obtain ⟨g', h1⟩ := xbare_loop hd hs hli hle hN (κ 3) N 0 0 (σx.2.1 50) (by omega) (by omega)
    rw [sA_self] at h1
    have h2 := mspans_loop (w := 0) (P := fun i => decide (hasS (κ 1) (κ 4) σm (nI i) (σm.1 0) = 0)) hli (fun i _ => Or.inl ⟨rfl, _, mhas hc hs hli hle hN, rfl⟩) (κ 3) N 0 0 (by omega) (by omega)
    unfold fX5_bareSpans fX12_spansWith
    rw [show fX5_bareSpans_4 N N σx 0 0 = _ from h1, show fX12_spansWith_4 N σm N 0 0 0 = _ from h2]
    exact ⟨_, _, rfl, rfl, κ, hd, hs, hla, hhe, hho, hli, hle, hc, ht, hx, hcl, hlo, hsh⟩
  by_cases qb : a1 = 11
  · simp only [if_neg qa, if_pos qb]
    have hn : ∀ i, ∃ b : Bool, i < κ 3 → ∃ v, fX6_near N σx (nI i) = some v ∧ fX12_near N σm (nI i) = some v ∧ b = decide (¬ (6 : Int32) ≤ v) := by
      intro i
      by_cases q : i < κ 3
      · obtain ⟨v, e1, e2⟩ := near_e (N := N) hd hla hli q
        exact ⟨_, fun _ => ⟨v, e1, e2, rfl⟩⟩
      · exact ⟨false, fun z => absurd z q⟩
    have h1 := xnear_loop (P := fun i => Classical.choose (hn i)) hli (fun i hi => by obtain ⟨v, e1, e2, e3⟩ := Classical.choose_spec (hn i) hi; exact ⟨v, e1, e3⟩) (κ 3) N 0 0 (by omega) (by omega)
    have h2 := mspans_loop (w := 1) (P := fun i => Classical.choose (hn i)) hli (fun i hi => Or.inr (by obtain ⟨v, e1, e2, e3⟩ := Classical.choose_spec (hn i) hi; exact ⟨rfl, v, e2, e3⟩)) (κ 3) N 0 0 (by omega) (by omega)
    unfold fX6_tooNearSpans fX12_spansWith
    rw [show fX6_tooNearSpans_4 N σx N 0 0 = _ from h1, show fX12_spansWith_4 N σm N 1 0 0 = _ from h2]
    exact ⟨_, _, rfl, rfl, hI⟩
  · simp only [if_neg qa, if_neg qb]; exact ⟨_, _, rfl, rfl, hI⟩
