/-! PURE: what a SPAN HAS in a DAY -/
def hsL (n : Nat) (σm : St) (span day : Int32) : Nat → Nat → Int32 → Int32
  | 0, _, h => h
  | m + 1, i, h => if σm.2.1 23 i = span ∧ (¬ h = 1) ∧ fB n σm day i = true then hsL n σm span day m (i + 1) (if σm.2.1 22 i = 4 then 2 else 1) else hsL n σm span day m (i + 1) h
theorem hsL_1 {n : Nat} {σm : St} {span day : Int32} : ∀ (m i : Nat), hsL n σm span day m i 1 = 1
  | 0, _ => rfl
  | m + 1, i => by
    unfold hsL
    rw [if_neg (fun q => q.2.1 rfl)]
    exact hsL_1 m (i + 1)
def hasS (n nL : Nat) (σm : St) (span day : Int32) : Int32 := hsL n σm span day nL 0 0
theorem mhas_loop {N n nT nP nL : Nat} {σx σm : St} {span day : Int32} (hc : I_const σm) (hs : I_sale n σx σm) (hl : I_line nT nP σx σm) (h : I_leaf nP nL σx σm) (hN : 41 ≤ N) : ∀ (m f i : Nat) (hh : Int32), i + m = nL → m < f → fX12_hasIn_5 N σm f span day hh (nI i) = some (hsL n σm span day m i hh) := by
  intro m
  induction m with
  | zero =>
    intro f i hh hi hf
    cases f with
    | zero => omega
    | succ f =>
      show fX12_hasIn_5b N σm (fX12_hasIn_5 N σm f) span day hh (nI i) = _
      unfold fX12_hasIn_5b
      rw [h.2.2.1, if_pos (nI_le (by omega) (by have := h.1; omega))]
      rfl
  | succ m ih =>
    intro f i hh hi hf
    cases f with
    | zero => omega
    | succ f =>
      have hk : i < nL := by omega
      have hL := h.1
      show fX12_hasIn_5b N σm (fX12_hasIn_5 N σm f) span day hh (nI i) = _
      unfold fX12_hasIn_5b fX12_hasIn_56 fX12_hasIn_57 nm
      rw [h.2.2.1, if_neg (nI_ge hk (by omega)), mforce hc hs hl h hN hk]
      simp only [ix_nI (show i < 24 by omega) (by decide), aR_nI (show i < 2 ^ 31 by omega), if_true, nI_1 i, bd]
      unfold hsL
      by_cases h1 : σm.2.1 23 i = span
      · by_cases h2 : hh = 1
        · rw [if_pos h1, if_pos h2, if_neg (fun q => q.2.1 h2)]
          exact ih f (i + 1) hh (by omega) (by omega)
        · rw [if_pos h1, if_neg h2]
          cases hb : fB n σm day i with
          | false =>
            rw [if_pos (show bI false = 0 from rfl), if_neg (fun q => by cases q.2.2)]
            exact ih f (i + 1) hh (by omega) (by omega)
          | true =>
            rw [if_neg (show ¬ bI true = 0 from by decide), if_pos (show σm.2.1 23 i = span ∧ (¬ hh = 1) ∧ true = true from ⟨h1, h2, rfl⟩)]
            by_cases h4 : σm.2.1 22 i = 4
            · rw [if_pos h4, if_pos h4]; exact ih f (i + 1) 2 (by omega) (by omega)
            · rw [if_neg h4, if_neg h4]; exact ih f (i + 1) 1 (by omega) (by omega)
      · rw [if_neg h1, if_neg (fun q => h1 q.1)]
        exact ih f (i + 1) hh (by omega) (by omega)
theorem mhas {N n nT nP nL : Nat} {σx σm : St} {span day : Int32} (hc : I_const σm) (hs : I_sale n σx σm) (hl : I_line nT nP σx σm) (h : I_leaf nP nL σx σm) (hN : 41 ≤ N) : fX12_hasIn N σm span day = some (hasS n nL σm span day) := by
  unfold fX12_hasIn
  exact mhas_loop hc hs hl h hN nL N 0 0 (by omega) (by have := h.1; omega)
theorem xhas_loop {N n nP nL : Nat} {σx σm : St} {span day : Int32} {g : Nat → Int32} (h : I_leaf nP nL σx σm) (hsp : ¬ span = -1) (hg : ∀ k, k < nL → g k = bI (aB σm span k && fB n σm day k)) : ∀ (m f i : Nat) (hh : Int32), i + m = nL → m < f → ¬ hh = 1 → fX5_hasOn_11 N f (sA σx 50 g) hh (nI i) = some (hsL n σm span day m i hh, sA σx 50 g) := by
  intro m
  induction m with
  | zero =>
    intro f i hh hi hf _
    cases f with
    | zero => omega
    | succ f =>
      show fX5_hasOn_11b N (fX5_hasOn_11 N f) (sA σx 50 g) hh (nI i) = _
      unfold fX5_hasOn_11b
      rw [show (sA σx 50 g).1 4 = σx.1 4 from rfl, h.2.1, if_pos (nI_le (by omega) (by have := h.1; omega))]
      rfl
  | succ m ih =>
    intro f i hh hi hf hne
    cases f with
    | zero => omega
    | succ f =>
      have hk : i < nL := by omega
      have hL := h.1
      have e42 := (h.2.2.2.1 i hk).1
      show fX5_hasOn_11b N (fX5_hasOn_11 N f) (sA σx 50 g) hh (nI i) = _
      unfold fX5_hasOn_11b fX5_hasOn_43 fX5_hasOn_55 nm
      simp only [ix_nI (show i < 24 by omega) (by decide), aR_nI (show i < 2 ^ 31 by omega), if_true, nI_1 i]
      rw [show (sA σx 50 g).1 4 = σx.1 4 from rfl, h.2.1, if_neg (nI_ge hk (by omega)), show (sA σx 50 g).2.1 50 i = g i from rfl, show (sA σx 50 g).2.1 42 i = σx.2.1 42 i from rfl, e42, hg i hk]
      have ea : aB σm span i = decide (σm.2.1 23 i = span) := by unfold aB; rw [decide_eq_false hsp, Bool.false_or]
      unfold hsL
      rw [ea]
      by_cases h1 : σm.2.1 23 i = span
      · cases hb : fB n σm day i with
        | false =>
          rw [Bool.and_false, if_pos (show bI false = 0 from rfl), if_pos (show bI false = 0 from rfl), if_neg (fun q => by cases q.2.2)]
          exact ih f (i + 1) hh (by omega) (by omega) hne
        | true =>
          rw [decide_eq_true h1, Bool.and_true, if_neg (show ¬ bI true = 0 from by decide), if_neg (show ¬ bI true = 0 from by decide), if_pos (show σm.2.1 23 i = span ∧ (¬ hh = 1) ∧ true = true from ⟨h1, hne, rfl⟩)]
          by_cases h4 : σm.2.1 22 i = 4
          · rw [if_pos h4, if_pos h4]; exact ih f (i + 1) 2 (by omega) (by omega) (by decide)
          · rw [if_neg h4, if_neg h4, hsL_1]
      · rw [decide_eq_false h1, Bool.false_and, if_pos (show bI false = 0 from rfl), if_pos (show bI false = 0 from rfl), if_neg (fun q => h1 q.1)]
        exact ih f (i + 1) hh (by omega) (by omega) hne
/-- the class's answer is the model's; its marks alone are written -/
theorem xhas {N n nT nP nL : Nat} {σx σm : St} {span day : Int32} (hs : I_sale n σx σm) (hl : I_line nT nP σx σm) (h : I_leaf nP nL σx σm) (hN : 41 ≤ N) (hsp : ¬ span = -1) : ∃ g, fX5_hasOn N σx span day = some (hasS n nL σm span day, sA σx 50 g) := by
  obtain ⟨g, h1, h2⟩ := xmark (span := span) (day := day) hs hl h hN
  refine ⟨g, ?_⟩
  unfold fX5_hasOn
  rw [h1]
  show fX5_hasOn_11 N N (sA σx 50 g) 0 0 = _
  exact xhas_loop h hsp h2 nL N 0 0 (by omega) (by have := h.1; omega) (by decide)
theorem xforce {N n nT nP nL k : Nat} {σx σm : St} {day : Int32} (hs : I_sale n σx σm) (hl : I_line nT nP σx σm) (h : I_leaf nP nL σx σm) (hN : 41 ≤ N) (hk : k < nL) : ∃ g, fX5_isInForce N σx (nI k) day = some (bI (fB n σm day k), sA σx 50 g) := by
  have hL := h.1
  obtain ⟨sp, hsp, f2, e2⟩ := h.2.2.2.2.1 k hk
  obtain ⟨g, h1, h2⟩ := xmark (span := nI sp) (day := day) hs hl h hN
  refine ⟨g, ?_⟩
  have ev : g k = bI (fB n σm day k) := by
    rw [h2 k hk]
    unfold aB
    rw [decide_eq_true e2, Bool.or_true, Bool.true_and]
  unfold fX5_isInForce
  simp only [ix_nI (show k < 24 by omega) (by decide), aR_nI (show k < 2 ^ 31 by omega), if_true, f2]
  rw [h1]
  unfold bd
  simp only [show (sA σx 50 g).2.1 50 k = g k from rfl, ev]
  rw [if_pos (by cases fB n σm day k <;> rfl)]
