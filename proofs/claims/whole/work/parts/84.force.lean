/-! PURE: LEAVES IN FORCE: the chain against the marks -/
theorem nI_m1 {k : Nat} (h : k < 2 ^ 31) : ¬ nI k = -1 := by
  intro e
  have := congrArg Int32.toInt e
  rw [nI_toInt h] at this
  rw [show (-1 : Int32).toInt = -1 from rfl] at this
  omega
def inT (st : Nat → Bool) (on : Nat → Int32) : Nat → Nat → Bool
  | 0 => fun _ => false
  | n + 1 => fun k => if k = n then st n && (decide (on n = -1) || inT st on n (on n).toNatClampNeg) else inT st on n k
def inF (st : Nat → Bool) (on : Nat → Int32) (k : Nat) : Bool := inT st on (k + 1) k
theorem inT_lt {st : Nat → Bool} {on : Nat → Int32} : ∀ (n k : Nat), k < n → inT st on n k = inF st on k
  | 0, k, h => by omega
  | n + 1, k, h => by
    by_cases e : k = n
    · subst e; rfl
    · have : inT st on (n + 1) k = inT st on n k := by show (if k = n then _ else _) = _; rw [if_neg e]
      rw [this]; exact inT_lt n k (by omega)
theorem inF_m {st : Nat → Bool} {on : Nat → Int32} {k : Nat} (h : on k = -1) : inF st on k = st k := by
  unfold inF inT; simp [h]
theorem inF_j {st : Nat → Bool} {on : Nat → Int32} {k j : Nat} (h : on k = nI j) (hj : j < k) (hk : k < 2 ^ 31) : inF st on k = (st k && inF st on j) := by
  have h1 : inF st on k = (st k && (decide (on k = -1) || inT st on k (on k).toNatClampNeg)) := by unfold inF; show (if k = k then _ else _) = _; rw [if_pos rfl]
  rw [h1, h, nI_clamp (by omega), inT_lt k j hj, decide_eq_false (nI_m1 (by omega)), Bool.false_or]
/-- a LEAVE stands alone, by its number -/
def sB (n : Nat) (σm : St) (day : Int32) (k : Nat) : Bool := stB n σm k (σm.2.1 22 k).toNatClampNeg (σm.2.1 16 (σm.2.1 23 k).toNatClampNeg).toNatClampNeg day
/-- a LEAVE is IN FORCE -/
def fB (n : Nat) (σm : St) (day : Int32) (k : Nat) : Bool := inF (sB n σm day) (σm.2.1 26) k
theorem bI_0 (b : Bool) : (bI b = 0) ↔ b = false := by cases b <;> decide
theorem msB {N n nT nP nL k : Nat} {σx σm : St} {day : Int32} (hc : I_const σm) (hs : I_sale n σx σm) (hl : I_line nT nP σx σm) (h : I_leaf nP nL σx σm) (hN : 41 ≤ N) (hk : k < nL) : fX12_stands N σm (nI k) day = some (bI (sB n σm day k)) := by
  obtain ⟨kd, hkd, e1, -⟩ := kind_of h hk
  obtain ⟨sp, hsp, -, e2⟩ := h.2.2.2.2.1 k hk
  obtain ⟨p, hp, e3, -⟩ := plot_of hl hsp
  have h16 := hl.2.2.2.1
  rw [mstands hc hs hl h hN hk hkd e1 hsp e2 e3]
  unfold sB
  rw [e1, e2, nI_clamp (by omega), nI_clamp (show sp < 2 ^ 31 by omega), e3, nI_clamp (by omega)]
theorem xsB {N n nT nP nL k : Nat} {σx σm : St} {day : Int32} (hs : I_sale n σx σm) (hl : I_line nT nP σx σm) (h : I_leaf nP nL σx σm) (hN : 41 ≤ N) (hk : k < nL) : fX5_standsAlone N σx (nI k) day = some (bI (sB n σm day k)) := by
  obtain ⟨kd, hkd, e1, f1⟩ := kind_of h hk
  obtain ⟨sp, hsp, f2, e2⟩ := h.2.2.2.2.1 k hk
  obtain ⟨p, hp, e3, f3⟩ := plot_of hl hsp
  have h16 := hl.2.2.2.1
  rw [xstands hs hl h hN hk hkd f1 hsp f2 f3]
  unfold sB
  rw [e1, e2, nI_clamp (by omega), nI_clamp (show sp < 2 ^ 31 by omega), e3, nI_clamp (by omega)]
theorem mforce_loop {N n nT nP nL : Nat} {σx σm : St} {day : Int32} (hc : I_const σm) (hs : I_sale n σx σm) (hl : I_line nT nP σx σm) (h : I_leaf nP nL σx σm) (hN : 41 ≤ N) : ∀ (f k : Nat), k < nL → k + 1 < f → fX12_isInForce_2 N σm f day (nI k) = some (bI (fB n σm day k)) := by
  intro f
  induction f with
  | zero => intro k _ hf; omega
  | succ f ih =>
    intro k hk hf
    have h24 : k < 24 := Nat.lt_of_lt_of_le hk h.1
    show fX12_isInForce_2b N σm (fX12_isInForce_2 N σm f) day (nI k) = _
    unfold fX12_isInForce_2b nm
    rw [if_neg (nI_m1 (by omega)), msB hc hs hl h hN hk]
    unfold bd
    simp only [ix_nI h24 (by decide), aR_nI (show k < 2 ^ 31 by omega), if_true]
    rcases (h.2.2.2.2.2.2.2.1 k hk).2 with e | ⟨j, hj, e, -⟩
    · unfold fB
      rw [inF_m e]
      cases hb : sB n σm day k with
      | false => simp [bI]
      | true =>
        rw [if_neg (by decide), e]
        cases f with
        | zero => omega
        | succ f => rfl
    · unfold fB
      rw [inF_j e hj (by omega)]
      cases hb : sB n σm day k with
      | false => simp [bI]
      | true =>
        rw [if_neg (by decide), e, ih j (by omega) (by omega), Bool.true_and]
        rfl
theorem mforce {N n nT nP nL k : Nat} {σx σm : St} {day : Int32} (hc : I_const σm) (hs : I_sale n σx σm) (hl : I_line nT nP σx σm) (h : I_leaf nP nL σx σm) (hN : 41 ≤ N) (hk : k < nL) : fX12_isInForce N σm (nI k) day = some (bI (fB n σm day k)) := by
  unfold fX12_isInForce
  exact mforce_loop hc hs hl h hN N k hk (by have := h.1; omega)
/-- asked for: of one SPAN, or of all -/
def aB (σm : St) (span : Int32) (k : Nat) : Bool := decide (span = -1) || decide (σm.2.1 23 k = span)
theorem sA_sA (σ : St) (k : Nat) (f g : Nat → Int32) : sA (sA σ k f) k g = sA σ k g := by unfold sA; rw [vz_up_up]
theorem xmark_loop {N n nT nP nL : Nat} {σx σm : St} {span day : Int32} (hs : I_sale n σx σm) (hl : I_line nT nP σx σm) (h : I_leaf nP nL σx σm) (hN : 41 ≤ N) : ∀ (m f i : Nat) (g : Nat → Int32), i + m = nL → m < f → (∀ k, k < i → g k = bI (aB σm span k && fB n σm day k)) → ∃ g', fX5_markInForce_2 N f (sA σx 50 g) span day (nI i) = some (sA σx 50 g') ∧ ∀ k, k < nL → g' k = bI (aB σm span k && fB n σm day k) := by
  intro m
  induction m with
  | zero =>
    intro f i g hi hf hg
    cases f with
    | zero => omega
    | succ f =>
      refine ⟨g, ?_, fun k hk => hg k (by omega)⟩
      show fX5_markInForce_2b N (fX5_markInForce_2 N f) (sA σx 50 g) span day (nI i) = _
      unfold fX5_markInForce_2b
      rw [show (sA σx 50 g).1 4 = σx.1 4 from rfl, h.2.1, if_pos (nI_le (by omega) (by have := h.1; omega))]
  | succ m ih =>
    intro f i g hi hf hg
    cases f with
    | zero => omega
    | succ f =>
      have hk : i < nL := by omega
      have hL := h.1
      have h24 : i < 24 := by omega
      have hst : fX5_standsAlone N (sA σx 50 g) (nI i) day = some (bI (sB n σm day i)) := xsB (σx := sA σx 50 g) hs hl h hN hk
      have e43 : σx.2.1 43 i = σm.2.1 23 i := by obtain ⟨sp, -, f2, e2⟩ := h.2.2.2.2.1 i hk; rw [f2, e2]
      have e46 := (h.2.2.2.2.2.2.2.1 i hk).1
      have done : ∀ v : Int32, v = bI (aB σm span i && fB n σm day i) → ∃ g', fX5_markInForce_2 N f (aW (sA σx 50 g) 50 (nI i) v) span day (nI i + 1) = some (sA σx 50 g') ∧ ∀ k, k < nL → g' k = bI (aB σm span k && fB n σm day k) := by
        intro v hv
        have e : aW (sA σx 50 g) 50 (nI i) v = sA σx 50 (upd g i v) := by
          show sA (sA σx 50 g) 50 (upd g (nI i).toNatClampNeg v) = _
          rw [sA_sA, nI_clamp (by omega)]
        rw [e, nI_1]
        refine ih f (i + 1) (upd g i v) (by omega) (by omega) (fun k hk2 => ?_)
        by_cases ek : k = i
        · subst ek; unfold upd; rw [if_pos rfl]; exact hv
        · unfold upd; rw [if_neg ek]; exact hg k (by omega)
      show ∃ g', fX5_markInForce_2b N (fX5_markInForce_2 N f) (sA σx 50 g) span day (nI i) = some (sA σx 50 g') ∧ _
      unfold fX5_markInForce_2b fX5_markInForce_25 fX5_markInForce_30 fX5_markInForce_56 fX5_markInForce_61 fX5_markInForce_91 fX5_markInForce_92 nm
      simp only [ix_nI h24 (by decide), aR_nI (show i < 2 ^ 31 by omega), if_true, hst, bd, show vp_nar .boolean 0 = 0 from rfl, show vp_nar .boolean 1 = 1 from rfl]
      rw [show (sA σx 50 g).1 4 = σx.1 4 from rfl, h.2.1, if_neg (nI_ge hk (by omega))]
      rw [show (sA σx 50 g).2.1 43 i = σx.2.1 43 i from rfl, show (sA σx 50 g).2.1 46 i = σx.2.1 46 i from rfl, e43, e46]
      have z1 : ¬ (1 : Int32) = 0 := by decide
      rcases (h.2.2.2.2.2.2.2.1 i hk).2 with e | ⟨j, hj, e, ej⟩
      · have ef : fB n σm day i = sB n σm day i := inF_m e
        rw [e]
        cases hb : sB n σm day i with
        | false =>
          have hd := done 0 (by rw [ef, hb, Bool.and_false]; rfl)
          by_cases h1 : span = -1
          · simp only [h1, if_true, z1, if_false, show bI false = 0 from rfl] at hd ⊢; exact hd
          · by_cases h2 : σm.2.1 23 i = span
            · simp only [h1, h2, if_true, z1, if_false, show bI false = 0 from rfl] at hd ⊢; exact hd
            · simp only [h1, h2, if_true, z1, if_false, show bI false = 0 from rfl] at hd ⊢; exact hd
        | true =>
          by_cases h1 : span = -1
          · have hd := done 1 (by rw [ef, hb]; unfold aB; rw [decide_eq_true h1]; rfl)
            simp only [h1, if_true, z1, if_false, show ¬ bI true = 0 from by decide] at hd ⊢; exact hd
          · by_cases h2 : σm.2.1 23 i = span
            · have hd := done 1 (by rw [ef, hb]; unfold aB; rw [decide_eq_true h2, Bool.or_true]; rfl)
              simp only [h1, h2, if_true, z1, if_false, show ¬ bI true = 0 from by decide] at hd ⊢; exact hd
            · have hd := done 0 (by rw [ef, hb]; unfold aB; rw [decide_eq_false h1, decide_eq_false h2]; rfl)
              simp only [h1, h2, if_true, z1, if_false] at hd ⊢; exact hd
      · have ef : fB n σm day i = (sB n σm day i && fB n σm day j) := inF_j e hj (by omega)
        have ea : aB σm span j = aB σm span i := by unfold aB; rw [ej]
        have eg : g j = bI (aB σm span i && fB n σm day j) := by rw [hg j hj, ea]
        rw [e, if_neg (nI_m1 (k := j) (by omega))]
        simp only [ix_nI (show j < 24 by omega) (by decide), aR_nI (show j < 2 ^ 31 by omega), if_true]
        rw [show (sA σx 50 g).2.1 50 j = g j from rfl, eg]
        by_cases ha : aB σm span i = true
        · rw [ha, Bool.true_and]
          have hsel : span = -1 ∨ σm.2.1 23 i = span := by
            unfold aB at ha
            rcases Bool.or_eq_true_iff.mp ha with q | q
            · exact Or.inl (of_decide_eq_true q)
            · exact Or.inr (of_decide_eq_true q)
          have red : ∀ X Y : Option St, (if span = -1 then X else if σm.2.1 23 i = span then X else Y) = X := by
            intro X Y
            rcases hsel with q | q
            · rw [if_pos q]
            · by_cases q2 : span = -1
              · rw [if_pos q2]
              · rw [if_neg q2, if_pos q]
          rw [red]
          cases hf2 : fB n σm day j with
          | false =>
            have hd := done 0 (by rw [ef, hf2, Bool.and_false, Bool.and_false]; rfl)
            simp only [show bI false = 0 from rfl, if_true, z1, if_false] at hd ⊢; exact hd
          | true =>
            cases hb : sB n σm day i with
            | false =>
              have hd := done 0 (by rw [ef, hb, Bool.false_and, Bool.and_false]; rfl)
              simp only [show bI false = 0 from rfl, show ¬ bI true = 0 from by decide, if_true, z1, if_false] at hd ⊢; exact hd
            | true =>
              have hd := done 1 (by rw [ef, hb, hf2, ha]; rfl)
              simp only [show ¬ bI true = 0 from by decide, if_true, z1, if_false] at hd ⊢; exact hd
        · have ha : aB σm span i = false := by cases hq : aB σm span i with | false => rfl | true => exact absurd hq ha
          have hd := done 0 (by rw [ha, Bool.false_and]; rfl)
          have h1 : ¬ span = -1 := fun q => by unfold aB at ha; rw [decide_eq_true q] at ha; cases ha
          have h2 : ¬ σm.2.1 23 i = span := fun q => by unfold aB at ha; rw [decide_eq_true q, Bool.or_true] at ha; cases ha
          rw [ha, Bool.false_and]
          have hjm := nI_m1 (k := j) (by omega)
          simp only [h1, h2, hjm, show bI false = 0 from rfl, if_true, if_false] at hd ⊢
          exact hd
theorem xmark {N n nT nP nL : Nat} {σx σm : St} {span day : Int32} (hs : I_sale n σx σm) (hl : I_line nT nP σx σm) (h : I_leaf nP nL σx σm) (hN : 41 ≤ N) : ∃ g', fX5_markInForce N σx span day = some (sA σx 50 g') ∧ ∀ k, k < nL → g' k = bI (aB σm span k && fB n σm day k) := by
  obtain ⟨g', h1, h2⟩ := xmark_loop (span := span) (day := day) hs hl h hN nL N 0 (σx.2.1 50) (by omega) (by have := h.1; omega) (fun k hk => by omega)
  rw [sA_self] at h1
  exact ⟨g', h1, h2⟩
