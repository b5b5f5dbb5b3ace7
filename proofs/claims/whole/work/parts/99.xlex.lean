/-! PURE: TEXT: the class splits THE TAPE -/
def tpX (b : Nat → Nat) (nB : Nat) (σ : St) : Prop := nB ≤ 160 ∧ σ.1 5 = nI nB ∧ ∀ k, k < nB → σ.2.1 51 k = nI (b k) ∧ b k < 256
theorem xch : ∀ x : Fin 256, fX8_isLetter (nI x.val) = bI (isL x.val) ∧ fX8_isDigit (nI x.val) = bI (isD x.val) ∧ fX8_isSign (nI x.val) = bI (isS x.val) := by decide +kernel
theorem nI_subN {a c : Nat} (h : c ≤ a) : nI a - nI c = nI (a - c) := by
  obtain ⟨d, rfl⟩ : ∃ d, a = d + c := ⟨a - c, by omega⟩
  rw [← nI_add, Int32.add_sub_cancel, Nat.add_sub_cancel]
theorem bI_t {s : Bool} (h : s = true) : ¬ bI s = 0 := by rw [h]; decide
theorem bb_s {N f : Nat} {σ : St} {x2 : Int32} : fX8_behindBlanks_2 N σ (f + 1) x2 = fX8_behindBlanks_2b N σ (fX8_behindBlanks_2 N σ f) x2 := rfl
theorem bb_e {N : Nat} {σ : St} {k2 : Int32 → Option Int32} {x2 : Int32} (h : σ.1 5 ≤ x2) : fX8_behindBlanks_2b N σ k2 x2 = some x2 := if_pos h
theorem bb_y {N : Nat} {σ : St} {k2 : Int32 → Option Int32} {x2 v y : Int32} (h : ¬ σ.1 5 ≤ x2) (h1 : ix x2 160 = true) (hv : aR σ 51 x2 = v) (hb : v = 32 ∨ v = 10) (hy : x2 + 1 = y) : fX8_behindBlanks_2b N σ k2 x2 = k2 y := by
  subst hv
  subst hy
  refine (if_neg h).trans ((if_pos h1).trans ?_)
  by_cases q : aR σ 51 x2 = 32
  · exact (if_pos q).trans rfl
  · exact (if_neg q).trans ((if_pos h1).trans ((if_pos (hb.resolve_left q)).trans rfl))
theorem bb_n {N : Nat} {σ : St} {k2 : Int32 → Option Int32} {x2 v : Int32} (h : ¬ σ.1 5 ≤ x2) (h1 : ix x2 160 = true) (hv : aR σ 51 x2 = v) (hb : ¬ v = 32) (hb2 : ¬ v = 10) : fX8_behindBlanks_2b N σ k2 x2 = some x2 := by
  subst hv
  exact (if_neg h).trans ((if_pos h1).trans ((if_neg hb).trans ((if_pos h1).trans (if_neg hb2))))
theorem xbl {N nB : Nat} {b : Nat → Nat} {σ : St} (hB : tpX b nB σ) : ∀ (m p f : Nat), p + m = nB → m < f → fX8_behindBlanks_2 N σ f (nI p) = some (nI (sk (fun k => isB (b k)) m p)) := by
  have h160 := hB.1
  intro m
  induction m with
  | zero =>
    intro p f hp hf
    cases f with
    | zero => omega
    | succ f =>
      rw [bb_s, bb_e (by rw [hB.2.1]; exact nI_le (by omega) (by omega))]
      rfl
  | succ m ih =>
    intro p f hp hf
    cases f with
    | zero => omega
    | succ f =>
      obtain ⟨b1, b2⟩ := hB.2.2 p (by omega)
      have x1 : ¬ σ.1 5 ≤ nI p := by rw [hB.2.1]; exact nI_ge (by omega) (by omega)
      have x2 : ix (nI p) 160 = true := ix_nI (by omega) (by decide)
      have x3 : aR σ 51 (nI p) = nI (b p) := by rw [aR_nI (by omega)]; exact b1
      cases hs : isB (b p) with
      | true =>
        have hor : nI (b p) = 32 ∨ nI (b p) = 10 := by
          rcases Bool.or_eq_true_iff.mp hs with z | z
          · exact Or.inl (by rw [of_decide_eq_true z]; rfl)
          · exact Or.inr (by rw [of_decide_eq_true z]; rfl)
        rw [bb_s, bb_y x1 x2 x3 hor (nI_1 p), sk_t (P := fun k => isB (b k)) (p := p) hs]
        exact ih (p + 1) f (by omega) (by omega)
      | false =>
        obtain ⟨z1, z2⟩ := Bool.or_eq_false_iff.mp hs
        rw [bb_s, bb_n x1 x2 x3 (fun z => of_decide_eq_false z1 ((nI_eq (b := 32) (by omega) (by decide)).mp z)) (fun z => of_decide_eq_false z2 ((nI_eq (b := 10) (by omega) (by decide)).mp z)), sk_f (P := fun k => isB (b k)) (p := p) hs]
theorem bl_s {N f : Nat} {σ : St} {x2 : Int32} : fX8_behindLetters_2 N σ (f + 1) x2 = fX8_behindLetters_2b N σ (fX8_behindLetters_2 N σ f) x2 := rfl
theorem bl_e {N : Nat} {σ : St} {k2 : Int32 → Option Int32} {x2 : Int32} (h : σ.1 5 ≤ x2) : fX8_behindLetters_2b N σ k2 x2 = some x2 := if_pos h
theorem bl_y {N : Nat} {σ : St} {k2 : Int32 → Option Int32} {x2 v y : Int32} (h : ¬ σ.1 5 ≤ x2) (h1 : ix x2 160 = true) (hv : aR σ 51 x2 = v) (hb : ¬ fX8_isLetter v = 0) (hy : x2 + 1 = y) : fX8_behindLetters_2b N σ k2 x2 = k2 y := by
  subst hv
  subst hy
  exact (if_neg h).trans ((if_pos h1).trans ((if_neg hb).trans rfl))
theorem bl_n {N : Nat} {σ : St} {k2 : Int32 → Option Int32} {x2 v : Int32} (h : ¬ σ.1 5 ≤ x2) (h1 : ix x2 160 = true) (hv : aR σ 51 x2 = v) (hb : fX8_isLetter v = 0) : fX8_behindLetters_2b N σ k2 x2 = some x2 := by
  subst hv
  exact (if_neg h).trans ((if_pos h1).trans (if_pos hb))
theorem xlt {N nB : Nat} {b : Nat → Nat} {σ : St} (hB : tpX b nB σ) : ∀ (m p f : Nat), p + m = nB → m < f → fX8_behindLetters_2 N σ f (nI p) = some (nI (sk (fun k => isL (b k)) m p)) := by
  have h160 := hB.1
  intro m
  induction m with
  | zero =>
    intro p f hp hf
    cases f with
    | zero => omega
    | succ f =>
      rw [bl_s, bl_e (by rw [hB.2.1]; exact nI_le (by omega) (by omega))]
      rfl
  | succ m ih =>
    intro p f hp hf
    cases f with
    | zero => omega
    | succ f =>
      obtain ⟨b1, b2⟩ := hB.2.2 p (by omega)
      have x1 : ¬ σ.1 5 ≤ nI p := by rw [hB.2.1]; exact nI_ge (by omega) (by omega)
      have x2 : ix (nI p) 160 = true := ix_nI (by omega) (by decide)
      have x3 : aR σ 51 (nI p) = nI (b p) := by rw [aR_nI (by omega)]; exact b1
      have x4 : fX8_isLetter (nI (b p)) = bI (isL (b p)) := (xch ⟨b p, b2⟩).1
      cases hs : isL (b p) with
      | true =>
        rw [bl_s, bl_y x1 x2 x3 (by rw [x4]; exact bI_t hs) (nI_1 p), sk_t (P := fun k => isL (b k)) (p := p) hs]
        exact ih (p + 1) f (by omega) (by omega)
      | false => rw [bl_s, bl_n x1 x2 x3 (by rw [x4, hs]; rfl), sk_f (P := fun k => isL (b k)) (p := p) hs]
theorem bg_s {N f : Nat} {σ : St} {x2 : Int32} : fX8_behindDigits_2 N σ (f + 1) x2 = fX8_behindDigits_2b N σ (fX8_behindDigits_2 N σ f) x2 := rfl
theorem bg_e {N : Nat} {σ : St} {k2 : Int32 → Option Int32} {x2 : Int32} (h : σ.1 5 ≤ x2) : fX8_behindDigits_2b N σ k2 x2 = some x2 := if_pos h
theorem bg_y {N : Nat} {σ : St} {k2 : Int32 → Option Int32} {x2 v y : Int32} (h : ¬ σ.1 5 ≤ x2) (h1 : ix x2 160 = true) (hv : aR σ 51 x2 = v) (hb : ¬ fX8_isDigit v = 0) (hy : x2 + 1 = y) : fX8_behindDigits_2b N σ k2 x2 = k2 y := by
  subst hv
  subst hy
  exact (if_neg h).trans ((if_pos h1).trans ((if_neg hb).trans rfl))
theorem bg_n {N : Nat} {σ : St} {k2 : Int32 → Option Int32} {x2 v : Int32} (h : ¬ σ.1 5 ≤ x2) (h1 : ix x2 160 = true) (hv : aR σ 51 x2 = v) (hb : fX8_isDigit v = 0) : fX8_behindDigits_2b N σ k2 x2 = some x2 := by
  subst hv
  exact (if_neg h).trans ((if_pos h1).trans (if_pos hb))
theorem xdg {N nB : Nat} {b : Nat → Nat} {σ : St} (hB : tpX b nB σ) : ∀ (m p f : Nat), p + m = nB → m < f → fX8_behindDigits_2 N σ f (nI p) = some (nI (sk (fun k => isD (b k)) m p)) := by
  have h160 := hB.1
  intro m
  induction m with
  | zero =>
    intro p f hp hf
    cases f with
    | zero => omega
    | succ f =>
      rw [bg_s, bg_e (by rw [hB.2.1]; exact nI_le (by omega) (by omega))]
      rfl
  | succ m ih =>
    intro p f hp hf
    cases f with
    | zero => omega
    | succ f =>
      obtain ⟨b1, b2⟩ := hB.2.2 p (by omega)
      have x1 : ¬ σ.1 5 ≤ nI p := by rw [hB.2.1]; exact nI_ge (by omega) (by omega)
      have x2 : ix (nI p) 160 = true := ix_nI (by omega) (by decide)
      have x3 : aR σ 51 (nI p) = nI (b p) := by rw [aR_nI (by omega)]; exact b1
      have x4 : fX8_isDigit (nI (b p)) = bI (isD (b p)) := (xch ⟨b p, b2⟩).2.1
      cases hs : isD (b p) with
      | true =>
        rw [bg_s, bg_y x1 x2 x3 (by rw [x4]; exact bI_t hs) (nI_1 p), sk_t (P := fun k => isD (b k)) (p := p) hs]
        exact ih (p + 1) f (by omega) (by omega)
      | false => rw [bg_s, bg_n x1 x2 x3 (by rw [x4, hs]; rfl), sk_f (P := fun k => isD (b k)) (p := p) hs]
theorem na_s {N f : Nat} {σ : St} {x2 x3 x4 : Int32} : fX8_numberAt_5 N σ (f + 1) x2 x3 x4 = fX8_numberAt_5b N σ (fX8_numberAt_5 N σ f) x2 x3 x4 := rfl
theorem na_e {N : Nat} {σ : St} {k5 : Int32 → Int32 → Int32 → Option Int32} {x2 x3 x4 : Int32} (h : x2 ≤ x4) : fX8_numberAt_5b N σ k5 x2 x3 x4 = some x3 := if_pos h
theorem na_k {N : Nat} {σ : St} {k5 : Int32 → Int32 → Int32 → Option Int32} {x2 x3 x4 v y : Int32} (h : ¬ x2 ≤ x4) (h1 : ix x4 160 = true) (hv : (10 : Int32) * x3 + aR σ 51 x4 - 48 = v) (hy : x4 + 1 = y) : fX8_numberAt_5b N σ k5 x2 x3 x4 = k5 x2 v y := by
  subst hv
  subst hy
  exact (if_neg h).trans ((if_pos h1).trans rfl)
theorem nv_step {v c : Nat} (h : 48 ≤ c) : (10 : Int32) * nI v + nI c - 48 = nI (10 * v + (c - 48)) := by
  have e1 : (10 : Int32) * nI v = nI (10 * v) := (Int32.ofNat_mul 10 v).symm
  obtain ⟨d, rfl⟩ : ∃ d, c = d + 48 := ⟨c - 48, by omega⟩
  rw [e1, nI_add, Nat.add_sub_cancel]
  exact (nI_subN (a := 10 * v + (d + 48)) (c := 48) (by omega)).trans (by rw [show 10 * v + (d + 48) - 48 = 10 * v + d by omega])
theorem xnum {N nB p n : Nat} {b : Nat → Nat} {σ : St} (hB : tpX b nB σ) (hn : p + n ≤ nB) (hd : ∀ k, k < n → isD (b (p + k)) = true) : ∀ (m k f : Nat), k + m = n → m < f → fX8_numberAt_5 N σ f (nI (p + n)) (nI (nvD b p k)) (nI (p + k)) = some (nI (nvD b p n)) := by
  have h160 := hB.1
  intro m
  induction m with
  | zero =>
    intro k f hk hf
    cases f with
    | zero => omega
    | succ f =>
      rw [na_s, na_e (nI_le (by omega) (by omega)), show k = n by omega]
  | succ m ih =>
    intro k f hk hf
    cases f with
    | zero => omega
    | succ f =>
      obtain ⟨b1, b2⟩ := hB.2.2 (p + k) (by omega)
      have x3 : aR σ 51 (nI (p + k)) = nI (b (p + k)) := by rw [aR_nI (by omega)]; exact b1
      rw [na_s, na_k (v := nI (nvD b p (k + 1))) (y := nI (p + (k + 1))) (nI_ge (by omega) (by omega)) (ix_nI (by omega) (by decide)) (by rw [x3]; exact nv_step (isD_r (hd k (by omega))).1) (by rw [nI_1]; rfl)]
      exact ih (k + 1) f (by omega) (by omega)
