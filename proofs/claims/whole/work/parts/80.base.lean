/-! PURE: numbers, ranges, the small tests of both sides -/
theorem wi_ne {x a b : Int32} : (¬ fX11_within x a b = 0) ↔ (a ≤ x ∧ x ≤ b) := by
  unfold fX11_within
  by_cases h1 : x < a
  · simp [h1]
    intro h; exact absurd h1 (Int32.not_lt.mpr h)
  · by_cases h2 : b < x
    · simp [h1, h2]
    · simp [h1, h2]
      exact ⟨Int32.not_lt.mp h1, Int32.not_lt.mp h2⟩
theorem wi_eq {x a b : Int32} : (fX11_within x a b = 0) ↔ ¬ (a ≤ x ∧ x ≤ b) := by
  rw [← wi_ne]; exact Decidable.not_not.symm
theorem wi_01 (x a b : Int32) : fX11_within x a b = 0 ∨ fX11_within x a b = 1 := by
  unfold fX11_within
  by_cases h1 : x < a
  · simp [h1]
  · by_cases h2 : b < x <;> simp [h1, h2]
theorem isIn_w {x a b : Int32} {A B : Int64} (ha : a.toInt64 = A) (hb : b.toInt64 = B) : fX12_isIn x.toInt64 A B = fX11_within x a b := by
  subst ha; subst hb
  unfold fX12_isIn fX11_within
  have e1 : (lg_cmp x.toInt64 a.toInt64 < 0) ↔ x < a := by
    unfold lg_cmp
    simp only [gt_iff_lt, Int64.lt_iff_toInt_lt, Int32.lt_iff_toInt_lt, ← Int64.toInt_inj, Int32.toInt_toInt64]
    by_cases h1 : a.toInt < x.toInt
    · simp [h1]; omega
    · by_cases h2 : x.toInt = a.toInt
      · simp [h2]
      · simp [h1, h2]; omega
  have e2 : (0 < lg_cmp x.toInt64 b.toInt64) ↔ b < x := by
    unfold lg_cmp
    simp only [gt_iff_lt, Int64.lt_iff_toInt_lt, Int32.lt_iff_toInt_lt, ← Int64.toInt_inj, Int32.toInt_toInt64]
    by_cases h1 : b.toInt < x.toInt
    · simp [h1]
    · by_cases h2 : x.toInt = b.toInt
      · simp [h2]
      · simp [h1, h2]
  by_cases h1 : x < a
  · rw [if_pos (e1.mpr h1), if_pos h1]
  · rw [if_neg (fun h => h1 (e1.mp h)), if_neg h1]
    by_cases h2 : b < x
    · rw [if_pos (e2.mpr h2), if_pos h2]
    · rw [if_neg (fun h => h2 (e2.mp h)), if_neg h2]
theorem isPlot_e (x : Int32) : fX12_isPlot x = fX11_isPlot x := isIn_w (a := 0) (b := 47) rfl rfl
theorem isOwner_e (x : Int32) : fX12_isOwner x = fX11_isOwner x := isIn_w (a := 0) (b := 9) rfl rfl
theorem isDay_e (x : Int32) : fX12_isDay x = fX11_isDay x := isIn_w (a := 0) (b := 9999) rfl rfl
theorem isSheet_e (x : Int32) : fX12_isSheet x = fX9_isSheet x := isIn_w (a := 0) (b := 3) rfl rfl
def rg (lo hi : Int) (x : Int32) : Prop := lo ≤ x.toInt ∧ x.toInt ≤ hi
def eqR (n : Nat) (lo hi : Int) (f g : Nat → Int32) : Prop := ∀ k, k < n → f k = g k ∧ rg lo hi (f k)
theorem rg_nI {n : Nat} {hi : Int} (h : (n : Int) ≤ hi) (h2 : n < 2 ^ 31) : rg 0 hi (nI n) := by
  unfold rg; rw [nI_toInt h2]; omega
theorem rg_of {x : Int32} {hi : Nat} (h : rg 0 hi x) (h2 : hi < 2 ^ 31) : ∃ k, k ≤ hi ∧ x = nI k := by
  obtain ⟨h0, h1⟩ := h
  refine ⟨x.toInt.toNat, by omega, ?_⟩
  apply Int32.toInt_inj.mp
  rw [nI_toInt (by omega)]
  omega
theorem wi_rg {x a b : Int32} (h : ¬ fX11_within x a b = 0) : rg a.toInt b.toInt x := by
  have := wi_ne.mp h
  exact ⟨Int32.le_iff_toInt_le.mp this.1, Int32.le_iff_toInt_le.mp this.2⟩
theorem pl_of {x : Int32} (h : ¬ fX11_isPlot x = 0) : ∃ k, k < 48 ∧ x = nI k := by
  obtain ⟨k, h1, h2⟩ := rg_of (hi := 47) (wi_rg (a := 0) (b := 47) h) (by decide)
  exact ⟨k, by omega, h2⟩
theorem ow_of {x : Int32} (h : ¬ fX11_isOwner x = 0) : ∃ k, k < 10 ∧ x = nI k := by
  obtain ⟨k, h1, h2⟩ := rg_of (hi := 9) (wi_rg (a := 0) (b := 9) h) (by decide)
  exact ⟨k, by omega, h2⟩
theorem da_of {x : Int32} (h : ¬ fX11_isDay x = 0) : ∃ k, k ≤ 9999 ∧ x = nI k := rg_of (hi := 9999) (wi_rg (a := 0) (b := 9999) h) (by decide)
theorem ix_nI {k n : Nat} (h : k < n) (hn : n < 2 ^ 31) : ix (nI k) n = true := decide_eq_true (vp_in_nI h hn)
theorem aR_nI {σ : St} {c k : Nat} (h : k < 2 ^ 31) : aR σ c (nI k) = σ.2.1 c k := by show σ.2.1 c (nI k).toNatClampNeg = _; rw [nI_clamp h]
