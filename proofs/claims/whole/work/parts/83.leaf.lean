/-! PURE: LEAVES: how long, whether one stands alone -/
def I_const (σm : St) : Prop := σm.2.1 20 = mI_20 ∧ σm.2.1 21 = mI_21 ∧ σm.2.1 34 = mI_34 ∧ σm.2.1 35 = mI_35
/-- nL leaves over nP spans -/
def I_leaf (nP nL : Nat) (σx σm : St) : Prop := nL ≤ 24 ∧ σx.1 4 = nI nL ∧ σm.1 4 = nI nL ∧ eqR nL 0 5 (σx.2.1 42) (σm.2.1 22) ∧ (∀ k, k < nL → ∃ sp, sp < nP ∧ σx.2.1 43 k = nI sp ∧ σm.2.1 23 k = nI sp) ∧ eqR nL 0 99999 (σx.2.1 44) (σm.2.1 24) ∧ eqR nL 0 9999 (σx.2.1 45) (σm.2.1 25) ∧
  (∀ k, k < nL → σx.2.1 46 k = σm.2.1 26 k ∧ (σm.2.1 26 k = -1 ∨ ∃ j, j < k ∧ σm.2.1 26 k = nI j ∧ σm.2.1 23 j = σm.2.1 23 k)) ∧ eqR 24 0 5 (σx.2.1 47) (σm.2.1 27) ∧ eqR nL (-1) 9999 (σx.2.1 48) (σm.2.1 29) ∧ eqR 24 0 1 (σx.2.1 49) (σm.2.1 28) ∧ (∀ k, nL ≤ k → k < 24 → σx.2.1 47 k = 0 ∧ σx.2.1 49 k = 0)
theorem mI20 : ∀ k, k < 6 → mI_20 k = stT 2 k := by decide +kernel
theorem mI21 : ∀ k, k < 6 → mI_21 k = stT 3 k := by decide +kernel
theorem kind_of {nP nL k : Nat} {σx σm : St} (h : I_leaf nP nL σx σm) (hk : k < nL) : ∃ kd, kd < 6 ∧ σm.2.1 22 k = nI kd ∧ σx.2.1 42 k = nI kd := by
  obtain ⟨v, -, h1, h2, h3⟩ := eqR.of (lo := 0) (hi := 5) h.2.2.2.1 hk (by decide)
  exact ⟨v, by omega, h3, h2⟩
def laS (σm : St) (k kd : Nat) : Int32 := stT 2 kd * (1 + σm.2.1 27 k)
theorem mlasts {N k kd : Nat} {σm : St} (hc : I_const σm) (hk : k < 24) (hkd : kd < 6) (e : σm.2.1 22 k = nI kd) : fX12_lastsOf N σm (nI k) = some (laS σm k kd) := by
  unfold fX12_lastsOf laS
  simp only [ix_nI hk (by decide), aR_nI (show k < 2 ^ 31 by omega), if_true, e, ix_nI hkd (by decide), aR_nI (show kd < 2 ^ 31 by omega), hc.1, mI20 kd hkd]
theorem xlasts {N nP nL k kd : Nat} {σx σm : St} (h : I_leaf nP nL σx σm) (hk : k < nL) (hkd : kd < 6) (e : σx.2.1 42 k = nI kd) : fX5_lasts N σx (nI k) = some (laS σm k kd) := by
  have h24 : k < 24 := Nat.lt_of_lt_of_le hk h.1
  unfold fX5_lasts laS
  simp only [ix_nI h24 (by decide), aR_nI (show k < 2 ^ 31 by omega), if_true, e, ix_nI hkd (by decide), nI_clamp (show kd < 2 ^ 31 by omega), (h.2.2.2.2.2.2.2.2.1 k h24).1]
def bI (b : Bool) : Int32 := if b then 1 else 0
/-- a LEAVE stands alone in a DAY (n sales; its kind kd, its plot p) -/
def stB (n : Nat) (σm : St) (k kd p : Nat) (day : Int32) : Bool := decide (σm.2.1 25 k ≤ day) && (decide (day < σm.2.1 25 k + laS σm k kd) && ((decide (σm.2.1 29 k = -1) || decide (day < σm.2.1 29 k)) && (decide (stT 3 kd = 1) || decide (owS n σm (nI p) day = owS n σm (nI p) (σm.2.1 25 k)))))
theorem xstands {N n nT nP nL k kd p sp : Nat} {σx σm : St} {day : Int32} (hs : I_sale n σx σm) (hl : I_line nT nP σx σm) (h : I_leaf nP nL σx σm) (hN : 41 ≤ N) (hk : k < nL) (hkd : kd < 6) (e : σx.2.1 42 k = nI kd) (hsp : sp < nP) (es : σx.2.1 43 k = nI sp) (ep : σx.2.1 37 sp = nI p) : fX5_standsAlone N σx (nI k) day = some (bI (stB n σm k kd p day)) := by
  have h24 : k < 24 := Nat.lt_of_lt_of_le hk h.1
  have h16 : sp < 16 := Nat.lt_of_lt_of_le hsp hl.2.2.2.1
  have eb := (h.2.2.2.2.2.2.1 k hk).1
  have eu := (h.2.2.2.2.2.2.2.2.2.1 k hk).1
  unfold fX5_standsAlone fX5_standsAlone_47 nm
  simp only [ix_nI h24 (by decide), aR_nI (show k < 2 ^ 31 by omega), if_true, e, ix_nI hkd (by decide), nI_clamp (show kd < 2 ^ 31 by omega), es, ix_nI h16 (by decide), aR_nI (show sp < 2 ^ 31 by omega), ep, eb, eu]
  rw [xlasts h hk hkd e, xown hs hN, xown hs hN]
  unfold bd stB
  generalize stT 3 kd = z3
  by_cases h1 : day < σm.2.1 25 k
  · have h1' : ¬ σm.2.1 25 k ≤ day := fun q => Int32.not_lt.mpr q h1
    simp [h1, h1', bI]
  · have h1' : σm.2.1 25 k ≤ day := Int32.not_lt.mp h1
    by_cases h2 : day < σm.2.1 25 k + laS σm k kd
    · by_cases h3 : σm.2.1 29 k = -1
      · by_cases h5 : z3 = 1
        · simp [h1, h1', h2, h3, h5, bI]
        · by_cases h6 : owS n σm (nI p) day = owS n σm (nI p) (σm.2.1 25 k)
          · simp [h1, h1', h2, h3, h5, h6, bI]
          · simp [h1, h1', h2, h3, h5, h6, bI]
      · by_cases h4 : day < σm.2.1 29 k
        · by_cases h5 : z3 = 1
          · simp [h1, h1', h2, h3, h4, h5, bI]
          · by_cases h6 : owS n σm (nI p) day = owS n σm (nI p) (σm.2.1 25 k)
            · simp [h1, h1', h2, h3, h4, h5, h6, bI]
            · simp [h1, h1', h2, h3, h4, h5, h6, bI]
        · simp [h1, h1', h2, h3, h4, bI]
    · simp [h1, h1', h2, bI]
theorem mstands {N n nT nP nL k kd p sp : Nat} {σx σm : St} {day : Int32} (hc : I_const σm) (hs : I_sale n σx σm) (hl : I_line nT nP σx σm) (h : I_leaf nP nL σx σm) (hN : 41 ≤ N) (hk : k < nL) (hkd : kd < 6) (e : σm.2.1 22 k = nI kd) (hsp : sp < nP) (es : σm.2.1 23 k = nI sp) (ep : σm.2.1 16 sp = nI p) : fX12_stands N σm (nI k) day = some (bI (stB n σm k kd p day)) := by
  have h24 : k < 24 := Nat.lt_of_lt_of_le hk h.1
  have h16 : sp < 16 := Nat.lt_of_lt_of_le hsp hl.2.2.2.1
  unfold fX12_stands fX12_stands_42 fX12_stands_43 fX12_stands_80 fX12_stands_85 nm
  simp only [ix_nI h24 (by decide), aR_nI (show k < 2 ^ 31 by omega), if_true, e, ix_nI hkd (by decide), es, ix_nI h16 (by decide), aR_nI (show sp < 2 ^ 31 by omega), ep, aR_nI (show kd < 2 ^ 31 by omega), hc.2.1, mI21 kd hkd]
  rw [mlasts hc h24 hkd e, mown hs hN, mown hs hN]
  unfold bd stB
  generalize stT 3 kd = z3
  have z1 : ¬ (1 : Int32) = 0 := by decide
  by_cases h1 : day < σm.2.1 25 k
  · have h1' : ¬ σm.2.1 25 k ≤ day := fun q => Int32.not_lt.mpr q h1
    by_cases h5 : z3 = 1
    · simp [h1, h1', h5, bI]
    · by_cases h6 : owS n σm (nI p) day = owS n σm (nI p) (σm.2.1 25 k) <;> simp [h1, h1', h5, h6, bI]
  · have h1' : σm.2.1 25 k ≤ day := Int32.not_lt.mp h1
    by_cases h2 : day < σm.2.1 25 k + laS σm k kd
    · have h2' : ¬ σm.2.1 25 k + laS σm k kd ≤ day := fun q => Int32.not_lt.mpr q h2
      by_cases h5 : z3 = 1
      · by_cases h3 : σm.2.1 29 k = -1
        · simp [h1, h1', h2, h2', h3, h5, bI]
        · by_cases h4 : day < σm.2.1 29 k
          · have h4' : ¬ σm.2.1 29 k ≤ day := fun q => Int32.not_lt.mpr q h4
            simp [h1, h1', h2, h2', h3, h4, h4', h5, bI]
          · have h4' : σm.2.1 29 k ≤ day := Int32.not_lt.mp h4
            simp [h1, h1', h2, h2', h3, h4, h4', h5, bI]
      · by_cases h6 : owS n σm (nI p) day = owS n σm (nI p) (σm.2.1 25 k)
        · by_cases h3 : σm.2.1 29 k = -1
          · simp [h1, h1', h2, h2', h3, h5, h6, bI]
          · by_cases h4 : day < σm.2.1 29 k
            · have h4' : ¬ σm.2.1 29 k ≤ day := fun q => Int32.not_lt.mpr q h4
              simp [h1, h1', h2, h2', h3, h4, h4', h5, h6, bI]
            · have h4' : σm.2.1 29 k ≤ day := Int32.not_lt.mp h4
              simp [h1, h1', h2, h2', h3, h4, h4', h5, h6, bI]
        · simp [h1, h1', h2, h2', h5, h6, bI]
    · have h2' : σm.2.1 25 k + laS σm k kd ≤ day := Int32.not_lt.mp h2
      by_cases h5 : z3 = 1
      · simp [h1, h1', h2, h2', h5, bI]
      · by_cases h6 : owS n σm (nI p) day = owS n σm (nI p) (σm.2.1 25 k) <;> simp [h1, h1', h2, h2', h5, h6, bI]
