/-! PURE: what both sides hold, part by part; trees, sag, low, near -/
def I_day (d : Nat) (σx σm : St) : Prop := d ≤ 9999 ∧ σx.1 0 = nI d ∧ σm.1 0 = nI d
def I_land (d : Nat) (σx σm : St) : Prop := eqR 48 0 60 (σx.2.1 17) (σm.2.1 5) ∧ eqR 48 0 9999 (σx.2.1 18) (σm.2.1 6) ∧ eqR 48 1 999 (σx.2.1 19) (σm.2.1 7) ∧ eqR 48 0 1 (σx.2.1 20) (σm.2.1 8) ∧ eqR 48 0 40 (σx.2.1 21) (σm.2.1 9) ∧ eqR 48 0 9 (σx.2.1 22) (σm.2.1 10) ∧ eqR 48 0 d (σx.2.1 23) (σm.2.1 11)
/-- rows by their number: the cells stand written, so that what is written elsewhere is seen not to touch them -/
def rH (σ : St) : Nat → Nat → Int32 := fun i => match i with
  | 0 => σ.2.1 25
  | 1 => σ.2.1 26
  | 2 => σ.2.1 27
  | 3 => σ.2.1 28
  | 4 => σ.2.1 29
  | 5 => σ.2.1 30
  | 6 => σ.2.1 31
  | 7 => σ.2.1 32
  | 8 => σ.2.1 33
  | _ => σ.2.1 34
theorem rH_e {σ : St} {i : Nat} (h : i < 10) : rH σ i = σ.2.1 (25 + i) := by
  match i, h with
  | 0, _ => rfl
  | 1, _ => rfl
  | 2, _ => rfl
  | 3, _ => rfl
  | 4, _ => rfl
  | 5, _ => rfl
  | 6, _ => rfl
  | 7, _ => rfl
  | 8, _ => rfl
  | 9, _ => rfl
def rC (σ : St) : Nat → Nat → Int32 := fun i => match i with
  | 0 => σ.2.1 57
  | 1 => σ.2.1 58
  | 2 => σ.2.1 59
  | 3 => σ.2.1 60
  | 4 => σ.2.1 61
  | _ => σ.2.1 62
theorem rC_e {σ : St} {i : Nat} (h : i < 6) : rC σ i = σ.2.1 (57 + i) := by
  match i, h with
  | 0, _ => rfl
  | 1, _ => rfl
  | 2, _ => rfl
  | 3, _ => rfl
  | 4, _ => rfl
  | 5, _ => rfl
def rS (σ : St) : Nat → Nat → Int32 := fun i => match i with
  | 0 => σ.2.1 81
  | 1 => σ.2.1 82
  | 2 => σ.2.1 83
  | _ => σ.2.1 84
theorem rS_e {σ : St} {i : Nat} (h : i < 4) : rS σ i = σ.2.1 (81 + i) := by
  match i, h with
  | 0, _ => rfl
  | 1, _ => rfl
  | 2, _ => rfl
  | 3, _ => rfl
def I_heir (σx σm : St) : Prop := ∀ i j, i < 10 → j < 10 → rH σx i j = σm.2.1 4 (10 * i + j) ∧ rg 0 99 (rH σx i j)
def I_hold (σx σm : St) : Prop := eqR 10 0 9999 (σx.2.1 15) (σm.2.1 45)
/-- nT towers, nP spans -/
def I_line (nT nP : Nat) (σx σm : St) : Prop := nT ≤ 16 ∧ σx.1 2 = nI nT ∧ σm.1 2 = nI nT ∧ nP ≤ 16 ∧ σx.1 3 = nI nP ∧ σm.1 3 = nI nP ∧ eqR nT 10 90 (σx.2.1 36) (σm.2.1 13) ∧ eqR nP 0 47 (σx.2.1 37) (σm.2.1 16) ∧ eqR nP 50 600 (σx.2.1 38) (σm.2.1 17) ∧ eqR nP (-20) 90 (σx.2.1 40) (σm.2.1 18) ∧ eqR nP 1 60 (σx.2.1 41) (σm.2.1 19) ∧
  ∀ k, k < nP → ∃ a b, a < nT ∧ b < nT ∧ σm.2.1 14 k = nI a ∧ σm.2.1 15 k = nI b ∧ σx.2.1 39 k = (if σm.2.1 13 b < σm.2.1 13 a then σm.2.1 13 b else σm.2.1 13 a)
theorem eqR.of {n : Nat} {lo hi : Nat} {f g : Nat → Int32} (h : eqR n lo hi f g) {k : Nat} (hk : k < n) (h2 : hi < 2 ^ 31) : ∃ v, lo ≤ v ∧ v ≤ hi ∧ f k = nI v ∧ g k = nI v := by
  obtain ⟨h1, h3, h4⟩ := h k hk
  obtain ⟨v, hv, he⟩ := rg_of (x := f k) (hi := hi) ⟨by omega, h4⟩ h2
  refine ⟨v, ?_, hv, he, by rw [← h1]; exact he⟩
  rw [he, nI_toInt (by omega)] at h3
  omega
def hiS (σm : St) (p : Nat) : Int32 := σm.2.1 9 p + σm.2.1 10 p * ((σm.1 0 - σm.2.1 11 p) / 365)
theorem mtrees {N p : Nat} {σm : St} (hp : p < 48) : fX12_highOf N σm (nI p) = some (hiS σm p) := by
  unfold fX12_highOf hiS
  simp only [ix_nI hp (by decide), aR_nI (show p < 2 ^ 31 by omega), if_true]
theorem xtrees {N d p : Nat} {σx σm : St} (hd : I_day d σx σm) (h : I_land d σx σm) (hp : p < 48) : fX4_treesNow N σx (nI p) = some (hiS σm p) := by
  unfold fX4_treesNow hiS
  simp only [ix_nI hp (by decide), aR_nI (show p < 2 ^ 31 by omega), if_true]
  rw [(h.2.2.2.2.1 p hp).1, (h.2.2.2.2.2.1 p hp).1, (h.2.2.2.2.2.2 p hp).1, hd.2.1, hd.2.2]
def sagS (σm : St) (k : Nat) : Int32 := if (0 : Int32) < σm.2.1 17 k * σm.2.1 17 k / 10000 + σm.2.1 17 k * (σm.2.1 18 k - 20) / 1000 then σm.2.1 17 k * σm.2.1 17 k / 10000 + σm.2.1 17 k * (σm.2.1 18 k - 20) / 1000 else 0
theorem msag {N k : Nat} {σm : St} (hk : k < 16) : fX12_sag N σm (nI k) = some (sagS σm k) := by
  unfold fX12_sag sagS
  simp only [ix_nI hk (by decide), aR_nI (show k < 2 ^ 31 by omega), if_true]
theorem sg_z (z : Int32) : (if (0 : Int32) ≤ z then some z else some (0 : Int32)) = some (if (0 : Int32) < z then z else 0) := by
  by_cases h : (0 : Int32) < z
  · rw [if_pos h, if_pos (Int32.le_of_lt h)]
  · rw [if_neg h]
    by_cases g : (0 : Int32) ≤ z
    · have e : z = 0 := Int32.le_antisymm (Int32.not_lt.mp h) g
      rw [if_pos g, e]
    · rw [if_neg g]
theorem xsag {N nT nP k : Nat} {σx σm : St} (h : I_line nT nP σx σm) (hk : k < nP) : fX6_sag N σx (nI k) = some (sagS σm k) := by
  have h16 : k < 16 := Nat.lt_of_lt_of_le hk h.2.2.2.1
  unfold fX6_sag sagS nm
  simp only [ix_nI h16 (by decide), aR_nI (show k < 2 ^ 31 by omega), if_true]
  rw [(h.2.2.2.2.2.2.2.2.1 k hk).1, (h.2.2.2.2.2.2.2.2.2.1 k hk).1]
  exact sg_z _
def lowS (σx σm : St) (k : Nat) : Int32 := σx.2.1 39 k - sagS σm k
theorem xlow {N nT nP k : Nat} {σx σm : St} (h : I_line nT nP σx σm) (hk : k < nP) : fX6_low N σx (nI k) = some (lowS σx σm k) := by
  have h16 : k < 16 := Nat.lt_of_lt_of_le hk h.2.2.2.1
  unfold fX6_low lowS
  simp only [ix_nI h16 (by decide), aR_nI (show k < 2 ^ 31 by omega), if_true]
  rw [xsag h hk]
  rfl
theorem mlow {N nT nP k : Nat} {σx σm : St} (h : I_line nT nP σx σm) (hk : k < nP) : fX12_low N σm (nI k) = some (lowS σx σm k) := by
  have h16 : k < 16 := Nat.lt_of_lt_of_le hk h.2.2.2.1
  obtain ⟨a, b, ha, hb, ea, eb, el⟩ := h.2.2.2.2.2.2.2.2.2.2.2 k hk
  have hT := h.1
  unfold fX12_low lowS
  simp only [ix_nI h16 (by decide), aR_nI (show k < 2 ^ 31 by omega), if_true, ea, eb, ix_nI (show a < 16 by omega) (by decide), ix_nI (show b < 16 by omega) (by decide), aR_nI (show a < 2 ^ 31 by omega), aR_nI (show b < 2 ^ 31 by omega)]
  rw [msag h16, el]
  rfl
def neaS (σx σm : St) (k p : Nat) : Int32 := lowS σx σm k - (if σm.2.1 5 p < hiS σm p then hiS σm p else σm.2.1 5 p)
theorem xnear {N d nT nP k p : Nat} {σx σm : St} (hd : I_day d σx σm) (hl : I_land d σx σm) (h : I_line nT nP σx σm) (hk : k < nP) (hp : p < 48) (ep : σm.2.1 16 k = nI p) : fX6_near N σx (nI k) = some (neaS σx σm k p) := by
  have h16 : k < 16 := Nat.lt_of_lt_of_le hk h.2.2.2.1
  have e1 : σx.2.1 37 k = nI p := (h.2.2.2.2.2.2.2.1 k hk).1.trans ep
  unfold fX6_near neaS nm
  simp only [ix_nI h16 (by decide), aR_nI (show k < 2 ^ 31 by omega), if_true, e1]
  rw [xlow h hk]
  unfold bd
  simp only [show ix (0 : Int32) 4 = true from rfl, ix_nI hp (by decide), if_true]
  rw [xtrees hd hl hp]
  simp only [aR_nI (show p < 2 ^ 31 by omega)]
  rw [show 17 + (0 : Int32).toNatClampNeg = 17 from rfl, (hl.1 p hp).1]
theorem mnear {N nT nP k p : Nat} {σx σm : St} (h : I_line nT nP σx σm) (hk : k < nP) (hp : p < 48) (ep : σm.2.1 16 k = nI p) : fX12_near N σm (nI k) = some (neaS σx σm k p) := by
  have h16 : k < 16 := Nat.lt_of_lt_of_le hk h.2.2.2.1
  unfold fX12_near neaS
  rw [mlow h hk]
  unfold bd
  simp only [ix_nI h16 (by decide), aR_nI (show k < 2 ^ 31 by omega), if_true, ep, ix_nI hp (by decide)]
  rw [mtrees hp]
  simp only [aR_nI (show p < 2 ^ 31 by omega)]
theorem plot_of {nT nP k : Nat} {σx σm : St} (h : I_line nT nP σx σm) (hk : k < nP) : ∃ p, p < 48 ∧ σm.2.1 16 k = nI p ∧ σx.2.1 37 k = nI p := by
  obtain ⟨v, -, h1, h2, h3⟩ := eqR.of (lo := 0) (hi := 47) h.2.2.2.2.2.2.2.1 hk (by decide)
  exact ⟨v, by omega, h3, h2⟩
/-- near is the same on both sides -/
theorem near_e {N d nT nP k : Nat} {σx σm : St} (hd : I_day d σx σm) (hl : I_land d σx σm) (h : I_line nT nP σx σm) (hk : k < nP) : ∃ v, fX6_near N σx (nI k) = some v ∧ fX12_near N σm (nI k) = some v := by
  obtain ⟨p, hp, e1, -⟩ := plot_of h hk
  exact ⟨_, xnear hd hl h hk hp e1, mnear h hk hp e1⟩
