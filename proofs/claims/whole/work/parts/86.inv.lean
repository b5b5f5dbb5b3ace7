/-! PURE: THE INVARIANT; the first calls -/
def I_tape (nB : Nat) (σx σm : St) : Prop := nB ≤ 160 ∧ σx.1 5 = nI nB ∧ σm.1 5 = nI nB ∧ ∀ k, k < nB → rg 0 255 (σx.2.1 51 k) ∧ σm.2.1 31 k = (σx.2.1 51 k).toInt8.toInt32
/-- a piece of code, the class's and the model's -/
def cr (x m : Int32) : Prop := (rg 0 9999 x ∧ m = -1 - x) ∨ (∃ j, j < 6 ∧ x = -(nI (134 + j)) ∧ m = nI j) ∨ (x = -43 ∧ m = 6) ∨ (x = -45 ∧ m = 7) ∨ (x = -42 ∧ m = 8) ∨ (x = -60 ∧ m = 9) ∨ (x = -61 ∧ m = 10) ∨ (x = -131 ∧ m = 11) ∨ (x = -130 ∧ m = 12) ∨ (x = -132 ∧ m = 13) ∨ (x = -133 ∧ m = 14)
/-- the code never wants more than the stack holds, and leaves one -/
def okC (f : Nat → Int32) (n : Nat) : Prop := ∃ dp : Nat → Nat, dp 0 = 0 ∧ dp n = 1 ∧ ∀ k, k < n → (f k < 6 ∧ dp (k + 1) = dp k + 1) ∨ ((f k = 13 ∨ f k = 14) ∧ 1 ≤ dp k ∧ dp (k + 1) = dp k) ∨ ((6 ≤ f k ∧ f k ≤ 12) ∧ 2 ≤ dp k ∧ dp (k + 1) + 1 = dp k)
def I_text (nX ru : Nat) (σx σm : St) : Prop := nX ≤ 6 ∧ σx.1 10 = nI nX ∧ σm.1 6 = nI nX ∧ ru < nX ∧ σx.1 11 = nI ru ∧ σm.1 7 = nI ru ∧ ∀ t, t < nX → ∃ a b, a + b ≤ 160 ∧ σx.2.1 63 t = nI a ∧ σx.2.1 64 t = nI (a + b) ∧ σm.2.1 33 (2 * t) = nI a ∧ σm.2.1 33 (2 * t + 1) = nI b ∧ (∀ k, k < a → cr (rC σx t k) (σm.2.1 32 (320 * t + k))) ∧ (∀ k, k < b → cr (rC σx t (a + k)) (σm.2.1 32 (320 * t + 160 + k))) ∧ okC (fun k => σm.2.1 32 (320 * t + k)) a ∧ okC (fun k => σm.2.1 32 (320 * t + 160 + k)) b
def dupB (f g : Nat → Int32) (c : Nat) : Nat → Bool
  | 0 => false
  | k + 1 => dupB f g c k || (decide (f k = f c) && decide (g k = g c))
def dbl (f g : Nat → Int32) : Nat → Int32
  | 0 => 0
  | c + 1 => dbl f g c ||| (if dupB f g c c then 1 <<< (nI c &&& 31) else 0)
def I_claim (nP nC : Nat) (σx σm : St) : Prop := nC ≤ 30 ∧ σx.1 13 = nI nC ∧ σm.1 17 = nI nC ∧ eqR nC 0 9 (σx.2.1 66) (σm.2.1 39) ∧ (∀ k, k < nC → ∃ sp, sp < nP ∧ σx.2.1 67 k = nI sp ∧ σm.2.1 40 k = nI sp) ∧ eqR nC 0 99999 (σx.2.1 68) (σm.2.1 41) ∧ σx.1 14 = dbl (σm.2.1 39) (σm.2.1 40) nC
def I_look (nK : Nat) (σx σm : St) : Prop := nK ≤ 20 ∧ σx.1 15 = nI nK ∧ σm.1 18 = nI nK ∧ eqR nK 0 47 (σx.2.1 69) (σm.2.1 42) ∧ ∀ k, k < nK → rg 0 99999 (σm.2.1 43 k) ∧ rg 0 50 (σm.2.1 44 k) ∧ σx.2.1 70 k = σm.2.1 43 k - σm.2.1 43 k * σm.2.1 44 k / 100 ∧ σx.2.1 71 k = σm.2.1 43 k + σm.2.1 43 k * σm.2.1 44 k / 100
def I_sheet (σx σm : St) : Prop := eqR 4 (-1) 2 (σx.2.1 78) (σm.2.1 52) ∧ eqR 4 0 40 (σx.2.1 79) (σm.2.1 53) ∧ ∀ i j, i < 4 → j < 40 → ¬ σx.2.1 78 i = -1 → rS σx i j = σm.2.1 54 (40 * i + j)
def InvK (κ : Nat → Nat) (σx σm : St) : Prop := I_day (κ 0) σx σm ∧ I_sale (κ 1) σx σm ∧ I_land (κ 0) σx σm ∧ I_heir σx σm ∧ I_hold σx σm ∧ I_line (κ 2) (κ 3) σx σm ∧ I_leaf (κ 3) (κ 4) σx σm ∧ I_const σm ∧ I_tape (κ 5) σx σm ∧ I_text (κ 6) (κ 7) σx σm ∧ I_claim (κ 3) (κ 8) σx σm ∧ I_look (κ 9) σx σm ∧ I_sheet σx σm
def Inv (σx σm : St) : Prop := ∃ κ : Nat → Nat, InvK κ σx σm
theorem s_pass {N : Nat} : SP_pass Inv N := by
  intro σx σm a1 ⟨κ, hd, hs, hla, hhe, hho, hli, hle, hc, ht, hx, hcl, hlo, hsh⟩
  unfold fX11_pass fX12_pass
  rw [isIn_w (x := a1) (a := 1) (b := 2000) (A := 1) (B := 2000) rfl rfl, hd.2.1, hd.2.2]
  by_cases h1 : fX11_within a1 1 2000 = 0
  · simp only [if_pos h1]
    exact ⟨_, _, _, rfl, rfl, κ, hd, hs, hla, hhe, hho, hli, hle, hc, ht, hx, hcl, hlo, hsh⟩
  · obtain ⟨v, hv, rfl⟩ := rg_of (x := a1) (hi := 2000) ⟨by have := (wi_rg h1).1; rw [show (1 : Int32).toInt = 1 from rfl] at this; omega, (wi_rg h1).2⟩ (by decide)
    have hD := hd.1
    simp only [if_neg h1, nI_add]
    by_cases h2 : nI (κ 0 + v) ≤ 9999
    · simp only [if_pos h2]
      have h3 : κ 0 + v ≤ 9999 := (nI_leI (by omega) (by decide)).mp h2
      refine ⟨_, _, _, rfl, rfl, va_up κ 0 (κ 0 + v), ⟨h3, rfl, rfl⟩, hs, ⟨hla.1, hla.2.1, hla.2.2.1, hla.2.2.2.1, hla.2.2.2.2.1, hla.2.2.2.2.2.1, fun k hk => ?_⟩, hhe, hho, hli, hle, hc, ht, hx, hcl, hlo, hsh⟩
      have h4 := hla.2.2.2.2.2.2 k hk
      refine ⟨h4.1, h4.2.1, ?_⟩
      have h5 := h4.2.2
      show _ ≤ ((va_up κ 0 (κ 0 + v) 0 : Nat) : Int)
      rw [show va_up κ 0 (κ 0 + v) 0 = κ 0 + v from rfl]
      have h6 : ((sI σx 0 (nI (κ 0 + v))).2.1 23 k).toInt ≤ (κ 0 : Int) := h5
      omega
    · simp only [if_neg h2]
      exact ⟨_, _, _, rfl, rfl, κ, hd, hs, hla, hhe, hho, hli, hle, hc, ht, hx, hcl, hlo, hsh⟩
theorem s_owner {N : Nat} (hN : 41 ≤ N) : SP_owner Inv N := by
  intro σx σm a1 a2 hI
  obtain ⟨κ, hd, hs, hr⟩ := id hI
  unfold fX11_owner fX12_owner
  rw [isPlot_e, isDay_e, xown hs hN, mown hs hN]
  by_cases h1 : fX11_isPlot a1 = 0
  · simp only [if_pos h1]; exact ⟨_, rfl, rfl, hI⟩
  · simp only [if_neg h1]
    by_cases h2 : fX11_isDay a2 = 0
    · simp only [if_pos h2]; exact ⟨_, rfl, rfl, hI⟩
    · simp only [if_neg h2]; exact ⟨_, rfl, rfl, hI⟩
theorem s_high {N : Nat} : SP_high Inv N := by
  intro σx σm a1 hI
  obtain ⟨κ, hd, hs, hla, hr⟩ := id hI
  unfold fX11_high fX12_high
  rw [isPlot_e]
  by_cases h1 : fX11_isPlot a1 = 0
  · simp only [if_pos h1]; exact ⟨_, rfl, rfl, hI⟩
  · simp only [if_neg h1]
    obtain ⟨p, hp, rfl⟩ := pl_of h1
    rw [xtrees hd hla hp, mtrees hp]
    exact ⟨_, rfl, rfl, hI⟩
