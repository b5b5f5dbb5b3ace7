/-! PURE: look, heir, set, span -/
theorem s_look {N : Nat} : SP_look Inv N := by
  intro σx σm a1 a2 a3 ⟨κ, hd, hs, hla, hhe, hho, hli, hle, hc, ht, hx, hcl, hlo, hsh⟩
  unfold fX11_look fX12_look
  rw [isPlot_e, isIn_w (x := a2) (a := 0) (b := 99999) (A := 0) (B := 99999) rfl rfl, isIn_w (x := a3) (a := 0) (b := 50) (A := 0) (B := 50) rfl rfl]
  have h20 := hlo.1
  by_cases h1 : fX11_isPlot a1 = 0
  · simp only [if_pos h1]
    exact ⟨_, _, _, rfl, rfl, κ, hd, hs, hla, hhe, hho, hli, hle, hc, ht, hx, hcl, hlo, hsh⟩
  · by_cases h2 : fX11_within a2 0 99999 = 0
    · simp only [if_neg h1, if_pos h2]
      exact ⟨_, _, _, rfl, rfl, κ, hd, hs, hla, hhe, hho, hli, hle, hc, ht, hx, hcl, hlo, hsh⟩
    · by_cases h3 : fX11_within a3 0 50 = 0
      · simp only [if_neg h1, if_neg h2, if_pos h3]
        exact ⟨_, _, _, rfl, rfl, κ, hd, hs, hla, hhe, hho, hli, hle, hc, ht, hx, hcl, hlo, hsh⟩
      · simp only [if_neg h1, if_neg h2, if_neg h3, hlo.2.1, hlo.2.2.1]
        by_cases h4 : κ 9 = 20
        · rw [h4, if_neg (show ¬ nI 20 < 20 from by decide), if_pos (show nI 20 = 20 from rfl)]
          exact ⟨_, _, _, rfl, rfl, κ, hd, hs, hla, hhe, hho, hli, hle, hc, ht, hx, hcl, hlo, hsh⟩
        · have hlt : κ 9 < 20 := by omega
          rw [if_pos (show nI (κ 9) < 20 from nI_lt hlt (by decide)), if_neg (show ¬ nI (κ 9) = 20 from fun q => h4 ((nI_eq (b := 20) (by omega) (by decide)).mp q))]
          unfold fX7_add
          have e0 : ∀ (c : Nat) (f : Nat → Int32), (sA σx c f).1 15 = nI (κ 9) := fun _ _ => hlo.2.1
          have f0 : ∀ (c : Nat) (f : Nat → Int32), (sA σm c f).1 18 = nI (κ 9) := fun _ _ => hlo.2.2.1
          have e1 : ∀ (c : Nat) (f : Nat → Int32) (c2 : Nat) (g : Nat → Int32), (sA (sA σx c f) c2 g).1 15 = nI (κ 9) := fun _ _ _ _ => hlo.2.1
          have f1 : ∀ (c : Nat) (f : Nat → Int32) (c2 : Nat) (g : Nat → Int32), (sA (sA σm c f) c2 g).1 18 = nI (κ 9) := fun _ _ _ _ => hlo.2.2.1
          have e2 : ∀ (c : Nat) (f : Nat → Int32) (c2 : Nat) (g : Nat → Int32) (c3 : Nat) (k : Nat → Int32), (sA (sA (sA σx c f) c2 g) c3 k).1 15 = nI (κ 9) := fun _ _ _ _ _ _ => hlo.2.1
          have f2 : ∀ (c : Nat) (f : Nat → Int32) (c2 : Nat) (g : Nat → Int32) (c3 : Nat) (k : Nat → Int32), (sA (sA (sA σm c f) c2 g) c3 k).1 18 = nI (κ 9) := fun _ _ _ _ _ _ => hlo.2.2.1
          simp only [bd2, nm, hlo.2.1, ix_nI hlt (by decide), aW_nI (show κ 9 < 2 ^ 31 by omega), if_true, e0, f0, e1, f1, e2, f2, nI_1]
          refine ⟨_, _, _, rfl, rfl, va_up κ 9 (κ 9 + 1), hd, hs, hla, hhe, hho, hli, hle, hc, ht, hx, hcl, ⟨hlt, rfl, rfl, eqR_push hlo.2.2.2.1 (wi_rg h1), fun k hk => ?_⟩, hsh⟩
          have hk : k < κ 9 + 1 := hk
          show rg 0 99999 (upd (σm.2.1 43) (κ 9) a2 k) ∧ rg 0 50 (upd (σm.2.1 44) (κ 9) a3 k) ∧ upd (σx.2.1 70) (κ 9) (a2 - a2 * a3 / 100) k = upd (σm.2.1 43) (κ 9) a2 k - upd (σm.2.1 43) (κ 9) a2 k * upd (σm.2.1 44) (κ 9) a3 k / 100 ∧ upd (σx.2.1 71) (κ 9) (a2 + a2 * a3 / 100) k = upd (σm.2.1 43) (κ 9) a2 k + upd (σm.2.1 43) (κ 9) a2 k * upd (σm.2.1 44) (κ 9) a3 k / 100
          by_cases e : k = κ 9
          · rw [e, up_s, up_s, up_s, up_s]
            exact ⟨wi_rg h2, wi_rg h3, rfl, rfl⟩
          · rw [pk_un e, pk_un e, pk_un e, pk_un e]
            exact hlo.2.2.2.2 k (by omega)
theorem rH_w {σ : St} {o : Nat} (ho : o < 10) (v : Nat → Int32) (i : Nat) (hi : i < 10) : rH (sA σ (25 + o) v) i = if i = o then v else rH σ i := by
  rw [rH_e hi, rH_e hi]
  show va_up σ.2.1 (25 + o) v (25 + i) = _
  unfold va_up
  by_cases e : i = o
  · rw [if_pos e, if_pos (by omega)]
  · rw [if_neg e, if_neg (by omega)]
theorem s_heir {N : Nat} : SP_heir Inv N := by
  intro σx σm a1 a2 a3 ⟨κ, hd, hs, hla, hhe, hho, hli, hle, hc, ht, hx, hcl, hlo, hsh⟩
  unfold fX11_heir fX12_heir
  rw [isOwner_e, isOwner_e, isIn_w (x := a3) (a := 0) (b := 99) (A := 0) (B := 99) rfl rfl]
  by_cases h1 : fX11_isOwner a1 = 0
  · simp only [if_pos h1]
    exact ⟨_, _, _, rfl, rfl, κ, hd, hs, hla, hhe, hho, hli, hle, hc, ht, hx, hcl, hlo, hsh⟩
  · by_cases h2 : fX11_isOwner a2 = 0
    · simp only [if_neg h1, if_pos h2]
      exact ⟨_, _, _, rfl, rfl, κ, hd, hs, hla, hhe, hho, hli, hle, hc, ht, hx, hcl, hlo, hsh⟩
    · by_cases h3 : a1 = a2
      · simp only [if_neg h1, if_neg h2, if_pos h3]
        exact ⟨_, _, _, rfl, rfl, κ, hd, hs, hla, hhe, hho, hli, hle, hc, ht, hx, hcl, hlo, hsh⟩
      · by_cases h4 : fX11_within a3 0 99 = 0
        · simp only [if_neg h1, if_neg h2, if_neg h3, if_pos h4]
          exact ⟨_, _, _, rfl, rfl, κ, hd, hs, hla, hhe, hho, hli, hle, hc, ht, hx, hcl, hlo, hsh⟩
        · obtain ⟨i, hi, rfl⟩ := ow_of h1
          obtain ⟨j, hj, rfl⟩ := ow_of h2
          have em : (10 : Int32) * nI i + nI j = nI (10 * i + j) := by rw [show (10 : Int32) = nI 10 from rfl, pk_mul, nI_add]
          simp only [if_neg h1, if_neg h2, if_neg h3, if_neg h4, em]
          unfold fX3_giveShares
          simp only [bd2, nm, nI_clamp (show i < 2 ^ 31 by omega), ix_nI hi (by decide), ix_nI hj (by decide), ix_nI (show 10 * i + j < 100 by omega) (by decide), aR_nI (show j < 2 ^ 31 by omega), aR_nI (show 10 * i + j < 2 ^ 31 by omega), aW_nI (show j < 2 ^ 31 by omega), aW_nI (show 10 * i + j < 2 ^ 31 by omega), if_true]
          have e1 := (hhe i j hi hj).1
          rw [rH_e hi] at e1
          rw [e1]
          have nb : ∀ c : Nat, c < 25 ∨ 34 < c → (sA σx (25 + i) (upd (σx.2.1 (25 + i)) j a3)).2.1 c = σx.2.1 c := fun c hcc => by
            show va_up σx.2.1 (25 + i) _ c = _
            unfold va_up
            rw [if_neg (by omega)]
          refine ⟨_, _, _, rfl, rfl, κ, hd, ?_, ?_, fun i2 j2 hi2 hj2 => ?_, ?_, ?_, ?_, hc, ?_, ?_, ?_, ?_, ?_⟩
          · unfold I_sale; rw [nb 12 (by omega), nb 13 (by omega), nb 14 (by omega)]; exact hs
          · unfold I_land; rw [nb 17 (by omega), nb 18 (by omega), nb 19 (by omega), nb 20 (by omega), nb 21 (by omega), nb 22 (by omega), nb 23 (by omega)]; exact hla
          · rw [rH_w hi _ i2 hi2]
            show (if i2 = i then upd (σx.2.1 (25 + i)) j a3 else rH σx i2) j2 = upd (σm.2.1 4) (10 * i + j) a3 (10 * i2 + j2) ∧ rg 0 99 ((if i2 = i then upd (σx.2.1 (25 + i)) j a3 else rH σx i2) j2)
            by_cases e2 : i2 = i
            · subst e2
              rw [if_pos rfl]
              by_cases e3 : j2 = j
              · subst e3; rw [up_s, up_s]; exact ⟨rfl, wi_rg h4⟩
              · rw [pk_un e3, pk_un (show 10 * i2 + j2 ≠ 10 * i2 + j by omega), ← rH_e hi2]; exact hhe i2 j2 hi2 hj2
            · rw [if_neg e2, pk_un (show 10 * i2 + j2 ≠ 10 * i + j by omega)]; exact hhe i2 j2 hi2 hj2
          · unfold I_hold; rw [nb 15 (by omega)]; exact hho
          · unfold I_line; rw [nb 36 (by omega), nb 37 (by omega), nb 38 (by omega), nb 39 (by omega), nb 40 (by omega), nb 41 (by omega)]; exact hli
          · unfold I_leaf; rw [nb 42 (by omega), nb 43 (by omega), nb 44 (by omega), nb 45 (by omega), nb 46 (by omega), nb 47 (by omega), nb 48 (by omega), nb 49 (by omega)]; exact hle
          · unfold I_tape; rw [nb 51 (by omega)]; exact ht
          · unfold I_text
            rw [nb 63 (by omega), nb 64 (by omega), show rC (sA σx (25 + i) (upd (σx.2.1 (25 + i)) j a3)) = rC σx from by unfold rC; rw [nb 57 (by omega), nb 58 (by omega), nb 59 (by omega), nb 60 (by omega), nb 61 (by omega), nb 62 (by omega)]]
            exact hx
          · unfold I_claim; rw [nb 66 (by omega), nb 67 (by omega), nb 68 (by omega)]; exact hcl
          · unfold I_look; rw [nb 69 (by omega), nb 70 (by omega), nb 71 (by omega)]; exact hlo
          · unfold I_sheet
            rw [nb 78 (by omega), nb 79 (by omega), show rS (sA σx (25 + i) (upd (σx.2.1 (25 + i)) j a3)) = rS σx from by unfold rS; rw [nb 81 (by omega), nb 82 (by omega), nb 83 (by omega), nb 84 (by omega)]]
            exact hsh
