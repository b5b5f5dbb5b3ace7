/-! PURE: set, span, taken -/
theorem s_set {N : Nat} : SP_set Inv N := by
  intro σx σm a1 a2 a3 ⟨κ, hd, hs, hla, hhe, hho, hli, hle, hc, ht, hx, hcl, hlo, hsh⟩
  unfold fX11_set fX12_set
  rw [isPlot_e, isIn_w (x := a3) (a := 0) (b := 60) (A := 0) (B := 60) rfl rfl, isIn_w (x := a3) (a := 0) (b := 9999) (A := 0) (B := 9999) rfl rfl, isIn_w (x := a3) (a := 1) (b := 999) (A := 1) (B := 999) rfl rfl, isIn_w (x := a3) (a := 0) (b := 1) (A := 0) (B := 1) rfl rfl]
  by_cases h1 : fX11_isPlot a1 = 0
  · simp only [if_pos h1]
    exact ⟨_, _, _, rfl, rfl, κ, hd, hs, hla, hhe, hho, hli, hle, hc, ht, hx, hcl, hlo, hsh⟩
  · obtain ⟨p, hp, rfl⟩ := pl_of h1
    by_cases h2 : fX11_within a2 0 3 = 0
    · have n0 : ¬ a2 = 0 := fun q => by subst q; exact absurd h2 (by decide)
      have n1 : ¬ a2 = 1 := fun q => by subst q; exact absurd h2 (by decide)
      have n2 : ¬ a2 = 2 := fun q => by subst q; exact absurd h2 (by decide)
      have n3 : ¬ a2 = 3 := fun q => by subst q; exact absurd h2 (by decide)
      simp only [if_neg h1, if_pos h2, if_neg n0, if_neg n1, if_neg n2, if_neg n3]
      exact ⟨_, _, _, rfl, rfl, κ, hd, hs, hla, hhe, hho, hli, hle, hc, ht, hx, hcl, hlo, hsh⟩
    · obtain ⟨w, hw, rfl⟩ := rg_of (hi := 3) (wi_rg (a := 0) (b := 3) h2) (by decide)
      simp only [if_neg h1, if_neg h2]
      unfold fX4_tell
      simp only [bd2, nm, ix_nI (show w < 4 by omega) (by decide), ix_nI hp (by decide), aR_nI (show p < 2 ^ 31 by omega), aW_nI (show p < 2 ^ 31 by omega), nI_clamp (show w < 2 ^ 31 by omega), if_true]
      rcases (show w = 0 ∨ w = 1 ∨ w = 2 ∨ w = 3 by omega) with rfl | rfl | rfl | rfl
      · simp only [if_pos (show nI 0 = 0 from rfl), show stT 0 0 = 0 from rfl, show stT 1 0 = 60 from rfl, Nat.add_zero]
        by_cases h3 : fX11_within a3 0 60 = 0
        · simp only [if_pos h3]
          exact ⟨_, _, _, rfl, rfl, κ, hd, hs, hla, hhe, hho, hli, hle, hc, ht, hx, hcl, hlo, hsh⟩
        · simp only [if_neg h3]
          rw [(hla.1 p hp).1]
          exact ⟨_, _, _, rfl, rfl, κ, hd, hs, ⟨eqR_upd hla.1 (wi_rg h3) p, hla.2⟩, hhe, hho, hli, hle, hc, ht, hx, hcl, hlo, hsh⟩
      · simp only [if_neg (show ¬ nI 1 = 0 from by decide), if_pos (show nI 1 = 1 from rfl), show stT 0 1 = 0 from rfl, show stT 1 1 = 9999 from rfl, show 17 + 1 = 18 from rfl]
        by_cases h3 : fX11_within a3 0 9999 = 0
        · simp only [if_pos h3]
          exact ⟨_, _, _, rfl, rfl, κ, hd, hs, hla, hhe, hho, hli, hle, hc, ht, hx, hcl, hlo, hsh⟩
        · simp only [if_neg h3]
          rw [(hla.2.1 p hp).1]
          exact ⟨_, _, _, rfl, rfl, κ, hd, hs, ⟨hla.1, eqR_upd hla.2.1 (wi_rg h3) p, hla.2.2⟩, hhe, hho, hli, hle, hc, ht, hx, hcl, hlo, hsh⟩
      · simp only [if_neg (show ¬ nI 2 = 0 from by decide), if_neg (show ¬ nI 2 = 1 from by decide), if_pos (show nI 2 = 2 from rfl), show stT 0 2 = 1 from rfl, show stT 1 2 = 999 from rfl, show 17 + 2 = 19 from rfl]
        by_cases h3 : fX11_within a3 1 999 = 0
        · simp only [if_pos h3]
          exact ⟨_, _, _, rfl, rfl, κ, hd, hs, hla, hhe, hho, hli, hle, hc, ht, hx, hcl, hlo, hsh⟩
        · simp only [if_neg h3]
          rw [(hla.2.2.1 p hp).1]
          exact ⟨_, _, _, rfl, rfl, κ, hd, hs, ⟨hla.1, hla.2.1, eqR_upd hla.2.2.1 (wi_rg h3) p, hla.2.2.2⟩, hhe, hho, hli, hle, hc, ht, hx, hcl, hlo, hsh⟩
      · simp only [if_neg (show ¬ nI 3 = 0 from by decide), if_neg (show ¬ nI 3 = 1 from by decide), if_neg (show ¬ nI 3 = 2 from by decide), if_pos (show nI 3 = 3 from rfl), show stT 0 3 = 0 from rfl, show stT 1 3 = 1 from rfl, show 17 + 3 = 20 from rfl]
        by_cases h3 : fX11_within a3 0 1 = 0
        · simp only [if_pos h3]
          exact ⟨_, _, _, rfl, rfl, κ, hd, hs, hla, hhe, hho, hli, hle, hc, ht, hx, hcl, hlo, hsh⟩
        · simp only [if_neg h3]
          rw [(hla.2.2.2.1 p hp).1]
          exact ⟨_, _, _, rfl, rfl, κ, hd, hs, ⟨hla.1, hla.2.1, hla.2.2.1, eqR_upd hla.2.2.2.1 (wi_rg h3) p, hla.2.2.2.2⟩, hhe, hho, hli, hle, hc, ht, hx, hcl, hlo, hsh⟩
