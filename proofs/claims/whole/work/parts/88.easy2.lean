/-! PURE: has, force, renew, appeal, tower, look -/
theorem s_has {N : Nat} (hN : 41 ≤ N) : SP_has Inv N := by
  intro σx σm a1 a2 ⟨κ, hd, hs, hla, hhe, hho, hli, hle, hc, ht, hx, hcl, hlo, hsh⟩
  unfold fX11_has fX12_has
  rw [isSpan_e hli, isDay_e]
  by_cases h1 : fX6_isSpan σx a1 = 0
  · simp only [if_pos h1]
    exact ⟨_, _, rfl, rfl, κ, hd, hs, hla, hhe, hho, hli, hle, hc, ht, hx, hcl, hlo, hsh⟩
  · by_cases h2 : fX11_isDay a2 = 0
    · simp only [if_neg h1, if_pos h2]
      exact ⟨_, _, rfl, rfl, κ, hd, hs, hla, hhe, hho, hli, hle, hc, ht, hx, hcl, hlo, hsh⟩
    · obtain ⟨k, hk, rfl⟩ := span_of hli h1
      have h16 := hli.2.2.2.1
      obtain ⟨g, hg⟩ := xhas (N := N) (span := nI k) (day := a2) hs hli hle hN (nI_m1 (by omega))
      simp only [if_neg h1, if_neg h2]
      rw [hg, mhas hc hs hli hle hN]
      exact ⟨_, _, rfl, rfl, κ, hd, hs, hla, hhe, hho, hli, hle, hc, ht, hx, hcl, hlo, hsh⟩
theorem s_force {N : Nat} : SP_force Inv N := by
  intro σx σm a1 ⟨κ, hd, hs, hla, hhe, hho, hli, hle, hc, ht, hx, hcl, hlo, hsh⟩
  unfold fX11_force fX12_force
  rw [isIn_w (x := a1) (a := 0) (b := σm.1 6 - 1) (A := 0) (B := (σm.1 6 - 1).toInt64) rfl rfl, hx.2.1, hx.2.2.1]
  have h6 := hx.1
  by_cases h1 : fX11_within a1 0 (nI (κ 6) - 1) = 0
  · simp only [if_pos h1]
    exact ⟨_, _, _, rfl, rfl, κ, hd, hs, hla, hhe, hho, hli, hle, hc, ht, hx, hcl, hlo, hsh⟩
  · obtain ⟨t, htt, rfl⟩ := cnt_of (by omega) h1
    simp only [if_neg h1, nm]
    rw [hx.2.2.2.2.1, hx.2.2.2.2.2.1]
    exact ⟨_, _, _, rfl, rfl, va_up κ 7 t, hd, hs, hla, hhe, hho, hli, hle, hc, ht, ⟨hx.1, hx.2.1, hx.2.2.1, htt, rfl, rfl, hx.2.2.2.2.2.2⟩, hcl, hlo, hsh⟩
theorem s_renew {N : Nat} : SP_renew Inv N := by
  intro σx σm a1 ⟨κ, hd, hs, hla, hhe, hho, hli, hle, hc, ht, hx, hcl, hlo, hsh⟩
  unfold fX11_renew fX12_renew
  rw [isLeave_e hle]
  have h24 := hle.1
  by_cases h1 : fX5_isLeave σx a1 = 0
  · simp only [if_pos h1]
    exact ⟨_, _, _, rfl, rfl, κ, hd, hs, hla, hhe, hho, hli, hle, hc, ht, hx, hcl, hlo, hsh⟩
  · obtain ⟨k, hk, rfl⟩ := leave_of hle h1
    have e1 := (hle.2.2.2.1 k hk).1
    obtain ⟨v, -, hv, ev, ew⟩ := eqR.of (lo := 0) (hi := 5) hle.2.2.2.2.2.2.2.2.1 (show k < 24 by omega) (by decide)
    simp only [if_neg h1, nm, ix_nI (show k < 24 by omega) (by decide), aR_nI (show k < 2 ^ 31 by omega), aW_nI (show k < 2 ^ 31 by omega), if_true]
    rw [e1, ev, ew]
    by_cases h2 : σm.2.1 22 k = 4
    · simp only [if_pos h2]
      exact ⟨_, _, _, rfl, rfl, κ, hd, hs, hla, hhe, hho, hli, hle, hc, ht, hx, hcl, hlo, hsh⟩
    · simp only [if_neg h2]
      by_cases h3 : v = 5
      · subst h3
        rw [if_neg (show ¬ nI 5 < 5 from by decide), if_pos (show nI 5 = 5 from rfl)]
        exact ⟨_, _, _, rfl, rfl, κ, hd, hs, hla, hhe, hho, hli, hle, hc, ht, hx, hcl, hlo, hsh⟩
      · rw [if_pos (show nI v < 5 from nI_lt (b := 5) (by omega) (by decide)), if_neg (show ¬ nI v = 5 from fun q => h3 ((nI_eq (b := 5) (by omega) (by decide)).mp q)), nI_1]
        have ex : (sA σx 47 (upd (σx.2.1 47) k (nI (v + 1)))).2.1 47 k = nI (v + 1) := up_s _ _ _
        have em : (sA σm 27 (upd (σm.2.1 27) k (nI (v + 1)))).2.1 27 k = nI (v + 1) := up_s _ _ _
        rw [ex, em]
        refine ⟨_, _, _, rfl, rfl, κ, hd, hs, hla, hhe, hho, hli, ⟨hle.1, hle.2.1, hle.2.2.1, hle.2.2.2.1, hle.2.2.2.2.1, hle.2.2.2.2.2.1, hle.2.2.2.2.2.2.1, hle.2.2.2.2.2.2.2.1, eqR_upd hle.2.2.2.2.2.2.2.2.1 (rg_nI (by omega) (by omega)) k, hle.2.2.2.2.2.2.2.2.2.1, hle.2.2.2.2.2.2.2.2.2.2.1, fun i h4 h5 => ⟨?_, (hle.2.2.2.2.2.2.2.2.2.2.2 i h4 h5).2⟩⟩, hc, ht, hx, hcl, hlo, hsh⟩
        show upd (σx.2.1 47) k (nI (v + 1)) i = 0
        rw [pk_un (show i ≠ k by omega)]
        exact (hle.2.2.2.2.2.2.2.2.2.2.2 i h4 h5).1
theorem s_appeal {N : Nat} : SP_appeal Inv N := by
  intro σx σm a1 ⟨κ, hd, hs, hla, hhe, hho, hli, hle, hc, ht, hx, hcl, hlo, hsh⟩
  unfold fX11_appeal fX12_appeal
  rw [isLeave_e hle]
  have h24 := hle.1
  have hD := hd.1
  by_cases h1 : fX5_isLeave σx a1 = 0
  · simp only [if_pos h1]
    exact ⟨_, _, _, rfl, rfl, κ, hd, hs, hla, hhe, hho, hli, hle, hc, ht, hx, hcl, hlo, hsh⟩
  · obtain ⟨k, hk, rfl⟩ := leave_of hle h1
    have e1 := (hle.2.2.2.1 k hk).1
    have e3 := (hle.2.2.2.2.2.2.2.2.2.2.1 k (by omega)).1
    obtain ⟨b, -, hb, eb, fb⟩ := eqR.of (lo := 0) (hi := 9999) hle.2.2.2.2.2.2.1 hk (by decide)
    simp only [if_neg h1, nm, ix_nI (show k < 24 by omega) (by decide), aR_nI (show k < 2 ^ 31 by omega), aW_nI (show k < 2 ^ 31 by omega), if_true, show vp_nar .boolean 1 = 1 from rfl]
    rw [e1, e3, eb, fb, hd.2.1, hd.2.2]
    by_cases h2 : σm.2.1 22 k = 4
    · simp only [if_pos h2]
      by_cases h3 : σm.2.1 28 k = 0
      · simp only [if_pos h3]
        have hw : (fX11_within (nI (κ 0) - nI b) 0 42 = 0) ↔ (nI (κ 0) < nI b ∨ ¬ nI (κ 0) - nI b ≤ 42) := by
          rw [wi_eq]
          simp only [Int32.le_iff_toInt_le, Int32.lt_iff_toInt_lt, pk_sub_toInt (show κ 0 < 2 ^ 30 by omega) (show b < 2 ^ 30 by omega), nI_toInt (show κ 0 < 2 ^ 31 by omega), nI_toInt (show b < 2 ^ 31 by omega), show (0 : Int32).toInt = 0 from rfl, show (42 : Int32).toInt = 42 from rfl]
          omega
        by_cases h4 : nI (κ 0) < nI b
        · rw [if_pos (hw.mpr (Or.inl h4)), if_pos h4]
          exact ⟨_, _, _, rfl, rfl, κ, hd, hs, hla, hhe, hho, hli, hle, hc, ht, hx, hcl, hlo, hsh⟩
        · by_cases h5 : nI (κ 0) - nI b ≤ 42
          · rw [if_neg (fun q => (hw.mp q).elim h4 (fun z => z h5)), if_neg h4, if_pos h5]
            refine ⟨_, _, _, rfl, rfl, κ, hd, hs, hla, hhe, hho, hli, ⟨hle.1, hle.2.1, hle.2.2.1, hle.2.2.2.1, hle.2.2.2.2.1, hle.2.2.2.2.2.1, hle.2.2.2.2.2.2.1, hle.2.2.2.2.2.2.2.1, hle.2.2.2.2.2.2.2.2.1, hle.2.2.2.2.2.2.2.2.2.1, eqR_upd hle.2.2.2.2.2.2.2.2.2.2.1 (by unfold rg; decide) k, fun i h6 h7 => ⟨(hle.2.2.2.2.2.2.2.2.2.2.2 i h6 h7).1, ?_⟩⟩, hc, ht, hx, hcl, hlo, hsh⟩
            show upd (σx.2.1 49) k 1 i = 0
            rw [pk_un (show i ≠ k by omega)]
            exact (hle.2.2.2.2.2.2.2.2.2.2.2 i h6 h7).2
          · rw [if_pos (hw.mpr (Or.inr h5)), if_neg h4, if_neg h5]
            exact ⟨_, _, _, rfl, rfl, κ, hd, hs, hla, hhe, hho, hli, hle, hc, ht, hx, hcl, hlo, hsh⟩
      · simp only [if_neg h3]
        exact ⟨_, _, _, rfl, rfl, κ, hd, hs, hla, hhe, hho, hli, hle, hc, ht, hx, hcl, hlo, hsh⟩
    · simp only [if_neg h2]
      exact ⟨_, _, _, rfl, rfl, κ, hd, hs, hla, hhe, hho, hli, hle, hc, ht, hx, hcl, hlo, hsh⟩
theorem s_tower {N : Nat} : SP_tower Inv N := by
  intro σx σm a1 a2 ⟨κ, hd, hs, hla, hhe, hho, hli, hle, hc, ht, hx, hcl, hlo, hsh⟩
  unfold fX11_tower fX12_tower
  rw [isPlot_e, isIn_w (x := a2) (a := 10) (b := 90) (A := 10) (B := 90) rfl rfl]
  have h16 := hli.1
  by_cases h1 : fX11_isPlot a1 = 0
  · simp only [if_pos h1]
    exact ⟨_, _, _, rfl, rfl, κ, hd, hs, hla, hhe, hho, hli, hle, hc, ht, hx, hcl, hlo, hsh⟩
  · by_cases h2 : fX11_within a2 10 90 = 0
    · simp only [if_neg h1, if_pos h2]
      exact ⟨_, _, _, rfl, rfl, κ, hd, hs, hla, hhe, hho, hli, hle, hc, ht, hx, hcl, hlo, hsh⟩
    · simp only [if_neg h1, if_neg h2, hli.2.1, hli.2.2.1]
      by_cases h4 : κ 2 = 16
      · rw [h4, if_neg (show ¬ nI 16 < 16 from by decide), if_pos (show nI 16 = 16 from rfl)]
        exact ⟨_, _, _, rfl, rfl, κ, hd, hs, hla, hhe, hho, hli, hle, hc, ht, hx, hcl, hlo, hsh⟩
      · have hlt : κ 2 < 16 := by omega
        rw [if_pos (show nI (κ 2) < 16 from nI_lt hlt (by decide)), if_neg (show ¬ nI (κ 2) = 16 from fun q => h4 ((nI_eq (b := 16) (by omega) (by decide)).mp q))]
        unfold fX6_addTower
        have e0 : ∀ (c : Nat) (f : Nat → Int32), (sA σx c f).1 2 = nI (κ 2) := fun _ _ => hli.2.1
        have f0 : ∀ (c : Nat) (f : Nat → Int32), (sA σm c f).1 2 = nI (κ 2) := fun _ _ => hli.2.2.1
        have f1 : ∀ (c : Nat) (f : Nat → Int32) (c2 : Nat) (g : Nat → Int32), (sA (sA σm c f) c2 g).1 2 = nI (κ 2) := fun _ _ _ _ => hli.2.2.1
        simp only [bd2, nm, hli.2.1, ix_nI hlt (by decide), aW_nI (show κ 2 < 2 ^ 31 by omega), if_true, e0, f0, f1, nI_1]
        refine ⟨_, _, _, rfl, rfl, va_up κ 2 (κ 2 + 1), hd, hs, hla, hhe, hho, ⟨hlt, rfl, rfl, hli.2.2.2.1, hli.2.2.2.2.1, hli.2.2.2.2.2.1, eqR_push hli.2.2.2.2.2.2.1 (wi_rg h2), hli.2.2.2.2.2.2.2.1, hli.2.2.2.2.2.2.2.2.1, hli.2.2.2.2.2.2.2.2.2.1, hli.2.2.2.2.2.2.2.2.2.2.1, fun k hk => ?_⟩, hle, hc, ht, hx, hcl, hlo, hsh⟩
        obtain ⟨a, b, ha, hb, ea, eb, el⟩ := hli.2.2.2.2.2.2.2.2.2.2.2 k hk
        refine ⟨a, b, Nat.lt_succ_of_lt ha, Nat.lt_succ_of_lt hb, ea, eb, ?_⟩
        show σx.2.1 39 k = (if upd (σm.2.1 13) (κ 2) a2 b < upd (σm.2.1 13) (κ 2) a2 a then upd (σm.2.1 13) (κ 2) a2 b else upd (σm.2.1 13) (κ 2) a2 a)
        rw [pk_un (show a ≠ κ 2 by omega), pk_un (show b ≠ κ 2 by omega)]
        exact el
