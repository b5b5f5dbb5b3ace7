/-! PURE: calls that write a cell or two -/
theorem up_s (f : Nat → Int32) (k : Nat) (v : Int32) : upd f k v k = v := pk_us
theorem eqR_upd {n : Nat} {lo hi : Int} {f g : Nat → Int32} (h : eqR n lo hi f g) {v : Int32} (hv : rg lo hi v) (k : Nat) : eqR n lo hi (upd f k v) (upd g k v) := by
  intro i hi
  by_cases e : i = k
  · subst e; rw [up_s, up_s]; exact ⟨rfl, hv⟩
  · rw [pk_un e, pk_un e]; exact h i hi
theorem eqR_push {n : Nat} {lo hi : Int} {f g : Nat → Int32} (h : eqR n lo hi f g) {v : Int32} (hv : rg lo hi v) : eqR (n + 1) lo hi (upd f n v) (upd g n v) := by
  intro i hi
  by_cases e : i = n
  · subst e; rw [up_s, up_s]; exact ⟨rfl, hv⟩
  · rw [pk_un e, pk_un e]; exact h i (by omega)
theorem aW_nI {σ : St} {c k : Nat} {v : Int32} (h : k < 2 ^ 31) : aW σ c (nI k) v = sA σ c (upd (σ.2.1 c) k v) := by show sA σ c (upd (σ.2.1 c) (nI k).toNatClampNeg v) = _; rw [nI_clamp h]
theorem cnt_lt {n : Nat} (hn : n ≤ 1000) (x : Int32) : (nI n - 1 < x) ↔ nI n ≤ x := by
  rw [show (1 : Int32) = nI 1 from rfl, Int32.lt_iff_toInt_lt, Int32.le_iff_toInt_le, pk_sub_toInt (by omega) (by omega), nI_toInt (by omega)]
  omega
theorem cnt_e {n : Nat} (hn : n ≤ 1000) (x : Int32) : (if x < 0 then (0 : Int32) else (if nI n ≤ x then (0 : Int32) else (1 : Int32))) = fX11_within x 0 (nI n - 1) := by
  unfold fX11_within
  by_cases h1 : x < 0
  · rw [if_pos h1, if_pos h1]
  · rw [if_neg h1, if_neg h1]
    by_cases h2 : nI n ≤ x
    · rw [if_pos h2, if_pos ((cnt_lt hn x).mpr h2)]
    · rw [if_neg h2, if_neg (fun q => h2 ((cnt_lt hn x).mp q))]
theorem cnt_of {n : Nat} (hn : n ≤ 1000) {x : Int32} (h : ¬ fX11_within x 0 (nI n - 1) = 0) : ∃ k, k < n ∧ x = nI k := by
  have h1 := wi_ne.mp h
  have h2 : ¬ nI n ≤ x := fun q => absurd ((cnt_lt hn x).mpr q) (Int32.not_lt.mpr h1.2)
  obtain ⟨j, hj, rfl⟩ := nI_of (x := x) (Int32.not_lt.mpr h1.1)
  exact ⟨j, by
    rcases Nat.lt_or_ge j n with q | q
    · exact q
    · exact absurd (nI_le q hj) h2, rfl⟩
theorem isSpan_e {nT nP : Nat} {σx σm : St} (h : I_line nT nP σx σm) (x : Int32) : fX12_isSpan σm x = fX6_isSpan σx x := by
  have := h.2.2.2.1
  unfold fX12_isSpan fX6_isSpan
  rw [h.2.2.2.2.1, h.2.2.2.2.2.1]
  exact cnt_e (by omega) x
theorem span_of {nT nP : Nat} {σx σm : St} (h : I_line nT nP σx σm) {x : Int32} (hx : ¬ fX6_isSpan σx x = 0) : ∃ k, k < nP ∧ x = nI k := by
  have := h.2.2.2.1
  unfold fX6_isSpan at hx
  rw [h.2.2.2.2.1] at hx
  exact cnt_of (by omega) hx
theorem isTower_e {nT nP : Nat} {σx σm : St} (h : I_line nT nP σx σm) (x : Int32) : fX12_isTower σm x = fX6_isTower σx x := by
  have := h.1
  unfold fX12_isTower fX6_isTower
  rw [h.2.1, h.2.2.1]
  exact cnt_e (by omega) x
theorem isLeave_e {nP nL : Nat} {σx σm : St} (h : I_leaf nP nL σx σm) (x : Int32) : fX12_isLeave σm x = fX5_isLeave σx x := by
  have := h.1
  unfold fX12_isLeave fX5_isLeave
  rw [h.2.1, h.2.2.1]
  exact cnt_e (by omega) x
theorem leave_of {nP nL : Nat} {σx σm : St} (h : I_leaf nP nL σx σm) {x : Int32} (hx : ¬ fX5_isLeave σx x = 0) : ∃ k, k < nL ∧ x = nI k := by
  have := h.1
  unfold fX5_isLeave at hx
  rw [h.2.1] at hx
  exact cnt_of (by omega) hx
theorem s_hold {N : Nat} : SP_hold Inv N := by
  intro σx σm a1 a2 ⟨κ, hd, hs, hla, hhe, hho, hli, hle, hc, ht, hx, hcl, hlo, hsh⟩
  unfold fX11_hold fX12_hold
  rw [isOwner_e, isIn_w (x := a2) (a := 0) (b := 9999) (A := 0) (B := 9999) rfl rfl]
  by_cases h1 : fX11_isOwner a1 = 0
  · simp only [if_pos h1]
    exact ⟨_, _, _, rfl, rfl, κ, hd, hs, hla, hhe, hho, hli, hle, hc, ht, hx, hcl, hlo, hsh⟩
  · by_cases h2 : fX11_within a2 0 9999 = 0
    · simp only [if_neg h1, if_pos h2]
      exact ⟨_, _, _, rfl, rfl, κ, hd, hs, hla, hhe, hho, hli, hle, hc, ht, hx, hcl, hlo, hsh⟩
    · obtain ⟨o, ho, rfl⟩ := ow_of h1
      simp only [if_neg h1, if_neg h2, nm, ix_nI ho (by decide), aR_nI (show o < 2 ^ 31 by omega), aW_nI (show o < 2 ^ 31 by omega), if_true]
      rw [(hho o ho).1]
      exact ⟨_, _, _, rfl, rfl, κ, hd, hs, hla, hhe, eqR_upd hho (wi_rg h2) o, hli, hle, hc, ht, hx, hcl, hlo, hsh⟩
theorem s_heat {N : Nat} : SP_heat Inv N := by
  intro σx σm a1 a2 ⟨κ, hd, hs, hla, hhe, hho, hli, hle, hc, ht, hx, hcl, hlo, hsh⟩
  unfold fX11_heat fX12_heat
  rw [isSpan_e hli, isIn_w (x := a2) (a := -20) (b := 90) (A := -20) (B := 90) rfl rfl]
  by_cases h1 : fX6_isSpan σx a1 = 0
  · simp only [if_pos h1]
    exact ⟨_, _, _, rfl, rfl, κ, hd, hs, hla, hhe, hho, hli, hle, hc, ht, hx, hcl, hlo, hsh⟩
  · by_cases h2 : fX11_within a2 (-20) 90 = 0
    · simp only [if_neg h1, if_pos h2]
      exact ⟨_, _, _, rfl, rfl, κ, hd, hs, hla, hhe, hho, hli, hle, hc, ht, hx, hcl, hlo, hsh⟩
    · obtain ⟨k, hk, rfl⟩ := span_of hli h1
      have h16 : k < 16 := Nat.lt_of_lt_of_le hk hli.2.2.2.1
      simp only [if_neg h1, if_neg h2, fX6_changeHeat, bd2, nm, ix_nI h16 (by decide), aR_nI (show k < 2 ^ 31 by omega), aW_nI (show k < 2 ^ 31 by omega), if_true]
      rw [(hli.2.2.2.2.2.2.2.2.2.1 k hk).1]
      exact ⟨_, _, _, rfl, rfl, κ, hd, hs, hla, hhe, hho, ⟨hli.1, hli.2.1, hli.2.2.1, hli.2.2.2.1, hli.2.2.2.2.1, hli.2.2.2.2.2.1, hli.2.2.2.2.2.2.1, hli.2.2.2.2.2.2.2.1, hli.2.2.2.2.2.2.2.2.1, eqR_upd hli.2.2.2.2.2.2.2.2.2.1 (wi_rg h2) k, hli.2.2.2.2.2.2.2.2.2.2⟩, hle, hc, ht, hx, hcl, hlo, hsh⟩
theorem s_asking {N : Nat} : SP_asking Inv N := by
  intro σx σm a1 a2 ⟨κ, hd, hs, hla, hhe, hho, hli, hle, hc, ht, hx, hcl, hlo, hsh⟩
  unfold fX11_asking fX12_asking
  rw [isSpan_e hli, isIn_w (x := a2) (a := 1) (b := 60) (A := 1) (B := 60) rfl rfl]
  by_cases h1 : fX6_isSpan σx a1 = 0
  · simp only [if_pos h1]
    exact ⟨_, _, _, rfl, rfl, κ, hd, hs, hla, hhe, hho, hli, hle, hc, ht, hx, hcl, hlo, hsh⟩
  · by_cases h2 : fX11_within a2 1 60 = 0
    · simp only [if_neg h1, if_pos h2]
      exact ⟨_, _, _, rfl, rfl, κ, hd, hs, hla, hhe, hho, hli, hle, hc, ht, hx, hcl, hlo, hsh⟩
    · obtain ⟨k, hk, rfl⟩ := span_of hli h1
      have h16 : k < 16 := Nat.lt_of_lt_of_le hk hli.2.2.2.1
      simp only [if_neg h1, if_neg h2, nm, ix_nI h16 (by decide), aR_nI (show k < 2 ^ 31 by omega), aW_nI (show k < 2 ^ 31 by omega), if_true]
      rw [(hli.2.2.2.2.2.2.2.2.2.2.1 k hk).1]
      exact ⟨_, _, _, rfl, rfl, κ, hd, hs, hla, hhe, hho, ⟨hli.1, hli.2.1, hli.2.2.1, hli.2.2.2.1, hli.2.2.2.2.1, hli.2.2.2.2.2.1, hli.2.2.2.2.2.2.1, hli.2.2.2.2.2.2.2.1, hli.2.2.2.2.2.2.2.2.1, hli.2.2.2.2.2.2.2.2.2.1, eqR_upd hli.2.2.2.2.2.2.2.2.2.2.1 (wi_rg h2) k, hli.2.2.2.2.2.2.2.2.2.2.2⟩, hle, hc, ht, hx, hcl, hlo, hsh⟩
theorem s_trees {N : Nat} : SP_trees Inv N := by
  intro σx σm a1 a2 a3 ⟨κ, hd, hs, hla, hhe, hho, hli, hle, hc, ht, hx, hcl, hlo, hsh⟩
  unfold fX11_trees fX12_trees
  rw [isPlot_e, isIn_w (x := a2) (a := 0) (b := 40) (A := 0) (B := 40) rfl rfl, isIn_w (x := a3) (a := 0) (b := 9) (A := 0) (B := 9) rfl rfl]
  by_cases h1 : fX11_isPlot a1 = 0
  · simp only [if_pos h1]
    exact ⟨_, _, _, rfl, rfl, κ, hd, hs, hla, hhe, hho, hli, hle, hc, ht, hx, hcl, hlo, hsh⟩
  · by_cases h2 : fX11_within a2 0 40 = 0
    · simp only [if_neg h1, if_pos h2]
      exact ⟨_, _, _, rfl, rfl, κ, hd, hs, hla, hhe, hho, hli, hle, hc, ht, hx, hcl, hlo, hsh⟩
    · by_cases h3 : fX11_within a3 0 9 = 0
      · simp only [if_neg h1, if_neg h2, if_pos h3]
        exact ⟨_, _, _, rfl, rfl, κ, hd, hs, hla, hhe, hho, hli, hle, hc, ht, hx, hcl, hlo, hsh⟩
      · obtain ⟨p, hp, rfl⟩ := pl_of h1
        simp only [if_neg h1, if_neg h2, if_neg h3, fX4_plant, bd2, nm]
        rw [xtrees hd hla hp, mtrees hp]
        simp only [bd, ix_nI hp (by decide), aW_nI (show p < 2 ^ 31 by omega), if_true]
        have e0 : ∀ (c : Nat) (f : Nat → Int32) (c2 : Nat) (g : Nat → Int32), (sA (sA σx c f) c2 g).1 0 = nI (κ 0) := fun _ _ _ _ => hd.2.1
        have e1 : ∀ (c : Nat) (f : Nat → Int32) (c2 : Nat) (g : Nat → Int32), (sA (sA σm c f) c2 g).1 0 = nI (κ 0) := fun _ _ _ _ => hd.2.2
        rw [e0, e1]
        have hD := hd.1
        exact ⟨_, _, _, rfl, rfl, κ, hd, hs, ⟨hla.1, hla.2.1, hla.2.2.1, hla.2.2.2.1, eqR_upd hla.2.2.2.2.1 (wi_rg h2) p, eqR_upd hla.2.2.2.2.2.1 (wi_rg h3) p, eqR_upd hla.2.2.2.2.2.2 (rg_nI (Int.le_refl _) (by omega)) p⟩, hhe, hho, hli, hle, hc, ht, hx, hcl, hlo, hsh⟩
theorem s_sell {N : Nat} : SP_sell Inv N := by
  intro σx σm a1 a2 a3 ⟨κ, hd, hs, hla, hhe, hho, hli, hle, hc, ht, hx, hcl, hlo, hsh⟩
  unfold fX11_sell fX12_sell
  rw [isPlot_e, isOwner_e, isIn_w (x := a3) (a := σm.1 0) (b := 9999) (A := (σm.1 0).toInt64) (B := 9999) rfl rfl]
  have hD := hd.1
  have hS := hs.1
  have es : fX4_isStillToCome σx a3 = fX11_within a3 (σm.1 0) 9999 := by unfold fX4_isStillToCome; rw [hd.2.1, hd.2.2]
  rw [es]
  by_cases h1 : fX11_isPlot a1 = 0
  · simp only [if_pos h1]
    exact ⟨_, _, _, rfl, rfl, κ, hd, hs, hla, hhe, hho, hli, hle, hc, ht, hx, hcl, hlo, hsh⟩
  · by_cases h2 : fX11_isOwner a2 = 0
    · simp only [if_neg h1, if_pos h2]
      exact ⟨_, _, _, rfl, rfl, κ, hd, hs, hla, hhe, hho, hli, hle, hc, ht, hx, hcl, hlo, hsh⟩
    · by_cases h3 : fX11_within a3 (σm.1 0) 9999 = 0
      · simp only [if_neg h1, if_neg h2, if_pos h3]
        exact ⟨_, _, _, rfl, rfl, κ, hd, hs, hla, hhe, hho, hli, hle, hc, ht, hx, hcl, hlo, hsh⟩
      · simp only [if_neg h1, if_neg h2, if_neg h3, hs.2.1, hs.2.2.1]
        by_cases h4 : κ 1 = 40
        · rw [h4, if_neg (show ¬ nI 40 < 40 from by decide), if_pos (show nI 40 = 40 from rfl)]
          exact ⟨_, _, _, rfl, rfl, κ, hd, hs, hla, hhe, hho, hli, hle, hc, ht, hx, hcl, hlo, hsh⟩
        · have hlt : κ 1 < 40 := by omega
          rw [if_pos (show nI (κ 1) < 40 from nI_lt hlt (by decide)), if_neg (show ¬ nI (κ 1) = 40 from fun q => h4 ((nI_eq (by omega) (by decide)).mp q))]
          unfold fX4_addSale
          simp only [bd2, nm, hs.2.1, ix_nI hlt (by decide), aW_nI (show κ 1 < 2 ^ 31 by omega), if_true]
          have e0 : ∀ (c : Nat) (f : Nat → Int32), (sA σx c f).1 1 = nI (κ 1) := fun _ _ => hs.2.1
          have f0 : ∀ (c : Nat) (f : Nat → Int32), (sA σm c f).1 1 = nI (κ 1) := fun _ _ => hs.2.2.1
          have e1 : ∀ (c : Nat) (f : Nat → Int32) (c2 : Nat) (g : Nat → Int32), (sA (sA σx c f) c2 g).1 1 = nI (κ 1) := fun _ _ _ _ => hs.2.1
          have f1 : ∀ (c : Nat) (f : Nat → Int32) (c2 : Nat) (g : Nat → Int32), (sA (sA σm c f) c2 g).1 1 = nI (κ 1) := fun _ _ _ _ => hs.2.2.1
          have e2 : ∀ (c : Nat) (f : Nat → Int32) (c2 : Nat) (g : Nat → Int32) (c3 : Nat) (k : Nat → Int32), (sA (sA (sA σx c f) c2 g) c3 k).1 1 = nI (κ 1) := fun _ _ _ _ _ _ => hs.2.1
          have f2 : ∀ (c : Nat) (f : Nat → Int32) (c2 : Nat) (g : Nat → Int32) (c3 : Nat) (k : Nat → Int32), (sA (sA (sA σm c f) c2 g) c3 k).1 1 = nI (κ 1) := fun _ _ _ _ _ _ => hs.2.2.1
          simp only [e0, f0, e1, f1, e2, f2, ix_nI hlt (by decide), aW_nI (show κ 1 < 2 ^ 31 by omega), if_true, nI_1]
          refine ⟨_, _, _, rfl, rfl, va_up κ 1 (κ 1 + 1), hd, ⟨hlt, rfl, rfl, eqR_push hs.2.2.2.1 (wi_rg h1), eqR_push hs.2.2.2.2.1 (wi_rg h2), eqR_push hs.2.2.2.2.2 ?_⟩, hla, hhe, hho, hli, hle, hc, ht, hx, hcl, hlo, hsh⟩
          have h5 := wi_rg h3
          rw [hd.2.2, nI_toInt (by omega)] at h5
          exact ⟨by have := h5.1; omega, h5.2⟩
