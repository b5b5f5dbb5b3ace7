/-! PURE: span, leave -/
theorem sA_1 (σ : St) (c : Nat) (f : Nat → Int32) : (sA σ c f).1 = σ.1 := rfl
theorem leaf_mono {nP nL : Nat} {σx σm : St} (h : I_leaf nP nL σx σm) : I_leaf (nP + 1) nL σx σm := ⟨h.1, h.2.1, h.2.2.1, h.2.2.2.1, fun k hk => by obtain ⟨sp, h1, h2, h3⟩ := h.2.2.2.2.1 k hk; exact ⟨sp, by omega, h2, h3⟩, h.2.2.2.2.2⟩
theorem claim_mono {nP nC : Nat} {σx σm : St} (h : I_claim nP nC σx σm) : I_claim (nP + 1) nC σx σm := ⟨h.1, h.2.1, h.2.2.1, h.2.2.2.1, fun k hk => by obtain ⟨sp, h1, h2, h3⟩ := h.2.2.2.2.1 k hk; exact ⟨sp, by omega, h2, h3⟩, h.2.2.2.2.2⟩
theorem tower_of {nT nP : Nat} {σx σm : St} (h : I_line nT nP σx σm) {x : Int32} (hx : ¬ fX6_isTower σx x = 0) : ∃ k, k < nT ∧ x = nI k := by
  have := h.1
  unfold fX6_isTower at hx
  rw [h.2.1] at hx
  exact cnt_of (by omega) hx
set_option maxHeartbeats 1000000 in
theorem s_span {N : Nat} : SP_span Inv N := by
  intro σx σm a1 a2 a3 a4 ⟨κ, hd, hs, hla, hhe, hho, hli, hle, hc, ht, hx, hcl, hlo, hsh⟩
  unfold fX11_span fX12_span
  rw [isTower_e hli, isTower_e hli, isPlot_e, isIn_w (x := a4) (a := 50) (b := 600) (A := 50) (B := 600) rfl rfl]
  have hT := hli.1
  have hP := hli.2.2.2.1
  by_cases h1 : fX6_isTower σx a1 = 0
  · simp only [if_pos h1]
    exact ⟨_, _, _, rfl, rfl, κ, hd, hs, hla, hhe, hho, hli, hle, hc, ht, hx, hcl, hlo, hsh⟩
  · by_cases h2 : fX6_isTower σx a2 = 0
    · simp only [if_neg h1, if_pos h2]
      exact ⟨_, _, _, rfl, rfl, κ, hd, hs, hla, hhe, hho, hli, hle, hc, ht, hx, hcl, hlo, hsh⟩
    · by_cases h3 : a1 = a2
      · simp only [if_neg h1, if_neg h2, if_pos h3]
        exact ⟨_, _, _, rfl, rfl, κ, hd, hs, hla, hhe, hho, hli, hle, hc, ht, hx, hcl, hlo, hsh⟩
      · by_cases h4 : fX11_isPlot a3 = 0
        · simp only [if_neg h1, if_neg h2, if_neg h3, if_pos h4]
          exact ⟨_, _, _, rfl, rfl, κ, hd, hs, hla, hhe, hho, hli, hle, hc, ht, hx, hcl, hlo, hsh⟩
        · by_cases h5 : fX11_within a4 50 600 = 0
          · simp only [if_neg h1, if_neg h2, if_neg h3, if_neg h4, if_pos h5]
            exact ⟨_, _, _, rfl, rfl, κ, hd, hs, hla, hhe, hho, hli, hle, hc, ht, hx, hcl, hlo, hsh⟩
          · obtain ⟨a, ha, rfl⟩ := tower_of hli h1
            obtain ⟨b, hb, rfl⟩ := tower_of hli h2
            simp only [if_neg h1, if_neg h2, if_neg h3, if_neg h4, if_neg h5, hli.2.2.2.2.1, hli.2.2.2.2.2.1]
            by_cases h6 : κ 3 = 16
            · rw [h6, if_neg (show ¬ nI 16 < 16 from by decide), if_pos (show nI 16 = 16 from rfl)]
              exact ⟨_, _, _, rfl, rfl, κ, hd, hs, hla, hhe, hho, hli, hle, hc, ht, hx, hcl, hlo, hsh⟩
            · have hlt : κ 3 < 16 := by omega
              rw [if_pos (show nI (κ 3) < 16 from nI_lt hlt (by decide)), if_neg (show ¬ nI (κ 3) = 16 from fun q => h6 ((nI_eq (b := 16) (by omega) (by decide)).mp q))]
              unfold fX6_addSpan
              have e36 : ∀ f g : Nat → Int32, (sA (sA σx 37 f) 38 g).2.1 36 = σx.2.1 36 := fun _ _ => rfl
              simp only [bd2, nm, sA_1, hli.2.2.2.2.1, hli.2.2.2.2.2.1, ix_nI hlt (by decide), aW_nI (show κ 3 < 2 ^ 31 by omega), ix_nI (show a < 16 by omega) (by decide), ix_nI (show b < 16 by omega) (by decide), aR_nI (show a < 2 ^ 31 by omega), aR_nI (show b < 2 ^ 31 by omega), if_true, e36, nI_1]
              have ea := (hli.2.2.2.2.2.2.1 a ha).1
              have eb := (hli.2.2.2.2.2.2.1 b hb).1
              rw [ea, eb]
              refine ⟨_, _, _, rfl, rfl, va_up κ 3 (κ 3 + 1), hd, hs, hla, hhe, hho, ⟨hT, hli.2.1, hli.2.2.1, hlt, rfl, rfl, hli.2.2.2.2.2.2.1, eqR_push hli.2.2.2.2.2.2.2.1 (wi_rg h4), eqR_push hli.2.2.2.2.2.2.2.2.1 (wi_rg h5), eqR_push hli.2.2.2.2.2.2.2.2.2.1 (by unfold rg; decide), eqR_push hli.2.2.2.2.2.2.2.2.2.2.1 (by unfold rg; decide), fun k hk => ?_⟩, leaf_mono hle, hc, ht, hx, claim_mono hcl, hlo, hsh⟩
              have hk : k < κ 3 + 1 := hk
              show ∃ a' b', a' < κ 2 ∧ b' < κ 2 ∧ upd (σm.2.1 14) (κ 3) (nI a) k = nI a' ∧ upd (σm.2.1 15) (κ 3) (nI b) k = nI b' ∧ upd (σx.2.1 39) (κ 3) (if σm.2.1 13 b < σm.2.1 13 a then σm.2.1 13 b else σm.2.1 13 a) k = (if σm.2.1 13 b' < σm.2.1 13 a' then σm.2.1 13 b' else σm.2.1 13 a')
              by_cases e : k = κ 3
              · rw [e, up_s, up_s, up_s]
                exact ⟨a, b, ha, hb, rfl, rfl, rfl⟩
              · rw [pk_un e, pk_un e, pk_un e]
                exact hli.2.2.2.2.2.2.2.2.2.2.2 k (by omega)
theorem leave_core {N : Nat} {κ : Nat → Nat} {σx σm : St} {a1 a3 a4 on : Int32} {sp : Nat} (hI : InvK κ σx σm) (h1 : rg 0 5 a1) (hsp : sp < κ 3) (h3 : rg 0 99999 a3) (h4 : rg 0 9999 a4) (h5 : on = -1 ∨ ∃ j, j < κ 4 ∧ on = nI j ∧ σm.2.1 23 j = nI sp) (hlt : κ 4 < 24) : ∃ r σx' σm', fX5_add N σx a1 (nI sp) a3 a4 on = some (r, σx') ∧ fX12_leave_80 N σm a1 (nI sp) a3 a4 on 1 = some (r, σm') ∧ Inv σx' σm' := by
  obtain ⟨hd, hs, hla, hhe, hho, hli, hle, hc, ht, hx, hcl, hlo, hsh⟩ := hI
  unfold fX5_add fX12_leave_80
  rw [if_neg (show ¬ (1 : Int32) = 0 from by decide), hle.2.2.1, if_neg (show ¬ nI (κ 4) = 24 from fun q => by have := (nI_eq (b := 24) (by omega) (by decide)).mp q; omega)]
  simp only [nm, sA_1, hle.2.1, hle.2.2.1, ix_nI hlt (by decide), aW_nI (show κ 4 < 2 ^ 31 by omega), if_true, nI_1]
  refine ⟨_, _, _, rfl, rfl, va_up κ 4 (κ 4 + 1), hd, hs, hla, hhe, hho, hli, ⟨hlt, rfl, rfl, eqR_push hle.2.2.2.1 h1, fun k hk => ?_, eqR_push hle.2.2.2.2.2.1 h3, eqR_push hle.2.2.2.2.2.2.1 h4, fun k hk => ?_, hle.2.2.2.2.2.2.2.2.1, eqR_push hle.2.2.2.2.2.2.2.2.2.1 (by unfold rg; decide), hle.2.2.2.2.2.2.2.2.2.2.1, fun k h6 h7 => hle.2.2.2.2.2.2.2.2.2.2.2 k (Nat.le_of_succ_le h6) h7⟩, hc, ht, hx, hcl, hlo, hsh⟩
  · have hk : k < κ 4 + 1 := hk
    show ∃ s2, s2 < κ 3 ∧ upd (σx.2.1 43) (κ 4) (nI sp) k = nI s2 ∧ upd (σm.2.1 23) (κ 4) (nI sp) k = nI s2
    by_cases e : k = κ 4
    · rw [e, up_s, up_s]; exact ⟨sp, hsp, rfl, rfl⟩
    · rw [pk_un e, pk_un e]; exact hle.2.2.2.2.1 k (by omega)
  · have hk : k < κ 4 + 1 := hk
    show upd (σx.2.1 46) (κ 4) on k = upd (σm.2.1 26) (κ 4) on k ∧ (upd (σm.2.1 26) (κ 4) on k = -1 ∨ ∃ j, j < k ∧ upd (σm.2.1 26) (κ 4) on k = nI j ∧ upd (σm.2.1 23) (κ 4) (nI sp) j = upd (σm.2.1 23) (κ 4) (nI sp) k)
    by_cases e : k = κ 4
    · rw [e, up_s, up_s, up_s]
      refine ⟨rfl, h5.imp id (fun ⟨j, hj, e1, e2⟩ => ⟨j, hj, e1, ?_⟩)⟩
      rw [pk_un (show j ≠ κ 4 by omega)]
      exact e2
    · rw [pk_un e, pk_un e, pk_un (f := σm.2.1 23) e]
      refine ⟨(hle.2.2.2.2.2.2.2.1 k (by omega)).1, (hle.2.2.2.2.2.2.2.1 k (by omega)).2.imp id (fun ⟨j, hj, e1, e2⟩ => ⟨j, hj, e1, ?_⟩)⟩
      rw [pk_un (show j ≠ κ 4 by omega)]
      exact e2
theorem s_leave {N : Nat} : SP_leave Inv N := by
  intro σx σm a1 a2 a3 a4 a5 hI0
  obtain ⟨κ, hK⟩ := id hI0
  obtain ⟨hd, hs, hla, hhe, hho, hli, hle, hc, ht, hx, hcl, hlo, hsh⟩ := id hK
  have h24 := hle.1
  have hD := hd.1
  have es : fX4_isStillToCome σx a4 = fX11_within a4 (σm.1 0) 9999 := by unfold fX4_isStillToCome; rw [hd.2.1, hd.2.2]
  have z0 : fX12_leave_79 N σm a1 a2 a3 a4 a5 = some (-2, σm) := rfl
  unfold fX11_leave fX12_leave fX11_leave_83 fX12_leave_75
  rw [z0, isIn_w (x := a1) (a := 0) (b := 5) (A := 0) (B := 5) rfl rfl, isSpan_e hli, isIn_w (x := a3) (a := 0) (b := 99999) (A := 0) (B := 99999) rfl rfl, isIn_w (x := a4) (a := σm.1 0) (b := 9999) (A := (σm.1 0).toInt64) (B := 9999) rfl rfl, es, isLeave_e hle]
  by_cases h1 : fX11_within a1 0 5 = 0
  · simp only [if_pos h1]; exact ⟨_, _, _, rfl, rfl, hI0⟩
  by_cases h2 : fX6_isSpan σx a2 = 0
  · simp only [if_neg h1, if_pos h2]; exact ⟨_, _, _, rfl, rfl, hI0⟩
  by_cases h3 : fX11_within a3 0 99999 = 0
  · simp only [if_neg h1, if_neg h2, if_pos h3]; exact ⟨_, _, _, rfl, rfl, hI0⟩
  by_cases h4 : fX11_within a4 (σm.1 0) 9999 = 0
  · simp only [if_neg h1, if_neg h2, if_neg h3, if_pos h4]; exact ⟨_, _, _, rfl, rfl, hI0⟩
  obtain ⟨sp, hsp, rfl⟩ := span_of hli h2
  have r4 : rg 0 9999 a4 := by
    have h5 := wi_rg h4
    rw [hd.2.2, nI_toInt (by omega)] at h5
    exact ⟨by have := h5.1; omega, h5.2⟩
  have core : (a5 = -1 ∨ ∃ j, j < κ 4 ∧ a5 = nI j ∧ σm.2.1 23 j = nI sp) → ∃ r σx' σm', (if σx.1 4 < 24 then (bd2 (fX5_add N σx a1 (nI sp) a3 a4 a5) fun r4 σ2 => some (r4, σ2)) else (some ((-4 : Int32), σx))) = some (r, σx') ∧ fX12_leave_80 N σm a1 (nI sp) a3 a4 a5 1 = some (r, σm') ∧ Inv σx' σm' := by
    intro h5
    rw [hle.2.1]
    by_cases h6 : κ 4 = 24
    · refine ⟨-4, σx, σm, ?_, ?_, hI0⟩
      · rw [h6, if_neg (show ¬ nI 24 < 24 from by decide)]
      · unfold fX12_leave_80
        rw [if_neg (show ¬ (1 : Int32) = 0 from by decide), hle.2.2.1, h6, if_pos (show nI 24 = 24 from rfl)]
    · obtain ⟨r, x', m', e1, e2, e3⟩ := leave_core (N := N) hK (wi_rg h1) hsp (wi_rg h3) r4 h5 (show κ 4 < 24 by omega)
      refine ⟨r, x', m', ?_, e2, e3⟩
      rw [if_pos (show nI (κ 4) < 24 from nI_lt (show κ 4 < 24 by omega) (by decide)), e1]
      rfl
  simp only [if_neg h1, if_neg h2, if_neg h3, if_neg h4]
  by_cases h5 : a5 = -1
  · simp only [if_pos h5]
    exact core (Or.inl h5)
  · simp only [if_neg h5]
    by_cases h6 : fX5_isLeave σx a5 = 0
    · simp only [if_pos h6]; exact ⟨_, _, _, rfl, rfl, hI0⟩
    · obtain ⟨j, hj, rfl⟩ := leave_of hle h6
      obtain ⟨s2, hs2, f2, e2⟩ := hle.2.2.2.2.1 j hj
      simp only [if_neg h6, ix_nI (show j < 24 by omega) (by decide), aR_nI (show j < 2 ^ 31 by omega), if_true]
      rw [f2, e2]
      by_cases h7 : nI s2 = nI sp
      · simp only [if_pos h7]
        exact core (Or.inr ⟨j, hj, rfl, e2.trans h7⟩)
      · simp only [if_neg h7]
        exact ⟨_, _, _, rfl, rfl, hI0⟩
