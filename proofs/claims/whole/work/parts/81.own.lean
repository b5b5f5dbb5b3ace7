/-! PURE: the OWNER of a PLOT in a DAY -/
def ownL (plot day : Int32) (fp fo fd : Nat → Int32) : Nat → Nat → Int32 → Int32 → Int32
  | 0, _, o, _ => o
  | m + 1, i, o, la => if fp i = plot ∧ fd i ≤ day ∧ la ≤ fd i then ownL plot day fp fo fd m (i + 1) (fo i) (fd i) else ownL plot day fp fo fd m (i + 1) o la
theorem ownL_0 {plot day : Int32} {fp fo fd : Nat → Int32} : ∀ (m i : Nat) (o : Int32), (∀ k, i ≤ k → k < i + m → 0 ≤ fd k) → ownL plot day fp fo fd m i o 0 = ownL plot day fp fo fd m i o (-1)
  | 0, _, _, _ => rfl
  | m + 1, i, o, h => by
    have h0 : 0 ≤ fd i := h i (Nat.le_refl i) (by omega)
    have h1 : (-1 : Int32) ≤ fd i := Int32.le_trans (by decide) h0
    unfold ownL
    by_cases hc : fp i = plot ∧ fd i ≤ day
    · rw [if_pos ⟨hc.1, hc.2, h0⟩, if_pos ⟨hc.1, hc.2, h1⟩]
    · rw [if_neg (fun q => hc ⟨q.1, q.2.1⟩), if_neg (fun q => hc ⟨q.1, q.2.1⟩)]
      exact ownL_0 m (i + 1) o (fun k hk hk2 => h k (by omega) (by omega))
theorem ownL_cg {plot day : Int32} {fp fo fd gp go gd : Nat → Int32} : ∀ (m i : Nat) (o la : Int32), (∀ k, i ≤ k → k < i + m → fp k = gp k ∧ fo k = go k ∧ fd k = gd k) → ownL plot day fp fo fd m i o la = ownL plot day gp go gd m i o la
  | 0, _, _, _, _ => rfl
  | m + 1, i, o, la, h => by
    obtain ⟨h1, h2, h3⟩ := h i (Nat.le_refl i) (by omega)
    unfold ownL
    rw [h1, h2, h3, ownL_cg m (i + 1) _ _ (fun k hk hk2 => h k (by omega) (by omega)), ownL_cg m (i + 1) o la (fun k hk hk2 => h k (by omega) (by omega))]
theorem xown_loop {N : Nat} {σ : St} {n : Nat} {plot day : Int32} (hn : σ.1 1 = nI n) (h40 : n ≤ 40) : ∀ (m f i : Nat) (o la : Int32), i + m = n → m < f → fX4_ownerOn_8 N σ f plot day o la (nI i) = some (ownL plot day (σ.2.1 12) (σ.2.1 13) (σ.2.1 14) m i o la) := by
  intro m
  induction m with
  | zero =>
    intro f i o la hi hf
    cases f with
    | zero => omega
    | succ f =>
      show fX4_ownerOn_8b N σ (fX4_ownerOn_8 N σ f) plot day o la (nI i) = _
      unfold fX4_ownerOn_8b
      rw [hn, if_pos (nI_le (by omega) (by omega))]
      rfl
  | succ m ih =>
    intro f i o la hi hf
    cases f with
    | zero => omega
    | succ f =>
      show fX4_ownerOn_8b N σ (fX4_ownerOn_8 N σ f) plot day o la (nI i) = _
      unfold fX4_ownerOn_8b fX4_ownerOn_68 nm
      rw [hn, if_neg (nI_ge (by omega) (by omega))]
      simp only [ix_nI (show i < 40 by omega) (by decide), aR_nI (show i < 2 ^ 31 by omega), if_true, nI_1 i]
      unfold ownL
      by_cases h1 : σ.2.1 12 i = plot
      · by_cases h2 : σ.2.1 14 i < la
        · rw [if_pos h1, if_pos h2, if_neg (fun q => Int32.not_lt.mpr q.2.2 h2)]
          exact ih f (i + 1) o la (by omega) (by omega)
        · by_cases h3 : day < σ.2.1 14 i
          · rw [if_pos h1, if_neg h2, if_pos h3, if_neg (fun q => Int32.not_lt.mpr q.2.1 h3)]
            exact ih f (i + 1) o la (by omega) (by omega)
          · rw [if_pos h1, if_neg h2, if_neg h3, if_pos ⟨h1, Int32.not_lt.mp h3, Int32.not_lt.mp h2⟩]
            exact ih f (i + 1) _ _ (by omega) (by omega)
      · rw [if_neg h1, if_neg (fun q => h1 q.1)]
        exact ih f (i + 1) o la (by omega) (by omega)
theorem mown_loop {N : Nat} {σ : St} {n : Nat} {plot day : Int32} (hn : σ.1 1 = nI n) (h40 : n ≤ 40) : ∀ (m f i : Nat) (o la : Int32), i + m = n → m < f → fX12_ownerIn_8 N σ f plot day o la (nI i) = some (ownL plot day (σ.2.1 1) (σ.2.1 2) (σ.2.1 3) m i o la) := by
  intro m
  induction m with
  | zero =>
    intro f i o la hi hf
    cases f with
    | zero => omega
    | succ f =>
      show fX12_ownerIn_8b N σ (fX12_ownerIn_8 N σ f) plot day o la (nI i) = _
      unfold fX12_ownerIn_8b
      rw [hn, if_pos (nI_le (by omega) (by omega))]
      rfl
  | succ m ih =>
    intro f i o la hi hf
    cases f with
    | zero => omega
    | succ f =>
      show fX12_ownerIn_8b N σ (fX12_ownerIn_8 N σ f) plot day o la (nI i) = _
      unfold fX12_ownerIn_8b fX12_ownerIn_68 nm
      rw [hn, if_neg (nI_ge (by omega) (by omega))]
      simp only [ix_nI (show i < 40 by omega) (by decide), aR_nI (show i < 2 ^ 31 by omega), if_true, nI_1 i]
      unfold ownL
      by_cases h1 : σ.2.1 1 i = plot
      · by_cases h3 : day < σ.2.1 3 i
        · rw [if_pos h1, if_pos h3, if_neg (fun q => Int32.not_lt.mpr q.2.1 h3)]
          exact ih f (i + 1) o la (by omega) (by omega)
        · by_cases h2 : σ.2.1 3 i < la
          · rw [if_pos h1, if_neg h3, if_pos h2, if_neg (fun q => Int32.not_lt.mpr q.2.2 h2)]
            exact ih f (i + 1) o la (by omega) (by omega)
          · rw [if_pos h1, if_neg h3, if_neg h2, if_pos ⟨h1, Int32.not_lt.mp h3, Int32.not_lt.mp h2⟩]
            exact ih f (i + 1) _ _ (by omega) (by omega)
      · rw [if_neg h1, if_neg (fun q => h1 q.1)]
        exact ih f (i + 1) o la (by omega) (by omega)
/-- the sales of both sides, n of them -/
def I_sale (n : Nat) (σx σm : St) : Prop := n ≤ 40 ∧ σx.1 1 = nI n ∧ σm.1 1 = nI n ∧ eqR n 0 47 (σx.2.1 12) (σm.2.1 1) ∧ eqR n 0 9 (σx.2.1 13) (σm.2.1 2) ∧ eqR n 0 9999 (σx.2.1 14) (σm.2.1 3)
/-- who has it, as the model's rows say -/
def owS (n : Nat) (σm : St) (plot day : Int32) : Int32 := ownL plot day (σm.2.1 1) (σm.2.1 2) (σm.2.1 3) n 0 0 (-1)
theorem mown {N n : Nat} {σx σm : St} (h : I_sale n σx σm) (hN : 41 ≤ N) (plot day : Int32) : fX12_ownerIn N σm plot day = some (owS n σm plot day) := by
  unfold fX12_ownerIn
  exact mown_loop h.2.2.1 h.1 n N 0 0 (-1) (by omega) (by have := h.1; omega)
theorem xown {N n : Nat} {σx σm : St} (h : I_sale n σx σm) (hN : 41 ≤ N) (plot day : Int32) : fX4_ownerOn N σx plot day = some (owS n σm plot day) := by
  unfold fX4_ownerOn
  have h1 := xown_loop (N := N) (plot := plot) (day := day) h.2.1 h.1 n N 0 0 0 (by omega) (by have := h.1; omega)
  refine h1.trans (congrArg some ?_)
  rw [ownL_cg n 0 0 0 (fun k _ hk => ⟨(h.2.2.2.1 k (by omega)).1, (h.2.2.2.2.1 k (by omega)).1, (h.2.2.2.2.2 k (by omega)).1⟩)]
  exact ownL_0 n 0 0 (fun k _ hk => by
    have h2 := h.2.2.2.2.2 k (by omega)
    rw [← h2.1]
    exact Int32.le_iff_toInt_le.mpr h2.2.1)
theorem ownL_rg {plot day : Int32} {fp fo fd : Nat → Int32} {hi : Int} : ∀ (m i : Nat) (o la : Int32), rg 0 hi o → (∀ k, i ≤ k → k < i + m → rg 0 hi (fo k)) → rg 0 hi (ownL plot day fp fo fd m i o la)
  | 0, _, _, _, ho, _ => ho
  | m + 1, i, o, la, ho, h => by
    unfold ownL
    split
    · exact ownL_rg m (i + 1) _ _ (h i (Nat.le_refl i) (by omega)) (fun k hk hk2 => h k (by omega) (by omega))
    · exact ownL_rg m (i + 1) _ _ ho (fun k hk hk2 => h k (by omega) (by omega))
theorem owS_rg {n : Nat} {σx σm : St} (h : I_sale n σx σm) (plot day : Int32) : rg 0 9 (owS n σm plot day) := ownL_rg n 0 0 (-1) (by unfold rg; decide) (fun k _ hk => by have h2 := h.2.2.2.2.1 k (by omega); rw [← h2.1]; exact h2.2)
