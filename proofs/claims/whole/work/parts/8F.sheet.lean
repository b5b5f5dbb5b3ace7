/-! PURE: sheet, cell, copy -/
theorem rS_w {σ : St} {o : Nat} (ho : o < 4) (v : Nat → Int32) (i : Nat) (hi : i < 4) : rS (sA σ (81 + o) v) i = if i = o then v else rS σ i := by
  rw [rS_e hi, rS_e hi]
  show va_up σ.2.1 (81 + o) v (81 + i) = _
  unfold va_up
  by_cases e : i = o
  · rw [if_pos e, if_pos (by omega)]
  · rw [if_neg e, if_neg (by omega)]
theorem sA_81 {σ : St} {o c : Nat} (v : Nat → Int32) (h : c < 81) : (sA σ (81 + o) v).2.1 c = σ.2.1 c := by
  show va_up σ.2.1 (81 + o) v c = _
  unfold va_up
  rw [if_neg (by omega)]
theorem sub_tI {a b : Nat} (ha : a < 2 ^ 31) (hb : b < 2 ^ 31) : (nI a - nI b).toInt = (a : Int) - b := by
  rw [Int32.toInt_sub, nI_toInt ha, nI_toInt hb]
  exact Int.bmod_eq_of_le (by omega) (by omega)
theorem sh_of {x : Int32} (h : ¬ fX9_isSheet x = 0) : ∃ k, k < 4 ∧ x = nI k := by
  obtain ⟨k, h1, h2⟩ := rg_of (hi := 3) (wi_rg (a := 0) (b := 3) h) (by decide)
  exact ⟨k, by omega, h2⟩
theorem srt {v : Int32} (h : rg (-1) 2 v) : (v < 0) ↔ v = -1 := by
  obtain ⟨h1, h2⟩ := h
  constructor
  · intro q
    rw [Int32.lt_iff_toInt_lt, show (0 : Int32).toInt = 0 from rfl] at q
    apply Int32.toInt_inj.mp
    rw [show (-1 : Int32).toInt = -1 from rfl]; omega
  · intro q; rw [q]; decide
theorem srt' {v : Int32} (h : rg (-1) 2 v) : (0 ≤ v) ↔ ¬ v = -1 := by
  rw [← srt h]; exact Int32.not_lt.symm
theorem mzero_loop {N s : Nat} {σ : St} (hs : s < 4) : ∀ (m f i : Nat) (g : Nat → Int32), i + m = 40 → m < f → (∀ k, k < i → g (40 * s + k) = 0) → (∀ j, (j < 40 * s ∨ 40 * s + 40 ≤ j) → g j = σ.2.1 54 j) → ∃ g', fX12_sheet_70 N f (sA σ 54 g) (nI s) (nI i) = some (1, sA σ 54 g') ∧ (∀ k, k < 40 → g' (40 * s + k) = 0) ∧ (∀ j, (j < 40 * s ∨ 40 * s + 40 ≤ j) → g' j = σ.2.1 54 j) := by
  intro m
  induction m with
  | zero =>
    intro f i g hi hf h1 h2
    cases f with
    | zero => omega
    | succ f =>
      refine ⟨g, ?_, fun k hk => h1 k (by omega), h2⟩
      show fX12_sheet_70b N (fX12_sheet_70 N f) (sA σ 54 g) (nI s) (nI i) = _
      unfold fX12_sheet_70b
      rw [show (40 : Int32) = nI 40 from rfl, if_pos (nI_le (by omega) (by omega))]
  | succ m ih =>
    intro f i g hi hf h1 h2
    cases f with
    | zero => omega
    | succ f =>
      show ∃ g', fX12_sheet_70b N (fX12_sheet_70 N f) (sA σ 54 g) (nI s) (nI i) = _ ∧ _
      unfold fX12_sheet_70b nm
      have em : (40 : Int32) * nI s + nI i = nI (40 * s + i) := by rw [show (40 : Int32) = nI 40 from rfl, pk_mul, nI_add]
      rw [em, show (40 : Int32) = nI 40 from rfl, if_neg (nI_ge (by omega) (by omega))]
      simp only [ix_nI (show 40 * s + i < 160 by omega) (by decide), aW_nI (show 40 * s + i < 2 ^ 31 by omega), if_true, sA_sA, nI_1 i]
      refine ih f (i + 1) (upd g (40 * s + i) 0) (by omega) (by omega) (fun k hk => ?_) (fun j hj => ?_)
      · by_cases e : k = i
        · subst e; rw [up_s]
        · rw [pk_un (by omega)]; exact h1 k (by omega)
      · rw [pk_un (by omega)]; exact h2 j hj
theorem mzero {N s : Nat} {σ : St} (hs : s < 4) (hN : 41 ≤ N) : ∃ g', fX12_sheet_70 N N σ (nI s) 0 = some (1, sA σ 54 g') ∧ (∀ k, k < 40 → g' (40 * s + k) = 0) ∧ (∀ j, (j < 40 * s ∨ 40 * s + 40 ≤ j) → g' j = σ.2.1 54 j) := by
  have h := mzero_loop (N := N) (σ := σ) hs 40 N 0 (σ.2.1 54) (by omega) (by omega) (fun k hk => by omega) (fun j _ => rfl)
  rw [sA_self] at h
  exact h
theorem s_sheet {N : Nat} (hN : 41 ≤ N) : SP_sheet Inv N := by
  intro σx σm a1 a2 a3 hI
  obtain ⟨κ, hd, hs, hla, hhe, hho, hli, hle, hc, ht, hx, hcl, hlo, hsh⟩ := id hI
  unfold fX11_sheet fX12_sheet
  rw [isSheet_e, isIn_w (x := a2) (a := -1) (b := 2) (A := -1) (B := 2) rfl rfl]
  by_cases h1 : fX9_isSheet a1 = 0
  · simp only [if_pos h1]; exact ⟨_, _, _, rfl, rfl, hI⟩
  by_cases h2 : fX11_within a2 (-1) 2 = 0
  · simp only [if_neg h1, if_pos h2]; exact ⟨_, _, _, rfl, rfl, hI⟩
  have r2 : rg (-1) 2 a2 := wi_rg h2
  obtain ⟨s, hs4, rfl⟩ := sh_of h1
  simp only [if_neg h1, if_neg h2]
  by_cases h3 : a2 = -1
  · subst h3
    unfold fX12_sheet_34 fX12_sheet_45 fX12_sheet_66 fX9_remove nm
    simp only [if_pos (show (-1 : Int32) < 0 from by decide), if_neg (show ¬ (0 : Int32) ≤ -1 from by decide), if_true, bd2, ix_nI hs4 (by decide), aW_nI (show s < 2 ^ 31 by omega)]
    obtain ⟨g', e1, e2, e3⟩ := mzero (N := N) (σ := sA (sA σm 52 (upd (σm.2.1 52) s (-1))) 53 (upd ((sA σm 52 (upd (σm.2.1 52) s (-1))).2.1 53) s 0)) hs4 hN
    rw [e1]
    refine ⟨_, _, _, rfl, rfl, κ, hd, hs, hla, hhe, hho, hli, hle, hc, ht, hx, hcl, hlo, ⟨eqR_upd hsh.1 (by unfold rg; decide) s, eqR_upd hsh.2.1 (by unfold rg; decide) s, fun i j hi hj hq => ?_⟩⟩
    have hq : ¬ upd (σx.2.1 78) s (-1) i = -1 := hq
    by_cases e : i = s
    · subst e; rw [up_s] at hq; exact absurd rfl hq
    · rw [pk_un e] at hq
      have h4 := hsh.2.2 i j hi hj hq
      have h5 : g' (40 * i + j) = σm.2.1 54 (40 * i + j) := e3 (40 * i + j) (by omega)
      show rS σx i j = g' (40 * i + j)
      rw [h5]; exact h4
  · have h4 : ¬ a2 < 0 := fun q => h3 ((srt r2).mp q)
    have h5 : 0 ≤ a2 := Int32.not_lt.mp h4
    simp only [if_neg h3, if_neg h4]
    unfold fX12_sheet_34
    simp only [if_neg h4]
    by_cases h6 : a3 ≤ 40
    · simp only [if_pos h6]
      by_cases h7 : 0 ≤ a3
      · simp only [if_pos h7]
        unfold fX12_sheet_45 fX12_sheet_66 fX9_lay nm
        simp only [if_pos h5, if_true, bd2, ix_nI hs4 (by decide), aW_nI (show s < 2 ^ 31 by omega), nI_clamp (show s < 2 ^ 31 by omega)]
        obtain ⟨g', e1, e2, e3⟩ := mzero (N := N) (σ := sA (sA σm 52 (upd (σm.2.1 52) s a2)) 53 (upd ((sA σm 52 (upd (σm.2.1 52) s a2)).2.1 53) s a3)) hs4 hN
        rw [e1]
        have r3 : rg 0 40 a3 := ⟨Int32.le_iff_toInt_le.mp h7, Int32.le_iff_toInt_le.mp h6⟩
        generalize hτ : sA (sA σx 78 (upd (σx.2.1 78) s a2)) 79 (upd ((sA σx 78 (upd (σx.2.1 78) s a2)).2.1 79) s a3) = τ
        have t78 : τ.2.1 78 = upd (σx.2.1 78) s a2 := by rw [← hτ]; rfl
        have t79 : τ.2.1 79 = upd (σx.2.1 79) s a3 := by rw [← hτ]; rfl
        have tS : rS τ = rS σx := by rw [← hτ]; rfl
        have hS : I_sheet (sA τ (81 + s) (flI (τ.2.1 (81 + s)) 40 0)) (sA (sA (sA σm 52 (upd (σm.2.1 52) s a2)) 53 (upd ((sA σm 52 (upd (σm.2.1 52) s a2)).2.1 53) s a3)) 54 g') := by
          unfold I_sheet
          rw [sA_81 _ (by decide), sA_81 _ (by decide), t78, t79]
          refine ⟨eqR_upd hsh.1 r2 s, eqR_upd hsh.2.1 r3 s, fun i j hi hj hq => ?_⟩
          rw [rS_w hs4 _ i hi, tS]
          show _ = g' (40 * i + j)
          by_cases e : i = s
          · subst e; rw [if_pos rfl, e2 j hj]; unfold flI; rw [if_pos hj]
          · rw [if_neg e]
            rw [pk_un e] at hq
            rw [show g' (40 * i + j) = σm.2.1 54 (40 * i + j) from e3 (40 * i + j) (by omega)]
            exact hsh.2.2 i j hi hj hq
        subst hτ
        rcases (show s = 0 ∨ s = 1 ∨ s = 2 ∨ s = 3 by omega) with rfl | rfl | rfl | rfl
        · exact ⟨_, _, _, rfl, rfl, κ, hd, hs, hla, hhe, hho, hli, hle, hc, ht, hx, hcl, hlo, hS⟩
        · exact ⟨_, _, _, rfl, rfl, κ, hd, hs, hla, hhe, hho, hli, hle, hc, ht, hx, hcl, hlo, hS⟩
        · exact ⟨_, _, _, rfl, rfl, κ, hd, hs, hla, hhe, hho, hli, hle, hc, ht, hx, hcl, hlo, hS⟩
        · exact ⟨_, _, _, rfl, rfl, κ, hd, hs, hla, hhe, hho, hli, hle, hc, ht, hx, hcl, hlo, hS⟩
      · simp only [if_neg h7]; exact ⟨_, _, _, rfl, rfl, hI⟩
    · simp only [if_neg h6]; exact ⟨_, _, _, rfl, rfl, hI⟩
theorem xmiss {N s : Nat} {σ : St} (hs : s < 4) : fX9_isMissing N σ (nI s) = some (bI (decide (σ.2.1 78 s = -1))) := by
  unfold fX9_isMissing
  simp only [ix_nI hs (by decide), aR_nI (show s < 2 ^ 31 by omega), if_true]
  by_cases q : σ.2.1 78 s = -1
  · rw [if_pos q, decide_eq_true q]; rfl
  · rw [if_neg q, decide_eq_false q]; rfl
theorem s_cell {N : Nat} : SP_cell Inv N := by
  intro σx σm a1 a2 a3 hI
  obtain ⟨κ, hd, hs, hla, hhe, hho, hli, hle, hc, ht, hx, hcl, hlo, hsh⟩ := id hI
  unfold fX11_cell fX12_cell
  rw [isSheet_e]
  by_cases h1 : fX9_isSheet a1 = 0
  · simp only [if_pos h1]; exact ⟨_, _, _, rfl, rfl, hI⟩
  obtain ⟨s, hs4, rfl⟩ := sh_of h1
  obtain ⟨f1, r1⟩ := hsh.1 s hs4
  obtain ⟨n, -, hn, e2, f2⟩ := eqR.of (lo := 0) (hi := 40) hsh.2.1 hs4 (by decide)
  simp only [if_neg h1, xmiss hs4, bd, ix_nI hs4 (by decide), aR_nI (show s < 2 ^ 31 by omega), if_true]
  rw [← f1, e2, f2, isIn_w (x := a2) (a := 0) (b := nI n - 1) (A := 0) (B := (nI n - 1).toInt64) rfl rfl]
  by_cases h3 : σx.2.1 78 s = -1
  · rw [decide_eq_true h3, if_neg (show ¬ bI true = 0 from by decide), if_neg (fun q => (srt' r1).mp q h3)]
    exact ⟨_, _, _, rfl, rfl, hI⟩
  rw [decide_eq_false h3, if_pos (show bI false = 0 from rfl), if_pos ((srt' r1).mpr h3)]
  by_cases h4 : fX11_within a2 0 (nI n - 1) = 0
  · simp only [if_pos h4]; exact ⟨_, _, _, rfl, rfl, hI⟩
  simp only [if_neg h4]
  obtain ⟨i, hi, rfl⟩ := cnt_of (by omega) h4
  have em : (40 : Int32) * nI s + nI i = nI (40 * s + i) := by rw [show (40 : Int32) = nI 40 from rfl, pk_mul, nI_add]
  unfold fX9_write nm
  rw [em]
  simp only [ix_nI hs4 (by decide), ix_nI (show i < 40 by omega) (by decide), ix_nI (show 40 * s + i < 160 by omega) (by decide), aW_nI (show i < 2 ^ 31 by omega), aW_nI (show 40 * s + i < 2 ^ 31 by omega), aR_nI (show s < 2 ^ 31 by omega), nI_clamp (show s < 2 ^ 31 by omega), if_true, bd2]
  have ev : fX12_cutTo (σx.2.1 78 s) a3 = fX9_narrowed (σx.2.1 78 s) a3 := rfl
  rw [ev]
  generalize fX9_narrowed (σx.2.1 78 s) a3 = v
  have hS : I_sheet (sA σx (81 + s) (upd (σx.2.1 (81 + s)) i v)) (sA σm 54 (upd (σm.2.1 54) (40 * s + i) v)) := by
    unfold I_sheet
    rw [sA_81 _ (by decide), sA_81 _ (by decide)]
    refine ⟨hsh.1, hsh.2.1, fun i2 j2 hi2 hj2 hq => ?_⟩
    rw [rS_w hs4 _ i2 hi2]
    show _ = upd (σm.2.1 54) (40 * s + i) v (40 * i2 + j2)
    by_cases e : i2 = s
    · subst e
      rw [if_pos rfl]
      by_cases e3 : j2 = i
      · subst e3; rw [up_s, up_s]
      · rw [pk_un e3, pk_un (show 40 * i2 + j2 ≠ 40 * i2 + i by omega), ← rS_e hi2]; exact hsh.2.2 i2 j2 hi2 hj2 hq
    · rw [if_neg e, pk_un (show 40 * i2 + j2 ≠ 40 * s + i by omega)]; exact hsh.2.2 i2 j2 hi2 hj2 hq
  rcases (show s = 0 ∨ s = 1 ∨ s = 2 ∨ s = 3 by omega) with rfl | rfl | rfl | rfl
  · exact ⟨_, _, _, rfl, rfl, κ, hd, hs, hla, hhe, hho, hli, hle, hc, ht, hx, hcl, hlo, hS⟩
  · exact ⟨_, _, _, rfl, rfl, κ, hd, hs, hla, hhe, hho, hli, hle, hc, ht, hx, hcl, hlo, hS⟩
  · exact ⟨_, _, _, rfl, rfl, κ, hd, hs, hla, hhe, hho, hli, hle, hc, ht, hx, hcl, hlo, hS⟩
  · exact ⟨_, _, _, rfl, rfl, κ, hd, hs, hla, hhe, hho, hli, hle, hc, ht, hx, hcl, hlo, hS⟩
theorem mcpy2_loop {N o j n : Nat} {σ : St} {μ : Nat → Int32} (ho : o < 4) (hn : j + n ≤ 40) (h55 : σ.2.1 55 = μ) : ∀ (m f i : Nat) (g : Nat → Int32), i + m = n → m < f → (∀ k, k < i → g (40 * o + j + k) = μ k) → (∀ t, (t < 40 * o + j ∨ 40 * o + j + i ≤ t) → g t = σ.2.1 54 t) → ∃ g', fX12_copy_140 N f (sA σ 54 g) (nI o) (nI j) (nI n) (nI i) = some (nI n, sA σ 54 g') ∧ (∀ k, k < n → g' (40 * o + j + k) = μ k) ∧ (∀ t, (t < 40 * o + j ∨ 40 * o + j + n ≤ t) → g' t = σ.2.1 54 t) := by
  intro m
  induction m with
  | zero =>
    intro f i g hi hf h1 h2
    cases f with
    | zero => omega
    | succ f =>
      have hi : i = n := by omega
      subst hi
      refine ⟨g, ?_, h1, h2⟩
      show fX12_copy_140b N (fX12_copy_140 N f) (sA σ 54 g) (nI o) (nI j) (nI i) (nI i) = _
      unfold fX12_copy_140b
      rw [if_pos (nI_le (Nat.le_refl i) (by omega))]
  | succ m ih =>
    intro f i g hi hf h1 h2
    cases f with
    | zero => omega
    | succ f =>
      show ∃ g', fX12_copy_140b N (fX12_copy_140 N f) (sA σ 54 g) (nI o) (nI j) (nI n) (nI i) = _ ∧ _
      unfold fX12_copy_140b nm
      have em : (40 : Int32) * nI o + nI j + nI i = nI (40 * o + j + i) := by rw [show (40 : Int32) = nI 40 from rfl, pk_mul, nI_add, nI_add]
      rw [em, if_neg (nI_ge (by omega) (by omega))]
      simp only [ix_nI (show i < 40 by omega) (by decide), ix_nI (show 40 * o + j + i < 160 by omega) (by decide), aW_nI (show 40 * o + j + i < 2 ^ 31 by omega), aR_nI (show i < 2 ^ 31 by omega), if_true, sA_sA, nI_1 i]
      rw [show (sA σ 54 g).2.1 55 i = μ i from by rw [← h55]; rfl]
      refine ih f (i + 1) (upd g (40 * o + j + i) (μ i)) (by omega) (by omega) (fun k hk => ?_) (fun t ht => ?_)
      · by_cases e : k = i
        · subst e; rw [up_s]
        · rw [pk_un (by omega)]; exact h1 k (by omega)
      · rw [pk_un (by omega)]; exact h2 t (by omega)
theorem mcpy1_loop {N s i0 n : Nat} {x3 x4 : Int32} {σ : St} (hs : s < 4) (hn : i0 + n ≤ 40) : ∀ (m f i : Nat) (g : Nat → Int32), i + m = n → m < f → (∀ k, k < i → g k = σ.2.1 54 (40 * s + i0 + k)) → ∃ g', fX12_copy_103 N f (sA σ 55 g) (nI s) (nI i0) x3 x4 (nI n) (nI i) = fX12_copy_140 N N (sA σ 55 g') x3 x4 (nI n) 0 ∧ (∀ k, k < n → g' k = σ.2.1 54 (40 * s + i0 + k)) := by
  intro m
  induction m with
  | zero =>
    intro f i g hi hf h1
    cases f with
    | zero => omega
    | succ f =>
      refine ⟨g, ?_, fun k hk => h1 k (by omega)⟩
      show fX12_copy_103b N (fX12_copy_103 N f) (sA σ 55 g) (nI s) (nI i0) x3 x4 (nI n) (nI i) = _
      unfold fX12_copy_103b
      rw [if_pos (nI_le (by omega) (by omega))]
  | succ m ih =>
    intro f i g hi hf h1
    cases f with
    | zero => omega
    | succ f =>
      show ∃ g', fX12_copy_103b N (fX12_copy_103 N f) (sA σ 55 g) (nI s) (nI i0) x3 x4 (nI n) (nI i) = _ ∧ _
      unfold fX12_copy_103b nm
      have em : (40 : Int32) * nI s + nI i0 + nI i = nI (40 * s + i0 + i) := by rw [show (40 : Int32) = nI 40 from rfl, pk_mul, nI_add, nI_add]
      rw [em, if_neg (nI_ge (by omega) (by omega))]
      simp only [ix_nI (show i < 40 by omega) (by decide), ix_nI (show 40 * s + i0 + i < 160 by omega) (by decide), aR_nI (show 40 * s + i0 + i < 2 ^ 31 by omega), aW_nI (show i < 2 ^ 31 by omega), if_true, sA_sA, nI_1 i]
      refine ih f (i + 1) (upd g i (σ.2.1 54 (40 * s + i0 + i))) (by omega) (by omega) (fun k hk => ?_)
      by_cases e : k = i
      · subst e; rw [up_s]
      · rw [pk_un e]; exact h1 k (by omega)
theorem xplaces {N s n : Nat} {σ : St} (hs : s < 4) (e : σ.2.1 79 s = nI n) (hn : n ≤ 40) (x y : Int32) : (fX9_hasPlaces N σ (nI s) x y = some 0 ∧ (x < 0 ∨ y < 0 ∨ (nI n - x) < y)) ∨ (fX9_hasPlaces N σ (nI s) x y = some 1 ∧ ∃ i k, i + k ≤ n ∧ x = nI i ∧ y = nI k) := by
  unfold fX9_hasPlaces
  simp only [ix_nI hs (by decide), aR_nI (show s < 2 ^ 31 by omega), if_true, e]
  by_cases h1 : x < 0
  · rw [if_pos h1]; exact Or.inl ⟨rfl, Or.inl h1⟩
  · by_cases h2 : y < 0
    · rw [if_neg h1, if_pos h2]; exact Or.inl ⟨rfl, Or.inr (Or.inl h2)⟩
    · rw [if_neg h1, if_neg h2]
      by_cases h3 : nI n - x < y
      · rw [if_pos h3]; exact Or.inl ⟨rfl, Or.inr (Or.inr h3)⟩
      · rw [if_neg h3]
        obtain ⟨i, hi, rfl⟩ := nI_of h1
        obtain ⟨k, hk, rfl⟩ := nI_of h2
        refine Or.inr ⟨rfl, i, k, ?_, rfl, rfl⟩
        rw [Int32.lt_iff_toInt_lt, sub_tI (by omega) hi, nI_toInt hk] at h3
        omega
theorem s_copy {N : Nat} (hN : 41 ≤ N) : SP_copy Inv N := by
  intro σx σm a1 a2 a3 a4 a5 hI
  obtain ⟨κ, hd, hs, hla, hhe, hho, hli, hle, hc, ht, hx, hcl, hlo, hsh⟩ := id hI
  unfold fX11_copy fX12_copy
  rw [isSheet_e, isSheet_e]
  by_cases h1 : fX9_isSheet a1 = 0
  · simp only [if_pos h1]; exact ⟨_, _, _, rfl, rfl, hI⟩
  by_cases h2 : fX9_isSheet a3 = 0
  · simp only [if_neg h1, if_pos h2]; exact ⟨_, _, _, rfl, rfl, hI⟩
  obtain ⟨s, hs4, rfl⟩ := sh_of h1
  obtain ⟨o, ho4, rfl⟩ := sh_of h2
  obtain ⟨f1, r1⟩ := hsh.1 s hs4
  obtain ⟨f2, r2⟩ := hsh.1 o ho4
  obtain ⟨n1, -, hn1, e3, f3⟩ := eqR.of (lo := 0) (hi := 40) hsh.2.1 hs4 (by decide)
  obtain ⟨n2, -, hn2, e4, f4⟩ := eqR.of (lo := 0) (hi := 40) hsh.2.1 ho4 (by decide)
  simp only [if_neg h1, if_neg h2, xmiss hs4, xmiss ho4, bd, ix_nI hs4 (by decide), ix_nI ho4 (by decide), aR_nI (show s < 2 ^ 31 by omega), aR_nI (show o < 2 ^ 31 by omega), nI_clamp (show s < 2 ^ 31 by omega), nI_clamp (show o < 2 ^ 31 by omega), if_true]
  rw [← f1, ← f2, f3, f4]
  by_cases h3 : σx.2.1 78 s = -1
  · rw [decide_eq_true h3, if_neg (show ¬ bI true = 0 from by decide), if_pos ((srt r1).mpr h3)]
    exact ⟨_, _, _, rfl, rfl, hI⟩
  rw [decide_eq_false h3, if_pos (show bI false = 0 from rfl), if_neg (fun q => h3 ((srt r1).mp q))]
  by_cases h4 : σx.2.1 78 o = -1
  · rw [decide_eq_true h4, if_neg (show ¬ bI true = 0 from by decide), if_neg (fun q => (srt' r2).mp q h4)]
    exact ⟨_, _, _, rfl, rfl, hI⟩
  rw [decide_eq_false h4, if_pos (show bI false = 0 from rfl), if_pos ((srt' r2).mpr h4)]
  by_cases h5 : σx.2.1 78 s = σx.2.1 78 o
  · simp only [if_pos h5]
    have bad : (a5 < 0 ∨ a2 < 0 ∨ a4 < 0 ∨ nI n1 - a2 < a5 ∨ nI n2 - a4 < a5) → (if a5 < 0 then some ((-12 : Int32), σm) else (if a2 < 0 then some ((-12 : Int32), σm) else (if a4 < 0 then some ((-12 : Int32), σm) else (if nI n1 - a2 < a5 then some ((-12 : Int32), σm) else (if a5 ≤ nI n2 - a4 then fX12_copy_103 N N σm (nI s) a2 (nI o) a4 a5 0 else some ((-12 : Int32), σm)))))) = some (-12, σm) := by
      intro hq
      by_cases q1 : a5 < 0
      · rw [if_pos q1]
      rw [if_neg q1]
      by_cases q2 : a2 < 0
      · rw [if_pos q2]
      rw [if_neg q2]
      by_cases q3 : a4 < 0
      · rw [if_pos q3]
      rw [if_neg q3]
      by_cases q4 : nI n1 - a2 < a5
      · rw [if_pos q4]
      rw [if_neg q4]
      have q5 : nI n2 - a4 < a5 := by
        rcases hq with q | q | q | q | q
        · exact absurd q q1
        · exact absurd q q2
        · exact absurd q q3
        · exact absurd q q4
        · exact q
      rw [if_neg (fun z => Int32.not_lt.mpr z q5)]
    rcases xplaces (N := N) hs4 e3 hn1 a2 a5 with ⟨e5, q⟩ | ⟨e5, i, n, hin, rfl, rfl⟩
    · rw [e5, bad (by rcases q with q | q | q; exact Or.inr (Or.inl q); exact Or.inl q; exact Or.inr (Or.inr (Or.inr (Or.inl q))))]
      exact ⟨_, _, _, rfl, rfl, hI⟩
    · rcases xplaces (N := N) ho4 e4 hn2 a4 (nI n) with ⟨e6, q⟩ | ⟨e6, j, k, hjk, rfl, enk⟩
      · rw [e5, e6, bad (by rcases q with q | q | q; exact Or.inr (Or.inr (Or.inl q)); exact Or.inl q; exact Or.inr (Or.inr (Or.inr (Or.inr q))))]
        exact ⟨_, _, _, rfl, rfl, hI⟩
      · have hk : k = n := ((nI_eq (by omega) (by omega)).mp enk).symm
        subst hk
        rw [e5, e6]
        rw [if_neg (nI_pos (n := k) (by omega)), if_neg (nI_pos (n := i) (by omega)), if_neg (nI_pos (n := j) (by omega)), if_neg (show ¬ nI n1 - nI i < nI k by rw [Int32.lt_iff_toInt_lt, sub_tI (by omega) (by omega), nI_toInt (by omega)]; omega), if_pos (show nI k ≤ nI n2 - nI j by rw [Int32.le_iff_toInt_le, sub_tI (by omega) (by omega), nI_toInt (by omega)]; omega)]
        simp only [if_neg (show ¬ (1 : Int32) = 0 from by decide)]
        have hcp : cpok (nI i) (nI j) (nI k) 40 40 = true := by
          unfold cpok
          rw [nI_clamp (by omega), nI_clamp (by omega), nI_clamp (by omega)]
          exact decide_eq_true ⟨nI_pos (by omega), nI_pos (by omega), nI_pos (by omega), by omega, by omega⟩
        simp only [hcp, if_true, nm, nI_clamp (show i < 2 ^ 31 by omega), nI_clamp (show j < 2 ^ 31 by omega), nI_clamp (show k < 2 ^ 31 by omega)]
        obtain ⟨g1, d1, d2⟩ := mcpy1_loop (N := N) (s := s) (i0 := i) (n := k) (x3 := nI o) (x4 := nI j) (σ := σm) hs4 (by omega) k N 0 (σm.2.1 55) (by omega) (by omega) (fun t ht => by omega)
        obtain ⟨g2, d3, d4, d5⟩ := mcpy2_loop (N := N) (o := o) (j := j) (n := k) (σ := sA σm 55 g1) (μ := g1) ho4 (by omega) rfl k N 0 (σm.2.1 54) (by omega) (by omega) (fun t ht => by omega) (fun t _ => rfl)
        rw [sA_self] at d1
        rw [show sA (sA σm 55 g1) 54 (σm.2.1 54) = sA σm 55 g1 from sA_self _ _] at d3
        rw [show fX12_copy_103 N N σm (nI s) (nI i) (nI o) (nI j) (nI k) 0 = _ from d1, show fX12_copy_140 N N (sA σm 55 g1) (nI o) (nI j) (nI k) 0 = _ from d3]
        have hS : I_sheet (sA σx (81 + o) (va_cpy (σx.2.1 (81 + s)) (σx.2.1 (81 + o)) i j k)) (sA (sA σm 55 g1) 54 g2) := by
          unfold I_sheet
          rw [sA_81 _ (by decide), sA_81 _ (by decide)]
          refine ⟨hsh.1, hsh.2.1, fun i2 j2 hi2 hj2 hq => ?_⟩
          rw [rS_w ho4 _ i2 hi2]
          show _ = g2 (40 * i2 + j2)
          by_cases e : i2 = o
          · subst e
            rw [if_pos rfl]
            by_cases e7 : j ≤ j2 ∧ j2 < j + k
            · rw [pk_cpy_in e7.1 e7.2, show 40 * i2 + j2 = 40 * i2 + j + (j2 - j) by omega, d4 (j2 - j) (by omega), d2 (j2 - j) (by omega), ← rS_e hs4, show 40 * s + i + (j2 - j) = 40 * s + (i + (j2 - j)) by omega]
              exact hsh.2.2 s (i + (j2 - j)) hs4 (by omega) h3
            · rw [pk_cpy_out (by omega), d5 (40 * i2 + j2) (by omega), ← rS_e hi2]
              exact hsh.2.2 i2 j2 hi2 hj2 hq
          · rw [if_neg e, d5 (40 * i2 + j2) (by omega)]
            exact hsh.2.2 i2 j2 hi2 hj2 hq
        rcases (show o = 0 ∨ o = 1 ∨ o = 2 ∨ o = 3 by omega) with rfl | rfl | rfl | rfl
        · exact ⟨_, _, _, rfl, rfl, κ, hd, hs, hla, hhe, hho, hli, hle, hc, ht, hx, hcl, hlo, hS⟩
        · exact ⟨_, _, _, rfl, rfl, κ, hd, hs, hla, hhe, hho, hli, hle, hc, ht, hx, hcl, hlo, hS⟩
        · exact ⟨_, _, _, rfl, rfl, κ, hd, hs, hla, hhe, hho, hli, hle, hc, ht, hx, hcl, hlo, hS⟩
        · exact ⟨_, _, _, rfl, rfl, κ, hd, hs, hla, hhe, hho, hli, hle, hc, ht, hx, hcl, hlo, hS⟩
  · simp only [if_neg h5]; exact ⟨_, _, _, rfl, rfl, hI⟩
