/-! PURE: claim, doubled -/
def wmF (f g : Nat → Int32) (a b : Int32) : Nat → Nat → Bool
  | 0, _ => false
  | m + 1, i => (decide (f i = a) && decide (g i = b)) || wmF f g a b m (i + 1)
def wmP (f g : Nat → Int32) (a b : Int32) : Nat → Bool
  | 0 => false
  | k + 1 => wmP f g a b k || (decide (f k = a) && decide (g k = b))
theorem wm_e {f g : Nat → Int32} {a b : Int32} : ∀ (m i : Nat), (wmP f g a b i || wmF f g a b m i) = wmP f g a b (i + m)
  | 0, i => by unfold wmF; rw [Bool.or_false]; rfl
  | m + 1, i => by
    have h := wm_e (f := f) (g := g) (a := a) (b := b) m (i + 1)
    rw [show i + (m + 1) = i + 1 + m by omega, ← h]
    show (wmP f g a b i || ((decide (f i = a) && decide (g i = b)) || wmF f g a b m (i + 1))) = ((wmP f g a b i || (decide (f i = a) && decide (g i = b))) || wmF f g a b m (i + 1))
    rw [Bool.or_assoc]
theorem wm_0 {f g : Nat → Int32} {a b : Int32} (n : Nat) : wmF f g a b n 0 = wmP f g a b n := by
  have h := wm_e (f := f) (g := g) (a := a) (b := b) n 0
  rw [Nat.zero_add] at h
  rw [← h]; rfl
theorem dup_wm {f g : Nat → Int32} {c : Nat} : ∀ k, dupB f g c k = wmP f g (f c) (g c) k
  | 0 => rfl
  | k + 1 => by show (dupB f g c k || _) = (wmP f g (f c) (g c) k || _); rw [dup_wm k]
theorem wmP_cg {f g f' g' : Nat → Int32} {a b : Int32} : ∀ k, (∀ i, i < k → f i = f' i ∧ g i = g' i) → wmP f g a b k = wmP f' g' a b k
  | 0, _ => rfl
  | k + 1, h => by
    show (wmP f g a b k || _) = (wmP f' g' a b k || _)
    rw [wmP_cg k (fun i hi => h i (by omega)), (h k (by omega)).1, (h k (by omega)).2]
theorem dbl_cg {f g f' g' : Nat → Int32} : ∀ n, (∀ i, i < n → f i = f' i ∧ g i = g' i) → dbl f g n = dbl f' g' n
  | 0, _ => rfl
  | n + 1, h => by
    show dbl f g n ||| _ = dbl f' g' n ||| _
    rw [dbl_cg n (fun i hi => h i (by omega)), dup_wm, dup_wm, (h n (by omega)).1, (h n (by omega)).2, wmP_cg n (fun i hi => h i (by omega))]
theorem xmade_loop {N n : Nat} {σ : St} {a b : Int32} (hn : σ.1 13 = nI n) (h30 : n ≤ 30) : ∀ (m fu i : Nat), i + m = n → m < fu → fX2_wasMade_2 N σ fu a b (nI i) = some (bI (wmF (σ.2.1 66) (σ.2.1 67) a b m i)) := by
  intro m
  induction m with
  | zero =>
    intro fu i hi hf
    cases fu with
    | zero => omega
    | succ fu =>
      show fX2_wasMade_2b N σ (fX2_wasMade_2 N σ fu) a b (nI i) = _
      unfold fX2_wasMade_2b
      rw [hn, if_pos (nI_le (by omega) (by omega))]
      rfl
  | succ m ih =>
    intro fu i hi hf
    cases fu with
    | zero => omega
    | succ fu =>
      show fX2_wasMade_2b N σ (fX2_wasMade_2 N σ fu) a b (nI i) = _
      unfold fX2_wasMade_2b fX2_wasMade_32 nm
      rw [hn, if_neg (nI_ge (by omega) (by omega))]
      simp only [ix_nI (show i < 30 by omega) (by decide), aR_nI (show i < 2 ^ 31 by omega), if_true, nI_1 i]
      unfold wmF
      by_cases h1 : σ.2.1 66 i = a
      · by_cases h2 : σ.2.1 67 i = b
        · rw [if_pos h1, if_pos h2, decide_eq_true h1, decide_eq_true h2]; rfl
        · rw [if_pos h1, if_neg h2, decide_eq_false h2, Bool.and_false, Bool.false_or]
          exact ih fu (i + 1) (by omega) (by omega)
      · rw [if_neg h1, decide_eq_false h1, Bool.false_and, Bool.false_or]
        exact ih fu (i + 1) (by omega) (by omega)
theorem mdoub_loop {N c : Nat} {σ : St} (hc : c < 30) : ∀ (m fu i : Nat) (w : Bool), i + m = c → m < fu → fX12_isDoubled_4 N σ fu (nI c) (bI w) (nI i) = some (bI (w || wmF (σ.2.1 39) (σ.2.1 40) (σ.2.1 39 c) (σ.2.1 40 c) m i)) := by
  intro m
  induction m with
  | zero =>
    intro fu i w hi hf
    cases fu with
    | zero => omega
    | succ fu =>
      show fX12_isDoubled_4b N σ (fX12_isDoubled_4 N σ fu) (nI c) (bI w) (nI i) = _
      unfold fX12_isDoubled_4b
      rw [if_pos (nI_le (by omega) (by omega))]
      cases w <;> rfl
  | succ m ih =>
    intro fu i w hi hf
    cases fu with
    | zero => omega
    | succ fu =>
      show fX12_isDoubled_4b N σ (fX12_isDoubled_4 N σ fu) (nI c) (bI w) (nI i) = _
      unfold fX12_isDoubled_4b fX12_isDoubled_43 fX12_isDoubled_47 fX12_isDoubled_48 nm
      rw [if_neg (nI_ge (show i < c by omega) (by omega))]
      simp only [ix_nI (show i < 30 by omega) (by decide), ix_nI hc (by decide), aR_nI (show i < 2 ^ 31 by omega), aR_nI (show c < 2 ^ 31 by omega), if_true, nI_1 i]
      cases w with
      | true =>
        rw [if_neg (show ¬ bI true = 0 from by decide)]
        have h := ih fu (i + 1) true (by omega) (by omega)
        rw [Bool.true_or] at h ⊢
        exact h
      | false =>
        rw [if_pos (show bI false = 0 from rfl), Bool.false_or]
        unfold wmF
        by_cases h1 : σ.2.1 39 i = σ.2.1 39 c
        · by_cases h2 : σ.2.1 40 i = σ.2.1 40 c
          · rw [if_pos h1, if_pos h2, decide_eq_true h1, decide_eq_true h2]
            have h := ih fu (i + 1) true (by omega) (by omega)
            rw [Bool.true_or] at h
            exact h
          · rw [if_pos h1, if_neg h2, decide_eq_false h2, Bool.and_false]
            exact ih fu (i + 1) false (by omega) (by omega)
        · rw [if_neg h1, decide_eq_false h1, Bool.false_and]
          exact ih fu (i + 1) false (by omega) (by omega)
theorem mdoub {N c : Nat} {σ : St} (hc : c < 30) (hN : 41 ≤ N) : fX12_isDoubled N σ (nI c) = some (bI (dupB (σ.2.1 39) (σ.2.1 40) c c)) := by
  unfold fX12_isDoubled
  have h := mdoub_loop (N := N) (σ := σ) hc c N 0 false (by omega) (by omega)
  rw [Bool.false_or, wm_0, ← dup_wm] at h
  exact h
theorem mbits_loop {N n : Nat} {σ : St} (hn : σ.1 17 = nI n) (h30 : n ≤ 30) (hN : 41 ≤ N) : ∀ (m fu i : Nat), i + m = n → m < fu → fX12_doubled_4 N σ fu (dbl (σ.2.1 39) (σ.2.1 40) i) (nI i) = some (dbl (σ.2.1 39) (σ.2.1 40) n) := by
  intro m
  induction m with
  | zero =>
    intro fu i hi hf
    cases fu with
    | zero => omega
    | succ fu =>
      have hi : i = n := by omega
      subst hi
      show fX12_doubled_4b N σ (fX12_doubled_4 N σ fu) _ (nI i) = _
      unfold fX12_doubled_4b
      rw [hn, if_pos (nI_le (Nat.le_refl i) (by omega))]
  | succ m ih =>
    intro fu i hi hf
    cases fu with
    | zero => omega
    | succ fu =>
      show fX12_doubled_4b N σ (fX12_doubled_4 N σ fu) _ (nI i) = _
      unfold fX12_doubled_4b fX12_doubled_28 nm
      rw [hn, if_neg (nI_ge (by omega) (by omega)), mdoub (show i < 30 by omega) hN]
      simp only [bd, nI_1 i]
      have h := ih fu (i + 1) (by omega) (by omega)
      have e : dbl (σ.2.1 39) (σ.2.1 40) (i + 1) = dbl (σ.2.1 39) (σ.2.1 40) i ||| (if dupB (σ.2.1 39) (σ.2.1 40) i i then 1 <<< (nI i &&& 31) else 0) := rfl
      rw [e] at h
      cases hb : dupB (σ.2.1 39) (σ.2.1 40) i i with
      | false => rw [hb] at h; rw [if_pos (show bI false = 0 from rfl)]; exact h
      | true => rw [hb] at h; rw [if_neg (show ¬ bI true = 0 from by decide)]; exact h
theorem s_doubled {N : Nat} (hN : 41 ≤ N) : SP_doubled Inv N := by
  intro σx σm hI
  obtain ⟨κ, hd, hs, hla, hhe, hho, hli, hle, hc, ht, hx, hcl, hlo, hsh⟩ := id hI
  have h30 := hcl.1
  refine ⟨_, rfl, ?_, hI⟩
  unfold fX11_doubled fX12_doubled
  rw [hcl.2.2.2.2.2.2]
  exact mbits_loop hcl.2.2.1 h30 hN (κ 8) N 0 (by omega) (by omega)
theorem s_claim {N : Nat} (hN : 41 ≤ N) : SP_claim Inv N := by
  intro σx σm a1 a2 a3 ⟨κ, hd, hs, hla, hhe, hho, hli, hle, hc, ht, hx, hcl, hlo, hsh⟩
  unfold fX11_claim fX12_claim
  rw [isOwner_e, isSpan_e hli, isIn_w (x := a3) (a := 0) (b := 99999) (A := 0) (B := 99999) rfl rfl]
  have h30 := hcl.1
  by_cases h1 : fX11_isOwner a1 = 0
  · simp only [if_pos h1]
    exact ⟨_, _, _, rfl, rfl, κ, hd, hs, hla, hhe, hho, hli, hle, hc, ht, hx, hcl, hlo, hsh⟩
  by_cases h2 : fX6_isSpan σx a2 = 0
  · simp only [if_neg h1, if_pos h2]
    exact ⟨_, _, _, rfl, rfl, κ, hd, hs, hla, hhe, hho, hli, hle, hc, ht, hx, hcl, hlo, hsh⟩
  by_cases h3 : fX11_within a3 0 99999 = 0
  · simp only [if_neg h1, if_neg h2, if_pos h3]
    exact ⟨_, _, _, rfl, rfl, κ, hd, hs, hla, hhe, hho, hli, hle, hc, ht, hx, hcl, hlo, hsh⟩
  simp only [if_neg h1, if_neg h2, if_neg h3, hcl.2.1, hcl.2.2.1]
  by_cases h4 : κ 8 = 30
  · rw [h4, if_neg (show ¬ nI 30 < 30 from by decide), if_pos (show nI 30 = 30 from rfl)]
    exact ⟨_, _, _, rfl, rfl, κ, hd, hs, hla, hhe, hho, hli, hle, hc, ht, hx, hcl, hlo, hsh⟩
  have hlt : κ 8 < 30 := by omega
  obtain ⟨sp, hsp, rfl⟩ := span_of hli h2
  rw [if_pos (show nI (κ 8) < 30 from nI_lt hlt (by decide)), if_neg (show ¬ nI (κ 8) = 30 from fun q => h4 ((nI_eq (b := 30) (by omega) (by decide)).mp q))]
  have hw : fX2_wasMade N σx a1 (nI sp) = some (bI (wmP (σm.2.1 39) (σm.2.1 40) a1 (nI sp) (κ 8))) := by
    unfold fX2_wasMade
    have h := xmade_loop (N := N) (a := a1) (b := nI sp) hcl.2.1 h30 (κ 8) N 0 (by omega) (by omega)
    rw [wm_0, wmP_cg (f' := σm.2.1 39) (g' := σm.2.1 40) (κ 8) (fun i hi => ⟨(hcl.2.2.2.1 i hi).1, by obtain ⟨s2, -, f2, e2⟩ := hcl.2.2.2.2.1 i hi; rw [f2, e2]⟩)] at h
    exact h
  have key : ∀ d : Int32, d = dbl (upd (σm.2.1 39) (κ 8) a1) (upd (σm.2.1 40) (κ 8) (nI sp)) (κ 8 + 1) → ∀ τ : St, τ = sI σx 14 d → ∃ r σx' σm', (bd2 (fX2_add_24 N τ a1 (nI sp) a3) fun r3 σ1 => some (r3, σ1)) = some (r, σx') ∧ (if ix (nI (κ 8)) 30 = true then nm (aW σm 39 (nI (κ 8)) a1) fun σ2 => if ix (σ2.1 17) 30 = true then nm (aW σ2 40 (σ2.1 17) (nI sp)) fun σ5 => if ix (σ5.1 17) 30 = true then nm (aW σ5 41 (σ5.1 17) a3) fun σ8 => nm (sI σ8 17 ((σ8.1 17) + (1 : Int32))) fun σ10 => some (((σ10.1 17) - (1 : Int32)), σ10) else none else none else none) = some (r, σm') ∧ Inv σx' σm' := by
    intro d hd2 τ hτ
    subst hτ
    unfold fX2_add_24
    have g1 : (sI σx 14 d).1 13 = nI (κ 8) := hcl.2.1
    simp only [bd2, nm, sA_1, g1, hcl.2.2.1, ix_nI hlt (by decide), aW_nI (show κ 8 < 2 ^ 31 by omega), if_true, nI_1]
    refine ⟨_, _, _, rfl, rfl, va_up κ 8 (κ 8 + 1), hd, hs, hla, hhe, hho, hli, hle, hc, ht, hx, ⟨hlt, rfl, rfl, eqR_push hcl.2.2.2.1 (wi_rg h1), fun k hk => ?_, eqR_push hcl.2.2.2.2.2.1 (wi_rg h3), hd2⟩, hlo, hsh⟩
    have hk : k < κ 8 + 1 := hk
    show ∃ s2, s2 < κ 3 ∧ upd (σx.2.1 67) (κ 8) (nI sp) k = nI s2 ∧ upd (σm.2.1 40) (κ 8) (nI sp) k = nI s2
    by_cases e : k = κ 8
    · rw [e, up_s, up_s]; exact ⟨sp, hsp, rfl, rfl⟩
    · rw [pk_un e, pk_un e]; exact hcl.2.2.2.2.1 k (by omega)
  have ed : dbl (upd (σm.2.1 39) (κ 8) a1) (upd (σm.2.1 40) (κ 8) (nI sp)) (κ 8 + 1) = dbl (σm.2.1 39) (σm.2.1 40) (κ 8) ||| (if wmP (σm.2.1 39) (σm.2.1 40) a1 (nI sp) (κ 8) then 1 <<< (nI (κ 8) &&& 31) else 0) := by
    show dbl _ _ (κ 8) ||| (if dupB _ _ (κ 8) (κ 8) then _ else _) = _
    rw [dup_wm, up_s, up_s, dbl_cg (κ 8) (fun i hi => ⟨pk_un (show i ≠ κ 8 by omega), pk_un (show i ≠ κ 8 by omega)⟩), wmP_cg (κ 8) (fun i hi => ⟨pk_un (f := σm.2.1 39) (show i ≠ κ 8 by omega), pk_un (f := σm.2.1 40) (show i ≠ κ 8 by omega)⟩)]
  unfold fX2_add
  rw [hw]
  unfold bd
  cases hb : wmP (σm.2.1 39) (σm.2.1 40) a1 (nI sp) (κ 8) with
  | false =>
    simp only [if_pos (show bI false = 0 from rfl)]
    rw [hb] at ed
    have e0 : σx = sI σx 14 (dbl (σm.2.1 39) (σm.2.1 40) (κ 8)) := by
      unfold sI
      rw [← hcl.2.2.2.2.2.2, vz_up_self]
    exact key _ (by rw [ed]; simp) σx e0
  | true =>
    simp only [if_neg (show ¬ bI true = 0 from by decide), nm]
    rw [hb] at ed
    exact key _ (by rw [ed, hcl.2.2.2.2.2.2, hcl.2.1]; rfl) _ rfl
