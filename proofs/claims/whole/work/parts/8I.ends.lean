/-! PURE: ENDS of a SPAN, spanTold -/
def cntB (P : Nat → Bool) : Nat → Nat
  | 0 => 0
  | n + 1 => cntB P n + (if P n then 1 else 0)
theorem cntB_le {P : Nat → Bool} : ∀ n, cntB P n ≤ n
  | 0 => Nat.le_refl 0
  | n + 1 => by have := cntB_le (P := P) n; unfold cntB; split <;> omega
theorem cntB_mono {P Q : Nat → Bool} : ∀ n, (∀ k, k < n → P k = true → Q k = true) → cntB P n ≤ cntB Q n
  | 0, _ => Nat.le_refl 0
  | n + 1, h => by
    have h1 := cntB_mono (P := P) (Q := Q) n (fun k hk => h k (by omega))
    unfold cntB
    by_cases q : P n = true
    · rw [if_pos q, if_pos (h n (by omega) q)]; omega
    · rw [if_neg q]; split <;> omega
theorem cntB_lt {P Q : Nat → Bool} : ∀ n, (∀ k, k < n → P k = true → Q k = true) → (∃ k, k < n ∧ Q k = true ∧ ¬ P k = true) → cntB P n < cntB Q n
  | 0, _, ⟨k, hk, _⟩ => by omega
  | n + 1, h, ⟨k, hk, h1, h2⟩ => by
    unfold cntB
    by_cases e : k = n
    · subst e
      have h3 := cntB_mono (P := P) (Q := Q) k (fun j hj => h j (by omega))
      rw [if_neg h2, if_pos h1]; omega
    · have h3 := cntB_lt (P := P) (Q := Q) n (fun j hj => h j (by omega)) ⟨k, by omega, h1, h2⟩
      by_cases q : P n = true
      · rw [if_pos q, if_pos (h n (by omega) q)]; omega
      · rw [if_neg q]; split <;> omega
theorem hsL_0 {n : Nat} {σm : St} {span day : Int32} : ∀ (m i : Nat) (h : Int32), (hsL n σm span day m i h = 0) ↔ (h = 0 ∧ ∀ k, i ≤ k → k < i + m → ¬ (σm.2.1 23 k = span ∧ fB n σm day k = true))
  | 0, i, h => ⟨fun q => ⟨q, fun k h1 h2 => by omega⟩, fun q => q.1⟩
  | m + 1, i, h => by
    unfold hsL
    by_cases c : σm.2.1 23 i = span ∧ (¬ h = 1) ∧ fB n σm day i = true
    · rw [if_pos c, hsL_0 m (i + 1)]
      constructor
      · intro ⟨q, _⟩
        exfalso
        by_cases q4 : σm.2.1 22 i = 4
        · rw [if_pos q4] at q; exact absurd q (by decide)
        · rw [if_neg q4] at q; exact absurd q (by decide)
      · intro ⟨_, q⟩
        exact absurd ⟨c.1, c.2.2⟩ (q i (Nat.le_refl i) (by omega))
    · rw [if_neg c, hsL_0 m (i + 1)]
      constructor
      · intro ⟨q, q2⟩
        refine ⟨q, fun k h1 h2 => ?_⟩
        by_cases e : k = i
        · subst e
          exact fun z => c ⟨z.1, by rw [q]; decide, z.2⟩
        · exact q2 k (by omega) (by omega)
      · intro ⟨q, q2⟩
        exact ⟨q, fun k h1 h2 => q2 k (by omega) (by omega)⟩
theorem hasS_0 {n nL : Nat} {σm : St} {span day : Int32} : (hasS n nL σm span day = 0) ↔ ∀ k, k < nL → ¬ (σm.2.1 23 k = span ∧ fB n σm day k = true) := by
  unfold hasS
  rw [hsL_0]
  exact ⟨fun q k hk => q.2 k (by omega) (by omega), fun q => ⟨rfl, fun k _ hk => q k (by omega)⟩⟩
theorem ownL_day {plot day day' : Int32} {fp fo fd : Nat → Int32} : ∀ (m i : Nat) (o la : Int32), (∀ k, i ≤ k → k < i + m → fp k = plot → (fd k ≤ day ↔ fd k ≤ day')) → ownL plot day fp fo fd m i o la = ownL plot day' fp fo fd m i o la
  | 0, _, _, _, _ => rfl
  | m + 1, i, o, la, h => by
    have h1 := h i (Nat.le_refl i) (by omega)
    unfold ownL
    by_cases c : fp i = plot
    · by_cases c2 : fd i ≤ day
      · have c3 := (h1 c).mp c2
        by_cases c4 : la ≤ fd i
        · rw [if_pos ⟨c, c2, c4⟩, if_pos ⟨c, c3, c4⟩]; exact ownL_day m (i + 1) _ _ (fun k a b => h k (by omega) (by omega))
        · rw [if_neg (fun q => c4 q.2.2), if_neg (fun q => c4 q.2.2)]; exact ownL_day m (i + 1) _ _ (fun k a b => h k (by omega) (by omega))
      · rw [if_neg (fun q => c2 q.2.1), if_neg (fun q => c2 ((h1 c).mpr q.2.1))]; exact ownL_day m (i + 1) _ _ (fun k a b => h k (by omega) (by omega))
    · rw [if_neg (fun q => c q.1), if_neg (fun q => c q.1)]; exact ownL_day m (i + 1) _ _ (fun k a b => h k (by omega) (by omega))
/-- the DAY in which a LEAVE ends -/
def eK (σm : St) (k : Nat) : Int32 := σm.2.1 25 k + laS σm k (σm.2.1 22 k).toNatClampNeg
/-- a DAY in which something of a SPAN may cease -/
def isC (n nL sp p : Nat) (σm : St) (x : Int32) : Prop := (∃ k, k < nL ∧ σm.2.1 23 k = nI sp ∧ (eK σm k = x ∨ σm.2.1 29 k = x)) ∨ (∃ s, s < n ∧ σm.2.1 1 s = nI p ∧ σm.2.1 3 s = x)
theorem sB_stay {n nL sp p k d d' : Nat} {σm : St} (hsp : sp < 2 ^ 31) (hp : p < 2 ^ 31) (ep : σm.2.1 16 sp = nI p) (hd' : d' ≤ 9999) (hdd : d ≤ d') (hn : ∀ x, d < x → x ≤ d' → ¬ isC n nL sp p σm (nI x)) (he : ∀ x : Int32, (0 : Int32) ≤ x → x ≤ 9999 → ∃ y, x = nI y ∧ y ≤ 9999) (hk : k < nL) (hs : σm.2.1 23 k = nI sp) (h : sB n σm (nI d) k = true) : sB n σm (nI d') k = true := by
  have hC : ∀ x : Int32, isC n nL sp p σm x → nI d < x → ¬ x ≤ nI d' := by
    intro x hx h1 h2
    obtain ⟨y, rfl, hy⟩ := he x (Int32.le_trans (show (0 : Int32) ≤ nI d from nI_pos' (by omega)) (Int32.le_of_lt h1)) (Int32.le_trans h2 (nI_le (b := 9999) (by omega) (by decide)))
    exact hn y ((nI_ltI (by omega) (by omega)).mp h1) ((nI_leI (by omega) (by omega)).mp h2) hx
  have e1 : eK σm k = σm.2.1 25 k + laS σm k (σm.2.1 22 k).toNatClampNeg := rfl
  unfold sB stB at h ⊢
  rw [← e1] at h ⊢
  rw [hs, nI_clamp hsp, ep, nI_clamp hp] at h ⊢
  simp only [Bool.and_eq_true, Bool.or_eq_true, decide_eq_true_eq] at h ⊢
  obtain ⟨h1, h2, h3, h4⟩ := h
  have hle : nI d ≤ nI d' := nI_le hdd (by omega)
  refine ⟨Int32.le_trans h1 hle, ?_, ?_, ?_⟩
  · exact Int32.not_le.mp (hC _ (Or.inl ⟨k, hk, hs, Or.inl rfl⟩) h2)
  · rcases h3 with h3 | h3
    · exact Or.inl h3
    · exact Or.inr (Int32.not_le.mp (hC _ (Or.inl ⟨k, hk, hs, Or.inr rfl⟩) h3))
  · rcases h4 with h4 | h4
    · exact Or.inl h4
    · refine Or.inr ?_
      rw [← h4]
      unfold owS
      refine (ownL_day n 0 0 (-1) (fun s _ hs2 es => ?_)).symm
      constructor
      · exact fun q => Int32.le_trans q hle
      · intro q
        by_cases q2 : σm.2.1 3 s ≤ nI d
        · exact q2
        · exact absurd q (hC _ (Or.inr ⟨s, by omega, es, rfl⟩) (Int32.not_le.mp q2))
theorem he_all : ∀ x : Int32, (0 : Int32) ≤ x → x ≤ 9999 → ∃ y, x = nI y ∧ y ≤ 9999 := by
  intro x h1 h2
  obtain ⟨y, hy, e⟩ := rg_of (x := x) (hi := 9999) ⟨Int32.le_iff_toInt_le.mp h1, Int32.le_iff_toInt_le.mp h2⟩ (by decide)
  exact ⟨y, e, hy⟩
theorem fB_stay {n nP nL sp p d d' : Nat} {σx σm : St} (hl : I_leaf nP nL σx σm) (hsp : sp < 2 ^ 31) (hp : p < 2 ^ 31) (ep : σm.2.1 16 sp = nI p) (hd' : d' ≤ 9999) (hdd : d ≤ d') (hn : ∀ x, d < x → x ≤ d' → ¬ isC n nL sp p σm (nI x)) : ∀ k, k < nL → σm.2.1 23 k = nI sp → fB n σm (nI d) k = true → fB n σm (nI d') k = true := by
  intro k
  induction k using Nat.strongRecOn with
  | _ k ih =>
    intro hk hs h
    have hL := hl.1
    rcases (hl.2.2.2.2.2.2.2.1 k hk).2 with e | ⟨j, hj, e, ej⟩
    · unfold fB at h ⊢
      rw [inF_m e] at h ⊢
      exact sB_stay hsp hp ep hd' hdd hn he_all hk hs h
    · unfold fB at h ⊢
      rw [inF_j e hj (by omega)] at h ⊢
      rw [Bool.and_eq_true] at h ⊢
      exact ⟨sB_stay hsp hp ep hd' hdd hn he_all hk hs h.1, ih j hj (by omega) (ej.trans hs) h.2⟩
/-- what has something keeps it till the next change -/
theorem has_stay {n nP nL sp p d d' : Nat} {σx σm : St} (hl : I_leaf nP nL σx σm) (hsp : sp < 2 ^ 31) (hp : p < 2 ^ 31) (ep : σm.2.1 16 sp = nI p) (hd' : d' ≤ 9999) (hdd : d ≤ d') (hn : ∀ x, d < x → x ≤ d' → ¬ isC n nL sp p σm (nI x)) (h : ¬ hasS n nL σm (nI sp) (nI d) = 0) : ¬ hasS n nL σm (nI sp) (nI d') = 0 := by
  intro q
  apply h
  rw [hasS_0] at q ⊢
  exact fun k hk z => q k hk ⟨z.1, fB_stay hl hsp hp ep hd' hdd hn k hk z.1 z.2⟩
/-- the least of those behind d that were seen -/
def mnP (d v : Int32) (S : Int32 → Prop) : Prop := d < v ∧ v ≤ 10000 ∧ (v = 10000 ∨ S v) ∧ ∀ x, S x → d < x → v ≤ x
theorem mnP_skip {d v : Int32} {S : Int32 → Prop} (h : mnP d v S) {S' : Int32 → Prop} (h1 : ∀ x, S x → S' x) (h2 : ∀ x, S' x → S x ∨ x ≤ d) : mnP d v S' := by
  refine ⟨h.1, h.2.1, h.2.2.1.imp id (h1 v), fun x hx hd => ?_⟩
  rcases h2 x hx with q | q
  · exact h.2.2.2 x q hd
  · exact absurd hd (Int32.not_lt.mpr q)
theorem mnP_put {d v y : Int32} {S : Int32 → Prop} (h : mnP d v S) (hy : ¬ y ≤ d) {S' : Int32 → Prop} (h1 : ∀ x, S x → S' x) (h0 : S' y) (h2 : ∀ x, S' x → S x ∨ x = y) : mnP d (if y < v then y else v) S' := by
  have hy := Int32.not_le.mp hy
  by_cases q : y < v
  · rw [if_pos q]
    refine ⟨hy, Int32.le_trans (Int32.le_of_lt q) h.2.1, Or.inr h0, fun x hx hd => ?_⟩
    rcases h2 x hx with z | z
    · exact Int32.le_trans (Int32.le_of_lt q) (h.2.2.2 x z hd)
    · rw [z]; exact Int32.le_refl y
  · rw [if_neg q]
    refine ⟨h.1, h.2.1, h.2.2.1.imp id (h1 v), fun x hx hd => ?_⟩
    rcases h2 x hx with z | z
    · exact h.2.2.2 x z hd
    · rw [z]; exact Int32.not_lt.mp q
theorem xsale_loop {N n : Nat} {σx σm : St} {plot d : Int32} (h : I_sale n σx σm) : ∀ (m f i : Nat) (v : Int32), i + m = n → m < f → mnP d v (fun x => ∃ s, s < i ∧ σm.2.1 1 s = plot ∧ σm.2.1 3 s = x) → ∃ v', fX4_nextSale_7 N σx f plot d v (nI i) = some v' ∧ mnP d v' (fun x => ∃ s, s < n ∧ σm.2.1 1 s = plot ∧ σm.2.1 3 s = x) := by
  intro m
  have h40 := h.1
  induction m with
  | zero =>
    intro f i v hi hf hv
    cases f with
    | zero => omega
    | succ f =>
      refine ⟨v, ?_, ?_⟩
      · show fX4_nextSale_7b N σx (fX4_nextSale_7 N σx f) plot d v (nI i) = _
        unfold fX4_nextSale_7b
        rw [h.2.1, if_pos (nI_le (by omega) (by omega))]
      · have : i = n := by omega
        rw [← this]; exact hv
  | succ m ih =>
    intro f i v hi hf hv
    cases f with
    | zero => omega
    | succ f =>
      show ∃ v', fX4_nextSale_7b N σx (fX4_nextSale_7 N σx f) plot d v (nI i) = some v' ∧ _
      unfold fX4_nextSale_7b fX4_nextSale_50 nm
      have hk : i < n := by omega
      rw [h.2.1, if_neg (nI_ge hk (by omega))]
      simp only [ix_nI (show i < 40 by omega) (by decide), aR_nI (show i < 2 ^ 31 by omega), if_true, nI_1 i, (h.2.2.2.1 i hk).1, (h.2.2.2.2.2 i hk).1]
      have up : ∀ x, (∃ s, s < i ∧ σm.2.1 1 s = plot ∧ σm.2.1 3 s = x) → ∃ s, s < i + 1 ∧ σm.2.1 1 s = plot ∧ σm.2.1 3 s = x := fun x ⟨s, a, b⟩ => ⟨s, by omega, b⟩
      by_cases h1 : σm.2.1 1 i = plot
      · by_cases h2 : σm.2.1 3 i ≤ d
        · simp only [if_pos h1, if_pos h2]
          refine ih f (i + 1) v (by omega) (by omega) (mnP_skip hv up (fun x ⟨s, a, b, c⟩ => ?_))
          by_cases e : s = i
          · subst e; exact Or.inr (by rw [← c]; exact h2)
          · exact Or.inl ⟨s, by omega, b, c⟩
        · simp only [if_pos h1, if_neg h2]
          refine ih f (i + 1) _ (by omega) (by omega) (mnP_put hv h2 up ⟨i, by omega, h1, rfl⟩ (fun x ⟨s, a, b, c⟩ => ?_))
          by_cases e : s = i
          · subst e; exact Or.inr c.symm
          · exact Or.inl ⟨s, by omega, b, c⟩
      · simp only [if_neg h1]
        refine ih f (i + 1) v (by omega) (by omega) (mnP_skip hv up (fun x ⟨s, a, b, c⟩ => ?_))
        by_cases e : s = i
        · subst e; exact absurd b h1
        · exact Or.inl ⟨s, by omega, b, c⟩
theorem xchange_loop {N nP nL : Nat} {σx σm : St} {span d : Int32} {T : Int32 → Prop} (h : I_leaf nP nL σx σm) : ∀ (m f i : Nat) (v : Int32), i + m = nL → m < f → mnP d v (fun x => (∃ k, k < i ∧ σm.2.1 23 k = span ∧ (eK σm k = x ∨ σm.2.1 29 k = x)) ∨ T x) → ∃ v', fX5_nextChange_21 N σx f span d v (nI i) = some v' ∧ mnP d v' (fun x => (∃ k, k < nL ∧ σm.2.1 23 k = span ∧ (eK σm k = x ∨ σm.2.1 29 k = x)) ∨ T x) := by
  intro m
  have h24 := h.1
  induction m with
  | zero =>
    intro f i v hi hf hv
    cases f with
    | zero => omega
    | succ f =>
      refine ⟨v, ?_, ?_⟩
      · show fX5_nextChange_21b N σx (fX5_nextChange_21 N σx f) span d v (nI i) = _
        unfold fX5_nextChange_21b
        rw [h.2.1, if_pos (nI_le (by omega) (by omega))]
      · have : i = nL := by omega
        rw [← this]; exact hv
  | succ m ih =>
    intro f i v hi hf hv
    cases f with
    | zero => omega
    | succ f =>
      show ∃ v', fX5_nextChange_21b N σx (fX5_nextChange_21 N σx f) span d v (nI i) = some v' ∧ _
      unfold fX5_nextChange_21b fX5_nextChange_70 fX5_nextChange_93 nm
      have hk : i < nL := by omega
      obtain ⟨kd, hkd, e1, f1⟩ := kind_of h hk
      obtain ⟨sp, hsp, f2, e2⟩ := h.2.2.2.2.1 i hk
      have e43 : σx.2.1 43 i = σm.2.1 23 i := by rw [f2, e2]
      have eE : σm.2.1 25 i + laS σm i kd = eK σm i := by unfold eK; rw [e1, nI_clamp (by omega)]
      rw [h.2.1, if_neg (nI_ge hk (by omega)), xlasts h hk hkd f1]
      simp only [ix_nI (show i < 24 by omega) (by decide), aR_nI (show i < 2 ^ 31 by omega), if_true, nI_1 i, bd, e43, (h.2.2.2.2.2.2.1 i hk).1, (h.2.2.2.2.2.2.2.2.2.1 i hk).1, eE]
      by_cases h1 : σm.2.1 23 i = span
      · simp only [if_pos h1]
        have S1 : ∀ w : Int32, mnP d w (fun x => ((∃ k, k < i ∧ σm.2.1 23 k = span ∧ (eK σm k = x ∨ σm.2.1 29 k = x)) ∨ T x) ∨ x = eK σm i) → ∃ v', (if σm.2.1 29 i ≤ d then fX5_nextChange_21 N σx f span d w (nI (i + 1)) else fX5_nextChange_21 N σx f span d (if σm.2.1 29 i < w then σm.2.1 29 i else w) (nI (i + 1))) = some v' ∧ mnP d v' (fun x => (∃ k, k < nL ∧ σm.2.1 23 k = span ∧ (eK σm k = x ∨ σm.2.1 29 k = x)) ∨ T x) := by
          intro w hw
          have up : ∀ x, (((∃ k, k < i ∧ σm.2.1 23 k = span ∧ (eK σm k = x ∨ σm.2.1 29 k = x)) ∨ T x) ∨ x = eK σm i) → ((∃ k, k < i + 1 ∧ σm.2.1 23 k = span ∧ (eK σm k = x ∨ σm.2.1 29 k = x)) ∨ T x) := by
            intro x q
            rcases q with (⟨k, a, b⟩ | q) | q
            · exact Or.inl ⟨k, by omega, b⟩
            · exact Or.inr q
            · exact Or.inl ⟨i, by omega, h1, Or.inl q.symm⟩
          have dn : ∀ x, ((∃ k, k < i + 1 ∧ σm.2.1 23 k = span ∧ (eK σm k = x ∨ σm.2.1 29 k = x)) ∨ T x) → (((∃ k, k < i ∧ σm.2.1 23 k = span ∧ (eK σm k = x ∨ σm.2.1 29 k = x)) ∨ T x) ∨ x = eK σm i) ∨ x = σm.2.1 29 i := by
            intro x q
            rcases q with ⟨k, a, b, c⟩ | q
            · by_cases e : k = i
              · subst e
                rcases c with c | c
                · exact Or.inl (Or.inr c.symm)
                · exact Or.inr c.symm
              · exact Or.inl (Or.inl (Or.inl ⟨k, by omega, b, c⟩))
            · exact Or.inl (Or.inl (Or.inr q))
          by_cases h2 : σm.2.1 29 i ≤ d
          · rw [if_pos h2]
            exact ih f (i + 1) w (by omega) (by omega) (mnP_skip hw up (fun x q => (dn x q).imp id (fun e => by rw [e]; exact h2)))
          · rw [if_neg h2]
            exact ih f (i + 1) _ (by omega) (by omega) (mnP_put hw h2 up (Or.inl ⟨i, by omega, h1, Or.inr rfl⟩) dn)
        by_cases h3 : eK σm i ≤ d
        · rw [if_pos h3]
          exact S1 v (mnP_skip hv (fun x q => Or.inl q) (fun x q => q.imp id (fun e => by rw [e]; exact h3)))
        · rw [if_neg h3]
          exact S1 _ (mnP_put hv h3 (fun x q => Or.inl q) (Or.inr rfl) (fun x q => q))
      · simp only [if_neg h1]
        refine ih f (i + 1) v (by omega) (by omega) (mnP_skip hv (fun x q => q.imp (fun ⟨k, a, b⟩ => ⟨k, by omega, b⟩) id) (fun x q => Or.inl ?_))
        rcases q with ⟨k, a, b, c⟩ | q
        · by_cases e : k = i
          · subst e; exact absurd b h1
          · exact Or.inl ⟨k, by omega, b, c⟩
        · exact Or.inr q
theorem xchange {N n nT nP nL sp p : Nat} {σx σm : St} {d : Int32} (hs : I_sale n σx σm) (hl : I_line nT nP σx σm) (h : I_leaf nP nL σx σm) (hN : 41 ≤ N) (hsp : sp < nP) (ep : σx.2.1 37 sp = nI p) (hd : d < 10000) : ∃ v, fX5_nextChange N σx (nI sp) d = some v ∧ mnP d v (isC n nL sp p σm) := by
  have h16 : sp < 16 := Nat.lt_of_lt_of_le hsp hl.2.2.2.1
  obtain ⟨v1, e1, q1⟩ := xsale_loop (N := N) (plot := nI p) (d := d) hs n N 0 10000 (by omega) (by have := hs.1; omega) ⟨hd, Int32.le_refl _, Or.inl rfl, fun x ⟨s, a, _⟩ => by omega⟩
  obtain ⟨v2, e2, q2⟩ := xchange_loop (N := N) (span := nI sp) (d := d) (T := fun x => ∃ s, s < n ∧ σm.2.1 1 s = nI p ∧ σm.2.1 3 s = x) h nL N 0 v1 (by omega) (by have := h.1; omega) (mnP_skip q1 (fun x q => Or.inr q) (fun x q => q.elim (fun ⟨k, a, _⟩ => by omega) Or.inl))
  refine ⟨v2, ?_, q2⟩
  unfold fX5_nextChange fX4_nextSale
  simp only [ix_nI h16 (by decide), aR_nI (show sp < 2 ^ 31 by omega), if_true, ep]
  rw [show fX4_nextSale_7 N σx N (nI p) d 10000 0 = some v1 from e1]
  exact e2
/-- how many changes are behind a DAY -/
def mC (n nL sp p : Nat) (σm : St) (d : Int32) : Nat := cntB (fun s => decide (σm.2.1 1 s = nI p ∧ d < σm.2.1 3 s)) n + cntB (fun k => decide (σm.2.1 23 k = nI sp ∧ d < eK σm k)) nL + cntB (fun k => decide (σm.2.1 23 k = nI sp ∧ d < σm.2.1 29 k)) nL
theorem mC_lt {n nL sp p : Nat} {σm : St} {d v : Int32} (hd : d < v) (hv : isC n nL sp p σm v) : mC n nL sp p σm v < mC n nL sp p σm d := by
  have m1 : ∀ k, k < n → decide (σm.2.1 1 k = nI p ∧ v < σm.2.1 3 k) = true → decide (σm.2.1 1 k = nI p ∧ d < σm.2.1 3 k) = true := fun k _ q => by
    rw [decide_eq_true_eq] at q ⊢; exact ⟨q.1, Int32.lt_trans hd q.2⟩
  have m2 : ∀ k, k < nL → decide (σm.2.1 23 k = nI sp ∧ v < eK σm k) = true → decide (σm.2.1 23 k = nI sp ∧ d < eK σm k) = true := fun k _ q => by
    rw [decide_eq_true_eq] at q ⊢; exact ⟨q.1, Int32.lt_trans hd q.2⟩
  have m3 : ∀ k, k < nL → decide (σm.2.1 23 k = nI sp ∧ v < σm.2.1 29 k) = true → decide (σm.2.1 23 k = nI sp ∧ d < σm.2.1 29 k) = true := fun k _ q => by
    rw [decide_eq_true_eq] at q ⊢; exact ⟨q.1, Int32.lt_trans hd q.2⟩
  have c1 := cntB_mono n m1
  have c2 := cntB_mono nL m2
  have c3 := cntB_mono nL m3
  unfold mC
  rcases hv with ⟨k, hk, e, e2 | e2⟩ | ⟨s, hs, e, e2⟩
  · have := cntB_lt nL m2 ⟨k, hk, by rw [decide_eq_true_eq]; exact ⟨e, by rw [e2]; exact hd⟩, by rw [decide_eq_true_eq]; exact fun q => by rw [e2] at q; exact Int32.lt_irrefl q.2⟩
    omega
  · have := cntB_lt nL m3 ⟨k, hk, by rw [decide_eq_true_eq]; exact ⟨e, by rw [e2]; exact hd⟩, by rw [decide_eq_true_eq]; exact fun q => by rw [e2] at q; exact Int32.lt_irrefl q.2⟩
    omega
  · have := cntB_lt n m1 ⟨s, hs, by rw [decide_eq_true_eq]; exact ⟨e, by rw [e2]; exact hd⟩, by rw [decide_eq_true_eq]; exact fun q => by rw [e2] at q; exact Int32.lt_irrefl q.2⟩
    omega
theorem xends_loop {N n nT nP nL sp p t : Nat} {σx σm : St} (hs : I_sale n σx σm) (hl : I_line nT nP σx σm) (h : I_leaf nP nL σx σm) (hN : 41 ≤ N) (hsp : sp < nP) (hp : p < 48) (ep : σx.2.1 37 sp = nI p) (em : σm.2.1 16 sp = nI p) : ∀ (f i d : Nat) (g : Nat → Int32), 90 < f + i → i ≤ 89 → t ≤ d → d ≤ 10000 → (d ≤ 9999 → i + mC n nL sp p σm (nI d) ≤ 88) → (d = t ∨ d = 10000 ∨ isC n nL sp p σm (nI d)) → (∀ x, t ≤ x → x < d → ¬ hasS n nL σm (nI sp) (nI x) = 0) → ∃ r g', fX5_ends_10 N f (sA σx 50 g) (nI sp) (nI d) (nI i) = some (r, sA σx 50 g') ∧ ((r = -1 ∧ ∀ x, t ≤ x → x ≤ 9999 → ¬ hasS n nL σm (nI sp) (nI x) = 0) ∨ (∃ q, r = nI q ∧ t ≤ q ∧ q ≤ 9999 ∧ hasS n nL σm (nI sp) (nI q) = 0 ∧ (q = t ∨ isC n nL sp p σm (nI q)) ∧ ∀ x, t ≤ x → x < q → ¬ hasS n nL σm (nI sp) (nI x) = 0)) := by
  intro f
  have h16 : sp < 16 := Nat.lt_of_lt_of_le hsp hl.2.2.2.1
  induction f with
  | zero => intro i d g hf hi; omega
  | succ f ih =>
    intro i d g hf hi htd hd hM hC hZ
    show ∃ r g', fX5_ends_10b N (fX5_ends_10 N f) (sA σx 50 g) (nI sp) (nI d) (nI i) = some (r, sA σx 50 g') ∧ _
    unfold fX5_ends_10b
    by_cases h1 : d = 10000
    · refine ⟨-1, g, ?_, Or.inl ⟨rfl, fun x a b => hZ x a (by omega)⟩⟩
      rw [if_pos (show (9999 : Int32) < nI d from nI_lt (a := 9999) (by omega) (by omega))]
      split <;> rfl
    · have h9 : d ≤ 9999 := by omega
      have hM := hM h9
      obtain ⟨g1, e1⟩ := xhas (N := N) (σx := sA σx 50 g) (σm := σm) (span := nI sp) (day := nI d) hs hl h hN (nI_m1 (by omega))
      rw [if_neg (show ¬ (88 : Int32) < nI i from nI_nlt (a := 88) (by omega) (by omega)), if_neg (show ¬ (9999 : Int32) < nI d from nI_nlt (a := 9999) (by omega) (by omega)), e1]
      simp only [bd2, sA_sA]
      by_cases h2 : hasS n nL σm (nI sp) (nI d) = 0
      · rw [if_pos h2]
        exact ⟨_, g1, rfl, Or.inr ⟨d, rfl, htd, h9, h2, hC.imp id (fun q => q.resolve_left h1), hZ⟩⟩
      · rw [if_neg h2]
        obtain ⟨v, e2, q1, q2, q3, q4⟩ := xchange (N := N) (σx := sA σx 50 g1) (σm := σm) (sp := sp) (p := p) (d := nI d) hs hl h hN hsp ep (nI_lt (b := 10000) (by omega) (by decide))
        rw [e2]
        obtain ⟨d', hd', rfl⟩ := rg_of (x := v) (hi := 10000) ⟨by have := Int32.lt_iff_toInt_lt.mp q1; rw [nI_toInt (by omega)] at this; omega, by have := Int32.le_iff_toInt_le.mp q2; rw [show (10000 : Int32).toInt = 10000 from rfl] at this; omega⟩ (by decide)
        have hdd : d < d' := (nI_ltI (by omega) (by omega)).mp q1
        simp only [bd, nm, nI_1]
        refine ih (i + 1) d' g1 (by omega) (by omega) (by omega) hd' (fun h9' => ?_) ?_ (fun x a b => ?_)
        · have : isC n nL sp p σm (nI d') := q3.resolve_left (fun e => by have := (nI_eq (b := 10000) (by omega) (by decide)).mp e; omega)
          have := mC_lt q1 this
          omega
        · rcases q3 with q | q
          · exact Or.inr (Or.inl ((nI_eq (b := 10000) (by omega) (by decide)).mp q))
          · exact Or.inr (Or.inr q)
        · by_cases hx : x < d
          · exact hZ x a hx
          · exact has_stay h (by omega) (by omega) em (by omega) (by omega) (fun y y1 y2 yc => by
              have := q4 (nI y) yc (nI_lt y1 (by omega))
              have := (nI_leI (by omega) (by omega)).mp this
              omega) h2
theorem mC_88 {n nL sp p : Nat} {σm : St} {d : Int32} (h1 : n ≤ 40) (h2 : nL ≤ 24) : mC n nL sp p σm d ≤ 88 := by
  unfold mC
  have a := cntB_le (P := fun s => decide (σm.2.1 1 s = nI p ∧ d < σm.2.1 3 s)) n
  have b := cntB_le (P := fun k => decide (σm.2.1 23 k = nI sp ∧ d < eK σm k)) nL
  have c := cntB_le (P := fun k => decide (σm.2.1 23 k = nI sp ∧ d < σm.2.1 29 k)) nL
  omega
/-- the model's least so far: one that is, and none that was seen is lesser -/
def eOk (n nL sp t : Nat) (σm : St) (l : Int32) : Prop := l = -1 ∨ (nI t < l ∧ l ≤ 9999 ∧ hasS n nL σm (nI sp) l = 0)
def eCo (n nL sp t : Nat) (σm : St) (l x : Int32) : Prop := nI t < x → x ≤ 9999 → hasS n nL σm (nI sp) x = 0 → (¬ l = -1 ∧ l ≤ x)
theorem mat {N d n nT nP nL sp : Nat} {σx σm : St} (hd : I_day d σx σm) (hc : I_const σm) (hs : I_sale n σx σm) (hl : I_line nT nP σx σm) (h : I_leaf nP nL σx σm) (hN : 41 ≤ N) {l x : Int32} (hok : eOk n nL sp d σm l) : ∃ l', fX12_endsAt N σm (nI sp) x l = some l' ∧ eOk n nL sp d σm l' ∧ eCo n nL sp d σm l' x ∧ ∀ y, eCo n nL sp d σm l y → eCo n nL sp d σm l' y := by
  unfold fX12_endsAt fX12_endsAt_29 fX12_endsAt_25 fX12_endsAt_30
  rw [hd.2.2, mhas hc hs hl h hN]
  simp only [bd, if_pos (rfl : (0 : Int32) = 0), if_neg (show ¬ (1 : Int32) = 0 from by decide)]
  by_cases h1 : x ≤ nI d
  · rw [if_pos h1]; exact ⟨l, rfl, hok, fun a => absurd a (Int32.not_lt.mpr h1), fun y q => q⟩
  rw [if_neg h1]
  by_cases h2 : 9999 < x
  · rw [if_pos h2]; exact ⟨l, rfl, hok, fun _ a => absurd a (Int32.not_le.mpr h2), fun y q => q⟩
  rw [if_neg h2]
  have h1 := Int32.not_le.mp h1
  have h2 := Int32.not_lt.mp h2
  by_cases h3 : l = -1
  · rw [if_pos h3]
    by_cases h4 : hasS n nL σm (nI sp) x = 0
    · rw [if_pos h4]
      refine ⟨x, rfl, Or.inr ⟨h1, h2, h4⟩, fun _ _ _ => ⟨fun e => ?_, Int32.le_refl x⟩, fun y q a b c => absurd h3 (q a b c).1⟩
      rw [e] at h1
      exact absurd h1 (Int32.not_lt.mpr (Int32.le_trans (show (-1 : Int32) ≤ 0 from by decide) (nI_pos' (by have := hd.1; omega))))
    · rw [if_neg h4]; exact ⟨l, rfl, hok, fun _ _ q => absurd q h4, fun y q => q⟩
  · rw [if_neg h3]
    by_cases h5 : l ≤ x
    · rw [if_pos h5]; exact ⟨l, rfl, hok, fun _ _ _ => ⟨h3, h5⟩, fun y q => q⟩
    · rw [if_neg h5]
      by_cases h4 : hasS n nL σm (nI sp) x = 0
      · rw [if_pos h4]
        have hx : ¬ x = -1 := fun e => by
          rw [e] at h1
          exact absurd h1 (Int32.not_lt.mpr (Int32.le_trans (show (-1 : Int32) ≤ 0 from by decide) (nI_pos' (by have := hd.1; omega))))
        exact ⟨x, rfl, Or.inr ⟨h1, h2, h4⟩, fun _ _ _ => ⟨hx, Int32.le_refl x⟩, fun y q a b c => ⟨hx, Int32.le_trans (Int32.le_of_lt (Int32.not_le.mp h5)) (q a b c).2⟩⟩
      · rw [if_neg h4]; exact ⟨l, rfl, hok, fun _ _ q => absurd q h4, fun y q => q⟩
theorem mends2_loop {N d n nT nP nL sp : Nat} {σx σm : St} (hd : I_day d σx σm) (hc : I_const σm) (hs : I_sale n σx σm) (hl : I_line nT nP σx σm) (h : I_leaf nP nL σx σm) (hN : 41 ≤ N) {K : Int32 → Prop} : ∀ (m f i : Nat) (l : Int32), i + m = n → m < f → eOk n nL sp d σm l → (∀ s, s < i → eCo n nL sp d σm l (σm.2.1 3 s)) → (∀ y, K y → eCo n nL sp d σm l y) → ∃ l', fX12_ends_69 N σm f (nI sp) l (nI i) = some l' ∧ eOk n nL sp d σm l' ∧ (∀ s, s < n → eCo n nL sp d σm l' (σm.2.1 3 s)) ∧ (∀ y, K y → eCo n nL sp d σm l' y) := by
  intro m
  have h40 := hs.1
  induction m with
  | zero =>
    intro f i l hi hf h1 h2 h3
    cases f with
    | zero => omega
    | succ f =>
      refine ⟨l, ?_, h1, fun s hs2 => h2 s (by omega), h3⟩
      show fX12_ends_69b N σm (fX12_ends_69 N σm f) (nI sp) l (nI i) = _
      unfold fX12_ends_69b
      rw [hs.2.2.1, if_pos (nI_le (by omega) (by omega))]
  | succ m ih =>
    intro f i l hi hf h1 h2 h3
    cases f with
    | zero => omega
    | succ f =>
      show ∃ l', fX12_ends_69b N σm (fX12_ends_69 N σm f) (nI sp) l (nI i) = some l' ∧ _
      unfold fX12_ends_69b nm
      rw [hs.2.2.1, if_neg (nI_ge (by omega) (by omega))]
      obtain ⟨l', e1, q1, q2, q3⟩ := mat (N := N) (x := σm.2.1 3 i) hd hc hs hl h hN h1
      simp only [ix_nI (show i < 40 by omega) (by decide), aR_nI (show i < 2 ^ 31 by omega), if_true, nI_1 i, e1, bd]
      refine ih f (i + 1) l' (by omega) (by omega) q1 (fun s hs2 => ?_) (fun y hy => q3 y (h3 y hy))
      by_cases e : s = i
      · subst e; exact q2
      · exact q3 _ (h2 s (by omega))
theorem mends1_loop {N d n nT nP nL sp : Nat} {σx σm : St} (hd : I_day d σx σm) (hc : I_const σm) (hs : I_sale n σx σm) (hl : I_line nT nP σx σm) (h : I_leaf nP nL σx σm) (hN : 41 ≤ N) : ∀ (m f i : Nat) (l : Int32), i + m = nL → m < f → eOk n nL sp d σm l → (∀ k, k < i → eCo n nL sp d σm l (eK σm k) ∧ eCo n nL sp d σm l (σm.2.1 29 k)) → ∃ l', fX12_ends_21 N σm f (nI sp) l (nI i) = some l' ∧ eOk n nL sp d σm l' ∧ (∀ s, s < n → eCo n nL sp d σm l' (σm.2.1 3 s)) ∧ (∀ k, k < nL → eCo n nL sp d σm l' (eK σm k) ∧ eCo n nL sp d σm l' (σm.2.1 29 k)) := by
  intro m
  have h24 := h.1
  induction m with
  | zero =>
    intro f i l hi hf h1 h2
    cases f with
    | zero => omega
    | succ f =>
      obtain ⟨l', e1, q1, q2, q3⟩ := mends2_loop (N := N) (sp := sp) hd hc hs hl h hN (K := fun y => ∃ k, k < nL ∧ (y = eK σm k ∨ y = σm.2.1 29 k)) n N 0 l (by omega) (by have := hs.1; omega) h1 (fun s hs2 => by omega) (fun y ⟨k, hk, q⟩ => by
        rcases q with q | q
        · rw [q]; exact (h2 k (by omega)).1
        · rw [q]; exact (h2 k (by omega)).2)
      refine ⟨l', ?_, q1, q2, fun k hk => ⟨q3 _ ⟨k, hk, Or.inl rfl⟩, q3 _ ⟨k, hk, Or.inr rfl⟩⟩⟩
      show fX12_ends_21b N σm (fX12_ends_21 N σm f) (nI sp) l (nI i) = _
      unfold fX12_ends_21b
      rw [h.2.2.1, if_pos (nI_le (by omega) (by omega))]
      exact e1
  | succ m ih =>
    intro f i l hi hf h1 h2
    cases f with
    | zero => omega
    | succ f =>
      show ∃ l', fX12_ends_21b N σm (fX12_ends_21 N σm f) (nI sp) l (nI i) = some l' ∧ _
      unfold fX12_ends_21b nm
      have hk : i < nL := by omega
      obtain ⟨kd, hkd, e1, f1⟩ := kind_of h hk
      have eE : σm.2.1 25 i + laS σm i kd = eK σm i := by unfold eK; rw [e1, nI_clamp (by omega)]
      rw [h.2.2.1, if_neg (nI_ge (by omega) (by omega)), mlasts hc (by omega) hkd e1]
      obtain ⟨l1, a1, a2, a3, a4⟩ := mat (N := N) (x := eK σm i) hd hc hs hl h hN h1
      obtain ⟨l2, b1, b2, b3, b4⟩ := mat (N := N) (x := σm.2.1 29 i) hd hc hs hl h hN a2
      simp only [ix_nI (show i < 24 by omega) (by decide), aR_nI (show i < 2 ^ 31 by omega), if_true, nI_1 i, bd, eE, a1, b1]
      refine ih f (i + 1) l2 (by omega) (by omega) b2 (fun k hk2 => ?_)
      by_cases e : k = i
      · subst e; exact ⟨b4 _ a3, b3⟩
      · exact ⟨b4 _ (a4 _ (h2 k (by omega)).1), b4 _ (a4 _ (h2 k (by omega)).2)⟩
/-- ENDS is the same on both sides -/
theorem ends_e {N d n nT nP nL sp : Nat} {σx σm : St} (hd : I_day d σx σm) (hc : I_const σm) (hs : I_sale n σx σm) (hl : I_line nT nP σx σm) (h : I_leaf nP nL σx σm) (hN : 200 ≤ N) (hsp : sp < nP) : ∃ r g, fX5_ends N σx (nI sp) = some (r, sA σx 50 g) ∧ fX12_ends N σm (nI sp) = some r ∧ rg (-1) 9999 r := by
  have h16 : sp < 16 := Nat.lt_of_lt_of_le hsp hl.2.2.2.1
  have hD := hd.1
  obtain ⟨p, hp, e1, e2⟩ := plot_of hl hsp
  obtain ⟨r, g, q1, q2⟩ := xends_loop (N := N) (t := d) hs hl h (by omega) hsp hp e2 e1 N 0 d (σx.2.1 50) (by omega) (by omega) (by omega) (by omega) (fun _ => by have := mC_88 (sp := sp) (p := p) (σm := σm) (d := nI d) hs.1 h.1; omega) (Or.inl rfl) (fun x a b => by omega)
  rw [sA_self] at q1
  have q1 : fX5_ends N σx (nI sp) = some (r, sA σx 50 g) := by unfold fX5_ends; rw [hd.2.1]; exact q1
  refine ⟨r, g, q1, ?_, ?_⟩
  · unfold fX12_ends
    rw [hd.2.2, mhas hc hs hl h (by omega)]
    simp only [bd]
    by_cases h1 : hasS n nL σm (nI sp) (nI d) = 0
    · rw [if_pos h1]
      rcases q2 with ⟨_, q⟩ | ⟨q, z1, z2, z3, z4, z5, z6⟩
      · exact absurd h1 (q d (by omega) hD)
      · have : q = d := by
          by_cases e : q = d
          · exact e
          · exact absurd h1 (z6 d (by omega) (by omega))
        rw [z1, this]
    · rw [if_neg h1]
      obtain ⟨l, e3, w1, w2, w3⟩ := mends1_loop (N := N) (sp := sp) hd hc hs hl h (by omega) nL N 0 (-1) (by omega) (by have := h.1; omega) (Or.inl rfl) (fun k hk => by omega)
      rw [show fX12_ends_21 N σm N (nI sp) (-1) 0 = some l from e3]
      refine congrArg some ?_
      rcases q2 with ⟨y1, y2⟩ | ⟨q, z1, z2, z3, z4, z5, z6⟩
      · rcases w1 with w | ⟨a, b, c⟩
        · rw [w, y1]
        · obtain ⟨y, rfl, hy⟩ := he_all l (Int32.le_trans (nI_pos' (by omega)) (Int32.le_of_lt a)) b
          exact absurd c (y2 y (by have := (nI_ltI (by omega) (by omega)).mp a; omega) hy)
      · have hq : d < q := by
          by_cases e : q = d
          · rw [e] at z4; exact absurd z4 h1
          · omega
        have hC := z5.resolve_left (by omega)
        have hco : eCo n nL sp d σm l (nI q) := by
          rcases hC with ⟨k, hk, _, e | e⟩ | ⟨s, hs2, _, e⟩
          · rw [← e]; exact (w3 k hk).1
          · rw [← e]; exact (w3 k hk).2
          · rw [← e]; exact w2 s hs2
        have hco := hco (nI_lt hq (by omega)) (nI_le (b := 9999) (by omega) (by decide)) z4
        rcases w1 with w | ⟨a, b, c⟩
        · exact absurd w hco.1
        · obtain ⟨y, rfl, hy⟩ := he_all l (Int32.le_trans (nI_pos' (by omega)) (Int32.le_of_lt a)) b
          have b1 := (nI_leI (by omega) (by omega)).mp hco.2
          have b2 := (nI_ltI (by omega) (by omega)).mp a
          have : y = q := by
            by_cases e : y = q
            · exact e
            · exact absurd c (z6 y (by omega) (by omega))
          rw [this, z1]
  · rcases q2 with ⟨y1, _⟩ | ⟨q, z1, z2, z3, _⟩
    · rw [y1]; unfold rg; decide
    · rw [z1]; unfold rg; rw [nI_toInt (by omega)]; omega
theorem s_spanTold {N : Nat} (hN : 200 ≤ N) : SP_spanTold Inv N := by
  intro σx σm a1 a2 hI
  obtain ⟨κ, hd, hs, hla, hhe, hho, hli, hle, hc, ht, hx, hcl, hlo, hsh⟩ := id hI
  unfold fX11_spanTold fX12_spanTold
  rw [isSpan_e hli]
  by_cases h1 : fX6_isSpan σx a1 = 0
  · simp only [if_pos h1]; exact ⟨_, _, rfl, rfl, hI⟩
  obtain ⟨k, hk, rfl⟩ := span_of hli h1
  have h16 : k < 16 := Nat.lt_of_lt_of_le hk hli.2.2.2.1
  simp only [if_neg h1, ix_nI h16 (by decide), aR_nI (show k < 2 ^ 31 by omega), if_true]
  by_cases q0 : a2 = 0
  · simp only [if_pos q0]; rw [(hli.2.2.2.2.2.2.2.1 k hk).1]; exact ⟨_, _, rfl, rfl, hI⟩
  by_cases q1 : a2 = 1
  · simp only [if_neg q0, if_pos q1]; rw [(hli.2.2.2.2.2.2.2.2.1 k hk).1]; exact ⟨_, _, rfl, rfl, hI⟩
  by_cases q2 : a2 = 2
  · simp only [if_neg q0, if_neg q1, if_pos q2]; rw [xsag hli hk, msag h16]; exact ⟨_, _, rfl, rfl, hI⟩
  by_cases q3 : a2 = 3
  · simp only [if_neg q0, if_neg q1, if_neg q2, if_pos q3]; rw [xlow hli hk, mlow hli hk]; exact ⟨_, _, rfl, rfl, hI⟩
  obtain ⟨v, n1, n2⟩ := near_e (N := N) hd hla hli hk
  by_cases q4 : a2 = 4
  · simp only [if_neg q0, if_neg q1, if_neg q2, if_neg q3, if_pos q4]; rw [n1, n2]; exact ⟨_, _, rfl, rfl, hI⟩
  by_cases q5 : a2 = 5
  · simp only [if_neg q0, if_neg q1, if_neg q2, if_neg q3, if_neg q4, if_pos q5]
    unfold fX6_isTooNear
    rw [n1, n2]
    simp only [bd]
    by_cases q : (6 : Int32) ≤ v
    · simp only [if_pos q]; exact ⟨_, _, rfl, rfl, hI⟩
    · simp only [if_neg q]; exact ⟨_, _, rfl, rfl, hI⟩
  by_cases q6 : a2 = 6
  · simp only [if_neg q0, if_neg q1, if_neg q2, if_neg q3, if_neg q4, if_neg q5, if_pos q6]
    obtain ⟨r, g, e1, e2, _⟩ := ends_e hd hc hs hli hle hN hk
    rw [e1, e2]
    exact ⟨_, _, rfl, rfl, κ, hd, hs, hla, hhe, hho, hli, hle, hc, ht, hx, hcl, hlo, hsh⟩
  by_cases q7 : a2 = 7
  · simp only [if_neg q0, if_neg q1, if_neg q2, if_neg q3, if_neg q4, if_neg q5, if_neg q6, if_pos q7]; rw [(hli.2.2.2.2.2.2.2.2.2.2.1 k hk).1]; exact ⟨_, _, rfl, rfl, hI⟩
  simp only [if_neg q0, if_neg q1, if_neg q2, if_neg q3, if_neg q4, if_neg q5, if_neg q6, if_neg q7]
  exact ⟨_, _, rfl, rfl, hI⟩
