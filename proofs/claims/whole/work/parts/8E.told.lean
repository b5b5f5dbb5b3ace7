/-! PURE: leaveTold, undo, bounds -/
def yS (s : Int32) (kd : Nat) : Int32 := if kd = 1 then 0 else if kd = 2 then 2 * (s / 15) else if kd = 3 then s / 100 else if kd = 5 then 2 * (s / 15) else s / 15
theorem xyear {N nP nL k kd : Nat} {σx σm : St} (h : I_leaf nP nL σx σm) (hk : k < nL) (hkd : kd < 6) (e : σx.2.1 42 k = nI kd) : fX5_yearlyOf N σx (nI k) = some (yS (σm.2.1 24 k) kd) := by
  have h24 : k < 24 := Nat.lt_of_lt_of_le hk h.1
  unfold fX5_yearlyOf nm
  simp only [ix_nI h24 (by decide), aR_nI (show k < 2 ^ 31 by omega), if_true, e, (h.2.2.2.2.2.1 k hk).1]
  rcases (show kd = 0 ∨ kd = 1 ∨ kd = 2 ∨ kd = 3 ∨ kd = 4 ∨ kd = 5 by omega) with rfl | rfl | rfl | rfl | rfl | rfl <;> rfl
theorem myear {N nP nL k kd : Nat} {σx σm : St} (h : I_leaf nP nL σx σm) (hk : k < nL) (hkd : kd < 6) (e : σm.2.1 22 k = nI kd) : fX12_yearlyOf N σm (nI k) = some (yS (σm.2.1 24 k) kd) := by
  have h24 : k < 24 := Nat.lt_of_lt_of_le hk h.1
  unfold fX12_yearlyOf nm
  simp only [ix_nI h24 (by decide), aR_nI (show k < 2 ^ 31 by omega), if_true, e]
  obtain ⟨s, -, hs, e1, e2⟩ := eqR.of (lo := 0) (hi := 99999) h.2.2.2.2.2.1 hk (by decide)
  rcases (show kd = 0 ∨ kd = 1 ∨ kd = 2 ∨ kd = 3 ∨ kd = 4 ∨ kd = 5 by omega) with rfl | rfl | rfl | rfl | rfl | rfl
  · rfl
  · rfl
  · rfl
  · rfl
  · rw [e2]
    show some (2 * (nI s / 15) / 2) = some (nI s / 15)
    rw [show (15 : Int32) = nI 15 from rfl, show (2 : Int32) = nI 2 from rfl, pk_div (by omega) (by decide) (by decide), pk_mul, pk_div (by omega) (by decide) (by decide), show 2 * (s / 15) / 2 = s / 15 by omega]
  · rfl
theorem s_leaveTold {N : Nat} (hN : 41 ≤ N) : SP_leaveTold Inv N := by
  intro σx σm a1 a2 hI
  obtain ⟨κ, hd, hs, hla, hhe, hho, hli, hle, hc, ht, hx, hcl, hlo, hsh⟩ := id hI
  unfold fX11_leaveTold fX12_leaveTold
  rw [isLeave_e hle]
  have h24 := hle.1
  by_cases h1 : fX5_isLeave σx a1 = 0
  · simp only [if_pos h1]; exact ⟨_, _, rfl, rfl, hI⟩
  obtain ⟨k, hk, rfl⟩ := leave_of hle h1
  obtain ⟨kd, hkd, e1, f1⟩ := kind_of hle hk
  obtain ⟨sp, hsp, f2, e2⟩ := hle.2.2.2.2.1 k hk
  simp only [if_neg h1, ix_nI (show k < 24 by omega) (by decide), aR_nI (show k < 2 ^ 31 by omega), if_true]
  by_cases q0 : a2 = 0
  · simp only [if_pos q0]; rw [f1, e1]; exact ⟨_, _, rfl, rfl, hI⟩
  by_cases q1 : a2 = 1
  · simp only [if_neg q0, if_pos q1]; rw [f2, e2]; exact ⟨_, _, rfl, rfl, hI⟩
  by_cases q2 : a2 = 2
  · simp only [if_neg q0, if_neg q1, if_pos q2]; rw [(hle.2.2.2.2.2.2.1 k hk).1]; exact ⟨_, _, rfl, rfl, hI⟩
  by_cases q3 : a2 = 3
  · simp only [if_neg q0, if_neg q1, if_neg q2, if_pos q3]; rw [xlasts hle hk hkd f1, mlasts hc (by omega) hkd e1]; exact ⟨_, _, rfl, rfl, hI⟩
  by_cases q4 : a2 = 4
  · simp only [if_neg q0, if_neg q1, if_neg q2, if_neg q3, if_pos q4, f1, e1, ix_nI hkd (by decide), nI_clamp (show kd < 2 ^ 31 by omega), aR_nI (show kd < 2 ^ 31 by omega), if_true]; rw [hc.2.1, mI21 kd hkd]; exact ⟨_, _, rfl, rfl, hI⟩
  by_cases q5 : a2 = 5
  · simp only [if_neg q0, if_neg q1, if_neg q2, if_neg q3, if_neg q4, if_pos q5]; rw [xyear hle hk hkd f1, myear hle hk hkd e1]; exact ⟨_, _, rfl, rfl, hI⟩
  by_cases q6 : a2 = 6
  · simp only [if_neg q0, if_neg q1, if_neg q2, if_neg q3, if_neg q4, if_neg q5, if_pos q6]
    obtain ⟨g, hg⟩ := xforce (N := N) (day := σx.1 0) hs hli hle hN hk
    rw [hg, hd.2.1, hd.2.2, mforce hc hs hli hle hN hk]
    have hI' : Inv (sA σx 50 g) σm := ⟨κ, hd, hs, hla, hhe, hho, hli, hle, hc, ht, hx, hcl, hlo, hsh⟩
    cases fB (κ 1) σm (nI (κ 0)) k with
    | false => exact ⟨_, _, rfl, rfl, hI'⟩
    | true => exact ⟨_, _, rfl, rfl, hI'⟩
  by_cases q7 : a2 = 7
  · simp only [if_neg q0, if_neg q1, if_neg q2, if_neg q3, if_neg q4, if_neg q5, if_neg q6, if_pos q7]; rw [(hle.2.2.2.2.2.2.2.2.2.1 k hk).1]; exact ⟨_, _, rfl, rfl, hI⟩
  by_cases q8 : a2 = 8
  · simp only [if_neg q0, if_neg q1, if_neg q2, if_neg q3, if_neg q4, if_neg q5, if_neg q6, if_neg q7, if_pos q8]; rw [(hle.2.2.2.2.2.2.2.2.2.2.1 k (by omega)).1]
    by_cases q : σm.2.1 28 k = 0
    · simp only [if_pos q]; exact ⟨_, _, rfl, rfl, hI⟩
    · simp only [if_neg q]; exact ⟨_, _, rfl, rfl, hI⟩
  · simp only [if_neg q0, if_neg q1, if_neg q2, if_neg q3, if_neg q4, if_neg q5, if_neg q6, if_neg q7, if_neg q8]; exact ⟨_, _, rfl, rfl, hI⟩
def hgT (on : Nat → Int32) (lv : Int32) : Nat → Nat → Bool
  | 0 => fun _ => false
  | n + 1 => fun k => if k = n then (!decide (on n = -1)) && (decide (on n = lv) || hgT on lv n (on n).toNatClampNeg) else hgT on lv n k
def hgB (on : Nat → Int32) (lv : Int32) (k : Nat) : Bool := hgT on lv (k + 1) k
theorem hgT_lt {on : Nat → Int32} {lv : Int32} : ∀ (n k : Nat), k < n → hgT on lv n k = hgB on lv k
  | 0, k, h => by omega
  | n + 1, k, h => by
    by_cases e : k = n
    · subst e; rfl
    · have : hgT on lv (n + 1) k = hgT on lv n k := by show (if k = n then _ else _) = _; rw [if_neg e]
      rw [this]; exact hgT_lt n k (by omega)
theorem hgB_m {on : Nat → Int32} {lv : Int32} {k : Nat} (h : on k = -1) : hgB on lv k = false := by
  unfold hgB hgT; simp [h]
theorem hgB_j {on : Nat → Int32} {lv : Int32} {k j : Nat} (h : on k = nI j) (hj : j < k) (hk : k < 2 ^ 31) : hgB on lv k = (decide (nI j = lv) || hgB on lv j) := by
  have h1 : hgB on lv k = ((!decide (on k = -1)) && (decide (on k = lv) || hgT on lv k (on k).toNatClampNeg)) := by unfold hgB; show (if k = k then _ else _) = _; rw [if_pos rfl]
  rw [h1, h, nI_clamp (by omega), hgT_lt k j hj, decide_eq_false (nI_m1 (by omega)), Bool.not_false, Bool.true_and]
theorem mhang_loop {N nL l : Nat} {σ : St} (hL : nL ≤ 24) (hl : l < 2 ^ 31) (hon : ∀ k, k < nL → σ.2.1 26 k = -1 ∨ ∃ j, j < k ∧ σ.2.1 26 k = nI j) : ∀ (f j : Nat), j < nL → j + 1 < f → fX12_hangs_7 N σ f (nI l) (nI j) = some (bI (decide (nI j = nI l) || hgB (σ.2.1 26) (nI l) j)) := by
  intro f
  induction f with
  | zero => intro j _ h; omega
  | succ f ih =>
    intro j hj hf
    show fX12_hangs_7b N σ (fX12_hangs_7 N σ f) (nI l) (nI j) = _
    unfold fX12_hangs_7b fX12_hangs_27 nm
    rw [if_neg (nI_m1 (by omega))]
    by_cases q : nI j = nI l
    · rw [if_pos q, if_pos q, decide_eq_true q]; rfl
    · rw [if_neg q, decide_eq_false q, Bool.false_or]
      simp only [ix_nI (show j < 24 by omega) (by decide), aR_nI (show j < 2 ^ 31 by omega), if_true]
      rcases hon j hj with e | ⟨i, hi, e⟩
      · rw [hgB_m e, e]
        cases f with
        | zero => omega
        | succ f =>
          show fX12_hangs_7b N σ (fX12_hangs_7 N σ f) (nI l) (-1) = _
          unfold fX12_hangs_7b fX12_hangs_27
          rw [if_pos rfl, if_neg (fun q2 : (-1 : Int32) = nI l => nI_m1 hl q2.symm)]; rfl
      · rw [hgB_j e hi (by omega), e]
        exact ih i (by omega) (by omega)
theorem mhang {N nL l k : Nat} {σ : St} (hL : nL ≤ 24) (hl : l < 2 ^ 31) (hon : ∀ k, k < nL → σ.2.1 26 k = -1 ∨ ∃ j, j < k ∧ σ.2.1 26 k = nI j) (hk : k < nL) (hN : 41 ≤ N) : fX12_hangs N σ (nI k) (nI l) = some (bI (hgB (σ.2.1 26) (nI l) k)) := by
  unfold fX12_hangs nm
  simp only [ix_nI (show k < 24 by omega) (by decide), aR_nI (show k < 2 ^ 31 by omega), if_true]
  rcases hon k hk with e | ⟨i, hi, e⟩
  · rw [hgB_m e, e]
    obtain ⟨m, rfl⟩ : ∃ m, N = m + 1 := ⟨N - 1, by omega⟩
    show fX12_hangs_7b (m + 1) σ (fX12_hangs_7 (m + 1) σ m) (nI l) (-1) = _
    unfold fX12_hangs_7b fX12_hangs_27
    rw [if_pos rfl, if_neg (fun q2 : (-1 : Int32) = nI l => nI_m1 hl q2.symm)]; rfl
  · rw [hgB_j e hi (by omega), e]
    exact mhang_loop hL hl hon N i (by omega) (by omega)
theorem mundo_loop {N nL l : Nat} {σ : St} (hL : nL ≤ 24) (hn : σ.1 4 = nI nL) (hl : l < 2 ^ 31) (hon : ∀ k, k < nL → σ.2.1 26 k = -1 ∨ ∃ j, j < k ∧ σ.2.1 26 k = nI j) (hN : 41 ≤ N) : ∀ (m f i : Nat) (c : Int32), i + m = nL → m < f → fX12_undo_75 N f σ (nI l) c (nI i) = some (cnL (hgB (σ.2.1 26) (nI l)) m i c, σ) := by
  intro m
  induction m with
  | zero =>
    intro f i c hi hf
    cases f with
    | zero => omega
    | succ f =>
      show fX12_undo_75b N (fX12_undo_75 N f) σ (nI l) c (nI i) = _
      unfold fX12_undo_75b
      rw [hn, if_pos (nI_le (by omega) (by omega))]
      rfl
  | succ m ih =>
    intro f i c hi hf
    cases f with
    | zero => omega
    | succ f =>
      show fX12_undo_75b N (fX12_undo_75 N f) σ (nI l) c (nI i) = _
      unfold fX12_undo_75b fX12_undo_100 nm
      rw [hn, if_neg (nI_ge (by omega) (by omega)), mhang hL hl hon (by omega) hN]
      simp only [bd, nI_1 i]
      have h0 := ih f (i + 1) (c + 0) (by omega) (by omega)
      have h1 := ih f (i + 1) (c + 1) (by omega) (by omega)
      unfold cnL
      cases hgB (σ.2.1 26) (nI l) i with
      | false => rw [if_pos (show bI false = 0 from rfl)]; rw [Int32.add_zero] at h0 ⊢; exact h0
      | true => rw [if_neg (show ¬ bI true = 0 from by decide)]; exact h1
theorem xundo_loop {N nL l : Nat} {σ : St} {on : Nat → Int32} (hL : nL ≤ 24) (hn : σ.1 4 = nI nL) (hl : l < 2 ^ 31) (hon : ∀ k, k < nL → σ.2.1 46 k = on k ∧ (on k = -1 ∨ ∃ j, j < k ∧ on k = nI j)) : ∀ (m f i : Nat) (c : Int32) (g : Nat → Int32), i + m = nL → m < f → (∀ k, k < i → g k = bI (hgB on (nI l) k)) → ∃ g', fX5_hangingOn_4 N f (sA σ 50 g) (nI l) c (nI i) = some (cnL (hgB on (nI l)) m i c, sA σ 50 g') := by
  intro m
  induction m with
  | zero =>
    intro f i c g hi hf hg
    cases f with
    | zero => omega
    | succ f =>
      refine ⟨g, ?_⟩
      show fX5_hangingOn_4b N (fX5_hangingOn_4 N f) (sA σ 50 g) (nI l) c (nI i) = _
      unfold fX5_hangingOn_4b
      rw [sA_1, hn, if_pos (nI_le (by omega) (by omega))]
      rfl
  | succ m ih =>
    intro f i c g hi hf hg
    cases f with
    | zero => omega
    | succ f =>
      have h24 : i < 24 := by omega
      have done : ∀ b : Bool, b = hgB on (nI l) i → ∃ g', fX5_hangingOn_56 N (fX5_hangingOn_4 N f) (sA σ 50 g) (nI l) c (nI i) (nI i) (bI b) = some (cnL (hgB on (nI l)) (m + 1) i c, sA σ 50 g') := by
        intro b hb
        unfold fX5_hangingOn_56 fX5_hangingOn_69 nm
        simp only [ix_nI h24 (by decide), aW_nI (show i < 2 ^ 31 by omega), aR_nI (show i < 2 ^ 31 by omega), if_true, sA_sA, nI_1 i, show vp_nar .boolean (bI b) = bI b from by cases b <;> rfl]
        rw [show (sA σ 50 (upd ((sA σ 50 g).2.1 50) i (bI b))).2.1 50 i = bI b from up_s _ _ _]
        have hg' : ∀ k, k < i + 1 → upd ((sA σ 50 g).2.1 50) i (bI b) k = bI (hgB on (nI l) k) := by
          intro k hk
          by_cases ek : k = i
          · subst ek; rw [up_s, hb]
          · rw [pk_un ek]; exact hg k (by omega)
        unfold cnL
        rw [← hb]
        cases b with
        | false => rw [if_pos (show bI false = 0 from rfl)]; exact ih f (i + 1) c _ (by omega) (by omega) hg'
        | true => rw [if_neg (show ¬ bI true = 0 from by decide)]; exact ih f (i + 1) (c + 1) _ (by omega) (by omega) hg'
      show ∃ g', fX5_hangingOn_4b N (fX5_hangingOn_4 N f) (sA σ 50 g) (nI l) c (nI i) = _
      unfold fX5_hangingOn_4b fX5_hangingOn_51 fX5_hangingOn_55
      rw [sA_1, hn, if_neg (nI_ge (by omega) (by omega))]
      simp only [ix_nI h24 (by decide), aR_nI (show i < 2 ^ 31 by omega), if_true]
      rw [show (sA σ 50 g).2.1 46 i = on i from (hon i (by omega)).1]
      rcases (hon i (by omega)).2 with e | ⟨j, hj, e⟩
      · rw [if_pos e]
        exact done false (hgB_m e).symm
      · rw [e, if_neg (nI_m1 (by omega))]
        have hb := hgB_j (lv := nI l) e hj (by omega)
        by_cases q : nI j = nI l
        · rw [if_pos q]
          exact done true (by rw [hb, decide_eq_true q]; rfl)
        · rw [if_neg q]
          rw [decide_eq_false q, Bool.false_or] at hb
          simp only [ix_nI (show j < 24 by omega) (by decide), aR_nI (show j < 2 ^ 31 by omega), if_true]
          rw [show (sA σ 50 g).2.1 50 j = bI (hgB on (nI l) j) from hg j hj]
          cases hq : hgB on (nI l) j with
          | false => rw [if_pos (show bI false = 0 from rfl)]; exact done false (by rw [hb, hq])
          | true => rw [if_neg (show ¬ bI true = 0 from by decide)]; exact done true (by rw [hb, hq])
theorem s_undo {N : Nat} (hN : 41 ≤ N) : SP_undo Inv N := by
  intro σx σm a1 a2 hI
  obtain ⟨κ, hd, hs, hla, hhe, hho, hli, hle, hc, ht, hx, hcl, hlo, hsh⟩ := id hI
  unfold fX11_undo fX12_undo
  rw [isLeave_e hle, isDay_e]
  have h24 := hle.1
  by_cases h1 : fX5_isLeave σx a1 = 0
  · simp only [if_pos h1]; exact ⟨_, _, _, rfl, rfl, hI⟩
  obtain ⟨k, hk, rfl⟩ := leave_of hle h1
  have e1 := (hle.2.2.2.1 k hk).1
  have e3 := (hle.2.2.2.2.2.2.2.2.2.2.1 k (by omega)).1
  have e4 := (hle.2.2.2.2.2.2.2.2.2.1 k hk).1
  obtain ⟨b, -, hb, eb, fb⟩ := eqR.of (lo := 0) (hi := 9999) hle.2.2.2.2.2.2.1 hk (by decide)
  simp only [if_neg h1, nm, ix_nI (show k < 24 by omega) (by decide), aR_nI (show k < 2 ^ 31 by omega), aW_nI (show k < 2 ^ 31 by omega), if_true]
  rw [e1, e3, e4, eb, fb]
  by_cases h2 : fX11_within a2 (nI b) 9999 = 0
  · simp only [if_pos h2]
    by_cases h3 : fX11_isDay a2 = 0
    · simp only [if_pos h3]; exact ⟨_, _, _, rfl, rfl, hI⟩
    · have h5 : ¬ nI b ≤ a2 := fun q => wi_eq.mp h2 ⟨q, (wi_ne.mp h3).2⟩
      simp only [if_neg h3, if_neg h5]; exact ⟨_, _, _, rfl, rfl, hI⟩
  · have h5 := wi_ne.mp h2
    have h3 : ¬ fX11_isDay a2 = 0 := wi_ne.mpr ⟨Int32.le_trans (nI_pos' (n := b) (by omega)) h5.1, h5.2⟩
    simp only [if_neg h2, if_neg h3, if_pos h5.1]
    by_cases q1 : σm.2.1 22 k = 4
    · simp only [if_pos q1]
      by_cases q2 : σm.2.1 28 k = 0
      · simp only [if_pos q2]; exact ⟨_, _, _, rfl, rfl, hI⟩
      · simp only [if_neg q2]
        by_cases q3 : σm.2.1 29 k = -1
        · simp only [if_pos q3]
          have hon : ∀ i, i < κ 4 → σx.2.1 46 i = σm.2.1 26 i ∧ (σm.2.1 26 i = -1 ∨ ∃ j, j < i ∧ σm.2.1 26 i = nI j) := fun i hi => ⟨(hle.2.2.2.2.2.2.2.1 i hi).1, (hle.2.2.2.2.2.2.2.1 i hi).2.imp id (fun ⟨j, h6, h7, _⟩ => ⟨j, h6, h7⟩)⟩
          obtain ⟨g', hx1⟩ := xundo_loop (N := N) (l := k) (σ := sA σx 48 (upd (σx.2.1 48) k a2)) (on := σm.2.1 26) h24 hle.2.1 (by omega) hon (κ 4) N 0 0 (σx.2.1 50) (by omega) (by omega) (fun i hi => by omega)
          have hm1 := mundo_loop (N := N) (l := k) (σ := sA σm 29 (upd (σm.2.1 29) k a2)) h24 hle.2.2.1 (by omega) (fun i hi => (hon i hi).2) hN (κ 4) N 0 0 (by omega) (by omega)
          rw [show sA (sA σx 48 (upd (σx.2.1 48) k a2)) 50 (σx.2.1 50) = sA σx 48 (upd (σx.2.1 48) k a2) from sA_self _ _] at hx1
          unfold fX5_hangingOn
          rw [show fX5_hangingOn_4 N N (sA σx 48 (upd (σx.2.1 48) k a2)) (nI k) 0 0 = _ from hx1, show fX12_undo_75 N N (sA σm 29 (upd (σm.2.1 29) k a2)) (nI k) 0 0 = _ from hm1]
          have ra : rg (-1) 9999 a2 := by have := wi_rg h3; exact ⟨Int.le_trans (by decide) this.1, this.2⟩
          exact ⟨_, _, _, rfl, rfl, κ, hd, hs, hla, hhe, hho, hli, ⟨hle.1, hle.2.1, hle.2.2.1, hle.2.2.2.1, hle.2.2.2.2.1, hle.2.2.2.2.2.1, hle.2.2.2.2.2.2.1, hle.2.2.2.2.2.2.2.1, hle.2.2.2.2.2.2.2.2.1, eqR_upd hle.2.2.2.2.2.2.2.2.2.1 ra k, hle.2.2.2.2.2.2.2.2.2.2⟩, hc, ht, hx, hcl, hlo, hsh⟩
        · simp only [if_neg q3]; exact ⟨_, _, _, rfl, rfl, hI⟩
    · simp only [if_neg q1]; exact ⟨_, _, _, rfl, rfl, hI⟩
/-- the bounds so far: none yet, or both the same -/
def bR (lo ux um : Int32) : Prop := (lo = -1 ∧ ux = 199998 ∧ um = -1) ∨ ∃ l u, l < 2 ^ 30 ∧ u < 2 ^ 30 ∧ lo = nI l ∧ ux = nI u ∧ um = nI u
theorem m1_lt {a : Nat} (h : a < 2 ^ 31) : (-1 : Int32) < nI a := by
  rw [Int32.lt_iff_toInt_lt, nI_toInt h, show (-1 : Int32).toInt = -1 from rfl]; omega
theorem bound_loop {N n : Nat} {σx σm : St} {plot what : Int32} (h : I_look n σx σm) : ∀ (m f i : Nat) (lo ux um : Int32), i + m = n → m < f → bR lo ux um → ∃ r, fX7_boundOf_9 N σx f plot what lo ux (nI i) = some r ∧ fX12_bounds_28 N σm f plot what lo um (nI i) = some r := by
  have h20 := h.1
  intro m
  induction m with
  | zero =>
    intro f i lo ux um hi hf hb
    cases f with
    | zero => omega
    | succ f =>
      show ∃ r, fX7_boundOf_9b N σx (fX7_boundOf_9 N σx f) plot what lo ux (nI i) = some r ∧ fX12_bounds_28b N σm (fX12_bounds_28 N σm f) plot what lo um (nI i) = some r
      unfold fX7_boundOf_9b fX12_bounds_28b
      rw [h.2.1, h.2.2.1, if_pos (nI_le (by omega) (by omega)), if_pos (nI_le (by omega) (by omega))]
      rcases hb with ⟨rfl, rfl, rfl⟩ | ⟨l, u, hl, hu, rfl, rfl, rfl⟩
      · rw [if_pos rfl, if_pos (by decide)]
        by_cases q : what = 0
        · rw [if_pos q]; exact ⟨_, rfl, rfl⟩
        · rw [if_neg q]; exact ⟨_, rfl, rfl⟩
      · rw [if_neg (nI_m1 (by omega))]
        by_cases q1 : nI l ≤ nI u
        · simp only [if_pos q1]
          by_cases q2 : what = 0
          · simp only [if_pos q2]; exact ⟨_, rfl, rfl⟩
          · simp only [if_neg q2]; exact ⟨_, rfl, rfl⟩
        · simp only [if_neg q1]; exact ⟨_, rfl, rfl⟩
  | succ m ih =>
    intro f i lo ux um hi hf hb
    cases f with
    | zero => omega
    | succ f =>
      have hk : i < n := by omega
      obtain ⟨rp, rd, e70, e71⟩ := h.2.2.2.2 i hk
      obtain ⟨p, hp, ep⟩ := rg_of (hi := 99999) rp (by decide)
      obtain ⟨d, hd, ed⟩ := rg_of (hi := 50) rd (by decide)
      have hpd : p * d ≤ 99999 * 50 := Nat.mul_le_mul hp hd
      have hpd2 : p * d ≤ p * 50 := Nat.mul_le_mul_left p hd
      have eo : nI p * nI d / 100 = nI (p * d / 100) := by rw [pk_mul, show (100 : Int32) = nI 100 from rfl, pk_div (by omega) (by decide) (by decide)]
      have hle : p * d / 100 ≤ p := by omega
      show ∃ r, fX7_boundOf_9b N σx (fX7_boundOf_9 N σx f) plot what lo ux (nI i) = some r ∧ fX12_bounds_28b N σm (fX12_bounds_28 N σm f) plot what lo um (nI i) = some r
      unfold fX7_boundOf_9b fX12_bounds_28b fX7_boundOf_55 fX12_bounds_117 fX12_bounds_119 nm
      rw [h.2.1, h.2.2.1, if_neg (nI_ge hk (by omega)), if_neg (nI_ge hk (by omega))]
      simp only [ix_nI (show i < 20 by omega) (by decide), aR_nI (show i < 2 ^ 31 by omega), if_true, nI_1 i]
      rw [(h.2.2.2.1 i hk).1, e70, e71, ep, ed, eo, pk_sub hle, nI_add]
      by_cases q : σm.2.1 42 i = plot
      · rw [if_pos q, if_pos q]
        rcases hb with ⟨rfl, rfl, rfl⟩ | ⟨l, u, hl, hu, rfl, rfl, rfl⟩
        · rw [if_pos (m1_lt (by omega)), if_pos rfl, if_pos (show nI (p + p * d / 100) < 199998 by rw [Int32.lt_iff_toInt_lt, nI_toInt (by omega), show (199998 : Int32).toInt = 199998 from rfl]; omega)]
          exact ih f (i + 1) _ _ _ (by omega) (by omega) (Or.inr ⟨_, _, by omega, by omega, rfl, rfl, rfl⟩)
        · rw [if_neg (show ¬ nI u = -1 from nI_m1 (by omega))]
          refine ih f (i + 1) _ _ _ (by omega) (by omega) (Or.inr ⟨if l < p - p * d / 100 then p - p * d / 100 else l, if p + p * d / 100 < u then p + p * d / 100 else u, ?_, ?_, ?_, ?_, ?_⟩)
          · split <;> omega
          · split <;> omega
          · by_cases z : l < p - p * d / 100
            · rw [if_pos z, if_pos (nI_lt z (by omega))]
            · rw [if_neg z, if_neg (nI_nlt (by omega) (by omega))]
          · by_cases z : p + p * d / 100 < u
            · rw [if_pos z, if_pos (nI_lt z (by omega))]
            · rw [if_neg z, if_neg (nI_nlt (by omega) (by omega))]
          · by_cases z : p + p * d / 100 < u
            · rw [if_pos z, if_pos (nI_lt z (by omega))]
            · rw [if_neg z, if_neg (nI_nlt (by omega) (by omega))]
      · rw [if_neg q, if_neg q]
        exact ih f (i + 1) _ _ _ (by omega) (by omega) hb
theorem s_bounds {N : Nat} (hN : 41 ≤ N) : SP_bounds Inv N := by
  intro σx σm a1 a2 hI
  obtain ⟨κ, hd, hs, hla, hhe, hho, hli, hle, hc, ht, hx, hcl, hlo, hsh⟩ := id hI
  unfold fX11_bounds fX12_bounds
  rw [isPlot_e, isIn_w (x := a2) (a := 0) (b := 1) (A := 0) (B := 1) rfl rfl]
  by_cases h1 : fX11_isPlot a1 = 0
  · simp only [if_pos h1]; exact ⟨_, rfl, rfl, hI⟩
  by_cases h2 : fX11_within a2 0 1 = 0
  · simp only [if_neg h1, if_pos h2]; exact ⟨_, rfl, rfl, hI⟩
  simp only [if_neg h1, if_neg h2]
  have h20 := hlo.1
  obtain ⟨r, e1, e2⟩ := bound_loop (N := N) (plot := a1) (what := a2) hlo (κ 9) N 0 (-1) 199998 (-1) (by omega) (by omega) (Or.inl ⟨rfl, rfl, rfl⟩)
  unfold fX7_boundOf
  rw [show fX7_boundOf_9 N σx N a1 a2 (-1) 199998 0 = _ from e1, show fX12_bounds_28 N σm N a1 a2 (-1) (-1) 0 = _ from e2]
  exact ⟨_, rfl, rfl, hI⟩
