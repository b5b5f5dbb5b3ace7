/-! PURE: the class's least ways -/
def eT (t : Nat → Int32) (T : Nat → Nat) : Prop := ∀ p, p < 48 → t p = if T p = 0 then 2147483647 else nI (T p)
def eW (w : Nat → Int32) (W : Nat → Nat) : Prop := ∀ p, p < 48 → w p = if W p = 0 then -1 else nI (W p)
theorem mx_nI : (2147483647 : Int32) = nI 2147483647 := rfl
theorem enc_eq {m : Nat} (h : m ≤ 40000000) : ((if m = 0 then (2147483647 : Int32) else nI m) = 2147483647) ↔ m = 0 := by
  by_cases q : m = 0
  · rw [if_pos q]; exact ⟨fun _ => q, fun _ => rfl⟩
  · rw [if_neg q, mx_nI, nI_eq (by omega) (by decide)]
    exact ⟨fun z => by omega, fun z => absurd z q⟩
theorem enc_min {m v : Nat} (hm : m ≤ 40000000) (hv : v ≤ 40000000) : (if (if v = 0 then (2147483647 : Int32) else nI v) < (if m = 0 then (2147483647 : Int32) else nI m) then (if v = 0 then (2147483647 : Int32) else nI v) else (if m = 0 then (2147483647 : Int32) else nI m)) = if (if v = 0 then m else if m = 0 then v else if v < m then v else m) = 0 then 2147483647 else nI (if v = 0 then m else if m = 0 then v else if v < m then v else m) := by
  by_cases q1 : v = 0
  · simp only [if_pos q1]
    rw [if_neg]
    by_cases q2 : m = 0
    · rw [if_pos q2]; exact Int32.lt_irrefl
    · rw [if_neg q2, mx_nI, nI_ltI (by decide) (by omega)]; omega
  · by_cases q2 : m = 0
    · simp only [if_neg q1, if_pos q2]
      rw [if_pos]
      rw [mx_nI, nI_ltI (by omega) (by decide)]; omega
    · simp only [if_neg q1, if_neg q2]
      by_cases q3 : v < m
      · simp only [if_pos q3, if_neg q1]
        rw [if_pos ((nI_ltI (by omega) (by omega)).mpr q3)]
      · simp only [if_neg q3, if_neg q2]
        rw [if_neg (fun z => q3 ((nI_ltI (by omega) (by omega)).mp z))]
theorem less_loop {N p : Nat} {σ : St} {w t : Nat → Int32} {T W : Nat → Nat} (hp : p < 48) (et : eT t T) (ew : eW w W) (hT : ∀ q, q < 48 → T q ≤ 40000000) (hW : W p ≤ 703873) (hWp : ¬ W p = 0) : ∀ (j f k m : Nat), k + j = 4 → j < f → (m = 0 ∨ ∃ k', k' < 4 ∧ nb p k' < 48 ∧ T (nb p k') = m) → m ≤ 40000000 → (∀ k', k' < k → nb p k' < 48 → ¬ T (nb p k') = 0 → ¬ m = 0 ∧ m ≤ T (nb p k')) → ∃ m', (m' = 0 ∨ ∃ k', k' < 4 ∧ nb p k' < 48 ∧ T (nb p k') = m') ∧ m' ≤ 40000000 ∧ (∀ k', k' < 4 → nb p k' < 48 → ¬ T (nb p k') = 0 → ¬ m' = 0 ∧ m' ≤ T (nb p k')) ∧ fX10_lessen_17 N f (sA (sA σ 72 w) 73 t) (nI p) (if m = 0 then 2147483647 else nI m) (nI k) = if m' = 0 then some (0, sA (sA σ 72 w) 73 t) else if T p = 0 ∨ m' + W p < T p then some (1, sA (sA σ 72 w) 73 (upd t p (nI (m' + W p)))) else some (0, sA (sA σ 72 w) 73 t) := by
  intro j
  induction j with
  | zero =>
    intro f k m hk hf hm hm4 hk4
    cases f with
    | zero => omega
    | succ f =>
      refine ⟨m, hm, hm4, fun k' h => hk4 k' (by omega), ?_⟩
      show fX10_lessen_17b N (fX10_lessen_17 N f) (sA (sA σ 72 w) 73 t) (nI p) (if m = 0 then 2147483647 else nI m) (nI k) = _
      unfold fX10_lessen_17b nm
      rw [if_pos (show (4 : Int32) ≤ nI k from nI_le (a := 4) (by omega) (by omega))]
      by_cases q : m = 0
      · rw [if_pos ((enc_eq hm4).mpr q), if_pos q]
      · rw [if_neg (fun z => q ((enc_eq hm4).mp z)), if_neg q]
        simp only [if_neg q, ix_nI hp (by decide), if_true, aR_nI (show p < 2 ^ 31 by omega), aW_nI (show p < 2 ^ 31 by omega), sA_sA]
        rw [show (sA (sA σ 72 w) 73 t).2.1 72 p = w p from rfl, show (sA (sA σ 72 w) 73 t).2.1 73 p = t p from rfl, show (sA (sA σ 72 w) 73 t).2.1 73 = t from rfl, ew p hp, et p hp, if_neg hWp, nI_add]
        have hTp := hT p hp
        by_cases q2 : T p = 0
        · rw [if_pos q2, mx_nI, if_pos ((nI_ltI (by omega) (by decide)).mpr (by omega)), if_pos (Or.inl q2)]
        · rw [if_neg q2]
          by_cases q3 : m + W p < T p
          · rw [if_pos ((nI_ltI (by omega) (by omega)).mpr q3), if_pos (Or.inr q3)]
          · rw [if_neg (fun z => q3 ((nI_ltI (by omega) (by omega)).mp z)), if_neg (fun z => z.elim q2 q3)]
  | succ j ih =>
    intro f k m hk hf hm hm4 hk4
    cases f with
    | zero => omega
    | succ f =>
      show ∃ m', _ ∧ _ ∧ _ ∧ fX10_lessen_17b N (fX10_lessen_17 N f) (sA (sA σ 72 w) 73 t) (nI p) (if m = 0 then 2147483647 else nI m) (nI k) = _
      unfold fX10_lessen_17b fX10_lessen_47 nm
      rw [if_neg (show ¬ (4 : Int32) ≤ nI k from nI_ge (b := 4) (by omega) (by omega)), nI_1]
      have hb := nb_x hp (show k < 4 by omega)
      have hr := nb_r (k := k) hp
      by_cases q : nb p k = 48
      · rw [hb.1 q]
        dsimp only
        rw [if_pos rfl]
        refine ih f (k + 1) m (by omega) (by omega) hm hm4 (fun k' h1 h2 h3 => ?_)
        by_cases e : k' = k
        · subst e; omega
        · exact hk4 k' (by omega) h2 h3
      · have hn : nb p k < 48 := by omega
        rw [hb.2 q]
        dsimp only
        rw [if_neg (nI_m1 (k := nb p k) (by omega))]
        simp only [ix_nI hn (by decide), if_true, aR_nI (show nb p k < 2 ^ 31 by omega)]
        rw [show (sA (sA σ 72 w) 73 t).2.1 73 (nb p k) = t (nb p k) from rfl, et _ hn, enc_min hm4 (hT _ hn)]
        have hTn := hT _ hn
        refine ih f (k + 1) _ (by omega) (by omega) ?_ ?_ (fun k' h1 h2 h3 => ?_)
        · by_cases q1 : T (nb p k) = 0
          · rw [if_pos q1]; exact hm
          · rw [if_neg q1]
            by_cases q2 : m = 0
            · rw [if_pos q2]; exact Or.inr ⟨k, by omega, hn, rfl⟩
            · rw [if_neg q2]
              by_cases q3 : T (nb p k) < m
              · rw [if_pos q3]; exact Or.inr ⟨k, by omega, hn, rfl⟩
              · rw [if_neg q3]; exact hm
        · split
          · exact hm4
          · split
            · exact hTn
            · split <;> omega
        · by_cases e : k' = k
          · subst e
            rw [if_neg h3]
            by_cases q2 : m = 0
            · rw [if_pos q2]; exact ⟨h3, Nat.le_refl _⟩
            · rw [if_neg q2]
              by_cases q3 : T (nb p k') < m
              · rw [if_pos q3]; exact ⟨h3, Nat.le_refl _⟩
              · rw [if_neg q3]; exact ⟨q2, by omega⟩
          · obtain ⟨z1, z2⟩ := hk4 k' (by omega) h2 h3
            by_cases q1 : T (nb p k) = 0
            · rw [if_pos q1]; exact ⟨z1, z2⟩
            · rw [if_neg q1, if_neg z1]
              by_cases q3 : T (nb p k) < m
              · rw [if_pos q3]; exact ⟨q1, by omega⟩
              · rw [if_neg q3]; exact ⟨z1, z2⟩
theorem xless {N p to X : Nat} {σ : St} {w t : Nat → Int32} {T W : Nat → Nat} (hN : 41 ≤ N) (hp : p < 48) (ew : eW w W) (et : eT t T) (hX : X ≤ 703873) (hWX : ∀ q, q < 48 → W q ≤ X) (hS : wS to W T) (hB : wB X T) : ∃ r t' T', fX10_lessen N (sA (sA σ 72 w) 73 t) (nI p) = some (r, sA (sA σ 72 w) 73 t') ∧ eT t' T' ∧ wS to W T' ∧ wB X T' ∧ (∀ q, q < 48 → ¬ T q = 0 → ¬ T' q = 0 ∧ T' q ≤ T q) ∧ (¬ W p = 0 → ∀ k, k < 4 → nb p k < 48 → ¬ T (nb p k) = 0 → ¬ T' p = 0 ∧ T' p ≤ T (nb p k) + W p) ∧ ((r = 0 ∧ T' = T) ∨ r = 1) := by
  have hT : ∀ q, q < 48 → T q ≤ 40000000 := fun q hq => by
    have := wB_X hB hq
    have := Nat.mul_le_mul_right 48 hX
    omega
  unfold fX10_lessen
  simp only [ix_nI hp (by decide), if_true, aR_nI (show p < 2 ^ 31 by omega)]
  rw [show (sA (sA σ 72 w) 73 t).2.1 72 p = w p from rfl, ew p hp]
  by_cases q : W p = 0
  · rw [if_pos q, if_pos rfl]
    exact ⟨0, t, T, rfl, et, hS, hB, fun _ _ z => ⟨z, Nat.le_refl _⟩, fun z => absurd q z, Or.inl ⟨rfl, rfl⟩⟩
  · have hWp := hWX p hp
    rw [if_neg q, if_neg (nI_m1 (by omega))]
    obtain ⟨m, h1, h2, h3, h4⟩ := less_loop (N := N) (σ := σ) hp et ew hT (by omega) q 4 N 0 0 (by omega) (by omega) (Or.inl rfl) (by omega) (fun k' h => by omega)
    rw [if_pos rfl] at h4
    rw [show fX10_lessen_17 N N (sA (sA σ 72 w) 73 t) (nI p) 2147483647 0 = _ from h4]
    by_cases q1 : m = 0
    · rw [if_pos q1]
      exact ⟨0, t, T, rfl, et, hS, hB, fun _ _ z => ⟨z, Nat.le_refl _⟩, fun _ k hk hn z => absurd q1 (h3 k hk hn z).1, Or.inl ⟨rfl, rfl⟩⟩
    · rw [if_neg q1]
      obtain ⟨k0, hk0, hn0, e0⟩ := h1.resolve_left q1
      by_cases q2 : T p = 0 ∨ m + W p < T p
      · rw [if_pos q2]
        rw [← e0] at q1 q2
        refine ⟨1, _, va_up T p (T (nb p k0) + W p), rfl, fun s hs => ?_, wS_up hS hp hk0 hn0 q q1 q2, wB_up hB hp hn0 hWp q1 q2, fun s hs z => ?_, fun _ k hk hn z => ?_, Or.inr rfl⟩
        · by_cases e : s = p
          · subst e; rw [up_s, up_e, e0, if_neg (by omega)]
          · rw [pk_un e, up_n e]; exact et s hs
        · by_cases e : s = p
          · subst e; rw [up_e]
            exact ⟨by omega, by rcases q2 with z2 | z2; exact absurd z2 z; omega⟩
          · rw [up_n e]; exact ⟨z, Nat.le_refl _⟩
        · rw [up_e, e0]
          have := (h3 k hk hn z).2
          exact ⟨by omega, by omega⟩
      · rw [if_neg q2]
        refine ⟨0, t, T, rfl, et, hS, hB, fun _ _ z => ⟨z, Nat.le_refl _⟩, fun _ k hk hn z => ?_, Or.inl ⟨rfl, rfl⟩⟩
        have := (h3 k hk hn z).2
        exact ⟨fun z2 => q2 (Or.inl z2), by have : ¬ m + W p < T p := fun z2 => q2 (Or.inr z2); omega⟩
/-- those of few PLOTS are least already -/
def wR (D Lv T : Nat → Nat) (r : Nat) : Prop := ∀ p, p < 48 → ¬ D p = 0 → Lv p ≤ r → ¬ T p = 0 ∧ T p ≤ D p
theorem spread1_loop {N to X r : Nat} {σ : St} {w : Nat → Int32} {W D Lv : Nat → Nat} {k36 : St → Int32 → Int32 → Option St} {vis : Nat → Nat} (hN : 41 ≤ N) (ew : eW w W) (hX : X ≤ 703873) (hWX : ∀ q, q < 48 → W q ≤ X) (hD : wD to W D Lv) (hvis : ∀ i, i < 48 → vis i < 48) (hv : (nI r - nI r / 2 * 2 = 0 ∧ ∀ i, i < 48 → vis i = i) ∨ (¬ nI r - nI r / 2 * 2 = 0 ∧ ∀ i, i < 48 → vis i = 47 - i)) : ∀ (m f i : Nat) (fl : Int32) (t : Nat → Int32) (T : Nat → Nat), i + m = 48 → m < f → eT t T → wS to W T → wB X T → wR D Lv T (r + 1) → (∀ j, j < i → ¬ D (vis j) = 0 → Lv (vis j) ≤ r + 2 → ¬ T (vis j) = 0 ∧ T (vis j) ≤ D (vis j)) → ((fl = 0 ∧ ∀ j, j < i → rel W T (vis j)) ∨ fl = 1) → ∃ fl' t' T', fX10_spreadFrom_51 N k36 f (sA (sA σ 72 w) 73 t) fl (nI r) (nI i) = k36 (sA (sA σ 72 w) 73 t') fl' (nI (r + 1)) ∧ eT t' T' ∧ wS to W T' ∧ wB X T' ∧ (∀ j, j < 48 → ¬ D (vis j) = 0 → Lv (vis j) ≤ r + 2 → ¬ T' (vis j) = 0 ∧ T' (vis j) ≤ D (vis j)) ∧ ((fl' = 0 ∧ ∀ j, j < 48 → rel W T' (vis j)) ∨ fl' = 1) := by
  intro m
  induction m with
  | zero =>
    intro f i fl t T hi hf et hS hB hR hL hfl
    cases f with
    | zero => omega
    | succ f =>
      have e48 : i = 48 := by omega
      subst e48
      refine ⟨fl, t, T, ?_, et, hS, hB, hL, hfl⟩
      show fX10_spreadFrom_51b N k36 (fX10_spreadFrom_51 N k36 f) (sA (sA σ 72 w) 73 t) fl (nI r) (nI 48) = _
      unfold fX10_spreadFrom_51b nm
      rw [if_pos (show (48 : Int32) ≤ nI 48 from by decide), nI_1]
  | succ m ih =>
    intro f i fl t T hi hf et hS hB hR hL hfl
    cases f with
    | zero => omega
    | succ f =>
      have hi48 : i < 48 := by omega
      show ∃ fl' t' T', fX10_spreadFrom_51b N k36 (fX10_spreadFrom_51 N k36 f) (sA (sA σ 72 w) 73 t) fl (nI r) (nI i) = _ ∧ _
      unfold fX10_spreadFrom_51b
      rw [if_neg (show ¬ (48 : Int32) ≤ nI i from nI_ge (b := 48) (by omega) (by omega))]
      have e1 : (if nI r - nI r / 2 * 2 = 0 then fX10_spreadFrom_75 N k36 (fX10_spreadFrom_51 N k36 f) (sA (sA σ 72 w) 73 t) fl (nI r) (nI i) (nI i) else fX10_spreadFrom_75 N k36 (fX10_spreadFrom_51 N k36 f) (sA (sA σ 72 w) 73 t) fl (nI r) (nI i) (47 - nI i)) = fX10_spreadFrom_75 N k36 (fX10_spreadFrom_51 N k36 f) (sA (sA σ 72 w) 73 t) fl (nI r) (nI i) (nI (vis i)) := by
        rcases hv with ⟨a, b⟩ | ⟨a, b⟩
        · rw [if_pos a, b i hi48]
        · rw [if_neg a, b i hi48, show (47 : Int32) = nI 47 from rfl, pk_sub (by omega)]
      rw [e1]
      unfold fX10_spreadFrom_75 fX10_spreadFrom_83 nm
      obtain ⟨rr, t', T', e2, et', hS', hB', hmon, hrel, hr⟩ := xless (N := N) (σ := σ) hN (hvis i hi48) ew et hX hWX hS hB
      rw [e2]
      simp only [bd2, nI_1]
      have hR' : wR D Lv T' (r + 1) := fun p hp a b => by
        obtain ⟨z1, z2⟩ := hR p hp a b
        obtain ⟨z3, z4⟩ := hmon p hp z1
        exact ⟨z3, by omega⟩
      have hL' : ∀ j, j < i + 1 → ¬ D (vis j) = 0 → Lv (vis j) ≤ r + 2 → ¬ T' (vis j) = 0 ∧ T' (vis j) ≤ D (vis j) := by
        intro j hj a b
        by_cases e : j = i
        · subst e
          by_cases q : Lv (vis j) ≤ r + 1
          · exact hR' _ (hvis j hi48) a q
          · obtain ⟨_, _, z⟩ := hD.2.2 _ (hvis j hi48) a
            rcases z with ⟨_, z⟩ | ⟨k, hk, hn, z1, z2, z3⟩
            · omega
            · obtain ⟨y1, y2⟩ := hR _ hn z1 (by omega)
              have hW := hD.1.1 _ (hvis j hi48) a
              obtain ⟨x1, x2⟩ := hrel hW k hk hn y1
              exact ⟨x1, by omega⟩
        · obtain ⟨z1, z2⟩ := hL j (by omega) a b
          obtain ⟨z3, z4⟩ := hmon _ (hvis j (by omega)) z1
          exact ⟨z3, by omega⟩
      by_cases q : rr = 0
      · rw [if_pos q]
        rcases hr with ⟨_, e3⟩ | e3
        · subst e3
          refine ih f (i + 1) fl t' T' (by omega) (by omega) et' hS' hB' hR' hL' ?_
          rcases hfl with ⟨z1, z2⟩ | z1
          · refine Or.inl ⟨z1, fun j hj => ?_⟩
            by_cases e : j = i
            · subst e; exact hrel
            · exact z2 j (by omega)
          · exact Or.inr z1
        · rw [e3] at q; exact absurd q (by decide)
      · rw [if_neg q]
        exact ih f (i + 1) 1 t' T' (by omega) (by omega) et' hS' hB' hR' hL' (Or.inr rfl)
theorem spread2_loop {N to X : Nat} {σ : St} {w : Nat → Int32} {W D Lv : Nat → Nat} (hN : 100 ≤ N) (ew : eW w W) (hX : X ≤ 703873) (hWX : ∀ q, q < 48 → W q ≤ X) (hD : wD to W D Lv) : ∀ (f r : Nat) (fl : Int32) (t : Nat → Int32) (T : Nat → Nat), r ≤ 48 → 49 < f + r → eT t T → wS to W T → wB X T → wR D Lv T (r + 1) → ((fl = 0 ∧ wF W T) ∨ fl = 1) → ∃ t', fX10_spreadFrom_36 N f (sA (sA σ 72 w) 73 t) fl (nI r) = some (sA (sA σ 72 w) 73 t') ∧ eT t' D := by
  intro f
  induction f with
  | zero => intro r fl t T hr hf; omega
  | succ f ih =>
    intro r fl t T hr hf et hS hB hR hfl
    show ∃ t', fX10_spreadFrom_36b N (fX10_spreadFrom_36 N f) (sA (sA σ 72 w) 73 t) fl (nI r) = _ ∧ _
    unfold fX10_spreadFrom_36b
    by_cases q : r = 48
    · subst q
      rw [if_pos (show (48 : Int32) ≤ nI 48 from by decide)]
      refine ⟨t, rfl, fun p hp => ?_⟩
      rw [et p hp, wD_eq hS hD (fun p hp z => hR p hp z (by have := (hD.2.2 p hp z).2.1; omega)) p hp]
    · rw [if_neg (show ¬ (48 : Int32) ≤ nI r from nI_ge (b := 48) (by omega) (by omega))]
      rcases hfl with ⟨z1, z2⟩ | z1
      · rw [if_pos z1]
        refine ⟨t, rfl, fun p hp => ?_⟩
        rw [et p hp, wD_eqF hS hD z2 p hp]
      · rw [z1, if_neg (by decide)]
        have key : ∀ vis : Nat → Nat, (∀ i, i < 48 → vis i < 48) → (∀ p, p < 48 → ∃ j, j < 48 ∧ vis j = p) → ((nI r - nI r / 2 * 2 = 0 ∧ ∀ i, i < 48 → vis i = i) ∨ (¬ nI r - nI r / 2 * 2 = 0 ∧ ∀ i, i < 48 → vis i = 47 - i)) → ∃ t', fX10_spreadFrom_51 N (fX10_spreadFrom_36 N f) N (sA (sA σ 72 w) 73 t) 0 (nI r) 0 = some (sA (sA σ 72 w) 73 t') ∧ eT t' D := by
          intro vis h1 h2 h3
          obtain ⟨fl', t', T', e1, et', hS', hB', hL', hfl'⟩ := spread1_loop (N := N) (σ := σ) (k36 := fX10_spreadFrom_36 N f) (by omega) ew hX hWX hD h1 h3 48 N 0 0 t T (by omega) (by omega) et hS hB hR (fun j hj => by omega) (Or.inl ⟨rfl, fun j hj => by omega⟩)
          rw [show fX10_spreadFrom_51 N (fX10_spreadFrom_36 N f) N (sA (sA σ 72 w) 73 t) 0 (nI r) 0 = _ from e1]
          refine ih (r + 1) fl' t' T' (by omega) (by omega) et' hS' hB' (fun p hp a b => ?_) ?_
          · obtain ⟨j, hj, e⟩ := h2 p hp
            subst e
            exact hL' j hj a b
          · rcases hfl' with ⟨y1, y2⟩ | y1
            · refine Or.inl ⟨y1, fun p hp => ?_⟩
              obtain ⟨j, hj, e⟩ := h2 p hp
              subst e
              exact y2 j hj
            · exact Or.inr y1
        by_cases hb : nI r - nI r / 2 * 2 = 0
        · exact key id (fun i hi => hi) (fun p hp => ⟨p, hp, rfl⟩) (Or.inl ⟨hb, fun i _ => rfl⟩)
        · exact key (fun i => 47 - i) (fun i hi => by omega) (fun p hp => ⟨47 - p, by omega, by omega⟩) (Or.inr ⟨hb, fun i _ => rfl⟩)
theorem xspread {N to X : Nat} {σ : St} {w : Nat → Int32} {W D Lv : Nat → Nat} (hN : 100 ≤ N) (hto : to < 48) (ew : eW w W) (hX : X ≤ 703873) (hWX : ∀ q, q < 48 → W q ≤ X) (hD : wD to W D Lv) : ∃ t', fX10_spreadFrom N (sA σ 72 w) (nI to) = some (sA (sA σ 72 w) 73 t') ∧ eT t' D := by
  unfold fX10_spreadFrom nm
  simp only [ix_nI hto (by decide), if_true, aR_nI (show to < 2 ^ 31 by omega), aW_nI (show to < 2 ^ 31 by omega), sA_sA]
  rw [show ∀ f, (sA (sA σ 72 w) 73 f).2.1 72 to = w to from fun _ => rfl, ew to hto]
  by_cases q : W to = 0
  · rw [if_pos q, if_pos rfl]
    refine ⟨_, rfl, fun p hp => ?_⟩
    have hz : ∀ v p, p < 48 → D p = v → D p = 0 := by
      intro v
      induction v using Nat.strongRecOn with
      | _ v ih =>
        intro p hp e
        by_cases z : D p = 0
        · exact z
        · exfalso
          by_cases z2 : p = to
          · rw [z2] at z; exact z (hD.1.2.1.trans q)
          · obtain ⟨k, a, b, c, d⟩ := hD.1.2.2 p hp z2 z
            have hW := hD.1.1 p hp z
            exact c (ih (D (nb p k)) (by omega) (nb p k) b rfl)
    rw [if_pos (hz _ p hp rfl)]
    show flI _ 48 2147483647 p = _
    unfold flI
    rw [if_pos hp]
  · have hWt := hWX to hto
    rw [if_neg q, if_neg (nI_m1 (by omega))]
    refine spread2_loop (N := N) (σ := σ) hN ew hX hWX hD N 0 1 _ (va_up (fun _ => 0) to (W to)) (by omega) (by omega) (fun p hp => ?_) ⟨fun p hp z => ?_, up_e, fun p hp z1 z2 => ?_⟩ (fun p hp => ?_) (fun p hp a b => ?_) (Or.inr rfl)
    · by_cases e : p = to
      · subst e; rw [up_s, up_e, if_neg q]
      · rw [pk_un e, up_n e, if_pos rfl]
        show flI _ 48 2147483647 p = _
        unfold flI
        rw [if_pos hp]
    · by_cases e : p = to
      · subst e; exact q
      · rw [up_n e] at z; exact absurd rfl z
    · rw [up_n z1] at z2; exact absurd rfl z2
    · have hc := cntB_pos (P := fun s => decide (¬ va_up (fun _ => 0) to (W to) s = 0)) (n := 48) hto (by rw [decide_eq_true_eq, up_e]; exact q)
      have hm := Nat.mul_le_mul_left X hc
      rw [Nat.mul_one] at hm
      by_cases e : p = to
      · subst e; rw [up_e]; omega
      · rw [up_n e]; exact Nat.zero_le _
    · obtain ⟨l1, l2, l3⟩ := hD.2.2 p hp a
      rcases l3 with ⟨l3, _⟩ | ⟨k, hk, hn, z1, z2, z3⟩
      · rw [l3, up_e]; exact ⟨q, Nat.le_of_eq hD.1.2.1.symm⟩
      · have := (hD.2.2 _ hn z1).1
        omega
