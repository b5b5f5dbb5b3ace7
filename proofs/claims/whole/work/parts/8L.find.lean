/-! PURE: the model's least ways; costs of PLOTS -/
/-- the cost of a PLOT; 0: it can't be crossed -/
def ctS (n : Nat) (σm : St) (spare shut : Int32) (p : Nat) : Nat := if σm.2.1 8 p = 1 then 0 else if owS n σm (nI p) (σm.1 0) = shut then 0 else (σm.2.1 7 p).toNatClampNeg + (if owS n σm (nI p) (σm.1 0) = spare then 0 else (σm.2.1 45 (owS n σm (nI p) (σm.1 0)).toNatClampNeg).toNatClampNeg)
theorem ct_all {N d n p : Nat} {σx σm : St} {spare shut : Int32} (hd : I_day d σx σm) (hs : I_sale n σx σm) (hla : I_land d σx σm) (hho : I_hold σx σm) (hN : 41 ≤ N) (hp : p < 48) : ctS n σm spare shut p ≤ 10998 ∧ fX12_costOf N σm (nI p) shut spare = some (if ctS n σm spare shut p = 0 then -1 else nI (ctS n σm spare shut p)) ∧ fX10_weightOf N σx (nI p) spare shut = some (if W6 (ctS n σm spare shut) p = 0 then -1 else nI (W6 (ctS n σm spare shut) p)) := by
  obtain ⟨o, ho, eo⟩ := rg_of (hi := 9) (owS_rg hs (nI p) (σm.1 0)) (by decide)
  obtain ⟨c, hc1, hc, c1, c2⟩ := eqR.of (lo := 1) (hi := 999) hla.2.2.1 hp (by decide)
  obtain ⟨h, -, hh, h1, h2⟩ := eqR.of (lo := 0) (hi := 9999) hho (show o < 10 by omega) (by decide)
  have b1 := (hla.2.2.2.1 p hp).1
  have ed : σx.1 0 = σm.1 0 := by rw [hd.2.1, hd.2.2]
  unfold fX12_costOf fX10_weightOf fX10_weightOf_60 W6 ctS
  rw [mown hs hN, xown hs hN, ed]
  simp only [bd, ix_nI hp (by decide), aR_nI (show p < 2 ^ 31 by omega), if_true, show ix (3 : Int32) 4 = true from rfl, show ix (2 : Int32) 4 = true from rfl, show 17 + (3 : Int32).toNatClampNeg = 20 from rfl, show 17 + (2 : Int32).toNatClampNeg = 19 from rfl, b1, eo, c1, c2, ix_nI (show o < 10 by omega) (by decide), aR_nI (show o < 2 ^ 31 by omega), nI_clamp (show o < 2 ^ 31 by omega), h1, h2, nI_clamp (show c < 2 ^ 31 by omega), nI_clamp (show h < 2 ^ 31 by omega)]
  by_cases q1 : σm.2.1 8 p = 1
  · simp only [if_pos q1, if_true]; exact ⟨by omega, by trivial, by trivial⟩
  · simp only [if_neg q1]
    by_cases q2 : nI o = shut
    · simp only [if_pos q2, if_true]; exact ⟨by omega, by trivial, by trivial⟩
    · simp only [if_neg q2]
      by_cases q3 : nI o = spare
      · simp only [if_pos q3, Int32.add_zero, Nat.add_zero]
        refine ⟨by omega, by rw [if_neg (by omega)], ?_⟩
        rw [if_neg (show ¬ c = 0 by omega), if_neg (by omega), show (64 : Int32) = nI 64 from rfl, pk_mul, nI_1, Nat.mul_comm]
      · simp only [if_neg q3, nI_add]
        refine ⟨by omega, by rw [if_neg (by omega)], ?_⟩
        rw [if_neg (show ¬ c + h = 0 by omega), if_neg (by omega), show (64 : Int32) = nI 64 from rfl, pk_mul, nI_1, Nat.mul_comm]
def m2 (σ : St) (a b : Nat → Int32) : St := sA (sA σ 46 a) 47 b
theorem m2_a (σ : St) (a b a' : Nat → Int32) : sA (m2 σ a b) 46 a' = m2 σ a' b := by
  show (σ.1, va_up (va_up (va_up σ.2.1 46 a) 47 b) 46 a', σ.2.2) = (σ.1, va_up (va_up σ.2.1 46 a') 47 b, σ.2.2)
  have : va_up (va_up (va_up σ.2.1 46 a) 47 b) 46 a' = va_up (va_up σ.2.1 46 a') 47 b := by
    funext j
    unfold va_up
    by_cases h1 : j = 46
    · subst h1; rfl
    · by_cases h2 : j = 47
      · subst h2; rfl
      · rw [if_neg h1, if_neg h2, if_neg h1, if_neg h2, if_neg h1]
  rw [this]
theorem m2_b (σ : St) (a b b' : Nat → Int32) : sA (m2 σ a b) 47 b' = m2 σ a b' := sA_sA (sA σ 46 a) 47 b b'
def eV (a b : Nat → Int32) (V : Nat → Nat) : Prop := ∀ p, p < 48 → (V p = 0 ∧ a p = -1) ∨ (¬ V p = 0 ∧ a p = nI (V p / 1048576) ∧ b p = nI (V p % 1048576))
/-- no way has more PLOTS than it costs -/
def wL (V : Nat → Nat) : Prop := ∀ p, p < 48 → V p % 1048576 ≤ V p / 1048576
def PhV (V : Nat → Nat) : Nat := smN (fun p => if V p = 0 then 1099511627776 else V p) 48
theorem Ph_lt {V : Nat → Nat} {p v : Nat} (hp : p < 48) (hv : v < 1099511627776) (h0 : ¬ v = 0) (hlt : V p = 0 ∨ v < V p) : PhV (va_up V p v) < PhV V := by
  unfold PhV
  refine smN_lt 48 (fun q _ => ?_) ⟨p, hp, ?_⟩
  · by_cases e : q = p
    · subst e
      rw [up_e, if_neg h0]
      rcases hlt with z | z
      · rw [if_pos z]; omega
      · rw [if_neg (by omega)]; omega
    · rw [up_n e]; exact Nat.le_refl _
  · show (if va_up V p v p = 0 then _ else va_up V p v p) < if V p = 0 then _ else V p
    rw [up_e, if_neg h0]
    rcases hlt with z | z
    · rw [if_pos z]; exact hv
    · rw [if_neg (by omega)]; exact z
/-- the sound labels of the model -/
def mS (to : Nat) (ct V : Nat → Nat) : Prop := wS to (W1 ct) V ∧ wB 11532238849 V ∧ wL V
theorem mS_b {to : Nat} {ct V : Nat → Nat} (h : mS to ct V) {p : Nat} (hp : p < 48) : V p / 1048576 ≤ 527904 ∧ V p % 1048576 ≤ 527904 := by
  have h1 := wB_X h.2.1 hp
  have h2 := h.2.2 p hp
  omega
theorem mS_up {to p k : Nat} {ct V : Nat → Nat} (h : mS to ct V) (hct : ∀ p, p < 48 → ct p ≤ 10998) (hp : p < 48) (hk : k < 4) (hn : nb p k < 48) (hc : ¬ ct p = 0) (hV : ¬ V (nb p k) = 0) (hlt : V p = 0 ∨ V (nb p k) + W1 ct p < V p) : mS to ct (va_up V p (V (nb p k) + W1 ct p)) := by
  have hW : ¬ W1 ct p = 0 := fun z => hc (W1_0.mp z)
  have hcp := hct p hp
  refine ⟨wS_up h.1 hp hk hn hW hV hlt, wB_up h.2.1 hp hn (by rw [W1_p hc]; omega) hV hlt, fun q hq => ?_⟩
  by_cases e : q = p
  · subst e
    rw [up_e, W1_p hc]
    have h1 := mS_b h hn
    have h2 := h.2.2 _ hn
    omega
  · rw [up_n e]; exact h.2.2 q hq
theorem mshort {N p c l : Nat} {σ : St} {a b : Nat → Int32} {V : Nat → Nat} (hp : p < 48) (hV : V p / 1048576 ≤ 527904) (ev : eV a b V) (hc : c ≤ 1000000) (hl : l ≤ 1000000) : fX12_isShorter N (m2 σ a b) (nI c) (nI l) (nI p) = some (if V p = 0 ∨ 1048576 * c + l < V p then 1 else 0) := by
  unfold fX12_isShorter
  simp only [ix_nI hp (by decide), aR_nI (show p < 2 ^ 31 by omega), if_true]
  rw [show (m2 σ a b).2.1 46 p = a p from rfl, show (m2 σ a b).2.1 47 p = b p from rfl]
  rcases ev p hp with ⟨q, e⟩ | ⟨q, e1, e2⟩
  · rw [e, if_pos rfl, if_pos (Or.inl q)]
  · rw [e1, e2, if_neg (nI_m1 (by omega))]
    by_cases h1 : c < V p / 1048576
    · rw [if_pos ((nI_ltI (by omega) (by omega)).mpr h1), if_pos (Or.inr (by omega))]
    · rw [if_neg (fun z => h1 ((nI_ltI (by omega) (by omega)).mp z))]
      by_cases h2 : c = V p / 1048576
      · rw [if_pos (by rw [h2])]
        by_cases h3 : V p % 1048576 ≤ l
        · rw [if_pos ((nI_leI (by omega) (by omega)).mpr h3), if_neg (fun z => by omega)]
        · rw [if_neg (fun z => h3 ((nI_leI (by omega) (by omega)).mp z)), if_pos (Or.inr (by omega))]
      · rw [if_neg (fun z => h2 ((nI_eq (by omega) (by omega)).mp z)), if_neg (fun z => by omega)]
/-- of a round that began with V0 -/
def mJ (V0 V : Nat → Nat) (fl : Int32) (vis : Prop) : Prop := (fl = 0 ∧ V = V0 ∧ vis) ∨ (fl = 1 ∧ PhV V < PhV V0)
theorem find1_loop {N to p : Nat} {σ : St} {x2 x3 : Int32} {ct V0 : Nat → Nat} {k47 : St → Int32 → Int32 → Int32 → Option St} {k58 : St → Int32 → Int32 → Int32 → Int32 → Option St} {Q : Prop} (hct : ∀ p, p < 48 → ct p ≤ 10998) (hp : p < 48) (hc : ¬ ct p = 0) : ∀ (j f k : Nat) (fl : Int32) (a b : Nat → Int32) (V : Nat → Nat), k + j = 4 → j < f → eV a b V → mS to ct V → mJ V0 V fl (Q ∧ ∀ k', k' < k → nb p k' < 48 → ¬ V0 (nb p k') = 0 → ¬ V0 p = 0 ∧ V0 p ≤ V0 (nb p k') + W1 ct p) → ∃ fl' a' b' V', fX12_findWays_78 N k47 k58 f (m2 σ a b) x2 x3 fl (nI p) (nI (ct p)) (nI k) = k58 (m2 σ a' b') x2 x3 fl' (nI (p + 1)) ∧ eV a' b' V' ∧ mS to ct V' ∧ mJ V0 V' fl' (Q ∧ rel (W1 ct) V0 p) := by
  intro j
  have hcp := hct p hp
  induction j with
  | zero =>
    intro f k fl a b V hk hf ev hS hJ
    cases f with
    | zero => omega
    | succ f =>
      refine ⟨fl, a, b, V, ?_, ev, hS, ?_⟩
      · show fX12_findWays_78b N k47 k58 (fX12_findWays_78 N k47 k58 f) (m2 σ a b) x2 x3 fl (nI p) (nI (ct p)) (nI k) = _
        unfold fX12_findWays_78b fX12_findWays_185 nm
        rw [if_pos (show (4 : Int32) ≤ nI k from nI_le (a := 4) (by omega) (by omega)), nI_1]
      · rcases hJ with ⟨h1, h2, h3, h4⟩ | h
        · exact Or.inl ⟨h1, h2, h3, fun _ k' hk' => h4 k' (by omega)⟩
        · exact Or.inr h
  | succ j ih =>
    intro f k fl a b V hk hf ev hS hJ
    cases f with
    | zero => omega
    | succ f =>
      show ∃ fl' a' b' V', fX12_findWays_78b N k47 k58 (fX12_findWays_78 N k47 k58 f) (m2 σ a b) x2 x3 fl (nI p) (nI (ct p)) (nI k) = _ ∧ _
      unfold fX12_findWays_78b fX12_findWays_179 nm
      rw [if_neg (show ¬ (4 : Int32) ≤ nI k from nI_ge (b := 4) (by omega) (by omega)), if_neg (nI_m1 (k := ct p) (by omega)), nI_1]
      have hb := nb_m hp (show k < 4 by omega)
      have hr := nb_r (k := k) hp
      have skip : (nb p k < 48 → ¬ V0 (nb p k) = 0 → V = V0 → ¬ V0 p = 0 ∧ V0 p ≤ V0 (nb p k) + W1 ct p) → ∃ fl' a' b' V', fX12_findWays_78 N k47 k58 f (m2 σ a b) x2 x3 fl (nI p) (nI (ct p)) (nI (k + 1)) = k58 (m2 σ a' b') x2 x3 fl' (nI (p + 1)) ∧ eV a' b' V' ∧ mS to ct V' ∧ mJ V0 V' fl' (Q ∧ rel (W1 ct) V0 p) := by
        intro hs
        refine ih f (k + 1) fl a b V (by omega) (by omega) ev hS ?_
        rcases hJ with ⟨h1, h2, h3, h4⟩ | h
        · refine Or.inl ⟨h1, h2, h3, fun k' a1 a2 a3 => ?_⟩
          by_cases e : k' = k
          · subst e; exact hs a2 a3 h2
          · exact h4 k' (by omega) a2 a3
        · exact Or.inr h
      dsimp only
      by_cases q : nb p k = 48
      · rw [if_pos (hb.1 q)]
        exact skip (fun z => by omega)
      · have hn : nb p k < 48 := by omega
        rw [hb.2 q, if_neg (nI_pos (n := nb p k) (by omega))]
        simp only [ix_nI hn (by decide), ix_nI hp (by decide), if_true, aR_nI (show nb p k < 2 ^ 31 by omega), aW_nI (show p < 2 ^ 31 by omega)]
        rw [show (m2 σ a b).2.1 46 (nb p k) = a (nb p k) from rfl, show (m2 σ a b).2.1 47 (nb p k) = b (nb p k) from rfl, show (m2 σ a b).2.1 46 = a from rfl]
        rcases ev _ hn with ⟨z, e⟩ | ⟨z, e1, e2⟩
        · rw [e, if_pos rfl]
          exact skip (fun _ z2 e3 => absurd (by rw [← e3]; exact z) z2)
        · have hbn := mS_b hS hn
          have hbp := mS_b hS hp
          rw [e1, e2, if_neg (nI_m1 (by omega)), nI_add, nI_1, mshort hp hbp.1 ev (by omega) (by omega)]
          simp only [bd]
          have eW : 1048576 * (V (nb p k) / 1048576 + ct p) + (V (nb p k) % 1048576 + 1) = V (nb p k) + W1 ct p := by rw [W1_p hc]; omega
          rw [eW]
          by_cases q2 : V p = 0 ∨ V (nb p k) + W1 ct p < V p
          · rw [if_pos q2, if_neg (by decide), m2_a]
            rw [show (m2 σ (upd a p (nI (V (nb p k) / 1048576 + ct p))) b).2.1 47 = b from rfl, e2, nI_1, m2_b]
            refine ih f (k + 1) 1 _ _ (va_up V p (V (nb p k) + W1 ct p)) (by omega) (by omega) (fun s hs => ?_) (mS_up hS hct hp (by omega) hn hc z q2) (Or.inr ⟨rfl, ?_⟩)
            · by_cases e : s = p
              · subst e
                rw [up_e, up_s, up_s]
                refine Or.inr ⟨by omega, ?_, ?_⟩
                · rw [W1_p hc]; exact congrArg nI (by omega)
                · rw [W1_p hc]; exact congrArg nI (by omega)
              · rw [up_n e, pk_un e, pk_un e]; exact ev s hs
            · have h1 := Ph_lt (V := V) (v := V (nb p k) + W1 ct p) hp (by rw [W1_p hc]; omega) (by omega) q2
              rcases hJ with ⟨_, h2, _⟩ | ⟨_, h2⟩
              · rw [← h2]; exact h1
              · omega
          · rw [if_neg q2, if_pos rfl]
            refine skip (fun _ _ e3 => ?_)
            rw [← e3]
            exact ⟨fun z2 => q2 (Or.inl z2), by have : ¬ V (nb p k) + W1 ct p < V p := fun z2 => q2 (Or.inr z2); omega⟩
theorem find2_loop {N d n to : Nat} {σx σm : St} {spare shut : Int32} {V0 : Nat → Nat} {k47 : St → Int32 → Int32 → Int32 → Option St} (hd : I_day d σx σm) (hs : I_sale n σx σm) (hla : I_land d σx σm) (hho : I_hold σx σm) (hN : 41 ≤ N) : ∀ (m f p : Nat) (fl : Int32) (a b : Nat → Int32) (V : Nat → Nat), p + m = 48 → m < f → eV a b V → mS to (ctS n σm spare shut) V → mJ V0 V fl (∀ q, q < p → rel (W1 (ctS n σm spare shut)) V0 q) → ∃ fl' a' b' V', fX12_findWays_58 N k47 f (m2 σm a b) shut spare fl (nI p) = k47 (m2 σm a' b') shut spare fl' ∧ eV a' b' V' ∧ mS to (ctS n σm spare shut) V' ∧ mJ V0 V' fl' (wF (W1 (ctS n σm spare shut)) V0) := by
  intro m
  induction m with
  | zero =>
    intro f p fl a b V hp hf ev hS hJ
    cases f with
    | zero => omega
    | succ f =>
      refine ⟨fl, a, b, V, ?_, ev, hS, ?_⟩
      · show fX12_findWays_58b N k47 (fX12_findWays_58 N k47 f) (m2 σm a b) shut spare fl (nI p) = _
        unfold fX12_findWays_58b
        rw [if_pos (show (48 : Int32) ≤ nI p from nI_le (a := 48) (by omega) (by omega))]
      · rcases hJ with ⟨h1, h2, h3⟩ | h
        · exact Or.inl ⟨h1, h2, fun q hq => h3 q (by omega)⟩
        · exact Or.inr h
  | succ m ih =>
    intro f p fl a b V hp hf ev hS hJ
    cases f with
    | zero => omega
    | succ f =>
      have hp48 : p < 48 := by omega
      show ∃ fl' a' b' V', fX12_findWays_58b N k47 (fX12_findWays_58 N k47 f) (m2 σm a b) shut spare fl (nI p) = _ ∧ _
      unfold fX12_findWays_58b
      have ec : fX12_costOf N (m2 σm a b) (nI p) shut spare = some (if ctS n σm spare shut p = 0 then -1 else nI (ctS n σm spare shut p)) := (ct_all (N := N) (σx := σx) (σm := m2 σm a b) (spare := spare) (shut := shut) hd hs hla hho hN hp48).2.1
      rw [if_neg (show ¬ (48 : Int32) ≤ nI p from nI_ge (b := 48) (by omega) (by omega)), ec]
      simp only [bd]
      have grow : ∀ {X : Prop}, mJ V0 V fl X → X → True := fun _ _ => trivial
      by_cases q : ctS n σm spare shut p = 0
      · rw [if_pos q]
        obtain ⟨M, rfl⟩ : ∃ M, N = M + 1 := ⟨N - 1, by omega⟩
        show ∃ fl' a' b' V', fX12_findWays_78b (M + 1) k47 (fX12_findWays_58 (M + 1) k47 f) (fX12_findWays_78 (M + 1) k47 (fX12_findWays_58 (M + 1) k47 f) M) (m2 σm a b) shut spare fl (nI p) (-1) 0 = _ ∧ _
        unfold fX12_findWays_78b fX12_findWays_185 nm
        rw [if_neg (show ¬ (4 : Int32) ≤ 0 from by decide), if_pos rfl, nI_1]
        refine ih f (p + 1) fl a b V (by omega) (by omega) ev hS ?_
        rcases hJ with ⟨h1, h2, h3⟩ | h
        · refine Or.inl ⟨h1, h2, fun s hs2 => ?_⟩
          by_cases e : s = p
          · subst e; exact fun z => absurd (W1_0.mpr q) z
          · exact h3 s (by omega)
        · exact Or.inr h
      · rw [if_neg q]
        obtain ⟨fl', a', b', V', e1, ev', hS', hJ'⟩ := find1_loop (N := N) (σ := σm) (x2 := shut) (x3 := spare) (k47 := k47) (k58 := fX12_findWays_58 N k47 f) (V0 := V0) (Q := ∀ q, q < p → rel (W1 (ctS n σm spare shut)) V0 q) (fun q hq => (ct_all (N := N) hd hs hla hho hN hq).1) hp48 q 4 N 0 fl a b V (by omega) (by omega) ev hS (by
          rcases hJ with ⟨h1, h2, h3⟩ | h
          · exact Or.inl ⟨h1, h2, h3, fun k' hk' => by omega⟩
          · exact Or.inr h)
        rw [show fX12_findWays_78 N k47 (fX12_findWays_58 N k47 f) N (m2 σm a b) shut spare fl (nI p) (nI (ctS n σm spare shut p)) 0 = _ from e1]
        refine ih f (p + 1) fl' a' b' V' (by omega) (by omega) ev' hS' ?_
        rcases hJ' with ⟨h1, h2, h3, h4⟩ | h
        · refine Or.inl ⟨h1, h2, fun s hs2 => ?_⟩
          by_cases e : s = p
          · subst e; exact h4
          · exact h3 s (by omega)
        · exact Or.inr h
theorem find3_loop {N d n to : Nat} {σx σm : St} {spare shut : Int32} (hd : I_day d σx σm) (hs : I_sale n σx σm) (hla : I_land d σx σm) (hho : I_hold σx σm) (hN : 100 ≤ N) : ∀ (f : Nat) (fl : Int32) (a b : Nat → Int32) (V : Nat → Nat), PhV V + 1 < f → eV a b V → mS to (ctS n σm spare shut) V → ((fl = 0 ∧ wF (W1 (ctS n σm spare shut)) V) ∨ fl = 1) → ∃ a' b' V', fX12_findWays_47 N f (m2 σm a b) shut spare fl = some (m2 σm a' b') ∧ eV a' b' V' ∧ mS to (ctS n σm spare shut) V' ∧ wF (W1 (ctS n σm spare shut)) V' := by
  intro f
  induction f with
  | zero => intro fl a b V hf; omega
  | succ f ih =>
    intro fl a b V hf ev hS hfl
    show ∃ a' b' V', fX12_findWays_47b N (fX12_findWays_47 N f) (m2 σm a b) shut spare fl = _ ∧ _
    unfold fX12_findWays_47b
    rcases hfl with ⟨z1, z2⟩ | z1
    · rw [if_pos z1]
      exact ⟨a, b, V, rfl, ev, hS, z2⟩
    · rw [z1, if_neg (by decide)]
      obtain ⟨fl', a', b', V', e1, ev', hS', hJ⟩ := find2_loop (N := N) (k47 := fX12_findWays_47 N f) (V0 := V) hd hs hla hho (by omega) 48 N 0 0 a b V (by omega) (by omega) ev hS (Or.inl ⟨rfl, rfl, fun q hq => by omega⟩)
      rw [show fX12_findWays_58 N (fX12_findWays_47 N f) N (m2 σm a b) shut spare 0 0 = _ from e1]
      rcases hJ with ⟨h1, h2, h3⟩ | ⟨h1, h2⟩
      · subst h2
        cases f with
        | zero => omega
        | succ f =>
          refine ⟨a', b', V', ?_, ev', hS', h3⟩
          show fX12_findWays_47b N (fX12_findWays_47 N f) (m2 σm a' b') shut spare fl' = _
          unfold fX12_findWays_47b
          rw [if_pos h1]
      · exact ih fl' a' b' V' (by omega) ev' hS' (Or.inr h1)
theorem find0_loop {N to : Nat} {σ : St} {x2 x3 : Int32} : ∀ (m f i : Nat) (a : Nat → Int32), i + m = 48 → m < f → (∀ k, k < i → a k = -1) → ∃ a', (∀ k, k < 48 → a' k = -1) ∧ ∃ f', fX12_findWays_3 N f (sA σ 46 a) (nI to) x2 x3 (nI i) = fX12_findWays_3b N f' (sA σ 46 a') (nI to) x2 x3 48 := by
  intro m
  induction m with
  | zero =>
    intro f i a hi hf h
    cases f with
    | zero => omega
    | succ f =>
      have e : i = 48 := by omega
      subst e
      exact ⟨a, h, fX12_findWays_3 N f, rfl⟩
  | succ m ih =>
    intro f i a hi hf h
    cases f with
    | zero => omega
    | succ f =>
      show ∃ a', _ ∧ ∃ f', fX12_findWays_3b N (fX12_findWays_3 N f) (sA σ 46 a) (nI to) x2 x3 (nI i) = _
      have e1 : fX12_findWays_3b N (fX12_findWays_3 N f) (sA σ 46 a) (nI to) x2 x3 (nI i) = fX12_findWays_3 N f (sA σ 46 (upd a i (-1))) (nI to) x2 x3 (nI (i + 1)) := by
        unfold fX12_findWays_3b nm
        rw [if_neg (show ¬ (48 : Int32) ≤ nI i from nI_ge (b := 48) (by omega) (by omega))]
        simp only [ix_nI (show i < 48 by omega) (by decide), if_true, aW_nI (show i < 2 ^ 31 by omega), sA_sA, nI_1]
        rfl
      rw [e1]
      refine ih f (i + 1) _ (by omega) (by omega) (fun k hk => ?_)
      by_cases e : k = i
      · subst e; rw [up_s]
      · rw [pk_un e]; exact h k (by omega)
theorem mfind {N d n to : Nat} {σx σm : St} {spare shut : Int32} (hd : I_day d σx σm) (hs : I_sale n σx σm) (hla : I_land d σx σm) (hho : I_hold σx σm) (hN : 2 ^ 60 ≤ N) (hto : to < 48) : ∃ a b V, fX12_findWays N σm (nI to) shut spare = some (m2 σm a b) ∧ eV a b V ∧ wS to (W1 (ctS n σm spare shut)) V ∧ wF (W1 (ctS n σm spare shut)) V ∧ (∀ p, p < 48 → V p / 1048576 ≤ 527904) := by
  obtain ⟨a, ha, f', e1⟩ := find0_loop (N := N) (to := to) (σ := σm) (x2 := shut) (x3 := spare) 48 N 0 (σm.2.1 46) (by omega) (by omega) (fun k hk => by omega)
  rw [sA_self] at e1
  unfold fX12_findWays
  rw [show fX12_findWays_3 N N σm (nI to) shut spare 0 = _ from e1]
  unfold fX12_findWays_3b nm
  obtain ⟨c0, c1, -⟩ := ct_all (N := N) (σx := σx) (σm := sA σm 46 a) (spare := spare) (shut := shut) hd hs hla hho (by omega) hto
  have c1 : fX12_costOf N (sA σm 46 a) (nI to) shut spare = some (if ctS n σm spare shut to = 0 then -1 else nI (ctS n σm spare shut to)) := c1
  have c0 : ctS n σm spare shut to ≤ 10998 := c0
  rw [if_pos (show (48 : Int32) ≤ 48 from by decide), c1]
  simp only [bd, ix_nI hto (by decide), if_true, aW_nI (show to < 2 ^ 31 by omega), sA_sA]
  rw [show (sA σm 46 a).2.1 46 = a from rfl, show ∀ g, (sA σm 46 g).2.1 47 = σm.2.1 47 from fun _ => rfl]
  have key : ∀ (b : Nat → Int32) (V : Nat → Nat), eV (upd a to (if ctS n σm spare shut to = 0 then -1 else nI (ctS n σm spare shut to))) b V → mS to (ctS n σm spare shut) V → ∃ a' b' V', fX12_findWays_47 N N (sA (sA σm 46 (upd a to (if ctS n σm spare shut to = 0 then -1 else nI (ctS n σm spare shut to)))) 47 b) shut spare 1 = some (m2 σm a' b') ∧ eV a' b' V' ∧ wS to (W1 (ctS n σm spare shut)) V' ∧ wF (W1 (ctS n σm spare shut)) V' ∧ (∀ p, p < 48 → V' p / 1048576 ≤ 527904) := by
    intro b V ev hS
    have hP : PhV V ≤ 1099511627776 * 48 := by
      refine smN_b 48 (fun k hk => ?_)
      have := mS_b hS hk
      show (if V k = 0 then _ else V k) ≤ _
      split <;> omega
    obtain ⟨a', b', V', e3, ev', hS', hF'⟩ := find3_loop (N := N) hd hs hla hho (by omega) N 1 _ b V (by omega) ev hS (Or.inr rfl)
    exact ⟨a', b', V', e3, ev', hS'.1, hF', fun p hp => (mS_b hS' hp).1⟩
  refine key _ (va_up (fun _ => 0) to (W1 (ctS n σm spare shut) to)) (fun p hp => ?_) ⟨⟨fun p hp z => ?_, up_e, fun p hp z1 z2 => ?_⟩, fun p hp => ?_, fun p hp => ?_⟩
  · by_cases e : p = to
    · subst e
      rw [up_e, up_s, up_s]
      by_cases q : ctS n σm spare shut p = 0
      · rw [if_pos q]; exact Or.inl ⟨W1_0.mpr q, rfl⟩
      · rw [if_neg q, W1_p q]
        refine Or.inr ⟨by omega, congrArg nI (by omega), ?_⟩
        rw [show (1048576 * ctS n σm spare shut p + 1) % 1048576 = 1 by omega]
        rfl
    · rw [up_n e, pk_un e, pk_un e]; exact Or.inl ⟨rfl, ha p hp⟩
  · by_cases e : p = to
    · subst e; rw [up_e] at z; exact z
    · rw [up_n e] at z; exact absurd rfl z
  · rw [up_n z1] at z2; exact absurd rfl z2
  · by_cases e : p = to
    · subst e
      rw [up_e]
      by_cases q : ctS n σm spare shut p = 0
      · rw [W1_0.mpr q]; exact Nat.zero_le _
      · have hc := cntB_pos (P := fun s => decide (¬ va_up (fun _ => 0) p (W1 (ctS n σm spare shut) p) s = 0)) (n := 48) hp (by rw [decide_eq_true_eq, up_e]; exact fun z => q (W1_0.mp z))
        have hm := Nat.mul_le_mul_left 11532238849 hc
        rw [W1_p q] at hm ⊢
        omega
    · rw [up_n e]; exact Nat.zero_le _
  · by_cases e : p = to
    · subst e
      rw [up_e]
      by_cases q : ctS n σm spare shut p = 0
      · rw [W1_0.mpr q]; decide
      · rw [W1_p q]; omega
    · rw [up_n e]; decide
