/-! PURE: way, couldAsk -/
theorem least_loop {N d n fr to : Nat} {σx σm : St} {spare shut : Int32} {D Lv : Nat → Nat} (hd : I_day d σx σm) (hs : I_sale n σx σm) (hla : I_land d σx σm) (hho : I_hold σx σm) (hN : 100 ≤ N) (hfr : fr < 48) (hto : to < 48) (hD : wD to (W6 (ctS n σm spare shut)) D Lv) (hDb : ∀ p, p < 48 → D p ≤ 40000000) : ∀ (m f i : Nat) (w : Nat → Int32), i + m = 48 → m < f → (∀ k, k < i → w k = if W6 (ctS n σm spare shut) k = 0 then -1 else nI (W6 (ctS n σm spare shut) k)) → ∃ w' t, fX10_leastCost_3 N f (sA σx 72 w) (nI fr) (nI to) spare shut (nI i) = some (if D fr = 0 then -1 else nI (D fr / 64), sA (sA σx 72 w') 73 t) ∧ eW w' (W6 (ctS n σm spare shut)) ∧ eT t D := by
  intro m
  induction m with
  | zero =>
    intro f i w hi hf hw
    cases f with
    | zero => omega
    | succ f =>
      have e48 : i = 48 := by omega
      subst e48
      obtain ⟨t, e1, et⟩ := xspread (N := N) (X := 703873) (σ := σx) hN hto hw (Nat.le_refl _) (fun q hq => by
        have := (ct_all (N := N) (spare := spare) (shut := shut) hd hs hla hho (by omega) hq).1
        unfold W6; split <;> omega) hD
      refine ⟨w, t, ?_, hw, et⟩
      show fX10_leastCost_3b N (fX10_leastCost_3 N f) (sA σx 72 w) (nI fr) (nI to) spare shut (nI 48) = _
      unfold fX10_leastCost_3b
      rw [if_pos (show (48 : Int32) ≤ nI 48 from by decide), e1]
      simp only [bd, ix_nI hfr (by decide), if_true, aR_nI (show fr < 2 ^ 31 by omega)]
      rw [show (sA (sA σx 72 w) 73 t).2.1 73 fr = t fr from rfl, et fr hfr]
      have hb := hDb fr hfr
      by_cases q : D fr = 0
      · simp only [if_pos q, if_true]
      · rw [if_neg (fun z => q ((enc_eq hb).mp z))]
        simp only [if_neg q]
        rw [show (64 : Int32) = nI 64 from rfl, pk_div (by omega) (by decide) (by decide)]
  | succ m ih =>
    intro f i w hi hf hw
    cases f with
    | zero => omega
    | succ f =>
      have hi48 : i < 48 := by omega
      show ∃ w' t, fX10_leastCost_3b N (fX10_leastCost_3 N f) (sA σx 72 w) (nI fr) (nI to) spare shut (nI i) = _ ∧ _
      unfold fX10_leastCost_3b nm
      have ec : fX10_weightOf N (sA σx 72 w) (nI i) spare shut = some (if W6 (ctS n σm spare shut) i = 0 then -1 else nI (W6 (ctS n σm spare shut) i)) := (ct_all (N := N) (σx := sA σx 72 w) (σm := σm) (spare := spare) (shut := shut) hd hs hla hho (by omega) hi48).2.2
      rw [if_neg (show ¬ (48 : Int32) ≤ nI i from nI_ge (b := 48) (by omega) (by omega)), ec]
      simp only [bd, ix_nI hi48 (by decide), if_true, aW_nI (show i < 2 ^ 31 by omega), sA_sA, nI_1]
      refine ih f (i + 1) _ (by omega) (by omega) (fun k hk => ?_)
      by_cases e : k = i
      · subst e; rw [up_s]
      · rw [pk_un e]; exact hw k (by omega)
theorem xleast {N d n fr to : Nat} {σx σm : St} {spare shut : Int32} {D Lv : Nat → Nat} (hd : I_day d σx σm) (hs : I_sale n σx σm) (hla : I_land d σx σm) (hho : I_hold σx σm) (hN : 100 ≤ N) (hfr : fr < 48) (hto : to < 48) (hD : wD to (W6 (ctS n σm spare shut)) D Lv) (hDb : ∀ p, p < 48 → D p ≤ 40000000) : ∃ w t, fX10_leastCost N σx (nI fr) (nI to) spare shut = some (if D fr = 0 then -1 else nI (D fr / 64), sA (sA σx 72 w) 73 t) ∧ eW w (W6 (ctS n σm spare shut)) ∧ eT t D := by
  have h := least_loop (N := N) hd hs hla hho hN hfr hto hD hDb 48 N 0 (σx.2.1 72) (by omega) (by omega) (fun k hk => by omega)
  rw [sA_self] at h
  exact h
theorem D6_64 {to : Nat} {ct V : Nat → Nat} (h : wS to (W1 ct) V) (hf : wF (W1 ct) V) (hb : ∀ p, p < 48 → V p / 1048576 ≤ 527904) {p : Nat} (hp : p < 48) : D6 V p ≤ 40000000 ∧ D6 V p / 64 = V p / 1048576 ∧ D6 V p % 64 = V p % 1048576 := by
  have h1 := lv_48 h hf hp
  have h2 := hb p hp
  unfold D6
  omega
theorem next_loop {N to p : Nat} {σx σm : St} {w t a b : Nat → Int32} {ct V : Nat → Nat} (hp : p < 48) (et : eT t (D6 V)) (ev : eV a b V) (hS : wS to (W1 ct) V) (hF : wF (W1 ct) V) (hb : ∀ p, p < 48 → V p / 1048576 ≤ 527904) (hV : ¬ V p = 0) (hct : ct p ≤ 10998) : ∀ (j f k : Nat), k + j = 4 → j < f → (∃ k', k ≤ k' ∧ k' < 4 ∧ nb p k' < 48 ∧ ¬ V (nb p k') = 0 ∧ D6 V (nb p k') + W6 ct p = D6 V p) → ∃ q, q < 48 ∧ ¬ V q = 0 ∧ D6 V q + W6 ct p = D6 V p ∧ fX10_nextOn_16 N (sA (sA σx 72 w) 73 t) f (nI p) (nI (D6 V p - W6 ct p)) (nI k) = some (nI q) ∧ fX12_nextOf_10 N (m2 σm a b) f (nI p) (nI (ct p)) (nI k) = some (nI q) := by
  intro j
  have hc : ¬ ct p = 0 := fun z => hS.1 p hp hV (W1_0.mpr z)
  induction j with
  | zero => intro f k hk hf ⟨k', a1, a2, _⟩; omega
  | succ j ih =>
    intro f k hk hf hw
    cases f with
    | zero => omega
    | succ f =>
      show ∃ q, q < 48 ∧ ¬ V q = 0 ∧ D6 V q + W6 ct p = D6 V p ∧ fX10_nextOn_16b N (sA (sA σx 72 w) 73 t) (fX10_nextOn_16 N (sA (sA σx 72 w) 73 t) f) (nI p) (nI (D6 V p - W6 ct p)) (nI k) = some (nI q) ∧ fX12_nextOf_10b N (m2 σm a b) (fX12_nextOf_10 N (m2 σm a b) f) (nI p) (nI (ct p)) (nI k) = some (nI q)
      unfold fX10_nextOn_16b fX12_nextOf_10b fX10_nextOn_48 fX12_nextOf_77 nm
      rw [if_neg (show ¬ (4 : Int32) ≤ nI k from nI_ge (b := 4) (by omega) (by omega)), if_neg (show ¬ (4 : Int32) ≤ nI k from nI_ge (b := 4) (by omega) (by omega)), nI_1]
      have hx := nb_x hp (show k < 4 by omega)
      have hm := nb_m hp (show k < 4 by omega)
      have hr := nb_r (k := k) hp
      have skip : ¬ (nb p k < 48 ∧ ¬ V (nb p k) = 0 ∧ D6 V (nb p k) + W6 ct p = D6 V p) → ∃ q, q < 48 ∧ ¬ V q = 0 ∧ D6 V q + W6 ct p = D6 V p ∧ fX10_nextOn_16 N (sA (sA σx 72 w) 73 t) f (nI p) (nI (D6 V p - W6 ct p)) (nI (k + 1)) = some (nI q) ∧ fX12_nextOf_10 N (m2 σm a b) f (nI p) (nI (ct p)) (nI (k + 1)) = some (nI q) := by
        intro hno
        refine ih f (k + 1) (by omega) (by omega) ?_
        obtain ⟨k', a1, a2, a3⟩ := hw
        by_cases e : k' = k
        · subst e; exact absurd a3 hno
        · exact ⟨k', by omega, a2, a3⟩
      by_cases q : nb p k = 48
      · rw [hx.1 q]
        dsimp only
        rw [if_pos rfl, if_pos (hm.1 q)]
        exact skip (fun z => by omega)
      · have hn : nb p k < 48 := by omega
        rw [hx.2 q, hm.2 q]
        dsimp only
        rw [if_neg (nI_m1 (k := nb p k) (by omega)), if_neg (nI_pos (n := nb p k) (by omega))]
        simp only [ix_nI hn (by decide), ix_nI hp (by decide), if_true, aR_nI (show nb p k < 2 ^ 31 by omega), aR_nI (show p < 2 ^ 31 by omega)]
        rw [show (sA (sA σx 72 w) 73 t).2.1 73 (nb p k) = t (nb p k) from rfl, show (m2 σm a b).2.1 46 (nb p k) = a (nb p k) from rfl, show (m2 σm a b).2.1 47 (nb p k) = b (nb p k) from rfl, show (m2 σm a b).2.1 46 p = a p from rfl, show (m2 σm a b).2.1 47 p = b p from rfl, et _ hn]
        obtain ⟨d1, d2, d3⟩ := D6_64 hS hF hb hp
        obtain ⟨n1, n2, n3⟩ := D6_64 hS hF hb hn
        obtain ⟨-, ea, eb⟩ := (ev p hp).resolve_left (fun z => hV z.1)
        have lp := lv_48 hS hF hp
        have ln := lv_48 hS hF hn
        have hbp := hb p hp
        have hbn := hb _ hn
        rcases ev _ hn with ⟨z, e⟩ | ⟨z, e1, e2⟩
        · rw [e, if_pos (D6_0.mpr z), if_pos rfl, if_neg (by rw [mx_nI, nI_eq (by decide) (by omega)]; omega)]
          exact skip (fun y => y.2.1 z)
        · rw [if_neg (fun y => z (D6_0.mp y)), e1, e2, ea, eb, if_neg (nI_m1 (by omega)), nI_add, nI_1]
          by_cases y : D6 V (nb p k) + W6 ct p = D6 V p
          · have y2 := y
            rw [W6_p hc] at y2
            unfold D6 at y2
            rw [if_pos (show nI (D6 V (nb p k)) = nI (D6 V p - W6 ct p) from congrArg nI (by omega)), if_pos (congrArg nI (by omega)), if_pos (congrArg nI (by omega))]
            exact ⟨nb p k, hn, z, y, rfl, rfl⟩
          · have hWp : W6 ct p ≤ D6 V p := by
              obtain ⟨k', _, _, _, _, a6⟩ := hw
              omega
            rw [if_neg (fun c => y (by have := (nI_eq (by omega) (by omega)).mp c; omega))]
            have y3 : ¬ (V (nb p k) / 1048576 + ct p = V p / 1048576 ∧ V (nb p k) % 1048576 + 1 = V p % 1048576) := fun c => y (by rw [W6_p hc]; unfold D6; omega)
            by_cases y4 : V (nb p k) / 1048576 + ct p = V p / 1048576
            · rw [if_pos (congrArg nI y4), if_neg (fun c => y3 ⟨y4, (nI_eq (by omega) (by omega)).mp c⟩)]
              exact skip (fun c => y c.2.2)
            · rw [if_neg (fun c => y4 ((nI_eq (by omega) (by omega)).mp c))]
              exact skip (fun c => y c.2.2)
theorem way_loop {N d n to i : Nat} {σx σm : St} {w t a b : Nat → Int32} {V : Nat → Nat} (hd : I_day d σx σm) (hs : I_sale n σx σm) (hla : I_land d σx σm) (hho : I_hold σx σm) (hN : 100 ≤ N) (ew : eW w (W6 (ctS n σm (-1) (-1)))) (et : eT t (D6 V)) (ev : eV a b V) (hS : wS to (W1 (ctS n σm (-1) (-1))) V) (hF : wF (W1 (ctS n σm (-1) (-1))) V) (hb : ∀ p, p < 48 → V p / 1048576 ≤ 527904) (hi : i < 60) : ∀ (m f j p : Nat), j + m = i → m < f → p < 48 → ¬ V p = 0 → m + 1 ≤ V p % 1048576 → ∃ r, fX10_plotAt_26 N (sA (sA σx 72 w) 73 t) f (nI i) (nI p) (nI j) = some r ∧ fX12_way_69 N f (m2 σm a b) (nI i) (nI p) (nI j) = some (r, m2 σm a b) := by
  intro m
  induction m with
  | zero =>
    intro f j p hj hf hp hV hl
    cases f with
    | zero => omega
    | succ f =>
      refine ⟨nI p, ?_, ?_⟩
      · show fX10_plotAt_26b N (sA (sA σx 72 w) 73 t) (fX10_plotAt_26 N (sA (sA σx 72 w) 73 t) f) (nI i) (nI p) (nI j) = _
        unfold fX10_plotAt_26b
        rw [if_pos (nI_le (by omega) (by omega))]
      · show fX12_way_69b N (fX12_way_69 N f) (m2 σm a b) (nI i) (nI p) (nI j) = _
        unfold fX12_way_69b
        rw [if_pos (nI_le (by omega) (by omega))]
  | succ m ih =>
    intro f j p hj hf hp hV hl
    cases f with
    | zero => omega
    | succ f =>
      show ∃ r, fX10_plotAt_26b N (sA (sA σx 72 w) 73 t) (fX10_plotAt_26 N (sA (sA σx 72 w) 73 t) f) (nI i) (nI p) (nI j) = some r ∧ fX12_way_69b N (fX12_way_69 N f) (m2 σm a b) (nI i) (nI p) (nI j) = some (r, m2 σm a b)
      unfold fX10_plotAt_26b fX12_way_69b fX10_nextOn fX12_nextOf nm
      have hct := ct_all (N := N) (spare := -1) (shut := -1) hd hs hla hho (by omega) hp
      have ec : fX12_costOf N (m2 σm a b) (nI p) (-1) (-1) = some (if ctS n σm (-1) (-1) p = 0 then -1 else nI (ctS n σm (-1) (-1) p)) := (ct_all (N := N) (σx := σx) (σm := m2 σm a b) (spare := -1) (shut := -1) hd hs hla hho (by omega) hp).2.1
      have hc : ¬ ctS n σm (-1) (-1) p = 0 := fun z => hS.1 p hp hV (W1_0.mpr z)
      rw [if_neg (nI_ge (by omega) (by omega)), if_neg (nI_ge (by omega) (by omega)), if_neg (nI_m1 (by omega)), ec]
      simp only [ix_nI hp (by decide), if_true, aR_nI (show p < 2 ^ 31 by omega), bd, if_neg hc]
      obtain ⟨d1, d2, d3⟩ := D6_64 hS hF hb hp
      have hD := wD_of hS hF
      have hDp : ¬ D6 V p = 0 := fun z => hV (D6_0.mp z)
      obtain ⟨l1, l2, l3⟩ := hD.2.2 p hp hDp
      rcases l3 with ⟨_, l3⟩ | ⟨k, hk, hn, z1, z2, z3⟩
      · exfalso
        have l3 : V p % 1048576 = 1 := l3
        omega
      · rw [show (sA (sA σx 72 w) 73 t).2.1 73 p = t p from rfl, show (sA (sA σx 72 w) 73 t).2.1 72 p = w p from rfl, et p hp, ew p hp, if_neg hDp, if_neg (fun z => hc (W6_0.mp z)), pk_sub (by omega)]
        obtain ⟨q, hq, hVq, e0, e1, e2⟩ := next_loop (N := N) (σx := σx) (σm := σm) (w := w) hp et ev hS hF hb hV hct.1 4 N 0 (by omega) (by omega) ⟨k, by omega, hk, hn, fun z => z1 (D6_0.mpr z), z2.symm⟩
        rw [show fX10_nextOn_16 N (sA (sA σx 72 w) 73 t) N (nI p) (nI (D6 V p - W6 (ctS n σm (-1) (-1)) p)) 0 = _ from e1, show fX12_nextOf_10 N (m2 σm a b) N (nI p) (nI (ctS n σm (-1) (-1) p)) 0 = _ from e2]
        simp only [nI_1]
        refine ih f (j + 1) q (by omega) (by omega) hq hVq ?_
        have lq := lv_48 hS hF hq
        rw [W6_p hc] at e0
        unfold D6 at e0
        omega
theorem s_way {N : Nat} (hN : 2 ^ 60 ≤ N) : SP_way Inv N := by
  intro σx σm a1 a2 a3 hI
  obtain ⟨κ, hd, hs, hla, hhe, hho, hli, hle, hc, ht, hx, hcl, hlo, hsh⟩ := id hI
  have hN : 100 ≤ N ∧ 2 ^ 60 ≤ N := ⟨by omega, hN⟩
  unfold fX11_way fX12_way
  rw [isPlot_e, isPlot_e]
  by_cases h1 : fX11_isPlot a1 = 0
  · simp only [if_pos h1]; exact ⟨_, _, _, rfl, rfl, hI⟩
  by_cases h2 : fX11_isPlot a2 = 0
  · simp only [if_neg h1, if_pos h2]; exact ⟨_, _, _, rfl, rfl, hI⟩
  obtain ⟨fr, hfr, rfl⟩ := pl_of h1
  obtain ⟨to, hto, rfl⟩ := pl_of h2
  simp only [if_neg h1, if_neg h2]
  obtain ⟨a, b, V, m1, ev, hS, hF, hb⟩ := mfind (spare := -1) (shut := -1) hd hs hla hho hN.2 hto
  have hb6 : ∀ p, p < 48 → D6 V p ≤ 40000000 := fun p hp => (D6_64 hS hF hb hp).1
  obtain ⟨w, t, x1, ew, et⟩ := xleast hd hs hla hho hN.1 hfr hto (wD_of hS hF) hb6
  rw [m1, x1]
  simp only [bd, bd2, ix_nI hfr (by decide), if_true, aR_nI (show fr < 2 ^ 31 by omega)]
  have hI' : Inv (sA (sA σx 72 w) 73 t) (m2 σm a b) := ⟨κ, hd, hs, hla, hhe, hho, hli, hle, hc, ht, hx, hcl, hlo, hsh⟩
  rw [show (m2 σm a b).2.1 46 fr = a fr from rfl, show (m2 σm a b).2.1 47 fr = b fr from rfl]
  obtain ⟨d1, d2, d3⟩ := D6_64 hS hF hb hfr
  have hbf := hb fr hfr
  rcases ev fr hfr with ⟨z, e⟩ | ⟨z, e1, e2⟩
  · rw [if_pos (D6_0.mpr z), e]
    simp only [if_true]
    exact ⟨_, _, _, rfl, rfl, hI'⟩
  · have hD : ¬ D6 V fr = 0 := fun y => z (D6_0.mp y)
    rw [if_neg hD, e1, e2, d2]
    simp only [if_neg (nI_m1 (show V fr / 1048576 < 2 ^ 31 by omega))]
    have l1 := (lv_cnt hS hF (V fr) fr hfr rfl z).1
    have l2 := lv_48 hS hF hfr
    have hw : fX11_within a3 0 ((t fr - t fr / 64 * 64) - 1) = fX11_within a3 0 (nI (V fr % 1048576 - 1)) := by
      rw [et fr hfr, if_neg hD, show (64 : Int32) = nI 64 from rfl, pk_rem (by omega) (by decide) (by decide), d3, show (1 : Int32) = nI 1 from rfl, pk_sub l1]
    by_cases q1 : a3 = -1
    · simp only [if_pos q1]
      rw [if_neg (by rw [q1]; decide), if_pos (by rw [q1]; exact Int32.lt_of_lt_of_le (show (-1 : Int32) < 0 from by decide) (nI_pos' (by omega)))]
      exact ⟨_, _, _, rfl, rfl, hI'⟩
    · simp only [if_neg q1]
      unfold fX10_plotAt
      simp only [ix_nI hfr (by decide), if_true, aR_nI (show fr < 2 ^ 31 by omega)]
      rw [show (sA (sA σx 72 w) 73 t).2.1 73 fr = t fr from rfl, hw]
      by_cases q2 : a3 < 0
      · have q3 : a3 < -1 := by
          have := Int32.lt_iff_toInt_lt.mp q2
          rw [show (0 : Int32).toInt = 0 from rfl] at this
          rw [Int32.lt_iff_toInt_lt, show (-1 : Int32).toInt = -1 from rfl]
          have : ¬ a3.toInt = -1 := fun y => q1 (Int32.toInt_inj.mp y)
          omega
        rw [if_pos q3, if_pos (wi_eq.mpr (fun y => Int32.not_lt.mpr y.1 q2))]
        exact ⟨_, _, _, rfl, rfl, hI'⟩
      · obtain ⟨i, hi, rfl⟩ := nI_of q2
        rw [if_neg (show ¬ nI i < -1 from fun y => nI_pos hi (Int32.lt_trans y (by decide)))]
        by_cases q4 : i < V fr % 1048576
        · rw [if_pos ((nI_ltI hi (by omega)).mpr q4), if_neg (wi_ne.mpr ⟨nI_pos' hi, nI_le (by omega) (by omega)⟩)]
          obtain ⟨r, y1, y2⟩ := way_loop (N := N) hd hs hla hho hN.1 ew et ev hS hF hb (show i < 60 by omega) i N 0 fr (by omega) (by omega) hfr z (by omega)
          rw [show fX10_plotAt_26 N (sA (sA σx 72 w) 73 t) N (nI i) (nI fr) 0 = _ from y1, show fX12_way_69 N N (m2 σm a b) (nI i) (nI fr) 0 = _ from y2]
          exact ⟨_, _, _, rfl, rfl, hI'⟩
        · rw [if_neg (fun y => q4 ((nI_ltI hi (by omega)).mp y)), if_pos (wi_eq.mpr (fun y => by have := (nI_leI hi (by omega)).mp y.2; omega))]
          exact ⟨_, _, _, rfl, rfl, hI'⟩
theorem s_couldAsk {N : Nat} (hN : 2 ^ 60 ≤ N) : SP_couldAsk Inv N := by
  intro σx σm a1 a2 a3 hI
  obtain ⟨κ, hd, hs, hla, hhe, hho, hli, hle, hc, ht, hx, hcl, hlo, hsh⟩ := id hI
  have hN : 100 ≤ N ∧ 2 ^ 60 ≤ N := ⟨by omega, hN⟩
  unfold fX11_couldAsk fX12_couldAsk
  rw [isOwner_e, isPlot_e, isPlot_e]
  by_cases h0 : fX11_isOwner a1 = 0
  · simp only [if_pos h0]; exact ⟨_, _, _, rfl, rfl, hI⟩
  by_cases h1 : fX11_isPlot a2 = 0
  · simp only [if_neg h0, if_pos h1]; exact ⟨_, _, _, rfl, rfl, hI⟩
  by_cases h2 : fX11_isPlot a3 = 0
  · simp only [if_neg h0, if_neg h1, if_pos h2]; exact ⟨_, _, _, rfl, rfl, hI⟩
  obtain ⟨fr, hfr, rfl⟩ := pl_of h1
  obtain ⟨to, hto, rfl⟩ := pl_of h2
  simp only [if_neg h0, if_neg h1, if_neg h2]
  obtain ⟨a, b, V, m1, ev, hS, hF, hb⟩ := mfind (spare := -1) (shut := a1) hd hs hla hho hN.2 hto
  obtain ⟨w, t, x1, ew, et⟩ := xleast hd hs hla hho hN.1 hfr hto (wD_of hS hF) (fun p hp => (D6_64 hS hF hb hp).1)
  rw [m1, x1]
  simp only [bd, bd2, ix_nI hfr (by decide), if_true, aR_nI (show fr < 2 ^ 31 by omega), nm]
  rw [show (m2 σm a b).2.1 46 fr = a fr from rfl]
  obtain ⟨d1, d2, d3⟩ := D6_64 hS hF hb hfr
  have hbf := hb fr hfr
  rcases ev fr hfr with ⟨z, e⟩ | ⟨z, e1, e2⟩
  · rw [if_pos (D6_0.mpr z), e]
    simp only [if_true]
    exact ⟨_, _, _, rfl, rfl, κ, hd, hs, hla, hhe, hho, hli, hle, hc, ht, hx, hcl, hlo, hsh⟩
  · have hD : ¬ D6 V fr = 0 := fun y => z (D6_0.mp y)
    rw [if_neg hD, e1, d2]
    simp only [if_neg (nI_m1 (show V fr / 1048576 < 2 ^ 31 by omega))]
    obtain ⟨a', b', V', m1', ev', hS', hF', hb'⟩ := mfind (σx := sA (sA σx 72 w) 73 t) (σm := m2 σm a b) (spare := a1) (shut := -1) hd hs hla hho hN.2 hto
    obtain ⟨w', t', x1', ew', et'⟩ := xleast (σx := sA (sA σx 72 w) 73 t) (σm := m2 σm a b) hd hs hla hho hN.1 hfr hto (wD_of hS' hF') (fun p hp => (D6_64 hS' hF' hb' hp).1)
    rw [m1', x1']
    simp only [aR_nI (show fr < 2 ^ 31 by omega)]
    rw [show (m2 (m2 σm a b) a' b').2.1 46 fr = a' fr from rfl]
    obtain ⟨d1', d2', d3'⟩ := D6_64 hS' hF' hb' hfr
    have e3 : a' fr = if D6 V' fr = 0 then -1 else nI (D6 V' fr / 64) := by
      rcases ev' fr hfr with ⟨y, e⟩ | ⟨y, e, _⟩
      · rw [if_pos (D6_0.mpr y), e]
      · rw [if_neg (fun c => y (D6_0.mp c)), e, d2']
    rw [e3]
    exact ⟨_, _, _, rfl, rfl, κ, hd, hs, hla, hhe, hho, hli, hle, hc, ht, hx, hcl, hlo, hsh⟩
