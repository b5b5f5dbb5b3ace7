/-! PURE: TEXT: the class reads THE TAPE -/
theorem st_s {N f : Nat} {σ : St} {x1 x2 : Int32} : fX8_splitTape_9 N (f + 1) σ x1 x2 = fX8_splitTape_9b N (fX8_splitTape_9 N f) σ x1 x2 := rfl
theorem st_e {N : Nat} {σ : St} {k9 : St → Int32 → Int32 → Option St} {x1 x2 : Int32} (h : x1 = -1) : fX8_splitTape_9b N k9 σ x1 x2 = some σ := by
  by_cases q : (160 : Int32) < x2
  · exact if_pos q
  · exact (if_neg q).trans (if_pos h)
theorem st_k {N : Nat} {σ σ' : St} {k9 : St → Int32 → Int32 → Option St} {x1 x2 y r z : Int32} (h : ¬ (160 : Int32) < x2) (h1 : ¬ x1 = -1) (hb : fX8_behindBlanks N σ x1 = some y) (hs : fX8_splitOne N σ y = some (r, σ')) (hz : x2 + 1 = z) : fX8_splitTape_9b N k9 σ x1 x2 = k9 σ' r z := by
  subst hz
  exact (if_neg h).trans ((if_neg h1).trans ((bd_some hb).trans ((bd2_some hs).trans (nm_t rfl))))
theorem xspl {N nB la : Nat} {b : Nat → Nat} {σ : St} (hN : 200 ≤ N) (hB : tpX b nB σ) (h1 : la ≤ nB) (h2 : TL b nB la < 2) (h3 : ∀ i, i < la → 2 ≤ TL b nB i) : ∀ (m i f : Nat) (τ : St), i + m = la → m + 2 ≤ f → lxR b nB σ i τ → ∃ τ', fX8_splitTape_9 N f τ (nI (posL b nB i)) (nI i) = some τ' ∧ lxR b nB σ (la + 1) τ' := by
  have h160 := hB.1
  have step : ∀ (i f : Nat) (τ : St), i ≤ la → lxR b nB σ i τ → ∃ τ', fX8_splitTape_9 N (f + 1) τ (nI (posL b nB i)) (nI i) = fX8_splitTape_9 N f τ' (if TL b nB i < 2 then -1 else nI (posL b nB (i + 1))) (nI (i + 1)) ∧ lxR b nB σ (i + 1) τ' := by
    intro i f τ hi h
    obtain ⟨τ', e1, e2⟩ := xone hN hB (by omega) h
    have hp := pos_le b nB i
    have e3 : fX8_behindBlanks N τ (nI (posL b nB i)) = some (nI (PLL b nB i)) := xbl (lx_tp hB h) (nB - posL b nB i) (posL b nB i) N (by omega) (by omega)
    exact ⟨τ', by rw [st_s, st_k (nI_nlt (a := 160) (b := i) (by omega) (by decide)) (nI_m1 (by omega)) e3 e1 (nI_1 i)], e2⟩
  intro m
  induction m with
  | zero =>
    intro i f τ hi hf h
    obtain ⟨f, rfl⟩ : ∃ g, f = g + 2 := ⟨f - 2, by omega⟩
    obtain ⟨τ', e1, e2⟩ := step i (f + 1) τ (by omega) h
    have : i = la := by omega
    subst this
    rw [if_pos h2] at e1
    exact ⟨τ', by rw [e1, st_s, st_e rfl], e2⟩
  | succ m ih =>
    intro i f τ hi hf h
    obtain ⟨f, rfl⟩ : ∃ g, f = g + 1 := ⟨f - 1, by omega⟩
    obtain ⟨τ', e1, e2⟩ := step i f τ (by omega) h
    rw [if_neg (by have := h3 i (by omega); omega)] at e1
    rw [e1]
    exact ih (i + 1) f τ' (by omega) (by omega) e2
theorem xsplit {N nB la : Nat} {b : Nat → Nat} {σ : St} (hN : 200 ≤ N) (hB : tpX b nB σ) (h1 : la ≤ nB) (h2 : TL b nB la < 2) (h3 : ∀ i, i < la → 2 ≤ TL b nB i) : ∃ τ, fX8_splitTape N σ = some τ ∧ lxR b nB σ (la + 1) τ := by
  have h160 := hB.1
  have h0 : lxR b nB σ 0 (sI σ 6 0) := ⟨fun k hk => by
    show va_up σ.1 6 0 k = _
    rw [up_n hk], rfl, fun k _ _ _ => rfl, rfl, fun k hk => by omega⟩
  exact xspl hN hB h1 h2 h3 la 0 N (sI σ 6 0) (by omega) (by omega) h0
theorem lx_tk {b : Nat → Nat} {nB la : Nat} {σ τ : St} (hB : nB ≤ 160) (h1 : la ≤ nB) (h2 : TL b nB la < 2) (h3 : ∀ i, i < la → 2 ≤ TL b nB i) (h : lxR b nB σ (la + 1) τ) : tkX (TL b nB) (NML b nB) la τ := by
  refine ⟨by omega, fun i hi => ?_, h3, h2⟩
  obtain ⟨a, _, c⟩ := h.2.2.2.2 i (by omega)
  obtain ⟨v, w⟩ := tok_v (b := b) (nB := nB) (q := PLL b nB i)
  have v : vTk (TL b nB i) := v
  have w : TL b nB i = 2 → NML b nB i < 10000 ∧ _ := w
  exact ⟨a, by unfold vTk at v; omega, fun z => ⟨c z, (w z).1⟩⟩
/-- the two parts -/
def rpb (T : Nat → Nat) (c : List Nat) (R : Nat × Option (List Nat)) : Nat × Option (List Nat × List Nat) := match R with
  | (k, none) => (k, none)
  | (k, some c') => if T k = 59 then (if T (k + 1) = 0 then (k + 1, some (c, c')) else (k + 1, none)) else (k, none)
def rpa (T NM : Nat → Nat) (R : Nat × Option (List Nat)) : Nat × Option (List Nat × List Nat) := match R with
  | (j, none) => (j, none)
  | (j, some c) => if T j = 59 then (if T (j + 1) = 129 then rpb T c (dsD T NM 60 0 0 (j + 2)) else (j + 1, none)) else (j, none)
def rpD (T NM : Nat → Nat) : Nat × Option (List Nat × List Nat) := if T 0 = 128 then rpa T NM (dsD T NM 60 0 0 1) else (0, none)
/-- what reading leaves as it is, the class's -/
def frX (σ τ : St) : Prop := (∀ k, ¬ k = 7 → ¬ k = 8 → ¬ k = 9 → τ.1 k = σ.1 k) ∧ (∀ k, ¬ k = 55 → τ.2.1 k = σ.2.1 k) ∧ τ.2.2 = σ.2.2
theorem frX_st {σ : St} {i n : Nat} {g : Nat → Int32} : frX σ (stX σ i n g) := ⟨fun k a c d => by
  show va_up (va_up σ.1 7 _) 8 _ k = _
  rw [up_n c, up_n a], fun k a => by
  show va_up σ.2.1 55 g k = _
  rw [up_n a], rfl⟩
theorem frX_9 {σ τ : St} {v : Int32} (h : frX (sI σ 9 v) τ) : frX σ τ := ⟨fun k a c d => (h.1 k a c d).trans (by
  show va_up σ.1 9 v k = _
  rw [up_n d]), h.2.1, h.2.2⟩
theorem stX_9 (σ : St) (i n : Nat) (g : Nat → Int32) (v : Int32) : sI (stX σ i n g) 9 v = stX (sI σ 9 v) i n g := by
  show (va_up (va_up (va_up σ.1 7 (nI i)) 8 (nI n)) 9 v, va_up σ.2.1 55 g, σ.2.2) = (va_up (va_up (va_up σ.1 9 v) 7 (nI i)) 8 (nI n), va_up σ.2.1 55 g, σ.2.2)
  have : va_up (va_up (va_up σ.1 7 (nI i)) 8 (nI n)) 9 v = va_up (va_up (va_up σ.1 9 v) 7 (nI i)) 8 (nI n) := by
    funext j
    unfold va_up
    by_cases h1 : j = 9
    · subst h1; rfl
    · by_cases h2 : j = 8
      · subst h2; rfl
      · rw [if_neg h1, if_neg h2, if_neg h2, if_neg h1]
  rw [this]
theorem rp_0 {N : Nat} {σ σ1 : St} (h : fX8_accept N σ 128 = some (0, σ1)) : fX8_readParts N σ = some (0, σ1) := (bd2_some h).trans (if_pos rfl)
theorem rp_1 {N : Nat} {σ σ1 σ2 : St} (h : fX8_accept N σ 128 = some (1, σ1)) (h2 : fRL N 60 σ1 0 0 = some (0, σ2)) : fX8_readParts N σ = some (0, σ2) := (bd2_some h).trans ((if_neg (show ¬ (1 : Int32) = 0 from by decide)).trans ((bd2_some h2).trans (if_pos rfl)))
theorem rp_2 {N : Nat} {σ σ1 σ2 σ3 : St} (h : fX8_accept N σ 128 = some (1, σ1)) (h2 : fRL N 60 σ1 0 0 = some (1, σ2)) (h3 : fX8_accept N σ2 59 = some (0, σ3)) : fX8_readParts N σ = some (0, σ3) := (bd2_some h).trans ((if_neg (show ¬ (1 : Int32) = 0 from by decide)).trans ((bd2_some h2).trans ((if_neg (show ¬ (1 : Int32) = 0 from by decide)).trans ((bd2_some h3).trans (if_pos rfl)))))
theorem rp_3 {N : Nat} {σ σ1 σ2 σ3 σ4 : St} (h : fX8_accept N σ 128 = some (1, σ1)) (h2 : fRL N 60 σ1 0 0 = some (1, σ2)) (h3 : fX8_accept N σ2 59 = some (1, σ3)) (h4 : fX8_accept N (sI σ3 9 (σ3.1 8)) 129 = some (0, σ4)) : fX8_readParts N σ = some (0, σ4) := (bd2_some h).trans ((if_neg (show ¬ (1 : Int32) = 0 from by decide)).trans ((bd2_some h2).trans ((if_neg (show ¬ (1 : Int32) = 0 from by decide)).trans ((bd2_some h3).trans ((if_neg (show ¬ (1 : Int32) = 0 from by decide)).trans (nm_t ((bd2_some h4).trans (if_pos rfl))))))))
theorem rp_k {N : Nat} {σ σ1 σ2 σ3 σ4 : St} (h : fX8_accept N σ 128 = some (1, σ1)) (h2 : fRL N 60 σ1 0 0 = some (1, σ2)) (h3 : fX8_accept N σ2 59 = some (1, σ3)) (h4 : fX8_accept N (sI σ3 9 (σ3.1 8)) 129 = some (1, σ4)) {O : Option (Int32 × St)} (hO : (bd2 (fRL N 60 σ4 (0 : Int32) (0 : Int32)) fun r17 σ15 => if r17 = 0 then (some ((0 : Int32), σ15)) else (bd2 (fX8_accept N σ15 (59 : Int32)) fun r20 σ18 => if r20 = 0 then (some ((0 : Int32), σ18)) else (if ix (σ18.1 7) 161 = true then if (aR σ18 52 (σ18.1 7)) = 0 then (some ((1 : Int32), σ18)) else (some ((0 : Int32), σ18)) else none))) = O) : fX8_readParts N σ = O := (bd2_some h).trans ((if_neg (show ¬ (1 : Int32) = 0 from by decide)).trans ((bd2_some h2).trans ((if_neg (show ¬ (1 : Int32) = 0 from by decide)).trans ((bd2_some h3).trans ((if_neg (show ¬ (1 : Int32) = 0 from by decide)).trans (nm_t ((bd2_some h4).trans ((if_neg (show ¬ (1 : Int32) = 0 from by decide)).trans hO))))))))
def okP (N la : Nat) (σ : St) (g : Nat → Int32) (R : Nat × Option (List Nat × List Nat)) : Prop := match R with
  | (j, none) => j ≤ la ∧ ∃ τ, fX8_readParts N (stX σ 0 0 g) = some (0, τ) ∧ frX σ τ ∧ τ.1 7 = nI j
  | (_, some (c, c')) => ∃ τ, fX8_readParts N (stX σ 0 0 g) = some (1, τ) ∧ frX σ τ ∧ τ.1 8 = nI (c.length + c'.length) ∧ τ.1 9 = nI c.length ∧ τ.2.1 55 = ext g 0 (c ++ c') ∧ c.length + c'.length ≤ 160
theorem okP_n {N la j : Nat} {σ τ : St} {g : Nat → Int32} (h1 : j ≤ la) (h2 : fX8_readParts N (stX σ 0 0 g) = some (0, τ)) (h3 : frX σ τ) (h4 : τ.1 7 = nI j) : okP N la σ g (j, none) := ⟨h1, τ, h2, h3, h4⟩
theorem okP_s {N la j : Nat} {σ τ : St} {g : Nat → Int32} {c c' : List Nat} (h2 : fX8_readParts N (stX σ 0 0 g) = some (1, τ)) (h3 : frX σ τ) (h4 : τ.1 8 = nI (c.length + c'.length)) (h5 : τ.1 9 = nI c.length) (h6 : τ.2.1 55 = ext g 0 (c ++ c')) (h7 : c.length + c'.length ≤ 160) : okP N la σ g (j, some (c, c')) := ⟨τ, h2, h3, h4, h5, h6, h7⟩
theorem xparts {N la : Nat} {T NM : Nat → Nat} {σ : St} {g : Nat → Int32} (hN : 200 ≤ N) (hT : tkX T NM la σ) : okP N la σ g (rpD T NM) := by
  have h160 := hT.1
  have n1 : ¬ (1 : Int32) = 0 := by decide
  have a0 := xaccept (N := N) (i := 0) (n := 0) (t := 128) (g := g) hT (Nat.zero_le _) (by decide)
  have a0 : fX8_accept N (stX σ 0 0 g) 128 = if T 0 = 128 then some (1, stX σ (0 + 1) 0 g) else some (0, stX σ 0 0 g) := a0
  unfold rpD
  by_cases q0 : T 0 = 128
  · rw [if_pos q0] at a0 ⊢
    have l0 : 0 < la := lt_la hT (Nat.zero_le _) (by omega)
    have x1 := xds hN hT 60 0 0 1 0 g (by decide) (by decide) (by decide) (by omega) (by omega)
    generalize hR : dsD T NM 60 0 0 1 = R at x1 ⊢
    obtain ⟨j, oc⟩ := R
    cases oc with
    | none =>
      obtain ⟨h1, h2, n', g', h3⟩ := x1
      show okP N la σ g (j, none)
      exact okP_n h2 (rp_1 a0 h3) frX_st rfl
    | some c =>
      obtain ⟨h1, h2, h3, h4⟩ := x1
      rw [Nat.zero_add] at h4
      have h4 : fRL N 60 (stX σ (0 + 1) 0 g) 0 0 = some (1, stX σ j c.length (ext g 0 c)) := h4
      show okP N la σ g (if T j = 59 then (if T (j + 1) = 129 then rpb T c (dsD T NM 60 0 0 (j + 2)) else (j + 1, none)) else (j, none))
      have a1 := xaccept (N := N) (i := j) (n := c.length) (t := 59) (g := ext g 0 c) hT h2 (by decide)
      have a1 : fX8_accept N (stX σ j c.length (ext g 0 c)) 59 = if T j = 59 then some (1, stX σ (j + 1) c.length (ext g 0 c)) else some (0, stX σ j c.length (ext g 0 c)) := a1
      by_cases q1 : T j = 59
      · rw [if_pos q1] at a1 ⊢
        have l1 : j < la := lt_la hT h2 (by omega)
        have hT' : tkX T NM la (sI σ 9 (nI c.length)) := hT
        have a2 := xaccept (N := N) (i := j + 1) (n := c.length) (t := 129) (g := ext g 0 c) hT' l1 (by decide)
        have e9 : sI (stX σ (j + 1) c.length (ext g 0 c)) 9 ((stX σ (j + 1) c.length (ext g 0 c)).1 8) = stX (sI σ 9 (nI c.length)) (j + 1) c.length (ext g 0 c) := stX_9 σ (j + 1) c.length (ext g 0 c) (nI c.length)
        have a2 : fX8_accept N (sI (stX σ (j + 1) c.length (ext g 0 c)) 9 ((stX σ (j + 1) c.length (ext g 0 c)).1 8)) 129 = if T (j + 1) = 129 then some (1, stX (sI σ 9 (nI c.length)) (j + 1 + 1) c.length (ext g 0 c)) else some (0, stX (sI σ 9 (nI c.length)) (j + 1) c.length (ext g 0 c)) := by
          rw [e9]; exact a2
        by_cases q2 : T (j + 1) = 129
        · rw [if_pos q2] at a2 ⊢
          have l2 : j + 1 < la := lt_la hT l1 (by omega)
          have x2 := xds hN hT' 60 0 0 (j + 2) c.length (ext g 0 c) (by decide) (by decide) (by decide) (by omega) (by omega)
          generalize hR2 : dsD T NM 60 0 0 (j + 2) = R2 at x2 ⊢
          obtain ⟨k, oc2⟩ := R2
          cases oc2 with
          | none =>
            obtain ⟨i1, i2, n', g', i3⟩ := x2
            show okP N la σ g (k, none)
            exact okP_n i2 (rp_k a0 h4 a1 a2 ((bd2_some i3).trans (if_pos rfl))) (frX_9 frX_st) rfl
          | some c' =>
            obtain ⟨i1, i2, i3, i4⟩ := x2
            have a3 := xaccept (N := N) (i := k) (n := c.length + c'.length) (t := 59) (g := ext (ext g 0 c) c.length c') hT' i2 (by decide)
            have a3 : fX8_accept N (stX (sI σ 9 (nI c.length)) k (c.length + c'.length) (ext (ext g 0 c) c.length c')) 59 = if T k = 59 then some (1, stX (sI σ 9 (nI c.length)) (k + 1) (c.length + c'.length) (ext (ext g 0 c) c.length c')) else some (0, stX (sI σ 9 (nI c.length)) k (c.length + c'.length) (ext (ext g 0 c) c.length c')) := a3
            show okP N la σ g (if T k = 59 then (if T (k + 1) = 0 then (k + 1, some (c, c')) else (k + 1, none)) else (k, none))
            by_cases q3 : T k = 59
            · rw [if_pos q3] at a3 ⊢
              have l3 : k < la := lt_la hT i2 (by omega)
              have e7 : (stX (sI σ 9 (nI c.length)) (k + 1) (c.length + c'.length) (ext (ext g 0 c) c.length c')).1 7 = nI (k + 1) := rfl
              have x7 : ix ((stX (sI σ 9 (nI c.length)) (k + 1) (c.length + c'.length) (ext (ext g 0 c) c.length c')).1 7) 161 = true := by rw [e7]; exact ix_nI (by omega) (by decide)
              obtain ⟨t1, t2, t3⟩ := hT.2.1 (k + 1) l3
              have e52 : aR (stX (sI σ 9 (nI c.length)) (k + 1) (c.length + c'.length) (ext (ext g 0 c) c.length c')) 52 ((stX (sI σ 9 (nI c.length)) (k + 1) (c.length + c'.length) (ext (ext g 0 c) c.length c')).1 7) = nI (T (k + 1)) := by
                rw [e7, aR_nI (by omega)]; exact t1
              by_cases q4 : T (k + 1) = 0
              · rw [if_pos q4]
                refine okP_s (rp_k a0 h4 a1 a2 ((bd2_some i4).trans ((if_neg n1).trans ((bd2_some a3).trans ((if_neg n1).trans ((if_pos x7).trans (if_pos (by rw [e52, q4]; rfl)))))))) (frX_9 frX_st) rfl rfl ?_ (by omega)
                show ext (ext g 0 c) c.length c' = _
                rw [ext_app, Nat.zero_add]
              · rw [if_neg q4]
                exact okP_n l3 (rp_k a0 h4 a1 a2 ((bd2_some i4).trans ((if_neg n1).trans ((bd2_some a3).trans ((if_neg n1).trans ((if_pos x7).trans (if_neg (by rw [e52]; exact fun z => q4 ((nI_eq (b := 0) (by omega) (by decide)).mp z))))))))) (frX_9 frX_st) rfl
            · rw [if_neg q3] at a3 ⊢
              exact okP_n i2 (rp_k a0 h4 a1 a2 ((bd2_some i4).trans ((if_neg n1).trans ((bd2_some a3).trans (if_pos rfl))))) (frX_9 frX_st) rfl
        · rw [if_neg q2] at a2 ⊢
          exact okP_n l1 (rp_3 a0 h4 a1 a2) (frX_9 frX_st) rfl
      · rw [if_neg q1] at a1 ⊢
        exact okP_n h2 (rp_2 a0 h4 a1) frX_st rfl
  · rw [if_neg q0] at a0 ⊢
    exact okP_n (Nat.zero_le _) (rp_0 a0) frX_st rfl
/-- what reading THE TAPE leaves as it is -/
def frT (σ τ : St) : Prop := (∀ k, ¬ k = 5 → ¬ k = 6 → ¬ k = 7 → ¬ k = 8 → ¬ k = 9 → τ.1 k = σ.1 k) ∧ (∀ k, ¬ k = 52 → ¬ k = 53 → ¬ k = 54 → ¬ k = 55 → τ.2.1 k = σ.2.1 k) ∧ τ.2.2 = σ.2.2
theorem rt_g {N : Nat} {σ σ1 σ2 : St} (hs : fX8_splitTape N σ = some σ1) (hp : fX8_readParts N (sI (sI (sI σ1 7 0) 8 0) 9 0) = some (1, σ2)) : fX8_readTape N σ = some (-1, sI σ2 5 0) := (bd_some hs).trans (nm_t (nm_t (nm_t ((bd2_some hp).trans (nm_t (if_neg (show ¬ (1 : Int32) = 0 from by decide)))))))
theorem rt_f {N : Nat} {σ σ1 σ2 : St} {v : Int32} (hs : fX8_splitTape N σ = some σ1) (hp : fX8_readParts N (sI (sI (sI σ1 7 0) 8 0) 9 0) = some (0, σ2)) (h7 : ix ((sI σ2 5 0).1 7) 161 = true) (hv : aR (sI σ2 5 0) 53 ((sI σ2 5 0).1 7) = v) : fX8_readTape N σ = some (v, sI σ2 5 0) := by
  subst hv
  exact (bd_some hs).trans (nm_t (nm_t (nm_t ((bd2_some hp).trans (nm_t ((if_pos rfl).trans (if_pos h7)))))))
theorem st0_e (σ : St) : sI (sI (sI σ 7 0) 8 0) 9 0 = stX (sI σ 9 0) 0 0 (σ.2.1 55) := by
  have h : sI (stX σ 0 0 (σ.2.1 55)) 9 0 = stX (sI σ 9 0) 0 0 (σ.2.1 55) := stX_9 σ 0 0 (σ.2.1 55) 0
  rw [← h]
  show _ = sI (sI (sI (sA σ 55 (σ.2.1 55)) 7 (nI 0)) 8 (nI 0)) 9 0
  rw [sA_self]
  rfl
def okT (N : Nat) (b : Nat → Nat) (nB : Nat) (σ : St) (R : Nat × Option (List Nat × List Nat)) : Prop := match R with
  | (j, none) => ∃ τ, fX8_readTape N σ = some (nI (PLL b nB j), τ) ∧ frT σ τ ∧ τ.1 5 = 0
  | (_, some (c, c')) => ∃ τ g, fX8_readTape N σ = some (-1, τ) ∧ frT σ τ ∧ τ.1 5 = 0 ∧ τ.1 8 = nI (c.length + c'.length) ∧ τ.1 9 = nI c.length ∧ τ.2.1 55 = ext g 0 (c ++ c') ∧ c.length + c'.length ≤ 160
theorem xtape {N nB la : Nat} {b : Nat → Nat} {σ : St} (hN : 200 ≤ N) (hB : tpX b nB σ) (h1 : la ≤ nB) (h2 : TL b nB la < 2) (h3 : ∀ i, i < la → 2 ≤ TL b nB i) : okT N b nB σ (rpD (TL b nB) (NML b nB)) := by
  have h160 := hB.1
  obtain ⟨τ, e1, e2⟩ := xsplit hN hB h1 h2 h3
  have hT0 : tkX (TL b nB) (NML b nB) la τ := lx_tk h160 h1 h2 h3 e2
  have hT : tkX (TL b nB) (NML b nB) la (sI τ 9 0) := hT0
  have h := xparts (N := N) (g := τ.2.1 55) hN hT
  have fr : ∀ τ2, frX (sI τ 9 0) τ2 → frT σ (sI τ2 5 0) := by
    intro τ2 hf
    have hf := frX_9 hf
    refine ⟨fun k a c d e f => ?_, fun k a c d e => ?_, ?_⟩
    · show va_up τ2.1 5 0 k = _
      rw [up_n a, hf.1 k d e f, e2.1 k c]
    · show τ2.2.1 k = _
      rw [hf.2.1 k e, e2.2.2.1 k a c d]
    · show τ2.2.2 = _
      rw [hf.2.2, e2.2.2.2.1]
  generalize rpD (TL b nB) (NML b nB) = R at h ⊢
  obtain ⟨j, oc⟩ := R
  cases oc with
  | none =>
    obtain ⟨i1, τ2, i2, i3, i4⟩ := h
    rw [← st0_e] at i2
    refine ⟨sI τ2 5 0, rt_f e1 i2 ?_ ?_, fr τ2 i3, rfl⟩
    · show ix (τ2.1 7) 161 = true
      rw [i4]; exact ix_nI (by omega) (by decide)
    · show τ2.2.1 53 (τ2.1 7).toNatClampNeg = _
      rw [i4, nI_clamp (by omega), i3.2.1 53 (by decide)]
      exact (e2.2.2.2.2 j (by omega)).2.1
  | some cc =>
    obtain ⟨c, c'⟩ := cc
    obtain ⟨τ2, i2, i3, i4, i5, i6, i7⟩ := h
    rw [← st0_e] at i2
    exact ⟨sI τ2 5 0, τ.2.1 55, rt_g e1 i2, fr τ2 i3, rfl, i4, i5, i6, i7⟩
