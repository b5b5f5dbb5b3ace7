/-! PURE: the class's descent is the pure one -/
def okX (σ : St) (la n i : Nat) (g : Nat → Int32) (R : Nat × Option (List Nat)) (O : Option (Int32 × St)) : Prop := match R with
  | (j, none) => i ≤ j ∧ j ≤ la ∧ ∃ n' g', O = some (0, stX σ j n' g')
  | (j, some c) => i < j ∧ j ≤ la ∧ c.length ≤ j - i ∧ O = some (1, stX σ j (n + c.length) (ext g n c))
theorem okX_none {σ : St} {la n i j : Nat} {g : Nat → Int32} {O : Option (Int32 × St)} (h1 : i ≤ j) (h2 : j ≤ la) {n' : Nat} {g' : Nat → Int32} (h : O = some (0, stX σ j n' g')) : okX σ la n i g (j, none) O := ⟨h1, h2, n', g', h⟩
theorem okX_some {σ : St} {la n i j : Nat} {g : Nat → Int32} {c : List Nat} {O : Option (Int32 × St)} (h1 : i < j) (h2 : j ≤ la) (h3 : c.length ≤ j - i) (h : O = some (1, stX σ j (n + c.length) (ext g n c))) : okX σ la n i g (j, some c) O := ⟨h1, h2, h3, h⟩
theorem lt_la {T NM : Nat → Nat} {la i : Nat} {σ : St} (hT : tkX T NM la σ) (hi : i ≤ la) (h : 2 ≤ T i) : i < la := by
  by_cases e : i = la
  · subst e; have := hT.2.2.2; omega
  · omega
theorem sgn_2 {L t : Nat} (h : sgn L t = true) : 2 ≤ t := by
  unfold sgn at h
  split at h
  · have := of_decide_eq_true h; omega
  · split at h
    · have := of_decide_eq_true h; omega
    · split at h
      · rcases Bool.or_eq_true_iff.mp h with q | q <;> (have := of_decide_eq_true q; omega)
      · split at h
        · rcases Bool.or_eq_true_iff.mp h with q | q <;> (have := of_decide_eq_true q; omega)
        · have := of_decide_eq_true h; omega
theorem xcD_t (t : Nat) : -(nI t) = xcD (10000 + t) := by
  unfold xcD
  rw [if_neg (by omega), show 10000 + t - 10000 = t by omega]
theorem lp_x {N la L o d M : Nat} {T NM : Nat → Nat} {σ : St} (hT : tkX T NM la σ) (hL : L < 5) (hM : M ≤ 160) (ih : ∀ i n g, i ≤ la → n ≤ i → okX σ la n i g (dsD T NM d (L + 1) o i) (fRL N d (stX σ i n g) (nI (L + 1)) (nI o))) {i n : Nat} {g : Nat → Int32} (hn : n ≤ i) : ∀ (m f k j : Nat) (c : List Nat), k + m = M → m < f → i < j → j ≤ la → c.length ≤ j - i → okX σ la n i g (lpD T L (dsD T NM d (L + 1) o) m j c) (fX8_readLevel_70 N (fRL N d) f (stX σ j (n + c.length) (ext g n c)) (nI L) (nI o) (nI M) (nI k)) := by
  have h160 := hT.1
  intro m
  induction m with
  | zero =>
    intro f k j c hk hf hij hj hc
    cases f with
    | zero => omega
    | succ f =>
      rw [r70_s, r70_1 (nI_le (by omega) (by omega))]
      exact okX_some hij hj hc rfl
  | succ m ih2 =>
    intro f k j c hk hf hij hj hc
    cases f with
    | zero => omega
    | succ f =>
      obtain ⟨e1, e2, _⟩ := hT.2.1 j hj
      have e7 : (stX σ j (n + c.length) (ext g n c)).1 7 = nI j := rfl
      have x1 : ¬ nI M ≤ nI k := nI_ge (by omega) (by omega)
      have x2 : ix ((stX σ j (n + c.length) (ext g n c)).1 7) 161 = true := by rw [e7]; exact ix_nI (by omega) (by decide)
      have x3 : aR (stX σ j (n + c.length) (ext g n c)) 52 ((stX σ j (n + c.length) (ext g n c)).1 7) = nI (T j) := by rw [e7, aR_nI (by omega)]; exact e1
      rw [r70_s, show lpD T L (dsD T NM d (L + 1) o) (m + 1) j c = (if sgn L (T j) then (match dsD T NM d (L + 1) o (j + 1) with | (j', none) => (j', none) | (j', some c') => lpD T L (dsD T NM d (L + 1) o) m j' (c ++ (c' ++ [10000 + T j]))) else (j, some c)) from rfl]
      cases hs : sgn L (T j) with
      | false =>
        rw [if_neg (by decide), r70_2 x1 x2 (by rw [x3]; exact (sgn_x hL e2).mpr hs)]
        exact okX_some hij hj hc rfl
      | true =>
        rw [if_pos rfl]
        have hsx : ¬ fX8_isSignOf (nI L) (nI (T j)) = 0 := fun z => by rw [(sgn_x hL e2).mp z] at hs; cases hs
        have hjl := lt_la hT hj (sgn_2 hs)
        have h := ih (j + 1) (n + c.length) (ext g n c) (by omega) (by omega)
        generalize hR : dsD T NM d (L + 1) o (j + 1) = R at h ⊢
        obtain ⟨j', oc⟩ := R
        cases oc with
        | none =>
          obtain ⟨h1, h2, n', g', h3⟩ := h
          show okX σ la n i g (j', none) _
          exact okX_none (by omega) h2 (r70_f x1 x2 (by rw [x3]; exact hsx) (by rw [e7, nI_1]) (nI_1 L) (by rw [stX_at]; exact h3))
        | some c' =>
          obtain ⟨h1, h2, h3, h4⟩ := h
          show okX σ la n i g (lpD T L (dsD T NM d (L + 1) o) m j' (c ++ (c' ++ [10000 + T j]))) _
          rw [r70_k x1 x2 x3 hsx (by rw [e7, nI_1]) (nI_1 L) (by rw [stX_at]; exact h4) (xemit (by omega) (xcD_t (T j))), nI_1]
          have e := ih2 f (k + 1) j' (c ++ (c' ++ [10000 + T j])) (by omega) (by omega) (by omega) h2 (by simp only [List.length_append, List.length_cons, List.length_nil]; omega)
          rw [ext_app, ext_app] at e
          simp only [List.length_append, List.length_cons, List.length_nil, Nat.zero_add] at e
          rw [show n + (c.length + (c'.length + 1)) = n + c.length + c'.length + 1 by omega] at e
          exact e
theorem op_x {N la Lr o d does i n : Nat} {T NM : Nat → Nat} {σ : St} {g : Nat → Int32} (hT : tkX T NM la σ) (hdo : does < 256) (hi : i < la) (hn : n ≤ i) (ho5 : o ≤ 5) (ih : o < 5 → okX σ la n (i + 1) g (dsD T NM d Lr (o + 1) (i + 1)) (fRL N d (stX σ (i + 1) n g) (nI Lr) (nI (o + 1)))) : okX σ la n i g (opD does o i (dsD T NM d Lr (o + 1))) (fX8_readOpened N (fRL N d) (stX σ i n g) (nI does) (nI Lr) (nI o)) := by
  have h160 := hT.1
  have e7 : (stX σ i n g).1 7 = nI i := rfl
  unfold opD
  by_cases ho : o < 5
  · rw [if_pos ho]
    have x1 : nI o < 5 := nI_lt (b := 5) ho (by decide)
    have h := ih ho
    generalize hR : dsD T NM d Lr (o + 1) (i + 1) = R at h ⊢
    obtain ⟨j, oc⟩ := R
    cases oc with
    | none =>
      obtain ⟨h1, h2, n', g', h3⟩ := h
      show okX σ la n i g (j, none) _
      exact okX_none (by omega) h2 (ro_f x1 (by rw [e7, nI_1]) (nI_1 o) (by rw [stX_at]; exact h3))
    | some c =>
      obtain ⟨h1, h2, h3, h4⟩ := h
      show okX σ la n i g (j, some (if does = 0 then c else c ++ [10000 + does])) _
      by_cases q : does = 0
      · subst q
        rw [if_pos rfl]
        exact okX_some (by omega) h2 (by omega) (ro_0 x1 (by rw [e7, nI_1]) (nI_1 o) (by rw [stX_at]; exact h4) rfl)
      · rw [if_neg q]
        refine okX_some (by omega) h2 (by simp only [List.length_append, List.length_cons, List.length_nil]; omega) ?_
        rw [ro_1 x1 (by rw [e7, nI_1]) (nI_1 o) (by rw [stX_at]; exact h4) (nI_ne0 (by omega) (by omega)) (xemit (by omega) (xcD_t does)), ext_app]
        simp only [List.length_append, List.length_cons, List.length_nil, Nat.zero_add]
        rfl
  · rw [if_neg ho]
    exact okX_none (Nat.le_refl _) (by omega) (ro_n (nI_nlt (b := 5) (by omega) (by omega)))
theorem dsD_s {T NM : Nat → Nat} {d L o i : Nat} : dsD T NM (d + 1) L o i = if L < 5 then (if L = 2 ∧ T i = 132 then opD 132 o i (dsD T NM d 2 (o + 1)) else (match dsD T NM d (L + 1) o i with
      | (j, none) => (j, none)
      | (j, some c) => lpD T L (dsD T NM d (L + 1) o) (if L = 2 then 1 else 160) j c)) else
    (if T i = 45 then opD 133 o i (dsD T NM d 5 (o + 1)) else if T i = 40 then (match opD 0 o i (dsD T NM d 0 (o + 1)) with
      | (j, none) => (j, none)
      | (j, some c) => if T j = 41 then (j + 1, some c) else (j, none)) else if T i = 2 then (i + 1, some [NM i]) else if 134 ≤ T i ∧ T i ≤ 139 then (i + 1, some [10000 + T i]) else (i, none)) := rfl
theorem okX_bz {σ : St} {la n i : Nat} {g : Nat → Int32} {R : Nat × Option (List Nat)} {O : Option (Int32 × St)} (h : okX σ la n i g R O) : ∃ r σ', O = some (r, σ') ∧ bz r = true := by
  obtain ⟨j, oc⟩ := R
  cases oc with
  | none => obtain ⟨_, _, n', g', h⟩ := h; exact ⟨0, _, h, rfl⟩
  | some c => obtain ⟨_, _, _, h⟩ := h; exact ⟨1, _, h, rfl⟩
theorem xds {N la : Nat} {T NM : Nat → Nat} {σ : St} (hN : 200 ≤ N) (hT : tkX T NM la σ) : ∀ (d L o i n : Nat) (g : Nat → Int32), L ≤ 5 → o ≤ 5 → 6 - L + 6 * (5 - o) ≤ d → i ≤ la → n ≤ i → okX σ la n i g (dsD T NM d L o i) (fRL N d (stX σ i n g) (nI L) (nI o)) := by
  have h160 := hT.1
  intro d
  induction d with
  | zero => intro L o i n g hL ho hd; omega
  | succ d ih =>
    intro L o i n g hL ho hd hi hn
    obtain ⟨e1, e2, e3⟩ := hT.2.1 i hi
    have e7 : (stX σ i n g).1 7 = nI i := rfl
    have x2 : ix ((stX σ i n g).1 7) 161 = true := by rw [e7]; exact ix_nI (by omega) (by decide)
    have x3 : aR (stX σ i n g) 52 ((stX σ i n g).1 7) = nI (T i) := by rw [e7, aR_nI (by omega)]; exact e1
    have tne : ∀ t, t < 256 → ¬ T i = t → ¬ nI (T i) = nI t := fun t ht q z => q ((nI_eq (by omega) (by omega)).mp z)
    show okX σ la n i g _ (fX8_readLevel N (fRL N d) (stX σ i n g) (nI L) (nI o))
    rw [dsD_s]
    by_cases hL5 : L < 5
    · rw [if_pos hL5]
      have xL : nI L < 5 := nI_lt (b := 5) hL5 (by decide)
      by_cases q : L = 2 ∧ T i = 132
      · rw [if_pos q]
        obtain ⟨rfl, q2⟩ := q
        have h := op_x (N := N) (Lr := 2) (d := d) (does := 132) (o := o) (n := n) (g := g) hT (by decide) (lt_la hT hi (by omega)) hn ho (fun ho5 => ih 2 (o + 1) (i + 1) n g (by omega) (by omega) (by omega) (lt_la hT hi (by omega)) (by omega))
        obtain ⟨r, σ', hO, hb⟩ := okX_bz h
        have e : fX8_readOpened N (fRL N d) (stX σ i n g) 132 2 (nI o) = some (r, σ') := hO
        rw [rl_not xL rfl x2 (by rw [x3, q2]; rfl) e hb]
        rw [← hO]; exact h
      · rw [if_neg q]
        have e41 : fX8_readLevel N (fRL N d) (stX σ i n g) (nI L) (nI o) = fX8_readLevel_41 N (fRL N d) (stX σ i n g) (nI L) (nI o) := by
          by_cases q2 : L = 2
          · subst q2
            exact rl_41a xL rfl x2 (by rw [x3]; exact tne 132 (by decide) (fun z => q ⟨rfl, z⟩))
          · exact rl_41b xL (fun z => q2 ((nI_eq (b := 2) (by omega) (by decide)).mp z))
        rw [e41]
        have h := ih (L + 1) o i n g (by omega) ho (by omega) hi hn
        generalize hR : dsD T NM d (L + 1) o i = R at h ⊢
        obtain ⟨j, oc⟩ := R
        cases oc with
        | none =>
          obtain ⟨h1, h2, n', g', h3⟩ := h
          show okX σ la n i g (j, none) _
          exact okX_none h1 h2 (r41_f (nI_1 L) h3)
        | some c =>
          obtain ⟨h1, h2, h3, h4⟩ := h
          show okX σ la n i g (lpD T L (dsD T NM d (L + 1) o) (if L = 2 then 1 else 160) j c) _
          rw [r41_k (nI_1 L) h4]
          have em : (if nI L = 2 then (1 : Int32) else 160) = nI (if L = 2 then 1 else 160) := by
            by_cases q2 : L = 2
            · subst q2; rfl
            · rw [if_neg q2, if_neg (show ¬ nI L = 2 from fun z => q2 ((nI_eq (b := 2) (by omega) (by decide)).mp z))]; rfl
          rw [em]
          exact lp_x (N := N) hT hL5 (show (if L = 2 then 1 else 160) ≤ 160 by split <;> omega) (fun i' n' g' a b => ih (L + 1) o i' n' g' (by omega) ho (by omega) a b) hn (if L = 2 then 1 else 160) N 0 j c (by omega) (by split <;> omega) h1 h2 h3
    · have hL5' : L = 5 := by omega
      subst hL5'
      rw [if_neg (by omega)]
      have xL : ¬ nI 5 < 5 := by decide
      have fin : ∀ R, okX σ la n i g R (fX8_readOne N (fRL N d) (stX σ i n g) (nI o)) → okX σ la n i g R (fX8_readLevel N (fRL N d) (stX σ i n g) (nI 5) (nI o)) := by
        intro R h
        obtain ⟨r, σ', hO, hb⟩ := okX_bz h
        rw [rl_one xL hO hb, ← hO]; exact h
      apply fin
      by_cases q1 : T i = 45
      · rw [if_pos q1]
        have h := op_x (N := N) (Lr := 5) (d := d) (does := 133) (o := o) (n := n) (g := g) hT (by decide) (lt_la hT hi (by omega)) hn ho (fun ho5 => ih 5 (o + 1) (i + 1) n g (by omega) (by omega) (by omega) (lt_la hT hi (by omega)) (by omega))
        obtain ⟨r, σ', hO, hb⟩ := okX_bz h
        have e : fX8_readOpened N (fRL N d) (stX σ i n g) 133 5 (nI o) = some (r, σ') := hO
        rw [r1_min x2 x3 (by rw [q1]; rfl) e hb, ← hO]; exact h
      · rw [if_neg q1]
        have n45 := tne 45 (by decide) q1
        by_cases q2 : T i = 40
        · rw [if_pos q2]
          have h := op_x (N := N) (Lr := 0) (d := d) (does := 0) (o := o) (n := n) (g := g) hT (by decide) (lt_la hT hi (by omega)) hn ho (fun ho5 => ih 0 (o + 1) (i + 1) n g (by omega) (by omega) (by omega) (lt_la hT hi (by omega)) (by omega))
          generalize hR : opD 0 o i (dsD T NM d 0 (o + 1)) = R at h ⊢
          obtain ⟨j, oc⟩ := R
          have e40 : nI (T i) = 40 := by rw [q2]; rfl
          cases oc with
          | none =>
            obtain ⟨h1, h2, n', g', h3⟩ := h
            show okX σ la n i g (j, none) _
            exact okX_none h1 h2 (r1_of x2 x3 n45 e40 h3)
          | some c =>
            obtain ⟨h1, h2, h3, h4⟩ := h
            show okX σ la n i g (if T j = 41 then (j + 1, some c) else (j, none)) _
            have ha := xaccept (N := N) (n := n + c.length) (g := ext g n c) (t := 41) hT h2 (by decide)
            by_cases q3 : T j = 41
            · rw [if_pos q3] at ha ⊢
              have := lt_la hT h2 (show 2 ≤ T j by omega)
              exact okX_some (by omega) (by omega) (by omega) (r1_oa x2 x3 n45 e40 h4 ha (Or.inr rfl))
            · rw [if_neg q3] at ha ⊢
              exact okX_none (by omega) h2 (r1_oa x2 x3 n45 e40 h4 ha (Or.inl rfl))
        · rw [if_neg q2]
          have n40 := tne 40 (by decide) q2
          by_cases q3 : T i = 2
          · rw [if_pos q3]
            obtain ⟨f1, f2⟩ := e3 q3
            have hil := lt_la hT hi (show 2 ≤ T i by omega)
            refine okX_some (by omega) (by omega) (by simp only [List.length_cons, List.length_nil]; omega) ?_
            have ew : aR (stX σ i n g) 54 ((stX σ i n g).1 7) = nI (NM i) := by rw [e7, aR_nI (by omega)]; exact f1
            rw [r1_num x2 x3 n45 n40 (by rw [q3]; rfl) ew (xemit (k := NM i) (by omega) (by unfold xcD; rw [if_pos f2])) (show (stX σ i (n + 1) (ext g n [NM i])).1 7 + 1 = nI (i + 1) from nI_1 i), stX_at]
            rfl
          · rw [if_neg q3]
            have n2 := tne 2 (by decide) q3
            by_cases q4 : 134 ≤ T i ∧ T i ≤ 139
            · rw [if_pos q4]
              have hil := lt_la hT hi (show 2 ≤ T i by omega)
              refine okX_some (by omega) (by omega) (by simp only [List.length_cons, List.length_nil]; omega) ?_
              rw [r1_nam x2 x3 n45 n40 n2 (wi_ne.mpr ⟨nI_le (a := 134) q4.1 (by omega), nI_le (b := 139) q4.2 (by decide)⟩) (xemit (by omega) (xcD_t (T i))) (show (stX σ i (n + 1) (ext g n [10000 + T i])).1 7 + 1 = nI (i + 1) from nI_1 i), stX_at]
              rfl
            · rw [if_neg q4]
              refine okX_none (Nat.le_refl _) hi (r1_bad x2 x3 n45 n40 n2 (wi_eq.mpr (fun z => q4 ⟨?_, ?_⟩)))
              · exact (nI_leI (a := 134) (by decide) (by omega)).mp z.1
              · exact (nI_leI (b := 139) (by omega) (by decide)).mp z.2
