/-! PURE: TEXT: the pieces of code, and how deep the stack is -/
def vP (x : Nat) : Prop := x < 10000 ∨ (10134 ≤ x ∧ x ≤ 10139) ∨ x = 10043 ∨ x = 10045 ∨ x = 10042 ∨ x = 10060 ∨ x = 10061 ∨ x = 10131 ∨ x = 10130 ∨ x = 10132 ∨ x = 10133
def dpR : List Nat → Nat → Option Nat
  | [], d => some d
  | x :: l, d => if x < 10000 ∨ 10134 ≤ x then dpR l (d + 1) else if x = 10132 ∨ x = 10133 then (if 1 ≤ d then dpR l d else none) else (if 2 ≤ d then dpR l (d - 1) else none)
theorem dpR_app : ∀ (l m : List Nat) (d e : Nat), dpR l d = some e → dpR (l ++ m) d = dpR m e
  | [], m, d, e, h => by
    have h : some d = some e := h
    rw [Option.some.inj h]; rfl
  | x :: l, m, d, e, h => by
    have h : (if x < 10000 ∨ 10134 ≤ x then dpR l (d + 1) else if x = 10132 ∨ x = 10133 then (if 1 ≤ d then dpR l d else none) else (if 2 ≤ d then dpR l (d - 1) else none)) = some e := h
    show (if x < 10000 ∨ 10134 ≤ x then dpR (l ++ m) (d + 1) else if x = 10132 ∨ x = 10133 then (if 1 ≤ d then dpR (l ++ m) d else none) else (if 2 ≤ d then dpR (l ++ m) (d - 1) else none)) = _
    by_cases q : x < 10000 ∨ 10134 ≤ x
    · rw [if_pos q] at h ⊢; exact dpR_app l m (d + 1) e h
    · rw [if_neg q] at h ⊢
      by_cases q2 : x = 10132 ∨ x = 10133
      · rw [if_pos q2] at h ⊢
        by_cases q3 : 1 ≤ d
        · rw [if_pos q3] at h ⊢; exact dpR_app l m d e h
        · rw [if_neg q3] at h; cases h
      · rw [if_neg q2] at h ⊢
        by_cases q3 : 2 ≤ d
        · rw [if_pos q3] at h ⊢; exact dpR_app l m (d - 1) e h
        · rw [if_neg q3] at h; cases h
/-- code that is good: its pieces are such, and it leaves one more -/
def gdC (c : List Nat) : Prop := (∀ x, x ∈ c → vP x) ∧ ∀ d, dpR c d = some (d + 1)
theorem gd_1 {x : Nat} (h : x < 10000 ∨ (10134 ≤ x ∧ x ≤ 10139)) : gdC [x] := by
  refine ⟨fun y hy => ?_, fun d => ?_⟩
  · rw [List.mem_singleton.mp hy]
    exact h.imp id Or.inl
  · show (if x < 10000 ∨ 10134 ≤ x then dpR [] (d + 1) else _) = _
    rw [if_pos (by omega)]; rfl
theorem gd_u {x : Nat} {c : List Nat} (h : gdC c) (hx : x = 10132 ∨ x = 10133) : gdC (c ++ [x]) := by
  refine ⟨fun y hy => ?_, fun d => ?_⟩
  · rcases List.mem_append.mp hy with hy | hy
    · exact h.1 y hy
    · rw [List.mem_singleton.mp hy]; unfold vP; omega
  · rw [dpR_app c [x] d (d + 1) (h.2 d)]
    show (if x < 10000 ∨ 10134 ≤ x then dpR [] (d + 1 + 1) else if x = 10132 ∨ x = 10133 then (if 1 ≤ d + 1 then dpR [] (d + 1) else none) else _) = _
    rw [if_neg (by omega), if_pos hx, if_pos (by omega)]; rfl
theorem gd_b {t : Nat} {c c' : List Nat} (h : gdC c) (h' : gdC c') (hx : t = 43 ∨ t = 45 ∨ t = 42 ∨ t = 60 ∨ t = 61 ∨ t = 131 ∨ t = 130) : gdC (c ++ (c' ++ [10000 + t])) := by
  refine ⟨fun y hy => ?_, fun d => ?_⟩
  · rcases List.mem_append.mp hy with hy | hy
    · exact h.1 y hy
    · rcases List.mem_append.mp hy with hy | hy
      · exact h'.1 y hy
      · rw [List.mem_singleton.mp hy]; unfold vP; omega
  · rw [dpR_app c _ d (d + 1) (h.2 d), dpR_app c' _ (d + 1) (d + 1 + 1) (h'.2 (d + 1))]
    show (if 10000 + t < 10000 ∨ 10134 ≤ 10000 + t then dpR [] (d + 1 + 1 + 1) else if 10000 + t = 10132 ∨ 10000 + t = 10133 then _ else (if 2 ≤ d + 1 + 1 then dpR [] (d + 1 + 1 - 1) else none)) = _
    rw [if_neg (by omega), if_neg (by omega), if_pos (by omega)]; rfl
theorem lp_gd {T : Nat → Nat} {L : Nat} {r : Nat → Nat × Option (List Nat)} (hL : L < 5) (hr : ∀ i j c, r i = (j, some c) → gdC c) : ∀ (m j : Nat) (c : List Nat) (k : Nat) (c2 : List Nat), gdC c → lpD T L r m j c = (k, some c2) → gdC c2
  | 0, j, c, k, c2, hc, h => by
    have h : (j, some c) = (k, some c2) := h
    have := Option.some.inj (Prod.mk.inj h).2
    rw [← this]; exact hc
  | m + 1, j, c, k, c2, hc, h => by
    have h : (if sgn L (T j) then (match r (j + 1) with | (j', none) => (j', none) | (j', some c') => lpD T L r m j' (c ++ (c' ++ [10000 + T j]))) else (j, some c)) = (k, some c2) := h
    cases hs : sgn L (T j) with
    | false =>
      rw [hs, if_neg (by decide)] at h
      have := Option.some.inj (Prod.mk.inj h).2
      rw [← this]; exact hc
    | true =>
      rw [hs, if_pos rfl] at h
      have hr1 := hr (j + 1)
      generalize r (j + 1) = R at h hr1
      obtain ⟨j', oc⟩ := R
      cases oc with
      | none =>
        have h : (j', none) = (k, some c2) := h
        have := (Prod.mk.inj h).2
        cases this
      | some c' =>
        have h : lpD T L r m j' (c ++ (c' ++ [10000 + T j])) = (k, some c2) := h
        refine lp_gd hL hr m j' _ k c2 (gd_b hc (hr1 j' c' rfl) ?_) h
        rcases sgn_t hs with q | q | q | q | q <;> omega
theorem op_gd {does o i j : Nat} {r : Nat → Nat × Option (List Nat)} {c : List Nat} (hd : does = 0 ∨ does = 132 ∨ does = 133) (hr : ∀ i j c, r i = (j, some c) → gdC c) (h : opD does o i r = (j, some c)) : gdC c := by
  unfold opD at h
  by_cases q : o < 5
  · rw [if_pos q] at h
    have hr1 := hr (i + 1)
    generalize r (i + 1) = R at h hr1
    obtain ⟨j', oc⟩ := R
    cases oc with
    | none =>
      have h : (j', none) = (j, some c) := h
      have := (Prod.mk.inj h).2
      cases this
    | some c' =>
      have h : (j', some (if does = 0 then c' else c' ++ [10000 + does])) = (j, some c) := h
      have := Option.some.inj (Prod.mk.inj h).2
      rw [← this]
      by_cases z : does = 0
      · rw [if_pos z]; exact hr1 j' c' rfl
      · rw [if_neg z]; exact gd_u (hr1 j' c' rfl) (by omega)
  · rw [if_neg q] at h
    have := (Prod.mk.inj h).2
    cases this
theorem ds_gd {T NM : Nat → Nat} (hn : ∀ i, T i = 2 → NM i < 10000) : ∀ (d L o i j : Nat) (c : List Nat), dsD T NM d L o i = (j, some c) → gdC c := by
  intro d
  induction d with
  | zero =>
    intro L o i j c h
    have h : (i, none) = (j, some c) := h
    have := (Prod.mk.inj h).2
    cases this
  | succ d ih =>
    intro L o i j c h
    rw [dsD_s] at h
    by_cases hL : L < 5
    · rw [if_pos hL] at h
      by_cases q : L = 2 ∧ T i = 132
      · rw [if_pos q] at h
        exact op_gd (Or.inr (Or.inl rfl)) (fun i j c => ih 2 (o + 1) i j c) h
      · rw [if_neg q] at h
        have h1 := ih (L + 1) o i
        generalize dsD T NM d (L + 1) o i = R at h h1
        obtain ⟨j', oc⟩ := R
        cases oc with
        | none =>
          have h : (j', none) = (j, some c) := h
          have := (Prod.mk.inj h).2
          cases this
        | some c' =>
          have h : lpD T L (dsD T NM d (L + 1) o) (if L = 2 then 1 else 160) j' c' = (j, some c) := h
          exact lp_gd hL (fun i j c => ih (L + 1) o i j c) _ j' c' j c (h1 j' c' rfl) h
    · rw [if_neg hL] at h
      by_cases q1 : T i = 45
      · rw [if_pos q1] at h
        exact op_gd (Or.inr (Or.inr rfl)) (fun i j c => ih 5 (o + 1) i j c) h
      rw [if_neg q1] at h
      by_cases q2 : T i = 40
      · rw [if_pos q2] at h
        have h1 : ∀ j' c', opD 0 o i (dsD T NM d 0 (o + 1)) = (j', some c') → gdC c' := fun j' c' => op_gd (Or.inl rfl) (fun i j c => ih 0 (o + 1) i j c)
        generalize opD 0 o i (dsD T NM d 0 (o + 1)) = R at h h1
        obtain ⟨j', oc⟩ := R
        cases oc with
        | none =>
          have h : (j', none) = (j, some c) := h
          have := (Prod.mk.inj h).2
          cases this
        | some c' =>
          have h : (if T j' = 41 then (j' + 1, some c') else (j', none)) = (j, some c) := h
          by_cases q : T j' = 41
          · rw [if_pos q] at h
            have := Option.some.inj (Prod.mk.inj h).2
            rw [← this]; exact h1 j' c' rfl
          · rw [if_neg q] at h
            have := (Prod.mk.inj h).2
            cases this
      rw [if_neg q2] at h
      by_cases q3 : T i = 2
      · rw [if_pos q3] at h
        have := Option.some.inj (Prod.mk.inj h).2
        rw [← this]; exact gd_1 (Or.inl (hn i q3))
      rw [if_neg q3] at h
      by_cases q4 : 134 ≤ T i ∧ T i ≤ 139
      · rw [if_pos q4] at h
        have := Option.some.inj (Prod.mk.inj h).2
        rw [← this]; exact gd_1 (Or.inr (by omega))
      · rw [if_neg q4] at h
        have := (Prod.mk.inj h).2
        cases this
theorem rp_gd {T NM : Nat → Nat} (hn : ∀ i, T i = 2 → NM i < 10000) {j : Nat} {c c' : List Nat} (h : rpD T NM = (j, some (c, c'))) : gdC c ∧ gdC c' := by
  unfold rpD at h
  by_cases q0 : T 0 = 128
  · rw [if_pos q0] at h
    have h1 := ds_gd hn 60 0 0 1
    generalize dsD T NM 60 0 0 1 = R at h h1
    obtain ⟨j1, oc⟩ := R
    cases oc with
    | none =>
      have h : (j1, none) = (j, some (c, c')) := h
      have := (Prod.mk.inj h).2
      cases this
    | some c1 =>
      have h : (if T j1 = 59 then (if T (j1 + 1) = 129 then rpb T c1 (dsD T NM 60 0 0 (j1 + 2)) else (j1 + 1, none)) else (j1, none)) = (j, some (c, c')) := h
      by_cases q1 : T j1 = 59
      · rw [if_pos q1] at h
        by_cases q2 : T (j1 + 1) = 129
        · rw [if_pos q2] at h
          have h2 := ds_gd hn 60 0 0 (j1 + 2)
          generalize dsD T NM 60 0 0 (j1 + 2) = R2 at h h2
          obtain ⟨j2, oc2⟩ := R2
          cases oc2 with
          | none =>
            have h : (j2, none) = (j, some (c, c')) := h
            have := (Prod.mk.inj h).2
            cases this
          | some c2 =>
            have h : (if T j2 = 59 then (if T (j2 + 1) = 0 then (j2 + 1, some (c1, c2)) else (j2 + 1, none)) else (j2, none)) = (j, some (c, c')) := h
            by_cases q3 : T j2 = 59
            · rw [if_pos q3] at h
              by_cases q4 : T (j2 + 1) = 0
              · rw [if_pos q4] at h
                have := Prod.mk.inj (Option.some.inj (Prod.mk.inj h).2)
                rw [← this.1, ← this.2]
                exact ⟨h1 j1 c1 rfl, h2 j2 c2 rfl⟩
              · rw [if_neg q4] at h
                have := (Prod.mk.inj h).2
                cases this
            · rw [if_neg q3] at h
              have := (Prod.mk.inj h).2
              cases this
        · rw [if_neg q2] at h
          have := (Prod.mk.inj h).2
          cases this
      · rw [if_neg q1] at h
        have := (Prod.mk.inj h).2
        cases this
  · rw [if_neg q0] at h
    have := (Prod.mk.inj h).2
    cases this
theorem cr_of {x : Nat} (h : vP x) : cr (xcD x) (mcD x) := by
  unfold cr
  rcases h with h | ⟨h1, h2⟩ | h | h | h | h | h | h | h | h | h
  · refine Or.inl ⟨?_, ?_⟩
    · unfold xcD
      rw [if_pos h]
      exact rg_nI (by omega) (by omega)
    · unfold xcD mcD
      rw [if_pos h, if_pos h]
  · refine Or.inr (Or.inl ⟨x - 10134, by omega, ?_, ?_⟩)
    · unfold xcD
      rw [if_neg (by omega), show 134 + (x - 10134) = x - 10000 by omega]
    · unfold mcD
      rw [if_neg (by omega), if_pos (by omega)]
  · subst h; exact Or.inr (Or.inr (Or.inl ⟨by decide, by decide⟩))
  · subst h; exact Or.inr (Or.inr (Or.inr (Or.inl ⟨by decide, by decide⟩)))
  · subst h; exact Or.inr (Or.inr (Or.inr (Or.inr (Or.inl ⟨by decide, by decide⟩))))
  · subst h; exact Or.inr (Or.inr (Or.inr (Or.inr (Or.inr (Or.inl ⟨by decide, by decide⟩)))))
  · subst h; exact Or.inr (Or.inr (Or.inr (Or.inr (Or.inr (Or.inr (Or.inl ⟨by decide, by decide⟩))))))
  · subst h; exact Or.inr (Or.inr (Or.inr (Or.inr (Or.inr (Or.inr (Or.inr (Or.inl ⟨by decide, by decide⟩)))))))
  · subst h; exact Or.inr (Or.inr (Or.inr (Or.inr (Or.inr (Or.inr (Or.inr (Or.inr (Or.inl ⟨by decide, by decide⟩))))))))
  · subst h; exact Or.inr (Or.inr (Or.inr (Or.inr (Or.inr (Or.inr (Or.inr (Or.inr (Or.inr (Or.inl ⟨by decide, by decide⟩)))))))))
  · subst h; exact Or.inr (Or.inr (Or.inr (Or.inr (Or.inr (Or.inr (Or.inr (Or.inr (Or.inr (Or.inr ⟨by decide, by decide⟩)))))))))
def okS (y : Int32) (d e : Nat) : Prop := (y < 6 ∧ e = d + 1) ∨ ((y = 13 ∨ y = 14) ∧ 1 ≤ d ∧ e = d) ∨ ((6 ≤ y ∧ y ≤ 12) ∧ 2 ≤ d ∧ e + 1 = d)
theorem okS_of {x d e : Nat} {l : List Nat} (h : vP x) (hd : dpR (x :: l) d = some e) : ∃ d', okS (mcD x) d d' ∧ dpR l d' = some e := by
  have hd : (if x < 10000 ∨ 10134 ≤ x then dpR l (d + 1) else if x = 10132 ∨ x = 10133 then (if 1 ≤ d then dpR l d else none) else (if 2 ≤ d then dpR l (d - 1) else none)) = some e := hd
  by_cases q : x < 10000 ∨ 10134 ≤ x
  · rw [if_pos q] at hd
    refine ⟨d + 1, Or.inl ⟨?_, rfl⟩, hd⟩
    by_cases q1 : x < 10000
    · unfold mcD
      rw [if_pos q1, Int32.lt_iff_toInt_lt, Int32.toInt_sub, nI_toInt (show x < 2 ^ 31 by omega), show (-1 : Int32).toInt = -1 from rfl, show (6 : Int32).toInt = 6 from rfl, Int.bmod_eq_of_le (by omega) (by omega)]
      omega
    · unfold mcD
      have : x ≤ 10139 := by unfold vP at h; omega
      rw [if_neg q1, if_pos (by omega)]
      exact nI_lt (b := 6) (by omega) (by decide)
  · rw [if_neg q] at hd
    by_cases q2 : x = 10132 ∨ x = 10133
    · rw [if_pos q2] at hd
      by_cases q3 : 1 ≤ d
      · rw [if_pos q3] at hd
        refine ⟨d, Or.inr (Or.inl ⟨?_, q3, rfl⟩), hd⟩
        rcases q2 with rfl | rfl
        · exact Or.inl (by decide)
        · exact Or.inr (by decide)
      · rw [if_neg q3] at hd; cases hd
    · rw [if_neg q2] at hd
      by_cases q3 : 2 ≤ d
      · rw [if_pos q3] at hd
        refine ⟨d - 1, Or.inr (Or.inr ⟨?_, q3, by omega⟩), hd⟩
        have h : x = 10043 ∨ x = 10045 ∨ x = 10042 ∨ x = 10060 ∨ x = 10061 ∨ x = 10131 ∨ x = 10130 := by unfold vP at h; omega
        rcases h with rfl | rfl | rfl | rfl | rfl | rfl | rfl <;> decide
      · rw [if_neg q3] at hd; cases hd
theorem okC_l : ∀ (c : List Nat) (d e : Nat), (∀ x, x ∈ c → vP x) → dpR c d = some e → ∃ dp : Nat → Nat, dp 0 = d ∧ dp c.length = e ∧ ∀ k x, c[k]? = some x → okS (mcD x) (dp k) (dp (k + 1))
  | [], d, e, _, h => by
    have h : some d = some e := h
    exact ⟨fun _ => d, rfl, Option.some.inj h, fun k x hx => by simp at hx⟩
  | x :: l, d, e, hv, h => by
    obtain ⟨d', h1, h2⟩ := okS_of (hv x (List.mem_cons_self ..)) h
    obtain ⟨dp, i1, i2, i3⟩ := okC_l l d' e (fun y hy => hv y (List.mem_cons_of_mem _ hy)) h2
    refine ⟨fun k => match k with | 0 => d | k + 1 => dp k, rfl, i2, fun k y hy => ?_⟩
    cases k with
    | zero =>
      have hy : some x = some y := hy
      rw [← Option.some.inj hy]
      show okS (mcD x) d (dp 0)
      rw [i1]; exact h1
    | succ k => exact i3 k y hy
theorem okC_of {f : Nat → Int32} {c : List Nat} (h : gdC c) (hf : ∀ k x, c[k]? = some x → f k = mcD x) : okC f c.length := by
  obtain ⟨dp, i1, i2, i3⟩ := okC_l c 0 1 h.1 (h.2 0)
  refine ⟨dp, i1, i2, fun k hk => ?_⟩
  have hx : c[k]? = some c[k] := List.getElem?_eq_getElem hk
  have h3 := i3 k _ hx
  rw [hf k _ hx]
  exact h3
