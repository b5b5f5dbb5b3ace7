/-! PURE: the model's orders, one by one -/
theorem o81_s {N f : Nat} {σ : St} {k33 : St → Int32 → Int32 → Int32 → Int32 → Int32 → Option St} {x1 x3 x4 x5 x6 x7 x8 : Int32} : fX12_orderOf_81 N k33 (f + 1) σ x1 x3 x4 x5 x6 x7 x8 = fX12_orderOf_81b N k33 (fX12_orderOf_81 N k33 f) σ x1 x3 x4 x5 x6 x7 x8 := rfl
theorem o81_used {N : Nat} {σ : St} {k33 : St → Int32 → Int32 → Int32 → Int32 → Int32 → Option St} {k81 : St → Int32 → Int32 → Int32 → Int32 → Int32 → Int32 → Int32 → Option St} {x1 x3 x4 x5 x6 x7 x8 c : Int32} (hb : (x3 >>> (x8 &&& 31)) &&& 1 = c) (hc : c = 1) : fX12_orderOf_81b N k33 k81 σ x1 x3 x4 x5 x6 x7 x8 = k81 σ x1 x3 x4 x5 x6 (x7 - 0) (x8 + 1) := by
  subst hb
  refine (if_pos hc).trans ?_
  exact if_neg (fun z => by rw [hc] at z; exact absurd z (by decide))
theorem o81_skip {N : Nat} {σ : St} {k33 : St → Int32 → Int32 → Int32 → Int32 → Int32 → Option St} {k81 : St → Int32 → Int32 → Int32 → Int32 → Int32 → Int32 → Int32 → Option St} {x1 x3 x4 x5 x6 x7 x8 c : Int32} (hb : (x3 >>> (x8 &&& 31)) &&& 1 = c) (hc : c = 0) (h7 : ¬ x7 ≤ 0) : fX12_orderOf_81b N k33 k81 σ x1 x3 x4 x5 x6 x7 x8 = k81 σ x1 x3 x4 x5 x6 (x7 - 1) (x8 + 1) := by
  subst hb
  refine (if_neg (fun z => by rw [hc] at z; exact absurd z (by decide))).trans ((if_neg h7).trans ?_)
  exact if_pos hc
theorem o81_take {N : Nat} {σ : St} {k33 : St → Int32 → Int32 → Int32 → Int32 → Int32 → Option St} {k81 : St → Int32 → Int32 → Int32 → Int32 → Int32 → Int32 → Int32 → Option St} {x1 x3 x4 x5 x6 x7 x8 c v : Int32} (hb : (x3 >>> (x8 &&& 31)) &&& 1 = c) (hc : c = 0) (h7 : x7 ≤ 0) (hv : x3 ||| ((1 : Int32) <<< (x8 &&& 31)) = v) (h6 : ix x6 6 = true) : fX12_orderOf_81b N k33 k81 σ x1 x3 x4 x5 x6 x7 x8 = k33 (aW σ 50 x6 x8) x1 v x4 x5 (x6 + 1) := by
  subst hb
  subst hv
  refine (if_neg (fun z => by rw [hc] at z; exact absurd z (by decide))).trans ((if_pos h7).trans ?_)
  exact if_pos h6
theorem o81_loop {N u k : Nat} {σ : St} {k33 : St → Int32 → Int32 → Int32 → Int32 → Int32 → Option St} {x1 x4 x5 : Int32} (hu : u < 2 ^ 20) (hk : k < 6) : ∀ (g f sk at' r : Nat), at' + g ≤ 20 → g ≤ f → sk < 2 ^ 30 → srO u g sk at' = some r → r < 20 ∧ fX12_orderOf_81 N k33 f σ x1 (nI u) x4 x5 (nI k) (nI sk) (nI at') = k33 (sA σ 50 (upd (σ.2.1 50) k (nI r))) x1 (nI (u ||| 2 ^ r)) x4 x5 (nI (k + 1)) := by
  intro g
  induction g with
  | zero => intro f sk at' r _ _ _ h; cases h
  | succ g ih =>
    intro f sk at' r ha hf hsk h
    cases f with
    | zero => omega
    | succ f =>
      have hb := shr_bt (b := u) (i := at') (by omega) (by omega)
      have h : (if u.testBit at' then srO u g sk (at' + 1) else if sk = 0 then some at' else srO u g (sk - 1) (at' + 1)) = some r := h
      rw [o81_s]
      cases hbt : u.testBit at' with
      | true =>
        rw [hbt] at hb h
        rw [if_pos rfl] at h
        rw [o81_used hb rfl, Int32.sub_zero, nI_1]
        exact ih f sk (at' + 1) r (by omega) (by omega) hsk h
      | false =>
        rw [hbt] at hb h
        rw [if_neg (by decide)] at h
        by_cases q : sk = 0
        · rw [if_pos q] at h
          have er : at' = r := Option.some.inj h
          subst er
          subst q
          have hp : 2 ^ at' < 2 ^ 20 := Nat.pow_lt_pow_right (by decide) (by omega)
          refine ⟨by omega, ?_⟩
          rw [o81_take (v := nI (u ||| 2 ^ at')) hb rfl (by decide) (by rw [shl_nI (by omega), or_nI (by omega) (by omega)]) (ix_nI hk (by decide)), aW_nI (by omega), nI_1]
        · rw [if_neg q] at h
          rw [o81_skip hb rfl (nI_nle (by omega) (by omega)), show (1 : Int32) = nI 1 from rfl, pk_sub (by omega), nI_add]
          exact ih f (sk - 1) (at' + 1) r (by omega) (by omega) (by omega) h
theorem o33_s {N f : Nat} {σ : St} {x1 x3 x4 x5 x6 : Int32} : fX12_orderOf_33 N (f + 1) σ x1 x3 x4 x5 x6 = fX12_orderOf_33b N (fX12_orderOf_33 N f) σ x1 x3 x4 x5 x6 := rfl
theorem o33_end {N : Nat} {σ : St} {k33 : St → Int32 → Int32 → Int32 → Int32 → Int32 → Option St} {x1 x3 x4 x5 x6 : Int32} (h : x1 ≤ x6) : fX12_orderOf_33b N k33 σ x1 x3 x4 x5 x6 = some σ := if_pos h
theorem o33_1 {N : Nat} {σ : St} {k33 : St → Int32 → Int32 → Int32 → Int32 → Int32 → Option St} {x1 x3 x4 x5 x6 sk lf z : Int32} (h : ¬ x1 ≤ x6) (h5 : ¬ x5 = 0) (hs : x4 / x5 = sk) (hl : x4 - x4 / x5 * x5 = lf) (hz : (x1 - 1) - x6 = z) (hz1 : z ≤ 1) : fX12_orderOf_33b N k33 σ x1 x3 x4 x5 x6 = fX12_orderOf_81 N k33 N σ x1 x3 lf 1 x6 sk 0 := by
  subst hs
  subst hl
  subst hz
  exact (if_neg h).trans ((if_pos h5).trans ((if_pos h5).trans (if_pos hz1)))
theorem o33_2 {N : Nat} {σ : St} {k33 : St → Int32 → Int32 → Int32 → Int32 → Int32 → Option St} {x1 x3 x4 x5 x6 sk lf z bs : Int32} (h : ¬ x1 ≤ x6) (h5 : ¬ x5 = 0) (hs : x4 / x5 = sk) (hl : x4 - x4 / x5 * x5 = lf) (hz : (x1 - 1) - x6 = z) (hz1 : ¬ z ≤ 1) (hz0 : ¬ z = 0) (hbs : x5 / z = bs) : fX12_orderOf_33b N k33 σ x1 x3 x4 x5 x6 = fX12_orderOf_81 N k33 N σ x1 x3 lf bs x6 sk 0 := by
  subst hs
  subst hl
  subst hbs
  subst hz
  exact (if_neg h).trans ((if_pos h5).trans ((if_pos h5).trans ((if_neg hz1).trans (if_pos hz0))))
/-- bases that serve all the way down -/
def okB : Nat → Nat → Prop
  | 0, _ => True
  | m + 1, base => 0 < base ∧ base < 2 ^ 30 ∧ okB m (if m ≤ 1 then 1 else base / m)
theorem okB_F : ∀ n, n < 7 → okB n (bsN n) := by
  intro n hn
  rcases (show n = 0 ∨ n = 1 ∨ n = 2 ∨ n = 3 ∨ n = 4 ∨ n = 5 ∨ n = 6 by omega) with rfl | rfl | rfl | rfl | rfl | rfl | rfl
  · trivial
  · exact ⟨by decide, by decide, trivial⟩
  · exact ⟨by decide, by decide, by decide, by decide, trivial⟩
  · exact ⟨by decide, by decide, by decide, by decide, by decide, by decide, trivial⟩
  · exact ⟨by decide, by decide, by decide, by decide, by decide, by decide, by decide, by decide, trivial⟩
  · exact ⟨by decide, by decide, by decide, by decide, by decide, by decide, by decide, by decide, by decide, by decide, trivial⟩
  · exact ⟨by decide, by decide, by decide, by decide, by decide, by decide, by decide, by decide, by decide, by decide, by decide, by decide, trivial⟩
theorem dec_loop {N n : Nat} {σ : St} (hN : 200 ≤ N) (hn : n ≤ 6) : ∀ (m f k u left base : Nat) (l : List Nat) (g : Nat → Int32), k + m = n → m < f → u < 2 ^ 20 → left < 2 ^ 30 → okB m base → dcO m u left base = some l → ∃ g', fX12_orderOf_33 N f (sA σ 50 g) (nI n) (nI u) (nI left) (nI base) (nI k) = some (sA σ 50 g') ∧ (∀ i, i < k → g' i = g i) ∧ l.length = m ∧ ∀ i r, l[i]? = some r → g' (k + i) = nI r := by
  intro m
  induction m with
  | zero =>
    intro f k u left base l g hk hf hu hl hB h
    cases f with
    | zero => omega
    | succ f =>
      have : ([] : List Nat) = l := Option.some.inj h
      subst this
      refine ⟨g, ?_, fun _ _ => rfl, rfl, fun i r q => ?_⟩
      · rw [o33_s, o33_end (nI_le (by omega) (by omega))]
      · simp at q
  | succ m ih =>
    intro f k u left base l g hk hf hu hl hB h
    cases f with
    | zero => omega
    | succ f =>
      obtain ⟨b1, b2, b3⟩ := hB
      have hdv : left / base ≤ left := Nat.div_le_self _ _
      have hmd : left % base < base := Nat.mod_lt _ b1
      have h : (match srO u 20 (left / base) 0 with | none => none | some r => match dcO m (u ||| 2 ^ r) (left % base) (if m ≤ 1 then 1 else base / m) with | none => none | some l => some (r :: l)) = some l := h
      cases hs : srO u 20 (left / base) 0 with
      | none => rw [hs] at h; cases h
      | some r =>
        rw [hs] at h
        have h : (match dcO m (u ||| 2 ^ r) (left % base) (if m ≤ 1 then 1 else base / m) with | none => none | some l => some (r :: l)) = some l := h
        cases hd : dcO m (u ||| 2 ^ r) (left % base) (if m ≤ 1 then 1 else base / m) with
        | none => rw [hd] at h; cases h
        | some l' =>
          rw [hd] at h
          have : r :: l' = l := Option.some.inj h
          subst this
          have x1 : ¬ nI n ≤ nI k := nI_ge (by omega) (by omega)
          have x5 : ¬ nI base = 0 := nI_ne0 b1 (by omega)
          have xz : (nI n - 1) - nI k = nI m := by rw [show (1 : Int32) = nI 1 from rfl, pk_sub (by omega), pk_sub (by omega)]; exact congrArg nI (by omega)
          have key : fX12_orderOf_33b N (fX12_orderOf_33 N f) (sA σ 50 g) (nI n) (nI u) (nI left) (nI base) (nI k) = fX12_orderOf_81 N (fX12_orderOf_33 N f) N (sA σ 50 g) (nI n) (nI u) (nI (left % base)) (nI (if m ≤ 1 then 1 else base / m)) (nI k) (nI (left / base)) 0 := by
            by_cases q : m ≤ 1
            · rw [if_pos q]
              exact o33_1 x1 x5 (pk_div (by omega) b1 (by omega)) (pk_rem (by omega) b1 (by omega)) xz (nI_le (b := 1) q (by decide))
            · rw [if_neg q]
              exact o33_2 x1 x5 (pk_div (by omega) b1 (by omega)) (pk_rem (by omega) b1 (by omega)) xz (nI_ge (a := 1) (b := m) (by omega) (by omega)) (nI_ne0 (by omega) (by omega)) (pk_div (by omega) (by omega) (by omega))
          obtain ⟨hr, e1⟩ := o81_loop (N := N) (σ := sA σ 50 g) (k33 := fX12_orderOf_33 N f) (x1 := nI n) (x4 := nI (left % base)) (x5 := nI (if m ≤ 1 then 1 else base / m)) hu (show k < 6 by omega) 20 N (left / base) 0 r (by omega) (by omega) (by omega) hs
          have hp : 2 ^ r < 2 ^ 20 := Nat.pow_lt_pow_right (by decide) hr
          rw [sA_sA, show (sA σ 50 g).2.1 50 = g from rfl] at e1
          obtain ⟨g', z1, z2, z3, z4⟩ := ih f (k + 1) (u ||| 2 ^ r) (left % base) (if m ≤ 1 then 1 else base / m) l' (upd g k (nI r)) (by omega) (by omega) (Nat.or_lt_two_pow hu hp) (by omega) b3 hd
          refine ⟨g', ?_, fun i hi => ?_, by rw [List.length_cons, z3], fun i r' q => ?_⟩
          · rw [o33_s, key, show fX12_orderOf_81 N (fX12_orderOf_33 N f) N (sA σ 50 g) (nI n) (nI u) (nI (left % base)) (nI (if m ≤ 1 then 1 else base / m)) (nI k) (nI (left / base)) 0 = _ from e1]
            exact z1
          · rw [z2 i (by omega), pk_un (by omega)]
          · cases i with
            | zero =>
              have : r = r' := Option.some.inj q
              subst this
              rw [Nat.add_zero, z2 k (by omega), up_s]
            | succ i =>
              have := z4 i r' q
              rw [show k + 1 + i = k + (i + 1) by omega] at this
              exact this
theorem o11_e {N M : Nat} {σ : St} {x4 : Int32} : ∀ n, n < 7 → fX12_orderOf_11 N (M + 10) σ (nI n) 0 x4 1 2 = fX12_orderOf_33 N N σ (nI n) 0 x4 (nI (bsN n)) 0
  | 0, _ => rfl
  | 1, _ => rfl
  | 2, _ => rfl
  | 3, _ => rfl
  | 4, _ => rfl
  | 5, _ => rfl
  | 6, _ => rfl
  | n + 7, h => by omega
theorem morder {N n w : Nat} {σ : St} {l : List Nat} (hN : 200 ≤ N) (hn : n < 7) (hw : w < 2 ^ 30) (h : dcO n 0 w (bsN n) = some l) : ∃ g, fX12_orderOf N σ (nI n) (nI w) = some (sA σ 50 g) ∧ l.length = n ∧ ∀ i r, l[i]? = some r → g i = nI r := by
  obtain ⟨M, hM⟩ : ∃ M, N = M + 10 := ⟨N - 10, by omega⟩
  have e : fX12_orderOf N σ (nI n) (nI w) = fX12_orderOf_33 N N σ (nI n) 0 (nI w) (nI (bsN n)) 0 := by
    show fX12_orderOf_11 N N σ (nI n) 0 (nI w) 1 2 = _
    have := o11_e (N := N) (M := M) (σ := σ) (x4 := nI w) n hn
    rw [← hM] at this
    exact this
  obtain ⟨g, z1, _, z3, z4⟩ := dec_loop (N := N) (n := n) (σ := σ) hN (by omega) n N 0 0 w (bsN n) l (σ.2.1 50) (by omega) (by omega) (by decide) hw (okB_F n hn) h
  rw [sA_self] at z1
  exact ⟨g, e.trans z1, z3, fun i r q => by have := z4 i r q; rw [Nat.zero_add] at this; exact this⟩
