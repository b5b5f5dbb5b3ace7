/-! PURE: TEXT: what waits in the model -/
def rk (t : Nat) : Nat := if t = 130 then 1 else if t = 131 then 2 else if t = 132 then 3 else if t = 60 then 4 else if t = 61 then 4 else if t = 43 then 5 else if t = 45 then 5 else if t = 42 then 6 else if t = 133 then 7 else 0
def opc (t : Nat) : Nat := if t = 43 then 6 else if t = 45 then 7 else if t = 42 then 8 else if t = 60 then 9 else if t = 61 then 10 else if t = 131 then 11 else if t = 130 then 12 else if t = 132 then 13 else if t = 133 then 14 else 15
/-- TOKENS that may wait -/
def wtT (t : Nat) : Prop := t = 43 ∨ t = 45 ∨ t = 42 ∨ t = 60 ∨ t = 61 ∨ t = 131 ∨ t = 130 ∨ t = 132 ∨ t = 133 ∨ t = 40
theorem wt_e {t : Nat} (h : wtT t) : fX12_rank (nI (opc t)) = nI (rk t) ∧ opc t < 16 ∧ (nI (opc t) = 15 ↔ t = 40) ∧ (nI (opc t) = 13 ↔ t = 132) ∧ (nI (opc t) = 14 ↔ t = 133) ∧ rk t ≤ 7 ∧ t < 256 := by
  rcases h with rfl | rfl | rfl | rfl | rfl | rfl | rfl | rfl | rfl | rfl <;> decide
/-- a piece of code, the model's -/
def mcD (k : Nat) : Int32 := if k < 10000 then -1 - nI k else if 10134 ≤ k then nI (k - 10134) else nI (opc (k - 10000))
def fl (r : Nat) : List Nat → List Nat → List Nat × List Nat
  | [], E => ([], E)
  | t :: W, E => if t = 40 ∨ rk t < r then (t :: W, E) else fl r W (E ++ [10000 + t])
theorem fl_fl {r r' : Nat} (h : r ≤ r') : ∀ (W E : List Nat), fl r (fl r' W E).1 (fl r' W E).2 = fl r W E
  | [], E => rfl
  | t :: W, E => by
    show fl r (if t = 40 ∨ rk t < r' then (t :: W, E) else fl r' W (E ++ [10000 + t])).1 (if t = 40 ∨ rk t < r' then (t :: W, E) else fl r' W (E ++ [10000 + t])).2 = _
    by_cases q : t = 40 ∨ rk t < r'
    · rw [if_pos q]
    · rw [if_neg q, fl_fl h W]
      show _ = if t = 40 ∨ rk t < r then (t :: W, E) else fl r W (E ++ [10000 + t])
      rw [if_neg (fun z => q (z.imp id (fun y => by omega)))]
theorem fl_eq {r r' : Nat} (h : r ≤ r') {W E W' E' : List Nat} (e : fl r' W E = fl r' W' E') : fl r W E = fl r W' E' := by rw [← fl_fl h W E, ← fl_fl h W' E', e]
/-- nothing on top goes at r -/
def bsT (r : Nat) (W : List Nat) : Prop := match W with
  | [] => True
  | t :: _ => t = 40 ∨ rk t < r
theorem fl_bs {r : Nat} {W E : List Nat} (h : bsT r W) : fl r W E = (W, E) := by
  cases W with
  | nil => rfl
  | cons t W => exact if_pos h
theorem fl_pop {r t : Nat} {W E : List Nat} (h1 : ¬ t = 40) (h2 : r ≤ rk t) : fl r (t :: W) E = fl r W (E ++ [10000 + t]) := if_neg (fun z => by rcases z with z | z; exact h1 z; omega)
def isO (t : Nat) : Bool := decide (t = 40) || decide (t = 132) || decide (t = 133)
def cnO : List Nat → Nat
  | [] => 0
  | t :: W => cnO W + (if isO t then 1 else 0)
def dpt : List Nat → Nat
  | [] => 0
  | t :: W => dpt W + (if t = 40 then 1 else 0)
theorem dpt_cn : ∀ W, dpt W ≤ cnO W
  | [] => Nat.le_refl 0
  | t :: W => by
    have := dpt_cn W
    show dpt W + (if t = 40 then 1 else 0) ≤ cnO W + (if isO t = true then 1 else 0)
    by_cases q : t = 40
    · subst q; rw [if_pos rfl, if_pos (by decide)]; omega
    · rw [if_neg q]; omega
theorem fl_dpt (r : Nat) : ∀ (W E : List Nat), dpt (fl r W E).1 = dpt W
  | [], E => rfl
  | t :: W, E => by
    show dpt (if t = 40 ∨ rk t < r then (t :: W, E) else fl r W (E ++ [10000 + t])).1 = _
    by_cases q : t = 40 ∨ rk t < r
    · rw [if_pos q]
    · rw [if_neg q, fl_dpt r W]
      show _ = dpt W + (if t = 40 then 1 else 0)
      rw [if_neg (fun z => q (Or.inl z))]; rfl
theorem fl_len (r : Nat) : ∀ (W E : List Nat), (fl r W E).1.length + (fl r W E).2.length = W.length + E.length
  | [], E => rfl
  | t :: W, E => by
    show (if t = 40 ∨ rk t < r then (t :: W, E) else fl r W (E ++ [10000 + t])).1.length + (if t = 40 ∨ rk t < r then (t :: W, E) else fl r W (E ++ [10000 + t])).2.length = _
    by_cases q : t = 40 ∨ rk t < r
    · rw [if_pos q]
    · rw [if_neg q, fl_len r W]; simp only [List.length_append, List.length_cons, List.length_nil]; omega
/-- the model's TOKEN i is the current one; T, NM, PL as the class has them, bh: behind it -/
def kdT (t : Nat) : Nat := if t = 0 then 0 else if t = 1 then 5 else if t = 2 then 1 else if t < 128 then 3 else if t < 134 then 4 else 2
def woT (t nm : Nat) : Nat := if t = 2 then nm else if t < 128 then t else if t < 134 then t - 128 else t - 134
def vTk (t : Nat) : Prop := t < 2 ∨ t = 2 ∨ t = 40 ∨ t = 41 ∨ t = 42 ∨ t = 43 ∨ t = 45 ∨ t = 59 ∨ t = 60 ∨ t = 61 ∨ (128 ≤ t ∧ t ≤ 132) ∨ (134 ≤ t ∧ t ≤ 139)
def Cur (T NM PL bh : Nat → Nat) (i : Nat) (σ : St) : Prop := σ.1 8 = nI (bh i) ∧ σ.1 9 = nI (kdT (T i)) ∧ σ.1 11 = nI (PL i) ∧ (2 ≤ T i → σ.1 10 = nI (woT (T i) (NM i)))
/-- what TEXT's reading leaves as it is -/
def frE (σ0 σ : St) : Prop := (∀ k, (k < 8 ∨ 16 < k) → σ.1 k = σ0.1 k) ∧ (∀ k, ¬ k = 32 → ¬ k = 33 → ¬ k = 36 → ¬ k = 37 → σ.2.1 k = σ0.2.1 k) ∧ σ.2.2 = σ0.2.2
/-- the model amid an E: W waits (its top first), E is made, cp: compared, by depth; cA: where the code begins -/
def PS (T NM PL bh : Nat → Nat) (σ0 : St) (cA : Nat) (i : Nat) (W E : List Nat) (cp : Nat → Bool) (σ : St) : Prop := Cur T NM PL bh i σ ∧ frE σ0 σ ∧ σ.2.1 33 = σ0.2.1 33 ∧ σ.1 12 = nI W.length ∧ (∀ t, t ∈ W → wtT t) ∧ (∀ k t, W.reverse[k]? = some t → σ.2.1 36 k = nI (opc t)) ∧ σ.1 13 = nI (cnO W) ∧ σ.1 14 = nI (dpt W) ∧ cnO W ≤ 5 ∧ σ.1 15 = nI cA ∧ σ.1 16 = nI E.length ∧ (∀ k x, E[k]? = some x → σ.2.1 32 (cA + k) = mcD x) ∧ (∀ k, (k < cA ∨ cA + 160 ≤ k) → σ.2.1 32 k = σ0.2.1 32 k) ∧ (∀ k, k ≤ dpt W → σ.2.1 37 k = bI (cp k)) ∧ W.length + E.length ≤ i
theorem rev_top {t : Nat} {W : List Nat} : (t :: W).reverse[W.length]? = some t := by
  rw [List.reverse_cons, List.getElem?_append_right (by rw [List.length_reverse]; exact Nat.le_refl _), List.length_reverse, Nat.sub_self]
  rfl
theorem rev_lo {t : Nat} {W : List Nat} {k x : Nat} (h : W.reverse[k]? = some x) : (t :: W).reverse[k]? = some x := by
  have hk : k < W.length := by have := (List.getElem?_eq_some_iff.mp h).1; rw [List.length_reverse] at this; exact this
  rw [List.reverse_cons, List.getElem?_append_left (by rw [List.length_reverse]; exact hk)]
  exact h
theorem rev_cases {t : Nat} {W : List Nat} {k x : Nat} (h : (t :: W).reverse[k]? = some x) : (k = W.length ∧ x = t) ∨ (k < W.length ∧ W.reverse[k]? = some x) := by
  rw [List.reverse_cons] at h
  by_cases hk : k < W.length
  · rw [List.getElem?_append_left (by rw [List.length_reverse]; exact hk)] at h
    exact Or.inr ⟨hk, h⟩
  · rw [List.getElem?_append_right (by rw [List.length_reverse]; omega), List.length_reverse] at h
    have h1 := (List.getElem?_eq_some_iff.mp h).1
    rw [List.length_cons, List.length_nil] at h1
    have e : k - W.length = 0 := by omega
    rw [e] at h
    exact Or.inl ⟨by omega, (Option.some.inj h).symm⟩
theorem emit_mv {N : Nat} {σ : St} {x1 y z : Int32} (hy : σ.1 15 + σ.1 16 = y) (h : ix y 1920 = true) (hz : σ.1 16 + 1 = z) : fX12_emit N σ x1 = some (sI (aW σ 32 y x1) 16 z) := by
  subst hy
  subst hz
  exact if_pos h
theorem app_cases {E : List Nat} {y k x : Nat} (h : (E ++ [y])[k]? = some x) : (k = E.length ∧ x = y) ∨ (k < E.length ∧ E[k]? = some x) := by
  by_cases hk : k < E.length
  · rw [List.getElem?_append_left hk] at h
    exact Or.inr ⟨hk, h⟩
  · rw [List.getElem?_append_right (by omega)] at h
    have h1 := (List.getElem?_eq_some_iff.mp h).1
    rw [List.length_cons, List.length_nil] at h1
    have e : k - E.length = 0 := by omega
    rw [e] at h
    exact Or.inl ⟨by omega, (Option.some.inj h).symm⟩
/-- a piece is made: the rest is left to who calls -/
theorem memit {N cA e : Nat} {σ : St} {x : Int32} (h15 : σ.1 15 = nI cA) (h16 : σ.1 16 = nI e) (hb : cA + e < 1920) : fX12_emit N σ x = some (sI (sA σ 32 (upd (σ.2.1 32) (cA + e) x)) 16 (nI (e + 1))) := by
  rw [emit_mv (y := nI (cA + e)) (z := nI (e + 1)) (by rw [h15, h16, nI_add]) (ix_nI hb (by decide)) (by rw [h16, nI_1]), aW_nI (by omega)]
theorem d0_s {N f : Nat} {σ : St} {x1 : Int32} : fX12_doAll_0 N (f + 1) σ x1 = fX12_doAll_0b N (fX12_doAll_0 N f) σ x1 := rfl
theorem d0_end {N : Nat} {σ : St} {k0 : St → Int32 → Option St} {x1 : Int32} (h : σ.1 12 ≤ 0) : fX12_doAll_0b N k0 σ x1 = some σ := if_pos h
theorem d0_opn {N : Nat} {σ : St} {k0 : St → Int32 → Option St} {x1 y w : Int32} (h : ¬ σ.1 12 ≤ 0) (hy : σ.1 12 - 1 = y) (h1 : ix y 170 = true) (hw : aR σ 36 y = w) (h2 : w = 15) : fX12_doAll_0b N k0 σ x1 = some σ := by
  subst hy
  subst hw
  exact (if_neg h).trans ((if_pos h1).trans (if_pos h2))
theorem d0_low {N : Nat} {σ : St} {k0 : St → Int32 → Option St} {x1 y w : Int32} (h : ¬ σ.1 12 ≤ 0) (hy : σ.1 12 - 1 = y) (h1 : ix y 170 = true) (hw : aR σ 36 y = w) (h2 : ¬ w = 15) (h3 : fX12_rank w < x1) : fX12_doAll_0b N k0 σ x1 = some σ := by
  subst hy
  subst hw
  exact (if_neg h).trans ((if_pos h1).trans ((if_neg h2).trans ((if_pos h1).trans (if_pos h3))))
theorem d0_pop {N : Nat} {σ σ' : St} {k0 : St → Int32 → Option St} {x1 y w o : Int32} (h : ¬ σ.1 12 ≤ 0) (hy : σ.1 12 - 1 = y) (h1 : ix y 170 = true) (hw : aR σ 36 y = w) (h2 : ¬ w = 15) (h3 : ¬ fX12_rank w < x1) (ho : σ.1 13 - (if w = 13 then 1 else if w = 14 then 1 else 0) = o) (he : fX12_emit N (sI (sI σ 12 y) 13 o) w = some σ') : fX12_doAll_0b N k0 σ x1 = k0 σ' x1 := by
  subst hy
  subst hw
  subst ho
  refine (if_neg h).trans ((if_pos h1).trans ((if_neg h2).trans ((if_pos h1).trans ((if_neg h3).trans (nm_t ((if_pos h1).trans ?_))))))
  by_cases q1 : aR σ 36 (σ.1 12 - 1) = 13
  · rw [if_pos q1] at he
    refine (if_pos q1).trans ?_
    exact nm_t ((if_pos h1).trans (bd_some he))
  · rw [if_neg q1] at he
    refine (if_neg q1).trans ((if_pos h1).trans ?_)
    by_cases q2 : aR σ 36 (σ.1 12 - 1) = 14
    · rw [if_pos q2] at he
      refine (if_pos q2).trans ?_
      exact nm_t ((if_pos h1).trans (bd_some he))
    · rw [if_neg q2] at he
      refine (if_neg q2).trans ?_
      exact nm_t ((if_pos h1).trans (bd_some he))
