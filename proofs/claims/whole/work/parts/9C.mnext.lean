/-! PURE: TEXT: the model's next TOKEN -/
def mbt (x : Nat) : Int32 := (nI x).toInt8.toInt32
def tpM (b : Nat → Nat) (nB : Nat) (σ : St) : Prop := nB ≤ 160 ∧ σ.1 5 = nI nB ∧ (∀ k, k < nB → σ.2.1 31 k = mbt (b k) ∧ b k < 256) ∧ σ.2.1 34 = mI_34 ∧ σ.2.1 35 = mI_35
theorem mch : ∀ x : Fin 256, (isB x.val = true ↔ (mbt x.val = 32 ∨ mbt x.val = 10)) ∧ (isL x.val = true ↔ (¬ mbt x.val < 97 ∧ ¬ 122 < mbt x.val)) ∧ (isD x.val = true ↔ (¬ mbt x.val < 48 ∧ ¬ 57 < mbt x.val)) ∧ (isS x.val = true ↔ (mbt x.val = 40 ∨ mbt x.val = 41 ∨ mbt x.val = 59 ∨ mbt x.val = 43 ∨ mbt x.val = 45 ∨ mbt x.val = 42 ∨ mbt x.val = 60 ∨ mbt x.val = 61)) ∧ ((isL x.val || isD x.val || isS x.val) = true → mbt x.val = nI x.val) := by decide +kernel
theorem sI_sI (σ : St) (k : Nat) (a c : Int32) : sI (sI σ k a) k c = sI σ k c := by
  show (va_up (va_up σ.1 k a) k c, σ.2) = (va_up σ.1 k c, σ.2)
  rw [vz_up_up]
theorem sI_me (σ : St) (k : Nat) : sI σ k (σ.1 k) = σ := by
  show (va_up σ.1 k (σ.1 k), σ.2) = σ
  rw [vz_up_self]
theorem sI_cm (σ : St) {j k : Nat} (h : ¬ j = k) (a c : Int32) : sI (sI σ j a) k c = sI (sI σ k c) j a := by
  show (va_up (va_up σ.1 j a) k c, σ.2) = (va_up (va_up σ.1 k c) j a, σ.2)
  have : va_up (va_up σ.1 j a) k c = va_up (va_up σ.1 k c) j a := by
    funext i
    unfold va_up
    by_cases h1 : i = j
    · subst h1; rw [if_neg h, if_pos rfl, if_pos rfl]
    · rw [if_neg h1, if_neg h1]
  rw [this]
theorem ite_f {α β : Type} {c : Prop} [Decidable c] {f : α → β} {A B : β} {x y : α} (h : A = f x) (h' : B = f y) : (if c then A else B) = f (if c then x else y) := by
  by_cases q : c
  · rw [if_pos q, if_pos q]; exact h
  · rw [if_neg q, if_neg q]; exact h'
theorem il_0 {N : Nat} {σ : St} {x1 : Int32} (h : σ.1 5 ≤ x1) : fX12_isLetter N σ x1 = some 0 := if_pos h
theorem il_a {N : Nat} {σ : St} {x1 v : Int32} (h : ¬ σ.1 5 ≤ x1) (h1 : ix x1 160 = true) (hv : aR σ 31 x1 = v) (ha : v < 97) : fX12_isLetter N σ x1 = some 0 := by
  subst hv
  exact (if_neg h).trans ((if_pos h1).trans (if_pos ha))
theorem il_b {N : Nat} {σ : St} {x1 v : Int32} (h : ¬ σ.1 5 ≤ x1) (h1 : ix x1 160 = true) (hv : aR σ 31 x1 = v) (ha : ¬ v < 97) (hb : 122 < v) : fX12_isLetter N σ x1 = some 0 := by
  subst hv
  exact (if_neg h).trans ((if_pos h1).trans ((if_neg ha).trans ((if_pos h1).trans (if_pos hb))))
theorem il_1 {N : Nat} {σ : St} {x1 v : Int32} (h : ¬ σ.1 5 ≤ x1) (h1 : ix x1 160 = true) (hv : aR σ 31 x1 = v) (ha : ¬ v < 97) (hb : ¬ 122 < v) : fX12_isLetter N σ x1 = some 1 := by
  subst hv
  exact (if_neg h).trans ((if_pos h1).trans ((if_neg ha).trans ((if_pos h1).trans (if_neg hb))))
theorem id_0 {N : Nat} {σ : St} {x1 : Int32} (h : σ.1 5 ≤ x1) : fX12_isDigit N σ x1 = some 0 := if_pos h
theorem id_a {N : Nat} {σ : St} {x1 v : Int32} (h : ¬ σ.1 5 ≤ x1) (h1 : ix x1 160 = true) (hv : aR σ 31 x1 = v) (ha : v < 48) : fX12_isDigit N σ x1 = some 0 := by
  subst hv
  exact (if_neg h).trans ((if_pos h1).trans (if_pos ha))
theorem id_b {N : Nat} {σ : St} {x1 v : Int32} (h : ¬ σ.1 5 ≤ x1) (h1 : ix x1 160 = true) (hv : aR σ 31 x1 = v) (ha : ¬ v < 48) (hb : 57 < v) : fX12_isDigit N σ x1 = some 0 := by
  subst hv
  exact (if_neg h).trans ((if_pos h1).trans ((if_neg ha).trans ((if_pos h1).trans (if_pos hb))))
theorem id_1 {N : Nat} {σ : St} {x1 v : Int32} (h : ¬ σ.1 5 ≤ x1) (h1 : ix x1 160 = true) (hv : aR σ 31 x1 = v) (ha : ¬ v < 48) (hb : ¬ 57 < v) : fX12_isDigit N σ x1 = some 1 := by
  subst hv
  exact (if_neg h).trans ((if_pos h1).trans ((if_neg ha).trans ((if_pos h1).trans (if_neg hb))))
theorem mlet {N nB p : Nat} {b : Nat → Nat} {σ : St} (hM : tpM b nB σ) (hp : p ≤ nB) : fX12_isLetter N σ (nI p) = some (bI (decide (p < nB) && isL (b p))) := by
  have h160 := hM.1
  by_cases q : p < nB
  · rw [decide_eq_true q, Bool.true_and]
    obtain ⟨b1, b2⟩ := hM.2.2.1 p q
    have x1 : ¬ σ.1 5 ≤ nI p := by rw [hM.2.1]; exact nI_ge q (by omega)
    have x2 : ix (nI p) 160 = true := ix_nI (by omega) (by decide)
    have x3 : aR σ 31 (nI p) = mbt (b p) := by rw [aR_nI (by omega)]; exact b1
    have hc : isL (b p) = true ↔ (¬ mbt (b p) < 97 ∧ ¬ 122 < mbt (b p)) := (mch ⟨b p, b2⟩).2.1
    cases z : isL (b p) with
    | true => exact il_1 x1 x2 x3 (hc.mp z).1 (hc.mp z).2
    | false =>
      by_cases y1 : mbt (b p) < 97
      · exact il_a x1 x2 x3 y1
      · by_cases y2 : 122 < mbt (b p)
        · exact il_b x1 x2 x3 y1 y2
        · have := hc.mpr ⟨y1, y2⟩
          rw [z] at this; cases this
  · rw [decide_eq_false q, Bool.false_and]
    exact il_0 (by rw [hM.2.1]; exact nI_le (by omega) (by omega))
theorem mdig {N nB p : Nat} {b : Nat → Nat} {σ : St} (hM : tpM b nB σ) (hp : p ≤ nB) : fX12_isDigit N σ (nI p) = some (bI (decide (p < nB) && isD (b p))) := by
  have h160 := hM.1
  by_cases q : p < nB
  · rw [decide_eq_true q, Bool.true_and]
    obtain ⟨b1, b2⟩ := hM.2.2.1 p q
    have x1 : ¬ σ.1 5 ≤ nI p := by rw [hM.2.1]; exact nI_ge q (by omega)
    have x2 : ix (nI p) 160 = true := ix_nI (by omega) (by decide)
    have x3 : aR σ 31 (nI p) = mbt (b p) := by rw [aR_nI (by omega)]; exact b1
    have hc : isD (b p) = true ↔ (¬ mbt (b p) < 48 ∧ ¬ 57 < mbt (b p)) := (mch ⟨b p, b2⟩).2.2.1
    cases z : isD (b p) with
    | true => exact id_1 x1 x2 x3 (hc.mp z).1 (hc.mp z).2
    | false =>
      by_cases y1 : mbt (b p) < 48
      · exact id_a x1 x2 x3 y1
      · by_cases y2 : 57 < mbt (b p)
        · exact id_b x1 x2 x3 y1 y2
        · have := hc.mpr ⟨y1, y2⟩
          rw [z] at this; cases this
  · rw [decide_eq_false q, Bool.false_and]
    exact id_0 (by rw [hM.2.1]; exact nI_le (by omega) (by omega))
theorem n0_s {N f : Nat} {σ : St} : fX12_next_0 N (f + 1) σ = fX12_next_0b N (fX12_next_0 N f) σ := rfl
theorem n0_e {N : Nat} {σ : St} {k0 : St → Option St} (h : σ.1 5 ≤ σ.1 8) : fX12_next_0b N k0 σ = fX12_next_52 N σ := if_pos h
theorem n0_b {N : Nat} {σ : St} {k0 : St → Option St} {v y : Int32} (h : ¬ σ.1 5 ≤ σ.1 8) (h1 : ix (σ.1 8) 160 = true) (hv : aR σ 31 (σ.1 8) = v) (hb : v = 32 ∨ v = 10) (hy : σ.1 8 + 1 = y) : fX12_next_0b N k0 σ = k0 (sI σ 8 y) := by
  subst hv
  subst hy
  refine (if_neg h).trans ((if_pos h1).trans ?_)
  by_cases q : aR σ 31 (σ.1 8) = 32
  · exact (if_pos q).trans rfl
  · exact (if_neg q).trans ((if_pos h1).trans ((if_pos (hb.resolve_left q)).trans rfl))
theorem n0_n {N : Nat} {σ : St} {k0 : St → Option St} {v : Int32} (h : ¬ σ.1 5 ≤ σ.1 8) (h1 : ix (σ.1 8) 160 = true) (hv : aR σ 31 (σ.1 8) = v) (hb : ¬ v = 32) (hb2 : ¬ v = 10) : fX12_next_0b N k0 σ = fX12_next_52 N σ := by
  subst hv
  exact (if_neg h).trans ((if_pos h1).trans ((if_neg hb).trans ((if_pos h1).trans (if_neg hb2))))
theorem mblank {N nB : Nat} {b : Nat → Nat} {σ : St} (hM : tpM b nB σ) : ∀ (m p f : Nat), p + m = nB → m < f → fX12_next_0 N f (sI σ 8 (nI p)) = fX12_next_52 N (sI σ 8 (nI (sk (fun k => isB (b k)) m p))) := by
  have h160 := hM.1
  intro m
  induction m with
  | zero =>
    intro p f hp hf
    obtain ⟨f, rfl⟩ : ∃ g, f = g + 1 := ⟨f - 1, by omega⟩
    rw [n0_s, n0_e (by show σ.1 5 ≤ nI p; rw [hM.2.1]; exact nI_le (by omega) (by omega))]
    rfl
  | succ m ih =>
    intro p f hp hf
    obtain ⟨f, rfl⟩ : ∃ g, f = g + 1 := ⟨f - 1, by omega⟩
    obtain ⟨b1, b2⟩ := hM.2.2.1 p (by omega)
    have x1 : ¬ (sI σ 8 (nI p)).1 5 ≤ (sI σ 8 (nI p)).1 8 := by show ¬ σ.1 5 ≤ nI p; rw [hM.2.1]; exact nI_ge (by omega) (by omega)
    have x2 : ix ((sI σ 8 (nI p)).1 8) 160 = true := ix_nI (k := p) (by omega) (by decide)
    have x3 : aR (sI σ 8 (nI p)) 31 ((sI σ 8 (nI p)).1 8) = mbt (b p) := by show aR σ 31 (nI p) = _; rw [aR_nI (by omega)]; exact b1
    have hc : isB (b p) = true ↔ (mbt (b p) = 32 ∨ mbt (b p) = 10) := (mch ⟨b p, b2⟩).1
    cases z : isB (b p) with
    | true =>
      rw [n0_s, n0_b x1 x2 x3 (hc.mp z) (nI_1 p), sI_sI, sk_t (P := fun k => isB (b k)) (p := p) z]
      exact ih (p + 1) f (by omega) (by omega)
    | false =>
      rw [n0_s, n0_n x1 x2 x3 (fun y => by rw [hc.mpr (Or.inl y)] at z; cases z) (fun y => by rw [hc.mpr (Or.inr y)] at z; cases z), sk_f (P := fun k => isB (b k)) (p := p) z]
theorem n52_e {N : Nat} {σ : St} (h : σ.1 8 = σ.1 5) : fX12_next_52 N σ = some (sI (sI σ 11 (σ.1 8)) 9 0) := nm_t ((if_pos h).trans (nm_t rfl))
theorem n52_w {N : Nat} {σ σ' : St} {r : Int32} (h : ¬ σ.1 8 = σ.1 5) (hl : fX12_isLetter N (sI σ 11 (σ.1 8)) (σ.1 8) = some r) (hr : ¬ r = 0) (hw : fX12_readWord N (sI σ 11 (σ.1 8)) = some σ') : fX12_next_52 N σ = some σ' := nm_t ((if_neg h).trans ((bd_some hl).trans ((if_neg hr).trans (bd_some hw))))
theorem n52_d {N : Nat} {σ σ' : St} {r : Int32} (h : ¬ σ.1 8 = σ.1 5) (hl : fX12_isLetter N (sI σ 11 (σ.1 8)) (σ.1 8) = some 0) (hd : fX12_isDigit N (sI σ 11 (σ.1 8)) (σ.1 8) = some r) (hr : ¬ r = 0) (hw : fX12_readNumber N (sI σ 11 (σ.1 8)) = some σ') : fX12_next_52 N σ = some σ' := nm_t ((if_neg h).trans ((bd_some hl).trans ((if_pos rfl).trans ((bd_some hd).trans ((if_neg hr).trans (bd_some hw))))))
def sgV (v : Int32) : Int32 := if v = 40 then 1 else if v = 41 then 1 else if v = 59 then 1 else if v = 43 then 1 else if v = 45 then 1 else if v = 42 then 1 else if v = 60 then 1 else if v = 61 then 1 else 0
theorem n52_s {N : Nat} {σ : St} {v : Int32} (h : ¬ σ.1 8 = σ.1 5) (hl : fX12_isLetter N (sI σ 11 (σ.1 8)) (σ.1 8) = some 0) (hd : fX12_isDigit N (sI σ 11 (σ.1 8)) (σ.1 8) = some 0) (h1 : ix (σ.1 8) 160 = true) (hv : aR σ 31 (σ.1 8) = v) : fX12_next_52 N σ = fX12_next_205 N (sI (sI σ 11 (σ.1 8)) 10 v) (sgV v) := by
  subst hv
  refine nm_t ((if_neg h).trans ((bd_some hl).trans ((if_pos rfl).trans ((bd_some hd).trans ((if_pos rfl).trans ((if_pos h1).trans (nm_t ?_)))))))
  unfold sgV
  exact ite_f rfl (ite_f rfl (ite_f rfl (ite_f rfl (ite_f rfl (ite_f rfl (ite_f rfl (ite_f rfl rfl)))))))
theorem n205 {N : Nat} {σ : St} {y0 : Int32} : fX12_next_205 N σ y0 = some (sI (sI σ 9 (if y0 = 0 then 5 else 3)) 8 (σ.1 8 + 1)) := by
  by_cases q : y0 = 0
  · rw [if_pos q]; exact (if_pos q).trans rfl
  · rw [if_neg q]; exact (if_neg q).trans rfl
theorem sgV_e {v : Int32} : (sgV v = 0) ↔ ¬ (v = 40 ∨ v = 41 ∨ v = 59 ∨ v = 43 ∨ v = 45 ∨ v = 42 ∨ v = 60 ∨ v = 61) := by
  unfold sgV
  by_cases q1 : v = 40
  · rw [if_pos q1]; exact ⟨fun z => absurd z (by decide), fun z => absurd (Or.inl q1) z⟩
  rw [if_neg q1]
  by_cases q2 : v = 41
  · rw [if_pos q2]; exact ⟨fun z => absurd z (by decide), fun z => absurd (Or.inr (Or.inl q2)) z⟩
  rw [if_neg q2]
  by_cases q3 : v = 59
  · rw [if_pos q3]; exact ⟨fun z => absurd z (by decide), fun z => absurd (Or.inr (Or.inr (Or.inl q3))) z⟩
  rw [if_neg q3]
  by_cases q4 : v = 43
  · rw [if_pos q4]; exact ⟨fun z => absurd z (by decide), fun z => absurd (Or.inr (Or.inr (Or.inr (Or.inl q4)))) z⟩
  rw [if_neg q4]
  by_cases q5 : v = 45
  · rw [if_pos q5]; exact ⟨fun z => absurd z (by decide), fun z => absurd (Or.inr (Or.inr (Or.inr (Or.inr (Or.inl q5))))) z⟩
  rw [if_neg q5]
  by_cases q6 : v = 42
  · rw [if_pos q6]; exact ⟨fun z => absurd z (by decide), fun z => absurd (Or.inr (Or.inr (Or.inr (Or.inr (Or.inr (Or.inl q6)))))) z⟩
  rw [if_neg q6]
  by_cases q7 : v = 60
  · rw [if_pos q7]; exact ⟨fun z => absurd z (by decide), fun z => absurd (Or.inr (Or.inr (Or.inr (Or.inr (Or.inr (Or.inr (Or.inl q7))))))) z⟩
  rw [if_neg q7]
  by_cases q8 : v = 61
  · rw [if_pos q8]; exact ⟨fun z => absurd z (by decide), fun z => absurd (Or.inr (Or.inr (Or.inr (Or.inr (Or.inr (Or.inr (Or.inr q8))))))) z⟩
  rw [if_neg q8]
  exact ⟨fun _ z => by
    rcases z with z | z | z | z | z | z | z | z
    · exact q1 z
    · exact q2 z
    · exact q3 z
    · exact q4 z
    · exact q5 z
    · exact q6 z
    · exact q7 z
    · exact q8 z, fun _ => rfl⟩
theorem rn_s {N f : Nat} {σ : St} : fX12_readNumber_5 N (f + 1) σ = fX12_readNumber_5b N (fX12_readNumber_5 N f) σ := rfl
theorem rn_e {N : Nat} {σ : St} {k5 : St → Option St} {z : Int32} (hd : fX12_isDigit N σ (σ.1 8) = some 0) (hz : σ.1 8 - σ.1 11 = z) : fX12_readNumber_5b N k5 σ = some (sI σ 9 (if z ≤ 4 then 1 else 5)) := by
  subst hz
  refine (bd_some hd).trans ((if_pos rfl).trans ?_)
  exact ite_f (f := fun x => some (sI σ 9 x)) rfl rfl
theorem rn_a {N : Nat} {σ : St} {k5 : St → Option St} {r z y : Int32} (hd : fX12_isDigit N σ (σ.1 8) = some r) (hr : ¬ r = 0) (hz : σ.1 8 - σ.1 11 = z) (h4 : 4 ≤ z) (hy : σ.1 8 + 1 = y) : fX12_readNumber_5b N k5 σ = k5 (sI (sI σ 10 (σ.1 10)) 8 y) := by
  subst hz
  subst hy
  exact (bd_some hd).trans ((if_neg hr).trans ((if_pos h4).trans rfl))
theorem rn_b {N : Nat} {σ : St} {k5 : St → Option St} {r z v y : Int32} (hd : fX12_isDigit N σ (σ.1 8) = some r) (hr : ¬ r = 0) (hz : σ.1 8 - σ.1 11 = z) (h4 : ¬ 4 ≤ z) (h1 : ix (σ.1 8) 160 = true) (hv : (10 : Int32) * σ.1 10 + aR σ 31 (σ.1 8) - 48 = v) (hy : σ.1 8 + 1 = y) : fX12_readNumber_5b N k5 σ = k5 (sI (sI σ 10 v) 8 y) := by
  subst hz
  subst hy
  subst hv
  exact (bd_some hd).trans ((if_neg hr).trans ((if_neg h4).trans ((if_pos h1).trans rfl)))
theorem sI_4 (σ : St) (a c d e : Int32) : sI (sI (sI (sI σ 10 a) 8 c) 10 d) 8 e = sI (sI σ 10 d) 8 e := by
  rw [sI_cm (sI σ 10 a) (j := 8) (k := 10) (by decide), sI_sI, sI_sI]
theorem mnum {N nB q : Nat} {b : Nat → Nat} {σ : St} (hM : tpM b nB σ) (hq : σ.1 11 = nI q) : ∀ (m p f : Nat), p + m = nB → m < f → q ≤ p → fX12_readNumber_5 N f (sI (sI σ 10 (nI (nvD b q (min (p - q) 4)))) 8 (nI p)) = some (sI (sI (sI σ 10 (nI (nvD b q (min (sk (fun k => isD (b k)) m p - q) 4)))) 8 (nI (sk (fun k => isD (b k)) m p))) 9 (if sk (fun k => isD (b k)) m p - q ≤ 4 then 1 else 5)) := by
  have h160 := hM.1
  have stop : ∀ (p f : Nat), p ≤ nB → q ≤ p → fX12_isDigit N (sI (sI σ 10 (nI (nvD b q (min (p - q) 4)))) 8 (nI p)) (nI p) = some 0 → fX12_readNumber_5 N (f + 1) (sI (sI σ 10 (nI (nvD b q (min (p - q) 4)))) 8 (nI p)) = some (sI (sI (sI σ 10 (nI (nvD b q (min (p - q) 4)))) 8 (nI p)) 9 (if p - q ≤ 4 then 1 else 5)) := by
    intro p f hp hqp hd
    have hz : (sI (sI σ 10 (nI (nvD b q (min (p - q) 4)))) 8 (nI p)).1 8 - (sI (sI σ 10 (nI (nvD b q (min (p - q) 4)))) 8 (nI p)).1 11 = nI (p - q) := by
      show nI p - σ.1 11 = _
      rw [hq, nI_subN hqp]
    rw [rn_s, rn_e hd hz]
    by_cases z : p - q ≤ 4
    · rw [if_pos (show nI (p - q) ≤ 4 from nI_le (b := 4) z (by decide)), if_pos z]
    · rw [if_neg (show ¬ nI (p - q) ≤ 4 from nI_ge (a := 4) (by omega) (by omega)), if_neg z]
  intro m
  induction m with
  | zero =>
    intro p f hp hf hqp
    obtain ⟨f, rfl⟩ : ∃ g, f = g + 1 := ⟨f - 1, by omega⟩
    have hM' : tpM b nB (sI (sI σ 10 (nI (nvD b q (min (p - q) 4)))) 8 (nI p)) := hM
    have hd := mdig (N := N) hM' (show p ≤ nB by omega)
    rw [decide_eq_false (show ¬ p < nB by omega), Bool.false_and] at hd
    exact stop p f (by omega) hqp hd
  | succ m ih =>
    intro p f hp hf hqp
    obtain ⟨f, rfl⟩ : ∃ g, f = g + 1 := ⟨f - 1, by omega⟩
    have hM' : tpM b nB (sI (sI σ 10 (nI (nvD b q (min (p - q) 4)))) 8 (nI p)) := hM
    have hd := mdig (N := N) hM' (show p ≤ nB by omega)
    rw [decide_eq_true (show p < nB by omega), Bool.true_and] at hd
    obtain ⟨b1, b2⟩ := hM.2.2.1 p (by omega)
    have hz : (sI (sI σ 10 (nI (nvD b q (min (p - q) 4)))) 8 (nI p)).1 8 - (sI (sI σ 10 (nI (nvD b q (min (p - q) 4)))) 8 (nI p)).1 11 = nI (p - q) := by
      show nI p - σ.1 11 = _
      rw [hq, nI_subN hqp]
    cases z : isD (b p) with
    | false =>
      rw [z] at hd
      rw [sk_f (P := fun k => isD (b k)) (p := p) z]
      exact stop p f (by omega) hqp hd
    | true =>
      rw [z] at hd
      rw [sk_t (P := fun k => isD (b k)) (p := p) z]
      have r1 : ¬ bI true = 0 := by decide
      by_cases y : 4 ≤ p - q
      · have e := rn_a (k5 := fX12_readNumber_5 N f) hd r1 hz (nI_le (a := 4) y (by omega)) (nI_1 p)
        rw [rn_s, e]
        show fX12_readNumber_5 N f (sI (sI (sI (sI σ 10 (nI (nvD b q (min (p - q) 4)))) 8 (nI p)) 10 (nI (nvD b q (min (p - q) 4)))) 8 (nI (p + 1))) = _
        rw [sI_4, show min (p - q) 4 = min (p + 1 - q) 4 by omega]
        exact ih (p + 1) f (by omega) (by omega) (by omega)
      · have em : mbt (b p) = nI (b p) := (mch ⟨b p, b2⟩).2.2.2.2 (by rw [show isD (⟨b p, b2⟩ : Fin 256).val = true from z]; simp)
        have hv : (10 : Int32) * (sI (sI σ 10 (nI (nvD b q (min (p - q) 4)))) 8 (nI p)).1 10 + aR (sI (sI σ 10 (nI (nvD b q (min (p - q) 4)))) 8 (nI p)) 31 ((sI (sI σ 10 (nI (nvD b q (min (p - q) 4)))) 8 (nI p)).1 8) - 48 = nI (nvD b q (min (p + 1 - q) 4)) := by
          show (10 : Int32) * nI (nvD b q (min (p - q) 4)) + aR σ 31 (nI p) - 48 = _
          rw [aR_nI (by omega), b1, em, nv_step (isD_r z).1, show min (p + 1 - q) 4 = min (p - q) 4 + 1 by omega]
          show _ = nI (10 * nvD b q (min (p - q) 4) + (b (q + min (p - q) 4) - 48))
          rw [show q + min (p - q) 4 = p by omega]
        have e := rn_b (k5 := fX12_readNumber_5 N f) hd r1 hz (nI_ge (b := 4) (by omega) (by decide)) (ix_nI (k := p) (by omega) (by decide)) hv (nI_1 p)
        rw [rn_s, e, sI_4]
        exact ih (p + 1) f (by omega) (by omega) (by omega)
