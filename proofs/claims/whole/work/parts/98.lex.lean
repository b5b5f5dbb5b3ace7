/-! PURE: TEXT: TOKENS out of bytes -/
def sk (P : Nat → Bool) : Nat → Nat → Nat
  | 0, p => p
  | m + 1, p => if P p then sk P m (p + 1) else p
theorem sk_b (P : Nat → Bool) : ∀ (m p : Nat), p ≤ sk P m p ∧ sk P m p ≤ p + m
  | 0, p => ⟨Nat.le_refl _, Nat.le_refl _⟩
  | m + 1, p => by
    show p ≤ (if P p then sk P m (p + 1) else p) ∧ (if P p then sk P m (p + 1) else p) ≤ p + (m + 1)
    have := sk_b P m (p + 1)
    cases P p with
    | true => rw [if_pos rfl]; omega
    | false => rw [if_neg (by decide)]; omega
theorem sk_t {P : Nat → Bool} {m p : Nat} (h : P p = true) : sk P (m + 1) p = sk P m (p + 1) := if_pos h
theorem sk_f {P : Nat → Bool} {m p : Nat} (h : P p = false) : sk P (m + 1) p = p := if_neg (by rw [h]; decide)
theorem sk_all {P : Nat → Bool} : ∀ (m p k : Nat), p ≤ k → k < sk P m p → P k = true
  | 0, p, k, h1, h2 => by have h2 : k < p := h2; omega
  | m + 1, p, k, h1, h2 => by
    cases h : P p with
    | true =>
      rw [sk_t h] at h2
      by_cases e : k = p
      · rw [e]; exact h
      · exact sk_all m (p + 1) k (by omega) h2
    | false => rw [sk_f h] at h2; omega
def isB (x : Nat) : Bool := decide (x = 32) || decide (x = 10)
def isL (x : Nat) : Bool := decide (97 ≤ x) && decide (x ≤ 122)
def isD (x : Nat) : Bool := decide (48 ≤ x) && decide (x ≤ 57)
def isS (x : Nat) : Bool := (decide (40 ≤ x) && decide (x ≤ 43)) || decide (x = 45) || (decide (59 ≤ x) && decide (x ≤ 61))
/-- day span near trees house worth pays sum or and not -/
def wdl : List (List Nat) := [[100, 97, 121], [115, 112, 97, 110], [110, 101, 97, 114], [116, 114, 101, 101, 115], [104, 111, 117, 115, 101], [119, 111, 114, 116, 104], [112, 97, 121, 115], [115, 117, 109], [111, 114], [97, 110, 100], [110, 111, 116]]
def wlen (w : Nat) : Nat := (wdl.getD w []).length
def wch (w k : Nat) : Nat := (wdl.getD w []).getD k 0
def wcode (w : Nat) : Nat := if w < 6 then 134 + w else 122 + w
def cmB (b : Nat → Nat) (p w : Nat) : Nat → Nat → Bool
  | _, 0 => true
  | k, m + 1 => decide (b (p + k) = wch w k) && cmB b p w (k + 1) m
def isW (b : Nat → Nat) (p e w : Nat) : Bool := decide (e - p = wlen w) && cmB b p w 0 (wlen w)
def wdT (b : Nat → Nat) (p e : Nat) : Nat := if isW b p e 6 then 128 else if isW b p e 7 then 129 else if isW b p e 8 then 130 else if isW b p e 9 then 131 else if isW b p e 10 then 132 else if isW b p e 0 then 134 else if isW b p e 1 then 135 else if isW b p e 2 then 136 else if isW b p e 3 then 137 else if isW b p e 4 then 138 else if isW b p e 5 then 139 else 1
theorem cm_at {b : Nat → Nat} {p w : Nat} : ∀ (m k : Nat), cmB b p w k m = true → ∀ j, k ≤ j → j < k + m → b (p + j) = wch w j
  | 0, k, _, j, h1, h2 => by omega
  | m + 1, k, h, j, h1, h2 => by
    have h : (decide (b (p + k) = wch w k) && cmB b p w (k + 1) m) = true := h
    obtain ⟨a, c⟩ := Bool.and_eq_true_iff.mp h
    by_cases e : j = k
    · rw [e]; exact of_decide_eq_true a
    · exact cm_at m (k + 1) c j (by omega) (by omega)
theorem wd_d : ∀ w v : Fin 11, ¬ w = v → wlen w.val = wlen v.val → ∃ k : Fin 5, k.val < wlen w.val ∧ ¬ wch w.val k.val = wch v.val k.val := by decide +kernel
theorem isW_u {b : Nat → Nat} {p e w v : Nat} (hw : w < 11) (hv : v < 11) (h : isW b p e w = true) (h' : isW b p e v = true) : w = v := by
  obtain ⟨a, c⟩ := Bool.and_eq_true_iff.mp h
  obtain ⟨a', c'⟩ := Bool.and_eq_true_iff.mp h'
  have a := of_decide_eq_true a
  have a' := of_decide_eq_true a'
  by_cases q : w = v
  · exact q
  · obtain ⟨k, k1, k2⟩ := wd_d ⟨w, hw⟩ ⟨v, hv⟩ (fun z => q (Fin.mk.inj z)) (show wlen w = wlen v by omega)
    have k1 : k.val < wlen w := k1
    exact absurd ((cm_at _ _ c k.val (Nat.zero_le _) (by omega)).symm.trans (cm_at _ _ c' k.val (Nat.zero_le _) (by omega))) k2
theorem isW_d {b : Nat → Nat} {p e w : Nat} (hw : w < 11) (h : isW b p e w = true) {v : Nat} (hv : v < 11) : isW b p e v = decide (v = w) := by
  by_cases q : v = w
  · rw [q, h]; exact (decide_eq_true rfl).symm
  · rw [decide_eq_false q]
    cases z : isW b p e v with
    | false => rfl
    | true => exact absurd (isW_u hv hw z h) q
theorem wdT_of {b : Nat → Nat} {p e w : Nat} (hw : w < 11) (h : isW b p e w = true) : wdT b p e = wcode w := by
  unfold wdT
  rw [isW_d hw h (v := 0) (by decide), isW_d hw h (v := 1) (by decide), isW_d hw h (v := 2) (by decide), isW_d hw h (v := 3) (by decide), isW_d hw h (v := 4) (by decide), isW_d hw h (v := 5) (by decide), isW_d hw h (v := 6) (by decide), isW_d hw h (v := 7) (by decide), isW_d hw h (v := 8) (by decide), isW_d hw h (v := 9) (by decide), isW_d hw h (v := 10) (by decide)]
  rcases (show w = 0 ∨ w = 1 ∨ w = 2 ∨ w = 3 ∨ w = 4 ∨ w = 5 ∨ w = 6 ∨ w = 7 ∨ w = 8 ∨ w = 9 ∨ w = 10 by omega) with rfl | rfl | rfl | rfl | rfl | rfl | rfl | rfl | rfl | rfl | rfl <;> rfl
theorem wdT_no {b : Nat → Nat} {p e : Nat} (h : ∀ v, v < 11 → isW b p e v = false) : wdT b p e = 1 := by
  unfold wdT
  rw [h 0 (by decide), h 1 (by decide), h 2 (by decide), h 3 (by decide), h 4 (by decide), h 5 (by decide), h 6 (by decide), h 7 (by decide), h 8 (by decide), h 9 (by decide), h 10 (by decide)]
  rfl
theorem wd_or (b : Nat → Nat) (p e : Nat) : (∀ v, v < 11 → isW b p e v = false) ∨ ∃ w, w < 11 ∧ isW b p e w = true := by
  by_cases q : ∃ w, w < 11 ∧ isW b p e w = true
  · exact Or.inr q
  · refine Or.inl (fun v hv => ?_)
    cases z : isW b p e v with
    | false => rfl
    | true => exact absurd ⟨v, hv, z⟩ q
theorem wc_r {w : Nat} (h : w < 11) : (128 ≤ wcode w ∧ wcode w ≤ 132) ∨ (134 ≤ wcode w ∧ wcode w ≤ 139) := by
  unfold wcode
  by_cases q : w < 6
  · rw [if_pos q]; omega
  · rw [if_neg q]; omega
theorem wdT_r (b : Nat → Nat) (p e : Nat) : wdT b p e = 1 ∨ (128 ≤ wdT b p e ∧ wdT b p e ≤ 132) ∨ (134 ≤ wdT b p e ∧ wdT b p e ≤ 139) := by
  rcases wd_or b p e with h | ⟨w, hw, h⟩
  · exact Or.inl (wdT_no h)
  · rw [wdT_of hw h]; exact Or.inr (wc_r hw)
/-- what m digits from p on say -/
def nvD (b : Nat → Nat) (p : Nat) : Nat → Nat
  | 0 => 0
  | m + 1 => 10 * nvD b p m + (b (p + m) - 48)
def skL (b : Nat → Nat) (nB p : Nat) : Nat := sk (fun k => isL (b k)) (nB - p) p
def skD (b : Nat → Nat) (nB p : Nat) : Nat := sk (fun k => isD (b k)) (nB - p) p
def skB (b : Nat → Nat) (nB p : Nat) : Nat := sk (fun k => isB (b k)) (nB - p) p
def tokA (b : Nat → Nat) (nB q : Nat) : Nat := if q < nB then (if isL (b q) then wdT b q (skL b nB q) else if isD (b q) then (if skD b nB q - q ≤ 4 then 2 else 1) else if isS (b q) then b q else 1) else 0
def bhA (b : Nat → Nat) (nB q : Nat) : Nat := if q < nB then (if isL (b q) then skL b nB q else if isD (b q) then skD b nB q else q + 1) else q
def nmA (b : Nat → Nat) (nB q : Nat) : Nat := nvD b q (skD b nB q - q)
def posL (b : Nat → Nat) (nB : Nat) : Nat → Nat
  | 0 => 0
  | i + 1 => bhA b nB (skB b nB (posL b nB i))
def PLL (b : Nat → Nat) (nB i : Nat) : Nat := skB b nB (posL b nB i)
def TL (b : Nat → Nat) (nB i : Nat) : Nat := tokA b nB (PLL b nB i)
def NML (b : Nat → Nat) (nB i : Nat) : Nat := nmA b nB (PLL b nB i)
def bhL (b : Nat → Nat) (nB i : Nat) : Nat := bhA b nB (PLL b nB i)
theorem sk_up {P : Nat → Bool} {nB q : Nat} (hq : q < nB) (h : P q = true) : q < sk P (nB - q) q ∧ sk P (nB - q) q ≤ nB := by
  obtain ⟨m, hm⟩ : ∃ m, nB - q = m + 1 := ⟨nB - q - 1, by omega⟩
  rw [hm, sk_t h]
  have := sk_b P m (q + 1)
  omega
theorem bhA_b {b : Nat → Nat} {nB q : Nat} (hq : q < nB) : q < bhA b nB q ∧ bhA b nB q ≤ nB := by
  unfold bhA
  rw [if_pos hq]
  cases h1 : isL (b q) with
  | true => rw [if_pos rfl]; exact sk_up (P := fun k => isL (b k)) hq h1
  | false =>
    rw [if_neg (by decide)]
    cases h2 : isD (b q) with
    | true => rw [if_pos rfl]; exact sk_up (P := fun k => isD (b k)) hq h2
    | false => rw [if_neg (by decide)]; omega
theorem skB_b {b : Nat → Nat} {nB p : Nat} (hp : p ≤ nB) : p ≤ skB b nB p ∧ skB b nB p ≤ nB := by
  have := sk_b (fun k => isB (b k)) (nB - p) p
  unfold skB
  omega
theorem pos_le (b : Nat → Nat) (nB : Nat) : ∀ i, posL b nB i ≤ nB
  | 0 => Nat.zero_le _
  | i + 1 => by
    show bhA b nB (skB b nB (posL b nB i)) ≤ nB
    have h := skB_b (b := b) (pos_le b nB i)
    by_cases q : skB b nB (posL b nB i) < nB
    · exact (bhA_b q).2
    · unfold bhA; rw [if_neg q]; exact h.2
theorem PLL_le (b : Nat → Nat) (nB i : Nat) : PLL b nB i ≤ nB := (skB_b (pos_le b nB i)).2
theorem tok_lt {b : Nat → Nat} {nB q : Nat} (h : 2 ≤ tokA b nB q) : q < nB := by
  by_cases z : q < nB
  · exact z
  · unfold tokA at h; rw [if_neg z] at h; omega
theorem pos_ge {b : Nat → Nat} {nB : Nat} : ∀ i, (∀ k, k < i → 2 ≤ TL b nB k) → i ≤ posL b nB i
  | 0, _ => Nat.zero_le _
  | i + 1, h => by
    have h1 := pos_ge i (fun k hk => h k (by omega))
    have h2 := tok_lt (h i (by omega))
    have h3 := (skB_b (b := b) (pos_le b nB i)).1
    have h4 := (bhA_b (b := b) h2).1
    have h3 : posL b nB i ≤ PLL b nB i := h3
    have h4 : PLL b nB i < posL b nB (i + 1) := h4
    omega
theorem least_ex (T : Nat → Nat) : ∀ n, (∃ la, la ≤ n ∧ T la < 2 ∧ ∀ i, i < la → 2 ≤ T i) ∨ ∀ i, i ≤ n → 2 ≤ T i
  | 0 => by
    by_cases h : T 0 < 2
    · exact Or.inl ⟨0, Nat.le_refl _, h, fun i hi => by omega⟩
    · exact Or.inr (fun i hi => by rw [show i = 0 by omega]; omega)
  | n + 1 => by
    rcases least_ex T n with ⟨la, h1, h2, h3⟩ | h
    · exact Or.inl ⟨la, by omega, h2, h3⟩
    · by_cases q : T (n + 1) < 2
      · exact Or.inl ⟨n + 1, Nat.le_refl _, q, fun i hi => h i (by omega)⟩
      · refine Or.inr (fun i hi => ?_)
        by_cases e : i = n + 1
        · rw [e]; omega
        · exact h i (by omega)
theorem la_ex (b : Nat → Nat) (nB : Nat) : ∃ la, la ≤ nB ∧ TL b nB la < 2 ∧ ∀ i, i < la → 2 ≤ TL b nB i := by
  rcases least_ex (TL b nB) nB with h | h
  · exact h
  · have h1 := pos_ge (b := b) nB (fun k hk => h k (by omega))
    have h2 := tok_lt (h nB (Nat.le_refl _))
    have h3 := (skB_b (b := b) (pos_le b nB nB)).1
    unfold PLL at h2
    omega
theorem isS_r {x : Nat} (h : isS x = true) : x = 40 ∨ x = 41 ∨ x = 42 ∨ x = 43 ∨ x = 45 ∨ x = 59 ∨ x = 60 ∨ x = 61 := by
  unfold isS at h
  rcases Bool.or_eq_true_iff.mp h with h | h
  · rcases Bool.or_eq_true_iff.mp h with h | h
    · obtain ⟨a, c⟩ := Bool.and_eq_true_iff.mp h
      have a := of_decide_eq_true a
      have c := of_decide_eq_true c
      omega
    · have := of_decide_eq_true h; omega
  · obtain ⟨a, c⟩ := Bool.and_eq_true_iff.mp h
    have a := of_decide_eq_true a
    have c := of_decide_eq_true c
    omega
theorem isD_r {x : Nat} (h : isD x = true) : 48 ≤ x ∧ x ≤ 57 := by
  obtain ⟨a, c⟩ := Bool.and_eq_true_iff.mp h
  exact ⟨of_decide_eq_true a, of_decide_eq_true c⟩
theorem nv_b {b : Nat → Nat} {p : Nat} : ∀ m, (∀ k, k < m → isD (b (p + k)) = true) → nvD b p m < 10 ^ m
  | 0, _ => Nat.one_pos
  | m + 1, h => by
    have h1 := nv_b m (fun k hk => h k (by omega))
    have h2 := isD_r (h m (by omega))
    show 10 * nvD b p m + (b (p + m) - 48) < 10 ^ (m + 1)
    rw [Nat.pow_succ]
    omega
theorem nv_4 {b : Nat → Nat} {p m : Nat} (h : ∀ k, k < m → isD (b (p + k)) = true) (hm : m ≤ 4) : nvD b p m < 10000 :=
  Nat.lt_of_lt_of_le (nv_b m h) (Nat.pow_le_pow_right (n := 10) (by decide) hm)
theorem tok_v {b : Nat → Nat} {nB q : Nat} : vTk (tokA b nB q) ∧ (tokA b nB q = 2 → nmA b nB q < 10000 ∧ q < nB ∧ isL (b q) = false ∧ isD (b q) = true ∧ skD b nB q - q ≤ 4) := by
  unfold tokA
  by_cases hq : q < nB
  · rw [if_pos hq]
    cases h1 : isL (b q) with
    | true =>
      rw [if_pos rfl]
      have := wdT_r b q (skL b nB q)
      exact ⟨by unfold vTk; omega, fun z => by omega⟩
    | false =>
      rw [if_neg (by decide)]
      cases h2 : isD (b q) with
      | true =>
        rw [if_pos rfl]
        by_cases h3 : skD b nB q - q ≤ 4
        · rw [if_pos h3]
          refine ⟨by unfold vTk; omega, fun _ => ⟨nv_4 (fun k hk => ?_) h3, hq, rfl, rfl, h3⟩⟩
          exact sk_all (P := fun k => isD (b k)) (nB - q) q (q + k) (by omega) (by unfold skD at hk; omega)
        · rw [if_neg h3]; exact ⟨by unfold vTk; omega, fun z => by omega⟩
      | false =>
        rw [if_neg (by decide)]
        cases h3 : isS (b q) with
        | true =>
          rw [if_pos rfl]
          have := isS_r h3
          exact ⟨by unfold vTk; omega, fun z => by omega⟩
        | false => rw [if_neg (by decide)]; exact ⟨by unfold vTk; omega, fun z => by omega⟩
  · rw [if_neg hq]; exact ⟨by unfold vTk; omega, fun z => by omega⟩
theorem tkM_L {b : Nat → Nat} {nB la : Nat} (hB : nB ≤ 160) (h1 : la ≤ nB) (h2 : TL b nB la < 2) (h3 : ∀ i, i < la → 2 ≤ TL b nB i) : tkM (TL b nB) (NML b nB) la := ⟨by omega, fun i _ => ⟨tok_v.1, fun z => (tok_v.2 z).1⟩, h3, h2⟩
