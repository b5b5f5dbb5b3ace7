/-! PURE: least ways over the grid, as numbers -/
def nb (p k : Nat) : Nat := if k = 0 then (if p < 8 then 48 else p - 8) else if k = 1 then (if p % 8 = 0 then 48 else p - 1) else if k = 2 then (if p % 8 = 7 then 48 else p + 1) else (if 40 ≤ p then 48 else p + 8)
theorem nb_xF : ∀ (p : Fin 48) (k : Fin 4), (nb p.val k.val = 48 → fX10_beside (nI p.val) (nI k.val) = -1) ∧ (¬ nb p.val k.val = 48 → fX10_beside (nI p.val) (nI k.val) = nI (nb p.val k.val)) := by decide +kernel
theorem nb_mF : ∀ (p : Fin 48) (k : Fin 4), (nb p.val k.val = 48 → fX12_beside (nI p.val) (nI k.val) < 0) ∧ (¬ nb p.val k.val = 48 → fX12_beside (nI p.val) (nI k.val) = nI (nb p.val k.val)) := by decide +kernel
theorem nb_x {p k : Nat} (hp : p < 48) (hk : k < 4) : (nb p k = 48 → fX10_beside (nI p) (nI k) = -1) ∧ (¬ nb p k = 48 → fX10_beside (nI p) (nI k) = nI (nb p k)) := nb_xF ⟨p, hp⟩ ⟨k, hk⟩
theorem nb_m {p k : Nat} (hp : p < 48) (hk : k < 4) : (nb p k = 48 → fX12_beside (nI p) (nI k) < 0) ∧ (¬ nb p k = 48 → fX12_beside (nI p) (nI k) = nI (nb p k)) := nb_mF ⟨p, hp⟩ ⟨k, hk⟩
theorem nb_r {p k : Nat} (hp : p < 48) : nb p k ≤ 48 ∧ ¬ nb p k = p := by
  unfold nb
  split
  · split <;> omega
  · split
    · split <;> omega
    · split
      · split <;> omega
      · split <;> omega
def smN (g : Nat → Nat) : Nat → Nat
  | 0 => 0
  | n + 1 => smN g n + g n
theorem smN_le {g h : Nat → Nat} : ∀ n, (∀ k, k < n → g k ≤ h k) → smN g n ≤ smN h n
  | 0, _ => Nat.le_refl 0
  | n + 1, q => by
    have h1 := smN_le (g := g) (h := h) n (fun k hk => q k (by omega))
    have h2 := q n (by omega)
    unfold smN; omega
theorem smN_lt {g h : Nat → Nat} : ∀ n, (∀ k, k < n → g k ≤ h k) → (∃ k, k < n ∧ g k < h k) → smN g n < smN h n
  | 0, _, ⟨k, hk, _⟩ => by omega
  | n + 1, q, ⟨k, hk, h3⟩ => by
    have h2 := q n (by omega)
    unfold smN
    by_cases e : k = n
    · subst e
      have h1 := smN_le (g := g) (h := h) k (fun j hj => q j (by omega))
      omega
    · have h1 := smN_lt (g := g) (h := h) n (fun j hj => q j (by omega)) ⟨k, by omega, h3⟩
      omega
theorem smN_b {g : Nat → Nat} {b : Nat} : ∀ n, (∀ k, k < n → g k ≤ b) → smN g n ≤ b * n
  | 0, _ => Nat.le_refl 0
  | n + 1, q => by
    have h1 := smN_b (g := g) (b := b) n (fun k hk => q k (by omega))
    have h2 := q n (by omega)
    unfold smN
    rw [Nat.mul_succ]; omega
theorem cntB_pos {P : Nat → Bool} {n k : Nat} (hk : k < n) (h : P k = true) : 1 ≤ cntB P n := by
  have := cntB_lt (P := fun _ => false) (Q := P) n (fun _ _ q => by cases q) ⟨k, hk, h, by decide⟩
  omega
/-- labels V (0: none) over weights W (0: barred): each stands on one beside -/
def wS (to : Nat) (W V : Nat → Nat) : Prop := (∀ p, p < 48 → ¬ V p = 0 → ¬ W p = 0) ∧ V to = W to ∧ ∀ p, p < 48 → ¬ p = to → ¬ V p = 0 → ∃ k, k < 4 ∧ nb p k < 48 ∧ ¬ V (nb p k) = 0 ∧ V (nb p k) + W p ≤ V p
def wB (X : Nat) (V : Nat → Nat) : Prop := ∀ p, p < 48 → V p ≤ X * cntB (fun q => decide (¬ V q = 0)) 48
/-- nothing at p can be lessened -/
def rel (W V : Nat → Nat) (p : Nat) : Prop := ¬ W p = 0 → ∀ k, k < 4 → nb p k < 48 → ¬ V (nb p k) = 0 → ¬ V p = 0 ∧ V p ≤ V (nb p k) + W p
def wF (W V : Nat → Nat) : Prop := ∀ p, p < 48 → rel W V p
theorem up_e {α : Type} {V : Nat → α} {p : Nat} {x : α} : va_up V p x p = x := if_pos rfl
theorem up_n {α : Type} {V : Nat → α} {p q : Nat} {x : α} (h : ¬ q = p) : va_up V p x q = V q := if_neg h
theorem wB_X {X : Nat} {V : Nat → Nat} (h : wB X V) {p : Nat} (hp : p < 48) : V p ≤ X * 48 := Nat.le_trans (h p hp) (Nat.mul_le_mul_left X (cntB_le 48))
theorem wS_up {to p k : Nat} {W V : Nat → Nat} (h : wS to W V) (hp : p < 48) (hk : k < 4) (hn : nb p k < 48) (hW : ¬ W p = 0) (hV : ¬ V (nb p k) = 0) (hlt : V p = 0 ∨ V (nb p k) + W p < V p) : wS to W (va_up V p (V (nb p k) + W p)) := by
  obtain ⟨h1, h2, h3⟩ := h
  have hpt : ¬ p = to := by
    intro e
    rw [← e] at h2
    rw [h2] at hlt
    rcases hlt with q | q
    · exact hW q
    · omega
  have vn : va_up V p (V (nb p k) + W p) (nb p k) = V (nb p k) := up_n (nb_r hp).2
  refine ⟨fun q hq hv => ?_, ?_, fun q hq hqt hv => ?_⟩
  · by_cases e : q = p
    · rw [e]; exact hW
    · rw [up_n e] at hv; exact h1 q hq hv
  · rw [up_n (fun e => hpt e.symm)]; exact h2
  · by_cases e : q = p
    · subst e
      exact ⟨k, hk, hn, by rw [vn]; exact hV, by rw [vn, up_e]; exact Nat.le_refl _⟩
    · rw [up_n e] at hv ⊢
      obtain ⟨k', a, b, c, d⟩ := h3 q hq hqt hv
      refine ⟨k', a, b, ?_, ?_⟩
      · by_cases e2 : nb q k' = p
        · rw [e2, up_e]; omega
        · rw [up_n e2]; exact c
      · by_cases e2 : nb q k' = p
        · rw [e2] at c d ⊢
          rw [up_e]
          rcases hlt with z | z
          · exact absurd z c
          · omega
        · rw [up_n e2]; exact d
theorem wB_up {X p k : Nat} {W V : Nat → Nat} (h : wB X V) (hp : p < 48) (hn : nb p k < 48) (hX : W p ≤ X) (hV : ¬ V (nb p k) = 0) (hlt : V p = 0 ∨ V (nb p k) + W p < V p) : wB X (va_up V p (V (nb p k) + W p)) := by
  have mono : ∀ q, q < 48 → decide (¬ V q = 0) = true → decide (¬ va_up V p (V (nb p k) + W p) q = 0) = true := by
    intro q _ z
    rw [decide_eq_true_eq] at z ⊢
    by_cases e : q = p
    · rw [e, up_e]; omega
    · rw [up_n e]; exact z
  have c1 := cntB_mono (P := fun q => decide (¬ V q = 0)) (Q := fun q => decide (¬ va_up V p (V (nb p k) + W p) q = 0)) 48 mono
  have m1 := Nat.mul_le_mul_left X c1
  intro q hq
  by_cases e : q = p
  · rw [e, up_e]
    have hb := h (nb p k) hn
    rcases hlt with z | z
    · have c2 := cntB_lt (P := fun q => decide (¬ V q = 0)) (Q := fun q => decide (¬ va_up V p (V (nb p k) + W p) q = 0)) 48 mono ⟨p, hp, by rw [decide_eq_true_eq, up_e]; omega, by rw [decide_eq_true_eq]; exact fun w => w z⟩
      have m2 := Nat.mul_le_mul_left X (Nat.succ_le_of_lt c2)
      rw [Nat.mul_succ] at m2
      omega
    · have hb2 := h p hp
      omega
  · rw [up_n e]
    exact Nat.le_trans (h q hq) m1
theorem wS_le {to : Nat} {W V V' : Nat → Nat} (h : wS to W V) (h' : V' to = W to) (hf : wF W V') : ∀ (v p : Nat), p < 48 → V p = v → ¬ V p = 0 → ¬ V' p = 0 ∧ V' p ≤ V p := by
  intro v
  induction v using Nat.strongRecOn with
  | _ v ih =>
    intro p hp e hv
    by_cases q : p = to
    · have : V' p = V p := by rw [q]; exact h'.trans h.2.1.symm
      rw [this]; exact ⟨hv, Nat.le_refl _⟩
    · obtain ⟨k, a, b, c, d⟩ := h.2.2 p hp q hv
      have hW := h.1 p hp hv
      obtain ⟨i1, i2⟩ := ih (V (nb p k)) (by omega) (nb p k) b rfl c
      obtain ⟨j1, j2⟩ := hf p hp hW k a b i1
      exact ⟨j1, by omega⟩
/-- the least labels, and how many PLOTS each way has -/
def wD (to : Nat) (W D Lv : Nat → Nat) : Prop := wS to W D ∧ wF W D ∧ ∀ p, p < 48 → ¬ D p = 0 → 1 ≤ Lv p ∧ Lv p ≤ 48 ∧ ((p = to ∧ Lv p = 1) ∨ ∃ k, k < 4 ∧ nb p k < 48 ∧ ¬ D (nb p k) = 0 ∧ D p = D (nb p k) + W p ∧ Lv p = Lv (nb p k) + 1)
theorem wD_eq {to : Nat} {W D Lv T : Nat → Nat} (hS : wS to W T) (hD : wD to W D Lv) (h : ∀ p, p < 48 → ¬ D p = 0 → ¬ T p = 0 ∧ T p ≤ D p) : ∀ p, p < 48 → T p = D p := by
  intro p hp
  by_cases q : T p = 0
  · by_cases q2 : D p = 0
    · rw [q, q2]
    · exact absurd q (h p hp q2).1
  · obtain ⟨a, b⟩ := wS_le hS hD.1.2.1 hD.2.1 (T p) p hp rfl q
    obtain ⟨_, c⟩ := h p hp a
    omega
theorem wD_eqF {to : Nat} {W D Lv T : Nat → Nat} (hS : wS to W T) (hD : wD to W D Lv) (hF : wF W T) : ∀ p, p < 48 → T p = D p := wD_eq hS hD (fun p hp q => wS_le hD.1 hS.2.1 hF (D p) p hp rfl q)
def W1 (ct : Nat → Nat) (p : Nat) : Nat := if ct p = 0 then 0 else 1048576 * ct p + 1
def W6 (ct : Nat → Nat) (p : Nat) : Nat := if ct p = 0 then 0 else 64 * ct p + 1
theorem W1_0 {ct : Nat → Nat} {p : Nat} : W1 ct p = 0 ↔ ct p = 0 := by unfold W1; split <;> omega
theorem W6_0 {ct : Nat → Nat} {p : Nat} : W6 ct p = 0 ↔ ct p = 0 := by unfold W6; split <;> omega
theorem W1_p {ct : Nat → Nat} {p : Nat} (h : ¬ ct p = 0) : W1 ct p = 1048576 * ct p + 1 := if_neg h
theorem W6_p {ct : Nat → Nat} {p : Nat} (h : ¬ ct p = 0) : W6 ct p = 64 * ct p + 1 := if_neg h
theorem lv_cnt {to : Nat} {ct V : Nat → Nat} (h : wS to (W1 ct) V) (hf : wF (W1 ct) V) : ∀ (v p : Nat), p < 48 → V p = v → ¬ V p = 0 → 1 ≤ V p % 1048576 ∧ V p % 1048576 ≤ cntB (fun q => decide (¬ V q = 0 ∧ V q ≤ V p)) 48 ∧ ((p = to ∧ V p % 1048576 = 1) ∨ ∃ k, k < 4 ∧ nb p k < 48 ∧ ¬ V (nb p k) = 0 ∧ V p % 1048576 = V (nb p k) % 1048576 + 1 ∧ V p / 1048576 = V (nb p k) / 1048576 + ct p) := by
  intro v
  induction v using Nat.strongRecOn with
  | _ v ih =>
    intro p hp e hv
    have hW := h.1 p hp hv
    have hc : ¬ ct p = 0 := fun z => hW (W1_0.mpr z)
    by_cases q : p = to
    · have e2 : V p = 1048576 * ct p + 1 := by rw [← W1_p hc]; rw [q]; exact h.2.1
      have c1 := cntB_pos (P := fun q => decide (¬ V q = 0 ∧ V q ≤ V p)) (n := 48) hp (by rw [decide_eq_true_eq]; exact ⟨hv, Nat.le_refl _⟩)
      refine ⟨by omega, by omega, Or.inl ⟨q, by omega⟩⟩
    · obtain ⟨k, a, b, c, d⟩ := h.2.2 p hp q hv
      obtain ⟨_, d2⟩ := hf p hp hW k a b c
      rw [W1_p hc] at d d2
      obtain ⟨i1, i2, _⟩ := ih (V (nb p k)) (by omega) (nb p k) b rfl c
      have i3 := cntB_le (P := fun q => decide (¬ V q = 0 ∧ V q ≤ V (nb p k))) 48
      have c1 := cntB_lt (P := fun q => decide (¬ V q = 0 ∧ V q ≤ V (nb p k))) (Q := fun q => decide (¬ V q = 0 ∧ V q ≤ V p)) 48 (fun q _ z => by rw [decide_eq_true_eq] at z ⊢; exact ⟨z.1, by omega⟩) ⟨p, hp, by rw [decide_eq_true_eq]; exact ⟨hv, Nat.le_refl _⟩, by rw [decide_eq_true_eq]; omega⟩
      refine ⟨by omega, by omega, Or.inr ⟨k, a, b, c, by omega, by omega⟩⟩
theorem lv_48 {to : Nat} {ct V : Nat → Nat} (h : wS to (W1 ct) V) (hf : wF (W1 ct) V) {p : Nat} (hp : p < 48) : V p % 1048576 ≤ 48 := by
  by_cases q : V p = 0
  · rw [q]; decide
  · have := (lv_cnt h hf (V p) p hp rfl q).2.1
    have c := cntB_le (P := fun q => decide (¬ V q = 0 ∧ V q ≤ V p)) 48
    omega
def D6 (V : Nat → Nat) (p : Nat) : Nat := 64 * (V p / 1048576) + V p % 1048576
theorem D6_0 {V : Nat → Nat} {p : Nat} : D6 V p = 0 ↔ V p = 0 := by unfold D6; omega
theorem wD_of {to : Nat} {ct V : Nat → Nat} (h : wS to (W1 ct) V) (hf : wF (W1 ct) V) : wD to (W6 ct) (D6 V) (fun p => V p % 1048576) := by
  refine ⟨⟨fun p hp q => ?_, ?_, fun p hp hpt q => ?_⟩, fun p hp hW k hk hn hV => ?_, fun p hp q => ?_⟩
  · have := h.1 p hp (fun z => q (D6_0.mpr z))
    exact fun z => this (W1_0.mpr (W6_0.mp z))
  · have e := h.2.1
    by_cases q : ct to = 0
    · rw [W6_0.mpr q]
      rw [W1_0.mpr q] at e
      exact D6_0.mpr e
    · rw [W6_p q]
      rw [W1_p q] at e
      unfold D6
      omega
  · have qV : ¬ V p = 0 := fun z => q (D6_0.mpr z)
    have hW := h.1 p hp qV
    have hc : ¬ ct p = 0 := fun z => hW (W1_0.mpr z)
    obtain ⟨l1, _, l3⟩ := lv_cnt h hf (V p) p hp rfl qV
    rcases l3 with l3 | ⟨k, a, b, c, d, e⟩
    · exact absurd l3.1 hpt
    · refine ⟨k, a, b, fun z => c (D6_0.mp z), ?_⟩
      rw [W6_p hc]
      unfold D6
      omega
  · have hc : ¬ ct p = 0 := fun z => hW (W6_0.mpr z)
    obtain ⟨a, b⟩ := hf p hp (fun z => hc (W1_0.mp z)) k hk hn (fun z => hV (D6_0.mpr z))
    have l1 := lv_48 h hf hp
    have l2 := lv_48 h hf hn
    rw [W1_p hc] at b
    rw [W6_p hc]
    refine ⟨fun z => a (D6_0.mp z), ?_⟩
    unfold D6
    omega
  · have qV : ¬ V p = 0 := fun z => q (D6_0.mpr z)
    have hW := h.1 p hp qV
    have hc : ¬ ct p = 0 := fun z => hW (W1_0.mpr z)
    obtain ⟨l1, _, l3⟩ := lv_cnt h hf (V p) p hp rfl qV
    have l2 := lv_48 h hf hp
    refine ⟨l1, l2, ?_⟩
    rcases l3 with l3 | ⟨k, a, b, c, d, e⟩
    · exact Or.inl l3
    · refine Or.inr ⟨k, a, b, fun z => c (D6_0.mp z), ?_, d⟩
      rw [W6_p hc]
      unfold D6
      omega
