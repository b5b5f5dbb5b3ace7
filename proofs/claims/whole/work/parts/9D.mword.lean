/-! PURE: TEXT: the model's words; the next TOKEN -/
def begW (w : Nat) : Nat := [0, 3, 7, 11, 16, 21, 26, 30, 33, 35, 38, 41].getD w 0
theorem beg_e : ∀ w : Fin 11, mI_35 w.val = nI (begW w.val) ∧ mI_35 (w.val + 1) = nI (begW w.val + wlen w.val) ∧ wlen w.val ≤ 5 ∧ begW w.val + wlen w.val ≤ 41 ∧ ∀ k : Fin 5, k.val < wlen w.val → mI_34 (begW w.val + k.val) = nI (wch w.val k.val) ∧ wch w.val k.val < 256 := by decide +kernel
theorem rw0_s {N f : Nat} {σ : St} : fX12_readWord_0 N (f + 1) σ = fX12_readWord_0b N (fX12_readWord_0 N f) σ := rfl
theorem rw0_e {N : Nat} {σ : St} {k0 : St → Option St} (h : fX12_isLetter N σ (σ.1 8) = some 0) : fX12_readWord_0b N k0 σ = fX12_readWord_31 N N (sI σ 9 5) 0 := (bd_some h).trans ((if_pos rfl).trans rfl)
theorem rw0_k {N : Nat} {σ : St} {k0 : St → Option St} {r y : Int32} (h : fX12_isLetter N σ (σ.1 8) = some r) (hr : ¬ r = 0) (hy : σ.1 8 + 1 = y) : fX12_readWord_0b N k0 σ = k0 (sI σ 8 y) := by
  subst hy
  exact (bd_some h).trans ((if_neg hr).trans rfl)
theorem mletters {N nB : Nat} {b : Nat → Nat} {σ : St} (hM : tpM b nB σ) : ∀ (m p f : Nat), p + m = nB → m < f → fX12_readWord_0 N f (sI σ 8 (nI p)) = fX12_readWord_31 N N (sI (sI σ 8 (nI (sk (fun k => isL (b k)) m p))) 9 5) 0 := by
  have h160 := hM.1
  intro m
  induction m with
  | zero =>
    intro p f hp hf
    obtain ⟨f, rfl⟩ : ∃ g, f = g + 1 := ⟨f - 1, by omega⟩
    have hM' : tpM b nB (sI σ 8 (nI p)) := hM
    have hd := mlet (N := N) hM' (show p ≤ nB by omega)
    rw [decide_eq_false (show ¬ p < nB by omega), Bool.false_and] at hd
    rw [rw0_s, rw0_e hd]
    rfl
  | succ m ih =>
    intro p f hp hf
    obtain ⟨f, rfl⟩ : ∃ g, f = g + 1 := ⟨f - 1, by omega⟩
    have hM' : tpM b nB (sI σ 8 (nI p)) := hM
    have hd := mlet (N := N) hM' (show p ≤ nB by omega)
    rw [decide_eq_true (show p < nB by omega), Bool.true_and] at hd
    cases z : isL (b p) with
    | false =>
      rw [z] at hd
      rw [rw0_s, rw0_e hd, sk_f (P := fun k => isL (b k)) (p := p) z]
    | true =>
      rw [z] at hd
      rw [rw0_s, rw0_k hd (by decide) (nI_1 p), sI_sI, sk_t (P := fun k => isL (b k)) (p := p) z]
      exact ih (p + 1) f (by omega) (by omega)
theorem rw31_s {N f : Nat} {σ : St} {x1 : Int32} : fX12_readWord_31 N (f + 1) σ x1 = fX12_readWord_31b N (fX12_readWord_31 N f) σ x1 := rfl
theorem rw31_e {N : Nat} {σ : St} {k31 : St → Int32 → Option St} {x1 : Int32} (h : (11 : Int32) ≤ x1) : fX12_readWord_31b N k31 σ x1 = some σ := if_pos h
theorem rw31_k {N : Nat} {σ : St} {k31 : St → Int32 → Option St} {x1 y u v n z : Int32} (h : ¬ (11 : Int32) ≤ x1) (hy : x1 + 1 = y) (h1 : ix y 12 = true) (h2 : ix x1 12 = true) (hu : aR σ 35 y = u) (hv : aR σ 35 x1 = v) (hn : u - v = n) (hz : σ.1 8 - σ.1 11 = z) : fX12_readWord_31b N k31 σ x1 = fX12_readWord_75 N k31 N σ x1 n (if n = z then 1 else 0) 0 := by
  subst hy
  subst hu
  subst hv
  subst hn
  subst hz
  refine (if_neg h).trans ((if_pos h1).trans ((if_pos h2).trans (nm_t ?_)))
  exact ite_f (f := fun x => fX12_readWord_75 N k31 N σ x1 (aR σ 35 (x1 + 1) - aR σ 35 x1) x 0) rfl rfl
theorem rw75_s {N f : Nat} {σ : St} {k31 : St → Int32 → Option St} {x1 x2 x3 x4 : Int32} : fX12_readWord_75 N k31 (f + 1) σ x1 x2 x3 x4 = fX12_readWord_75b N k31 (fX12_readWord_75 N k31 f) σ x1 x2 x3 x4 := rfl
theorem rw75_e {N : Nat} {σ : St} {k31 : St → Int32 → Option St} {k75 : St → Int32 → Int32 → Int32 → Int32 → Option St} {x1 x2 x3 x4 : Int32} (h : x2 ≤ x4) : fX12_readWord_75b N k31 k75 σ x1 x2 x3 x4 = fX12_readWord_126 N k31 σ x1 x3 := if_pos h
theorem rw75_0 {N : Nat} {σ : St} {k31 : St → Int32 → Option St} {k75 : St → Int32 → Int32 → Int32 → Int32 → Option St} {x1 x2 x4 : Int32} : fX12_readWord_75b N k31 k75 σ x1 x2 0 x4 = fX12_readWord_126 N k31 σ x1 0 := by
  by_cases q : x2 ≤ x4
  · exact if_pos q
  · exact (if_neg q).trans (if_pos rfl)
theorem rw75_k {N : Nat} {σ : St} {k31 : St → Int32 → Option St} {k75 : St → Int32 → Int32 → Int32 → Int32 → Option St} {x1 x2 x3 x4 y u v bb z : Int32} (h : ¬ x2 ≤ x4) (h3 : ¬ x3 = 0) (hy : σ.1 11 + x4 = y) (h1 : ix y 160 = true) (h2 : ix x1 12 = true) (hb : aR σ 35 x1 + x4 = bb) (h4 : ix bb 41 = true) (hu : aR σ 31 y = u) (hv : aR σ 34 bb = v) (hz : x4 + 1 = z) : fX12_readWord_75b N k31 k75 σ x1 x2 x3 x4 = k75 σ x1 x2 (if u = v then 1 else 0) z := by
  subst hy
  subst hb
  subst hu
  subst hv
  subst hz
  refine (if_neg h).trans ((if_neg h3).trans ((if_pos h1).trans ((if_pos h2).trans ((if_pos h4).trans ?_))))
  exact ite_f (f := fun x => k75 σ x1 x2 x (x4 + 1)) rfl rfl
theorem rw126_0 {N : Nat} {σ : St} {k31 : St → Int32 → Option St} {x1 y : Int32} (hy : x1 + 1 = y) : fX12_readWord_126 N k31 σ x1 0 = k31 σ y := by
  subst hy
  exact (if_pos rfl).trans rfl
theorem rw126_1 {N : Nat} {σ : St} {k31 : St → Int32 → Option St} {x1 x3 y : Int32} (h3 : ¬ x3 = 0) (hy : x1 + 1 = y) : fX12_readWord_126 N k31 σ x1 x3 = k31 (sI (sI σ 9 (if 6 ≤ x1 then 4 else 2)) 10 (if 6 ≤ x1 then x1 - 6 else x1)) y := by
  subst hy
  refine (if_neg h3).trans ?_
  by_cases q : (6 : Int32) ≤ x1
  · rw [if_pos q, if_pos q, if_pos q]
    exact nm_t ((if_pos q).trans rfl)
  · rw [if_neg q, if_neg q, if_neg q]
    exact nm_t ((if_neg q).trans rfl)
theorem mcmp {N nB q e w : Nat} {b : Nat → Nat} {σ : St} {k31 : St → Int32 → Option St} (hM : tpM b nB σ) (hw : w < 11) (h11 : σ.1 11 = nI q) (hq : q + wlen w ≤ nB) (hl : ∀ k, k < wlen w → isL (b (q + k)) = true) : ∀ (m k f : Nat), k + m = wlen w → m < f → fX12_readWord_75 N k31 f σ (nI w) (nI (wlen w)) 1 (nI k) = fX12_readWord_126 N k31 σ (nI w) (bI (cmB b q w k m)) := by
  have h160 := hM.1
  obtain ⟨g1, g2, g3, g4, g5⟩ := beg_e ⟨w, hw⟩
  have g1 : mI_35 w = nI (begW w) := g1
  have g3 : wlen w ≤ 5 := g3
  have g4 : begW w + wlen w ≤ 41 := g4
  intro m
  induction m with
  | zero =>
    intro k f hk hf
    obtain ⟨f, rfl⟩ : ∃ g, f = g + 1 := ⟨f - 1, by omega⟩
    rw [rw75_s, rw75_e (nI_le (by omega) (by omega))]
    rfl
  | succ m ih =>
    intro k f hk hf
    obtain ⟨f, rfl⟩ : ∃ g, f = g + 1 := ⟨f - 1, by omega⟩
    obtain ⟨b1, b2⟩ := hM.2.2.1 (q + k) (by omega)
    obtain ⟨c1, c2⟩ := g5 ⟨k, by omega⟩ (by show k < wlen w; omega)
    have c1 : mI_34 (begW w + k) = nI (wch w k) := c1
    have c2 : wch w k < 256 := c2
    have em : mbt (b (q + k)) = nI (b (q + k)) := (mch ⟨b (q + k), b2⟩).2.2.2.2 (by rw [show isL (⟨b (q + k), b2⟩ : Fin 256).val = true from hl k (by omega)]; simp)
    have e35 : aR σ 35 (nI w) = nI (begW w) := by rw [aR_nI (by omega), hM.2.2.2.2]; exact g1
    have x1 : ¬ nI (wlen w) ≤ nI k := nI_ge (by omega) (by omega)
    have xy : σ.1 11 + nI k = nI (q + k) := by rw [h11, nI_add]
    have xb : aR σ 35 (nI w) + nI k = nI (begW w + k) := by rw [e35, nI_add]
    have xu : aR σ 31 (nI (q + k)) = nI (b (q + k)) := by rw [aR_nI (by omega), b1, em]
    have xv : aR σ 34 (nI (begW w + k)) = nI (wch w k) := by rw [aR_nI (by omega), hM.2.2.2.1]; exact c1
    rw [rw75_s, rw75_k x1 (by decide) xy (ix_nI (by omega) (by decide)) (ix_nI (by omega) (by decide)) xb (ix_nI (by omega) (by decide)) xu xv (nI_1 k), cm_s]
    by_cases z : b (q + k) = wch w k
    · rw [if_pos (by rw [z]), decide_eq_true z, Bool.true_and]
      exact ih (k + 1) f (by omega) (by omega)
    · rw [if_neg (fun y => z ((nI_eq (by omega) (by omega)).mp y)), decide_eq_false z, Bool.false_and]
      cases f with
      | zero => omega
      | succ f =>
        rw [rw75_s, rw75_0]
        rfl
theorem mw31 {N nB q e : Nat} {b : Nat → Nat} (hN : 200 ≤ N) (hqe : q ≤ e) (he : e ≤ nB) (hl : ∀ k, q ≤ k → k < e → isL (b k) = true) : ∀ (m w f : Nat) (σ : St), w + m = 11 → m < f → tpM b nB σ → σ.1 8 = nI e → σ.1 11 = nI q → ∃ x9 x10, fX12_readWord_31 N f σ (nI w) = some (sI (sI σ 9 x9) 10 x10) ∧ ((∀ v, w ≤ v → v < 11 → isW b q e v = false) → x9 = σ.1 9 ∧ x10 = σ.1 10) ∧ (∀ v, w ≤ v → v < 11 → isW b q e v = true → x9 = nI (if v < 6 then 2 else 4) ∧ x10 = nI (if v < 6 then v else v - 6)) := by
  intro m
  induction m with
  | zero =>
    intro w f σ hw hf hM h8 h11
    obtain ⟨f, rfl⟩ : ∃ g, f = g + 1 := ⟨f - 1, by omega⟩
    refine ⟨σ.1 9, σ.1 10, ?_, fun _ => ⟨rfl, rfl⟩, fun v h1 h2 => by omega⟩
    rw [rw31_s, rw31_e (nI_le (a := 11) (by omega) (by omega)), sI_me]
    rw [sI_me]
  | succ m ih =>
    intro w f σ hw hf hM h8 h11
    have h160 := hM.1
    obtain ⟨f, rfl⟩ : ∃ g, f = g + 1 := ⟨f - 1, by omega⟩
    obtain ⟨g1, g2, g3, g4, g5⟩ := beg_e ⟨w, by omega⟩
    have g1 : mI_35 w = nI (begW w) := g1
    have g2 : mI_35 (w + 1) = nI (begW w + wlen w) := g2
    have g3 : wlen w ≤ 5 := g3
    have eu : aR σ 35 (nI (w + 1)) = nI (begW w + wlen w) := by rw [aR_nI (by omega), hM.2.2.2.2]; exact g2
    have ev : aR σ 35 (nI w) = nI (begW w) := by rw [aR_nI (by omega), hM.2.2.2.2]; exact g1
    have en : nI (begW w + wlen w) - nI (begW w) = nI (wlen w) := by rw [nI_subN (by omega), show begW w + wlen w - begW w = wlen w by omega]
    have ez : σ.1 8 - σ.1 11 = nI (e - q) := by rw [h8, h11, nI_subN hqe]
    have e1 : fX12_readWord_31 N (f + 1) σ (nI w) = fX12_readWord_126 N (fX12_readWord_31 N f) σ (nI w) (bI (isW b q e w)) := by
      rw [rw31_s, rw31_k (nI_ge (b := 11) (by omega) (by decide)) (nI_1 w) (ix_nI (by omega) (by decide)) (ix_nI (by omega) (by decide)) eu ev en ez]
      unfold isW
      by_cases z : e - q = wlen w
      · rw [if_pos (by rw [z]), decide_eq_true z, Bool.true_and]
        exact mcmp (e := e) hM (by omega) h11 (by omega) (fun k hk => hl (q + k) (by omega) (by omega)) (wlen w) 0 N (by omega) (by omega)
      · rw [if_neg (fun y => z ((nI_eq (by omega) (by omega)).mp y).symm), decide_eq_false z, Bool.false_and]
        obtain ⟨N', rfl⟩ : ∃ g, N = g + 1 := ⟨N - 1, by omega⟩
        rw [rw75_s, rw75_0]
        rfl
    cases z : isW b q e w with
    | false =>
      obtain ⟨x9, x10, i1, i2, i3⟩ := ih (w + 1) f σ (by omega) (by omega) hM h8 h11
      refine ⟨x9, x10, ?_, fun h => i2 (fun v h1 h2 => h v (by omega) h2), fun v h1 h2 h3 => ?_⟩
      · rw [e1, z]
        exact (rw126_0 (nI_1 w)).trans i1
      · by_cases y : v = w
        · subst y; rw [z] at h3; cases h3
        · exact i3 v (by omega) h2 h3
    | true =>
      have e6 : ((6 : Int32) ≤ nI w) ↔ ¬ w < 6 := by
        have h := nI_leI (a := 6) (b := w) (by decide) (by omega)
        have h : (6 : Int32) ≤ nI w ↔ 6 ≤ w := h
        rw [h]; omega
      obtain ⟨x9, x10, i1, i2, i3⟩ := ih (w + 1) f (sI (sI σ 9 (if (6 : Int32) ≤ nI w then 4 else 2)) 10 (if (6 : Int32) ≤ nI w then nI w - 6 else nI w)) (by omega) (by omega) hM h8 h11
      have no : ∀ v, w + 1 ≤ v → v < 11 → isW b q e v = false := fun v h1 h2 => by
        rw [isW_d (by omega) z h2]; exact decide_eq_false (by omega)
      obtain ⟨j1, j2⟩ := i2 no
      have hS : sI (sI (sI (sI σ 9 (if (6 : Int32) ≤ nI w then 4 else 2)) 10 (if (6 : Int32) ≤ nI w then nI w - 6 else nI w)) 9 x9) 10 x10 = sI (sI σ 9 (if (6 : Int32) ≤ nI w then 4 else 2)) 10 (if (6 : Int32) ≤ nI w then nI w - 6 else nI w) := by
        rw [j1, sI_me, j2, sI_me]
      refine ⟨if (6 : Int32) ≤ nI w then 4 else 2, if (6 : Int32) ≤ nI w then nI w - 6 else nI w, ?_, fun h => ?_, fun v h1 h2 h3 => ?_⟩
      · rw [e1, z]
        refine (rw126_1 (by decide) (nI_1 w)).trans (i1.trans ?_)
        rw [hS]
      · have := h w (Nat.le_refl _) (by omega)
        rw [z] at this; cases this
      · have ev : v = w := by
          by_cases y : v = w
          · exact y
          · have := no v (by omega) h2
            rw [h3] at this; cases this
        subst ev
        by_cases y : v < 6
        · rw [if_neg (fun k => e6.mp k y), if_neg (fun k => e6.mp k y), if_pos y, if_pos y]
          exact ⟨rfl, rfl⟩
        · rw [if_pos (e6.mpr y), if_pos (e6.mpr y), if_neg y, if_neg y]
          exact ⟨rfl, nI_subN (a := v) (c := 6) (by omega)⟩
theorem wc_k : ∀ w : Fin 11, kdT (wcode w.val) = (if w.val < 6 then 2 else 4) ∧ woT (wcode w.val) 0 = (if w.val < 6 then w.val else w.val - 6) ∧ ¬ wcode w.val = 2 := by decide
theorem woT_n {t nm : Nat} (h : ¬ t = 2) : woT t nm = woT t 0 := by
  unfold woT
  rw [if_neg h, if_neg h]
theorem mnext {N nB p : Nat} {b : Nat → Nat} {σ : St} (hN : 200 ≤ N) (hM : tpM b nB σ) (hp : p ≤ nB) (h8 : σ.1 8 = nI p) : ∃ σ', fX12_next N σ = some σ' ∧ σ'.1 8 = nI (bhA b nB (skB b nB p)) ∧ σ'.1 9 = nI (kdT (tokA b nB (skB b nB p))) ∧ σ'.1 11 = nI (skB b nB p) ∧ (2 ≤ tokA b nB (skB b nB p) → σ'.1 10 = nI (woT (tokA b nB (skB b nB p)) (nmA b nB (skB b nB p)))) ∧ (∀ k, (k < 8 ∨ 11 < k) → σ'.1 k = σ.1 k) ∧ σ'.2 = σ.2 := by
  have h160 := hM.1
  have e0 : fX12_next N σ = fX12_next_52 N (sI σ 8 (nI (skB b nB p))) := by
    have := mblank (N := N) hM (nB - p) p N (by omega) (by omega)
    rw [← h8, sI_me] at this
    exact this
  have hq := skB_b (b := b) hp
  rw [e0]
  generalize skB b nB p = q at hq ⊢
  have h5 : (sI σ 8 (nI q)).1 5 = nI nB := hM.2.1
  have h3 : sI (sI σ 8 (nI q)) 11 (nI q) = sI (sI σ 11 (nI q)) 8 (nI q) := sI_cm σ (by decide) _ _
  by_cases hlt : q < nB
  · have n58 : ¬ (sI σ 8 (nI q)).1 8 = (sI σ 8 (nI q)).1 5 := by rw [h5]; exact fun z => by have := (nI_eq (a := q) (by omega) (by omega)).mp z; omega
    have hl : fX12_isLetter N (sI (sI σ 8 (nI q)) 11 ((sI σ 8 (nI q)).1 8)) ((sI σ 8 (nI q)).1 8) = some (bI (isL (b q))) := by
      have hM' : tpM b nB (sI (sI σ 8 (nI q)) 11 (nI q)) := hM
      have := mlet (N := N) hM' hq.2
      rw [decide_eq_true hlt, Bool.true_and] at this
      exact this
    have hd : fX12_isDigit N (sI (sI σ 8 (nI q)) 11 ((sI σ 8 (nI q)).1 8)) ((sI σ 8 (nI q)).1 8) = some (bI (isD (b q))) := by
      have hM' : tpM b nB (sI (sI σ 8 (nI q)) 11 (nI q)) := hM
      have := mdig (N := N) hM' hq.2
      rw [decide_eq_true hlt, Bool.true_and] at this
      exact this
    have hM1 : tpM b nB (sI σ 11 (nI q)) := hM
    unfold tokA bhA
    rw [if_pos hlt, if_pos hlt]
    cases z1 : isL (b q) with
    | true =>
      rw [z1] at hl
      rw [if_pos (show true = true from rfl), if_pos (show true = true from rfl)]
      have s1 := sk_b (fun k => isL (b k)) (nB - q) q
      have e1 : fX12_readWord N (sI (sI σ 8 (nI q)) 11 ((sI σ 8 (nI q)).1 8)) = fX12_readWord_31 N N (sI (sI (sI σ 11 (nI q)) 8 (nI (skL b nB q))) 9 5) 0 := by
        show fX12_readWord N (sI (sI σ 8 (nI q)) 11 (nI q)) = _
        rw [h3]
        exact mletters hM1 (nB - q) q N (by omega) (by omega)
      have s1 : q ≤ skL b nB q ∧ skL b nB q ≤ q + (nB - q) := s1
      have hM2 : tpM b nB (sI (sI (sI σ 11 (nI q)) 8 (nI (skL b nB q))) 9 5) := hM
      obtain ⟨x9, x10, i1, i2, i3⟩ := mw31 (N := N) (b := b) (e := skL b nB q) hN s1.1 (show skL b nB q ≤ nB by omega) (fun k k1 k2 => sk_all (P := fun k => isL (b k)) (nB - q) q k k1 k2) 11 0 N (sI (sI (sI σ 11 (nI q)) 8 (nI (skL b nB q))) 9 5) (by omega) (by omega) hM2 rfl rfl
      refine ⟨_, n52_w n58 hl (by decide) (e1.trans i1), rfl, ?_, rfl, ?_, fun k hk => ?_, rfl⟩
      · show x9 = _
        rcases wd_or b q (skL b nB q) with h | ⟨w, hw, h⟩
        · rw [wdT_no h, (i2 (fun v _ hv => h v hv)).1]; rfl
        · rw [wdT_of hw h, (i3 w (Nat.zero_le _) hw h).1, (wc_k ⟨w, hw⟩).1]
      · show _ → x10 = _
        intro h2
        rcases wd_or b q (skL b nB q) with h | ⟨w, hw, h⟩
        · rw [wdT_no h] at h2; omega
        · rw [wdT_of hw h, (i3 w (Nat.zero_le _) hw h).2, woT_n (wc_k ⟨w, hw⟩).2.2, (wc_k ⟨w, hw⟩).2.1]
      · show va_up (va_up (va_up (va_up (va_up σ.1 11 _) 8 _) 9 _) 9 _) 10 _ k = _
        rw [up_n (by omega), up_n (by omega), up_n (by omega), up_n (by omega), up_n (by omega)]
    | false =>
      rw [z1] at hl
      rw [if_neg (show ¬ false = true by decide), if_neg (show ¬ false = true by decide)]
      cases z2 : isD (b q) with
      | true =>
        rw [z2] at hd
        rw [if_pos (show true = true from rfl), if_pos (show true = true from rfl)]
        have e1 : fX12_readNumber N (sI (sI σ 8 (nI q)) 11 ((sI σ 8 (nI q)).1 8)) = some (sI (sI (sI (sI σ 11 (nI q)) 10 (nI (nvD b q (min (skD b nB q - q) 4)))) 8 (nI (skD b nB q))) 9 (if skD b nB q - q ≤ 4 then 1 else 5)) := by
          have := mnum (N := N) hM1 (q := q) rfl (nB - q) q N (by omega) (by omega) (Nat.le_refl _)
          rw [Nat.sub_self] at this
          show fX12_readNumber_5 N N (sI (sI (sI σ 8 (nI q)) 11 (nI q)) 10 0) = _
          rw [h3, sI_cm (sI σ 11 (nI q)) (j := 8) (k := 10) (by decide)]
          exact this
        refine ⟨_, n52_d n58 hl hd (by decide) e1, rfl, ?_, rfl, ?_, fun k hk => ?_, rfl⟩
        · show (if skD b nB q - q ≤ 4 then (1 : Int32) else 5) = _
          by_cases y : skD b nB q - q ≤ 4
          · rw [if_pos y, if_pos y]; rfl
          · rw [if_neg y, if_neg y]; rfl
        · show _ → nI (nvD b q (min (skD b nB q - q) 4)) = _
          intro h2
          by_cases y : skD b nB q - q ≤ 4
          · rw [if_pos y, show min (skD b nB q - q) 4 = skD b nB q - q by omega]; rfl
          · rw [if_neg y] at h2; omega
        · show va_up (va_up (va_up (va_up σ.1 11 _) 10 _) 8 _) 9 _ k = _
          rw [up_n (by omega), up_n (by omega), up_n (by omega), up_n (by omega)]
      | false =>
        rw [z2] at hd
        rw [if_neg (show ¬ false = true by decide), if_neg (show ¬ false = true by decide)]
        obtain ⟨b1, b2⟩ := hM.2.2.1 q hlt
        have x2 : ix ((sI σ 8 (nI q)).1 8) 160 = true := ix_nI (k := q) (by omega) (by decide)
        have x3 : aR (sI σ 8 (nI q)) 31 ((sI σ 8 (nI q)).1 8) = mbt (b q) := by show aR σ 31 (nI q) = _; rw [aR_nI (by omega)]; exact b1
        have hc : isS (b q) = true ↔ (mbt (b q) = 40 ∨ mbt (b q) = 41 ∨ mbt (b q) = 59 ∨ mbt (b q) = 43 ∨ mbt (b q) = 45 ∨ mbt (b q) = 42 ∨ mbt (b q) = 60 ∨ mbt (b q) = 61) := (mch ⟨b q, b2⟩).2.2.2.1
        refine ⟨_, (n52_s n58 hl hd x2 x3).trans n205, ?_, ?_, rfl, ?_, fun k hk => ?_, rfl⟩
        · show nI q + 1 = _
          rw [nI_1]
        · show (if sgV (mbt (b q)) = 0 then (5 : Int32) else 3) = _
          cases z3 : isS (b q) with
          | true =>
            have := isS_r z3
            rw [if_neg (fun y => sgV_e.mp y (hc.mp z3)), if_pos rfl]
            have k3 : kdT (b q) = 3 := by unfold kdT; rw [if_neg (by omega), if_neg (by omega), if_neg (by omega), if_pos (by omega)]
            rw [k3]; rfl
          | false =>
            rw [if_pos (sgV_e.mpr (fun y => by rw [hc.mpr y] at z3; cases z3)), if_neg (by decide)]
            rfl
        · show _ → mbt (b q) = _
          intro h2
          cases z3 : isS (b q) with
          | true =>
            have := isS_r z3
            have em : mbt (b q) = nI (b q) := (mch ⟨b q, b2⟩).2.2.2.2 (by rw [show isS (⟨b q, b2⟩ : Fin 256).val = true from z3]; simp)
            have w : woT (b q) (nmA b nB q) = b q := by unfold woT; rw [if_neg (by omega), if_pos (by omega)]
            rw [if_pos rfl, w, em]
          | false => rw [z3, if_neg (by decide)] at h2; omega
        · show va_up (va_up (va_up (va_up (va_up σ.1 8 _) 11 _) 10 _) 9 _) 8 _ k = _
          rw [up_n (by omega), up_n (by omega), up_n (by omega), up_n (by omega), up_n (by omega)]
  · have eq : q = nB := by omega
    unfold tokA bhA
    rw [if_neg hlt, if_neg hlt]
    refine ⟨_, n52_e (by rw [h5, eq]; rfl), rfl, rfl, rfl, fun h2 => by omega, fun k hk => ?_, rfl⟩
    show va_up (va_up (va_up σ.1 8 _) 11 _) 9 _ k = _
    rw [up_n (by omega), up_n (by omega), up_n (by omega)]
theorem nx_L {N nB la : Nat} {b : Nat → Nat} {σ0 : St} (hN : 200 ≤ N) (hM : tpM b nB σ0) : nxH N la σ0 (TL b nB) (NML b nB) (PLL b nB) (bhL b nB) := by
  intro i σ hi hf hC
  have hM' : tpM b nB σ := ⟨hM.1, by rw [hf.1 5 (by omega)]; exact hM.2.1, fun k hk => by rw [hf.2.1 31 (by decide) (by decide) (by decide) (by decide)]; exact hM.2.2.1 k hk, by rw [hf.2.1 34 (by decide) (by decide) (by decide) (by decide)]; exact hM.2.2.2.1, by rw [hf.2.1 35 (by decide) (by decide) (by decide) (by decide)]; exact hM.2.2.2.2⟩
  obtain ⟨σ', e1, e2, e3, e4, e5, e6, e7⟩ := mnext hN hM' (pos_le b nB (i + 1)) hC.1
  exact ⟨σ', e1, ⟨e2, e3, e4, e5⟩, e6, e7⟩
theorem nx_0 {N nB : Nat} {b : Nat → Nat} {σ : St} (hN : 200 ≤ N) (hM : tpM b nB σ) (h8 : σ.1 8 = 0) : ∃ σ', fX12_next N σ = some σ' ∧ Cur (TL b nB) (NML b nB) (PLL b nB) (bhL b nB) 0 σ' ∧ (∀ k, (k < 8 ∨ 11 < k) → σ'.1 k = σ.1 k) ∧ σ'.2 = σ.2 := by
  obtain ⟨σ', e1, e2, e3, e4, e5, e6, e7⟩ := mnext hN hM (Nat.zero_le nB) (show σ.1 8 = nI 0 from h8)
  exact ⟨σ', e1, ⟨e2, e3, e4, e5⟩, e6, e7⟩
