/-! PURE: the chosen SPANS, both sides -/
def pcb (b i : Nat) : Nat := cntB (fun j => b.testBit j) i
theorem cntB_n {P : Nat → Bool} {m : Nat} : ∀ n, m ≤ n → cntB P m ≤ cntB P n
  | 0, h => by have : m = 0 := by omega
               rw [this]; exact Nat.le_refl _
  | n + 1, h => by
    by_cases e : m = n + 1
    · rw [e]; exact Nat.le_refl _
    · have := cntB_n (P := P) (m := m) n (by omega)
      show _ ≤ cntB P n + _
      omega
theorem pcb_s1 {b i : Nat} (h : b.testBit i = true) : pcb b (i + 1) = pcb b i + 1 := by
  show cntB _ i + (if b.testBit i = true then 1 else 0) = _
  rw [if_pos h]; rfl
theorem pcb_s0 {b i : Nat} (h : b.testBit i = false) : pcb b (i + 1) = pcb b i := by
  show cntB _ i + (if b.testBit i = true then 1 else 0) = _
  rw [h]; rfl
def sel (b : Nat) : Nat → Nat → Nat
  | 0, _ => 0
  | i + 1, t => if b.testBit i = true ∧ pcb b i = t then i else sel b i t
theorem sel_e {b i : Nat} (h : b.testBit i = true) : ∀ m, i < m → sel b m (pcb b i) = i
  | 0, hm => by omega
  | m + 1, hm => by
    show (if b.testBit m = true ∧ pcb b m = pcb b i then m else sel b m (pcb b i)) = i
    by_cases e : i = m
    · subst e; rw [if_pos ⟨h, rfl⟩]
    · have h1 : pcb b (i + 1) ≤ pcb b m := cntB_n m (by omega)
      rw [pcb_s1 h] at h1
      rw [if_neg (fun q => by have := q.2; omega)]
      exact sel_e h m (by omega)
/-- a choice: how many, which, their ENDS, their DAYS -/
def hiB (b i : Nat) : Prop := ∀ j, i ≤ j → b.testBit j = false
theorem hiB_of {b n : Nat} (h : b < 2 ^ n) : hiB b n := fun j hj => Nat.testBit_lt_two_pow (Nat.lt_of_lt_of_le h (Nat.pow_le_pow_right (by decide) hj))
theorem pcb_hi {b i : Nat} (h : hiB b i) : ∀ k, pcb b (i + k) = pcb b i
  | 0 => rfl
  | k + 1 => by rw [show i + (k + 1) = (i + k) + 1 by omega, pcb_s0 (h (i + k) (by omega)), pcb_hi h k]
def dSu (d n : Nat) (q : Nat → Nat) (S : Nat) : Nat := d + smN (fun t => if S.testBit t then q t else 0) n
theorem smN_cg {g h : Nat → Nat} : ∀ n, (∀ k, k < n → g k = h k) → smN g n = smN h n
  | 0, _ => rfl
  | n + 1, q => by unfold smN; rw [smN_cg n (fun k hk => q k (by omega)), q n (by omega)]
theorem dSu_lo {d n S : Nat} {q : Nat → Nat} (h : S < 2 ^ n) : dSu d (n + 1) q S = dSu d n q S := by
  unfold dSu
  show d + (smN _ n + (if S.testBit n then q n else 0)) = _
  rw [Nat.testBit_lt_two_pow h]; rfl
theorem dSu_hi {d n S : Nat} {q : Nat → Nat} (h : S < 2 ^ n) : dSu d (n + 1) q (S + 2 ^ n) = dSu d n q S + q n := by
  unfold dSu
  show d + (smN (fun t => if (S + 2 ^ n).testBit t then q t else 0) n + (if (S + 2 ^ n).testBit n then q n else 0)) = _
  rw [Nat.add_comm S, Nat.testBit_two_pow_add_eq, Nat.testBit_lt_two_pow h]
  rw [smN_cg (g := fun t => if (2 ^ n + S).testBit t then q t else 0) (h := fun t => if S.testBit t then q t else 0) n (fun k hk => by rw [Nat.testBit_two_pow_add_gt hk])]
  show d + (_ + q n) = _
  omega
theorem dSu_b {d n S : Nat} {q : Nat → Nat} (hq : ∀ t, t < n → q t ≤ 60) : dSu d n q S ≤ d + 60 * n := by
  unfold dSu
  have := smN_b (g := fun t => if S.testBit t then q t else 0) (b := 60) n (fun k hk => by
    show (if S.testBit k = true then q k else 0) ≤ 60
    have := hq k hk
    split <;> omega)
  omega
theorem c20_s {N f : Nat} {σ : St} {x1 x2 : Int32} : fX1_choose_20 N (f + 1) σ x1 x2 = fX1_choose_20b N (fX1_choose_20 N f) σ x1 x2 := rfl
theorem c56_s {N f : Nat} {σ : St} {k20 : St → Int32 → Int32 → Option St} {x1 x2 x3 x4 : Int32} : fX1_choose_56 N k20 (f + 1) σ x1 x2 x3 x4 = fX1_choose_56b N k20 (fX1_choose_56 N k20 f) σ x1 x2 x3 x4 := rfl
theorem c20_end {N : Nat} {σ : St} {k20 : St → Int32 → Int32 → Option St} {x1 x2 : Int32} (h : 16 ≤ x2) : fX1_choose_20b N k20 σ x1 x2 = some σ := if_pos h
theorem c20_full {N : Nat} {σ : St} {k20 : St → Int32 → Int32 → Option St} {x1 x2 : Int32} (h : ¬ 16 ≤ x2) (h6 : 6 ≤ σ.1 16) : fX1_choose_20b N k20 σ x1 x2 = some σ := (if_neg h).trans (if_pos h6)
theorem c20_skip {N : Nat} {σ : St} {k20 : St → Int32 → Int32 → Option St} {x1 x2 c : Int32} (h : ¬ 16 ≤ x2) (h6 : ¬ 6 ≤ σ.1 16) (hb : (x1 >>> (x2 &&& 31)) &&& 1 = c) (hc : c = 0) : fX1_choose_20b N k20 σ x1 x2 = k20 σ x1 (x2 + 1) := by
  subst hb
  exact (if_neg h).trans ((if_neg h6).trans (if_pos hc))
theorem c20_take {N : Nat} {σ : St} {k20 : St → Int32 → Int32 → Option St} {x1 x2 c v : Int32} (h : ¬ 16 ≤ x2) (h6 : ¬ 6 ≤ σ.1 16) (hb : (x1 >>> (x2 &&& 31)) &&& 1 = c) (hc : ¬ c = 0) (hv : (1 : Int32) <<< (σ.1 16 &&& 31) = v) : fX1_choose_20b N k20 σ x1 x2 = fX1_choose_56 N k20 N σ x1 x2 v 0 := by
  subst hb
  subst hv
  exact (if_neg h).trans ((if_neg h6).trans (if_neg hc))
theorem c56_step {N : Nat} {σ : St} {k20 : St → Int32 → Int32 → Option St} {k56 : St → Int32 → Int32 → Int32 → Int32 → Option St} {x1 x2 x3 x4 y : Int32} (h : ¬ x3 ≤ x4) (h1 : ix x4 64 = true) (h2 : ix x2 16 = true) (hy : x4 + x3 = y) (h3 : ix y 64 = true) : fX1_choose_56b N k20 k56 σ x1 x2 x3 x4 = k56 (aW σ 76 y (aR σ 76 x4 + aR σ 41 x2)) x1 x2 x3 (x4 + 1) := by
  subst hy
  exact (if_neg h).trans ((if_pos h1).trans ((if_pos h2).trans (if_pos h3)))
theorem c56_end {N : Nat} {σ σ2 : St} {k20 : St → Int32 → Int32 → Option St} {k56 : St → Int32 → Int32 → Int32 → Int32 → Option St} {x1 x2 x3 x4 r : Int32} (h : x3 ≤ x4) (h1 : ix (σ.1 16) 6 = true) (he : fX5_ends N (aW σ 74 (σ.1 16) x2) x2 = some (r, σ2)) : fX1_choose_56b N k20 k56 σ x1 x2 x3 x4 = k20 (sI (aW σ2 75 (σ.1 16) r) 16 (σ2.1 16 + 1)) x1 (x2 + 1) := by
  refine (if_pos h).trans ((if_pos h1).trans ?_)
  show bd2 (fX5_ends N (aW σ 74 (σ.1 16) x2) x2) (fun r13 σ11 => if ix (σ.1 16) 6 = true then nm (aW σ11 75 (σ.1 16) r13) fun σ15 => nm (sI σ15 16 (σ15.1 16 + 1)) fun σ17 => fX1_choose_131 N k20 σ17 x1 x2 else none) = _
  rw [he]
  exact if_pos h1
theorem c56_loop {N cnt sp a : Nat} {τ : St} {k20 : St → Int32 → Int32 → Option St} {x1 : Int32} {v : Nat → Nat} (hc : cnt < 6) (hsp : sp < 16) (ha : τ.2.1 41 sp = nI a) : ∀ (m f i : Nat) (g : Nat → Int32), i + m = 2 ^ cnt → m < f → (∀ S, S < 2 ^ cnt → g S = nI (v S)) → (∀ S, S < i → g (S + 2 ^ cnt) = nI (v S + a)) → ∃ g' kk, fX1_choose_56 N k20 f (sA τ 76 g) x1 (nI sp) (nI (2 ^ cnt)) (nI i) = fX1_choose_56b N k20 kk (sA τ 76 g') x1 (nI sp) (nI (2 ^ cnt)) (nI (2 ^ cnt)) ∧ (∀ S, S < 2 ^ cnt → g' S = nI (v S)) ∧ (∀ S, S < 2 ^ cnt → g' (S + 2 ^ cnt) = nI (v S + a)) := by
  intro m
  have h32 : 2 ^ cnt ≤ 2 ^ 5 := Nat.pow_le_pow_right (by decide) (by omega)
  induction m with
  | zero =>
    intro f i g hi hf h1 h2
    cases f with
    | zero => omega
    | succ f =>
      have e : i = 2 ^ cnt := by omega
      subst e
      exact ⟨g, _, c56_s, h1, h2⟩
  | succ m ih =>
    intro f i g hi hf h1 h2
    cases f with
    | zero => omega
    | succ f =>
      rw [c56_s, c56_step (y := nI (i + 2 ^ cnt)) (nI_ge (by omega) (by omega)) (ix_nI (show i < 64 by omega) (by decide)) (ix_nI hsp (by decide)) (nI_add _ _) (ix_nI (show i + 2 ^ cnt < 64 by omega) (by decide)), aW_nI (by omega), aR_nI (by omega), aR_nI (by omega), sA_sA, nI_1]
      rw [show (sA τ 76 g).2.1 76 = g from rfl, show (sA τ 76 g).2.1 41 sp = nI a from ha, h1 i (by omega), nI_add]
      refine ih f (i + 1) _ (by omega) (by omega) (fun S hS => ?_) (fun S hS => ?_)
      · rw [pk_un (by omega)]; exact h1 S hS
      · by_cases e : S = i
        · subst e; rw [up_s]
        · rw [pk_un (by omega)]; exact h2 S (by omega)
/-- what the class holds of a choice up to i -/
def chX (b i d : Nat) (e : Nat → Int32) (q : Nat → Nat) (τ : St) : Prop := τ.1 16 = nI (pcb b i) ∧ (∀ t, t < pcb b i → τ.2.1 74 t = nI (sel b 16 t) ∧ τ.2.1 75 t = e (sel b 16 t)) ∧ ∀ S, S < 2 ^ pcb b i → τ.2.1 76 S = nI (dSu d (pcb b i) (fun t => q (sel b 16 t)) S)
theorem choose_loop {N b : Nat} {κ : Nat → Nat} {σm : St} {e : Nat → Int32} {q : Nat → Nat} (hN : 200 ≤ N) (hb : b < 2 ^ κ 3) (hpc : pcb b 16 ≤ 6) (he : ∀ j, j < κ 3 → fX12_ends N σm (nI j) = some (e j)) (hq : ∀ j, j < κ 3 → σm.2.1 19 j = nI (q j)) : ∀ (m f i : Nat) (τ : St), i + m = 16 → m < f → InvK κ τ σm → chX b i (κ 0) e q τ → ∃ τ', fX1_choose_20 N f τ (nI b) (nI i) = some τ' ∧ InvK κ τ' σm ∧ chX b 16 (κ 0) e q τ' := by
  intro m
  induction m with
  | zero =>
    intro f i τ hi hf hK hX
    cases f with
    | zero => omega
    | succ f =>
      have e16 : i = 16 := by omega
      subst e16
      exact ⟨τ, by rw [c20_s]; exact c20_end (by decide), hK, hX⟩
  | succ m ih =>
    intro f i τ hi hf hK hX
    cases f with
    | zero => omega
    | succ f =>
      obtain ⟨hd, hs, hla, hhe, hho, hli, hle, hc, hta, hx, hcl, hlo, hsh⟩ := id hK
      have h16 := hli.2.2.2.1
      have hb31 : b < 2 ^ 31 := Nat.lt_of_lt_of_le hb (Nat.pow_le_pow_right (by decide) (by omega))
      have hi16 : ¬ (16 : Int32) ≤ nI i := nI_ge (b := 16) (by omega) (by omega)
      have hbit := shr_bt hb31 (show i < 31 by omega)
      have hle6 : pcb b i ≤ 6 := Nat.le_trans (cntB_n 16 (by omega)) hpc
      rw [c20_s]
      by_cases q6 : pcb b i = 6
      · refine ⟨τ, c20_full hi16 (by rw [hX.1, q6]; decide), hK, ?_⟩
        have h1 : pcb b i ≤ pcb b 16 := cntB_n 16 (by omega)
        have h2 : pcb b 16 = pcb b i := by omega
        unfold chX
        rw [h2]
        exact hX
      · have h6 : ¬ (6 : Int32) ≤ τ.1 16 := by rw [hX.1]; exact nI_ge (b := 6) (by omega) (by omega)
        cases hbt : b.testBit i with
        | false =>
          rw [hbt] at hbit
          rw [c20_skip hi16 h6 hbit rfl, nI_1]
          refine ih f (i + 1) τ (by omega) (by omega) hK ?_
          unfold chX
          rw [pcb_s0 hbt]
          exact hX
        | true =>
          rw [hbt] at hbit
          have hiP : i < κ 3 := by
            by_cases z : i < κ 3
            · exact z
            · rw [hiB_of hb i (by omega)] at hbt; cases hbt
          have hp64 : 2 ^ pcb b i ≤ 2 ^ 5 := Nat.pow_le_pow_right (by decide) (by omega)
          rw [c20_take hi16 h6 hbit (by decide) (v := nI (2 ^ pcb b i)) (by rw [hX.1]; exact shl_nI (by omega))]
          have ha : τ.2.1 41 i = nI (q i) := by rw [(hli.2.2.2.2.2.2.2.2.2.2.1 i hiP).1]; exact hq i hiP
          obtain ⟨g', kk, l1, l2, l3⟩ := c56_loop (N := N) (k20 := fX1_choose_20 N f) (x1 := nI b) (τ := τ) (sp := i) (cnt := pcb b i) (v := dSu (κ 0) (pcb b i) (fun t => q (sel b 16 t))) (by omega) (by omega) ha (2 ^ pcb b i) N 0 (τ.2.1 76) (by omega) (by omega) hX.2.2 (fun S hS => by omega)
          rw [sA_self] at l1
          rw [show fX1_choose_56 N (fX1_choose_20 N f) N τ (nI b) (nI i) (nI (2 ^ pcb b i)) 0 = _ from l1]
          have e16 : (sA τ 76 g').1 16 = nI (pcb b i) := hX.1
          obtain ⟨r, g, z1, z2, _⟩ := ends_e (N := N) (σx := sA (sA τ 76 g') 74 (upd (τ.2.1 74) (pcb b i) (nI i))) (σm := σm) hd hc hs hli hle hN hiP
          have er : r = e i := Option.some.inj (z2.symm.trans (he i hiP))
          subst er
          rw [c56_end (Int32.le_refl _) (by rw [e16]; exact ix_nI (by omega) (by decide)) (by rw [e16, aW_nI (by omega)]; exact z1), e16, aW_nI (by omega), nI_1, show (sA (sA (sA τ 76 g') 74 (upd (τ.2.1 74) (pcb b i) (nI i))) 50 g).1 16 = nI (pcb b i) from hX.1, nI_1]
          refine ih f (i + 1) _ (by omega) (by omega) ⟨hd, hs, hla, hhe, hho, hli, hle, hc, hta, hx, hcl, hlo, hsh⟩ ?_
          unfold chX
          rw [pcb_s1 hbt]
          have es : sel b 16 (pcb b i) = i := sel_e hbt 16 (by omega)
          refine ⟨rfl, fun t ht => ?_, fun S hS => ?_⟩
          · show upd (τ.2.1 74) (pcb b i) (nI i) t = _ ∧ upd (τ.2.1 75) (pcb b i) (e i) t = _
            by_cases z : t = pcb b i
            · subst z; rw [up_s, up_s, es]; exact ⟨rfl, rfl⟩
            · rw [pk_un z, pk_un z]; exact hX.2.1 t (by omega)
          · show g' S = _
            rw [Nat.pow_succ] at hS
            by_cases z : S < 2 ^ pcb b i
            · rw [dSu_lo z]; exact l2 S z
            · have e2 : S = (S - 2 ^ pcb b i) + 2 ^ pcb b i := by omega
              rw [e2, dSu_hi (by omega), l3 _ (by omega), es]
