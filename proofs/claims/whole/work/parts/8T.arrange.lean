/-! PURE: the class's best order -/
def Cw (d n : Nat) (q : Nat → Nat) (E : Nat → Int32) (S j : Nat) : Nat := dSu d n q S + (if E j = -1 then 0 else if nI (dSu d n q S) ≤ E j then 0 else 1048576)
theorem Cw_b {d n : Nat} {q : Nat → Nat} {E : Nat → Int32} (hd : d ≤ 9999) (hn : n ≤ 6) (hq : ∀ t, t < n → q t ≤ 60) (S j : Nat) : Cw d n q E S j ≤ 1058935 := by
  have := dSu_b (d := d) (n := n) (S := S) hq
  unfold Cw
  split
  · omega
  · split <;> omega
def wbF (σ : St) (x2 v1 : Int32) : Option Int32 := if ix x2 6 = true then if (aR σ 75 x2) = (-1 : Int32) then (if ix v1 64 = true then if ix v1 64 = true then some (((aR σ 77 v1) + (aR σ 76 v1)) + 0) else none else none) else (if ix v1 64 = true then if ix x2 6 = true then if (aR σ 76 v1) ≤ (aR σ 75 x2) then (if ix v1 64 = true then if ix v1 64 = true then some (((aR σ 77 v1) + (aR σ 76 v1)) + 0) else none else none) else (if ix v1 64 = true then if ix v1 64 = true then some (((aR σ 77 v1) + (aR σ 76 v1)) + 1048576) else none else none) else none else none) else none
theorem wb_0 {N : Nat} {σ : St} {x1 x2 v1 : Int32} (h : ¬ x2 = -1) (hv : x1 ||| ((1 : Int32) <<< (x2 &&& 31)) = v1) : fX1_weightBehind N σ x1 x2 = wbF σ x2 v1 := by
  subst hv
  exact if_neg h
theorem wbF_e {σ : St} {x2 v1 : Int32} (h2 : ix x2 6 = true) (h3 : ix v1 64 = true) : wbF σ x2 v1 = some ((aR σ 77 v1 + aR σ 76 v1) + (if aR σ 75 x2 = -1 then 0 else if aR σ 76 v1 ≤ aR σ 75 x2 then 0 else 1048576)) := by
  unfold wbF
  rw [if_pos h2, if_pos h2, if_pos h3, if_pos h3]
  by_cases q1 : aR σ 75 x2 = -1
  · rw [if_pos q1, if_pos q1]
  · rw [if_neg q1, if_neg q1]
    by_cases q2 : aR σ 76 v1 ≤ aR σ 75 x2
    · rw [if_pos q2, if_pos q2, if_pos h3]
    · rw [if_neg q2, if_neg q2, if_pos h3, if_pos h3, if_pos h3]
/-- what the class holds before it arranges -/
def arX (d n : Nat) (q : Nat → Nat) (E : Nat → Int32) (τ : St) : Prop := τ.1 16 = nI n ∧ (∀ t, t < n → τ.2.1 75 t = E t) ∧ ∀ S, S < 2 ^ n → τ.2.1 76 S = nI (dSu d n q S)
theorem or_b {n S j : Nat} (hS : S < 2 ^ n) (hj : j < n) : S ||| 2 ^ j < 2 ^ n := Nat.or_lt_two_pow hS (Nat.pow_lt_pow_right (by decide) hj)
theorem xwt {N d n S j B : Nat} {q : Nat → Nat} {E : Nat → Int32} {σ : St} (hn : n ≤ 6) (h : arX d n q E σ) (hS : S < 2 ^ n) (hj : j < n) (hB : σ.2.1 77 (S ||| 2 ^ j) = nI B) : fX1_weightBehind N σ (nI S) (nI j) = some (nI (Cw d n q E (S ||| 2 ^ j) j + B)) := by
  have h64 : 2 ^ n ≤ 2 ^ 6 := Nat.pow_le_pow_right (by decide) hn
  have hj2 : 2 ^ j < 2 ^ n := Nat.pow_lt_pow_right (by decide) hj
  have hb := or_b hS hj
  rw [wb_0 (v1 := nI (S ||| 2 ^ j)) (nI_m1 (by omega)) (by rw [shl_nI (by omega), or_nI (by omega) (by omega)]), wbF_e (ix_nI (by omega) (by decide)) (ix_nI (by omega) (by decide)), aR_nI (by omega), aR_nI (by omega), aR_nI (by omega), h.2.1 j hj, h.2.2 _ hb, hB]
  unfold Cw
  by_cases q1 : E j = -1
  · rw [if_pos q1, if_pos q1, nI_add, Int32.add_zero]
    exact congrArg (fun x => some (nI x)) (by omega)
  · rw [if_neg q1, if_neg q1]
    by_cases q2 : nI (dSu d n q (S ||| 2 ^ j)) ≤ E j
    · rw [if_pos q2, if_pos q2, nI_add, Int32.add_zero]
      exact congrArg (fun x => some (nI x)) (by omega)
    · rw [if_neg q2, if_neg q2, show (1048576 : Int32) = nI 1048576 from rfl, nI_add, nI_add]
      exact congrArg (fun x => some (nI x)) (by omega)
def enO (c : Option Nat) : Int32 := match c with
  | none => -1
  | some i => nI i
theorem l4_s {N f : Nat} {σ : St} {x1 x2 x3 : Int32} : fX1_leastNext_4 N σ (f + 1) x1 x2 x3 = fX1_leastNext_4b N σ (fX1_leastNext_4 N σ f) x1 x2 x3 := rfl
theorem l25_0 {N : Nat} {σ : St} {k4 : Int32 → Int32 → Int32 → Option Int32} {x1 x2 x3 : Int32} : fX1_leastNext_25 N σ k4 x1 x2 x3 0 = k4 x1 x2 (x3 + 1) := rfl
theorem l4_end {N : Nat} {σ : St} {k4 : Int32 → Int32 → Int32 → Option Int32} {x1 x2 x3 : Int32} (h : σ.1 16 ≤ x3) : fX1_leastNext_4b N σ k4 x1 x2 x3 = some x2 := if_pos h
theorem l4_used {N : Nat} {σ : St} {k4 : Int32 → Int32 → Int32 → Option Int32} {x1 x2 x3 c : Int32} (h : ¬ σ.1 16 ≤ x3) (hb : (x1 >>> (x3 &&& 31)) &&& 1 = c) (hc : ¬ c = 0) : fX1_leastNext_4b N σ k4 x1 x2 x3 = k4 x1 x2 (x3 + 1) := by
  subst hb
  exact (if_neg h).trans ((if_neg hc).trans l25_0)
theorem l4_first {N : Nat} {σ : St} {k4 : Int32 → Int32 → Int32 → Option Int32} {x1 x2 x3 c : Int32} (h : ¬ σ.1 16 ≤ x3) (hb : (x1 >>> (x3 &&& 31)) &&& 1 = c) (hc : c = 0) (h2 : x2 = -1) : fX1_leastNext_4b N σ k4 x1 x2 x3 = k4 x1 x3 (x3 + 1) := by
  subst hb
  exact (if_neg h).trans ((if_pos hc).trans ((if_neg (show ¬ (1 : Int32) = 0 from by decide)).trans (if_pos h2)))
theorem l4_cmp {N : Nat} {σ : St} {k4 : Int32 → Int32 → Int32 → Option Int32} {x1 x2 x3 c r1 r3 : Int32} (h : ¬ σ.1 16 ≤ x3) (hb : (x1 >>> (x3 &&& 31)) &&& 1 = c) (hc : c = 0) (h2 : ¬ x2 = -1) (w1 : fX1_weightBehind N σ x1 x3 = some r1) (w2 : fX1_weightBehind N σ x1 x2 = some r3) : fX1_leastNext_4b N σ k4 x1 x2 x3 = k4 x1 (if r3 ≤ r1 then x2 else x3) (x3 + 1) := by
  subst hb
  refine (if_neg h).trans ((if_pos hc).trans ((if_neg (show ¬ (1 : Int32) = 0 from by decide)).trans ((if_neg h2).trans ((bd_some w1).trans ((bd_some w2).trans ?_)))))
  by_cases q : r3 ≤ r1
  · rw [if_pos q, if_pos q]; rfl
  · rw [if_neg q, if_neg q]; rfl
theorem nxL_s {w : Nat → Nat} {S m j : Nat} {c : Option Nat} : nxL w S (m + 1) j c = nxL w S m (j + 1) (if S.testBit j then c else match c with | none => some j | some i => if w j < w i then some j else some i) := rfl
theorem next_l {N n S : Nat} {σ : St} {w : Nat → Nat} (hn : n ≤ 6) (h16 : σ.1 16 = nI n) (hS : S < 2 ^ n) (hw : ∀ j, j < n → S.testBit j = false → fX1_weightBehind N σ (nI S) (nI j) = some (nI (w j)) ∧ w j < 2 ^ 31) : ∀ (m f j : Nat) (c : Option Nat), j + m = n → m < f → (∀ i, c = some i → S.testBit i = false ∧ i < n) → fX1_leastNext_4 N σ f (nI S) (enO c) (nI j) = some (enO (nxL w S m j c)) := by
  intro m
  have h64 : 2 ^ n ≤ 2 ^ 6 := Nat.pow_le_pow_right (by decide) hn
  induction m with
  | zero =>
    intro f j c hj hf hc
    cases f with
    | zero => omega
    | succ f =>
      rw [l4_s, l4_end (by rw [h16]; exact nI_le (by omega) (by omega))]
      rfl
  | succ m ih =>
    intro f j c hj hf hc
    cases f with
    | zero => omega
    | succ f =>
      have hb := shr_bt (b := S) (i := j) (by omega) (by omega)
      have x1 : ¬ σ.1 16 ≤ nI j := by rw [h16]; exact nI_ge (by omega) (by omega)
      rw [l4_s, nxL_s]
      cases hbt : S.testBit j with
      | true =>
        rw [hbt] at hb
        rw [l4_used x1 hb (by decide), nI_1]
        exact ih f (j + 1) c (by omega) (by omega) hc
      | false =>
        rw [hbt] at hb
        rw [if_neg (by decide)]
        cases c with
        | none =>
          rw [l4_first x1 hb rfl (show enO none = -1 from rfl), nI_1]
          exact ih f (j + 1) (some j) (by omega) (by omega) (fun i e => by cases e; exact ⟨hbt, by omega⟩)
        | some i0 =>
          obtain ⟨h1, h2⟩ := hc i0 rfl
          obtain ⟨a1, a2⟩ := hw j (by omega) hbt
          obtain ⟨b1, b2⟩ := hw i0 h2 h1
          rw [l4_cmp (r1 := nI (w j)) (r3 := nI (w i0)) x1 hb rfl (show ¬ enO (some i0) = -1 from nI_m1 (by omega)) a1 b1, nI_1]
          show fX1_leastNext_4 N σ f (nI S) (if nI (w i0) ≤ nI (w j) then nI i0 else nI j) (nI (j + 1)) = some (enO (nxL w S m (j + 1) (if w j < w i0 then some j else some i0)))
          by_cases q : w j < w i0
          · rw [if_pos q, if_neg (nI_ge q b2)]
            exact ih f (j + 1) (some j) (by omega) (by omega) (fun i e => by cases e; exact ⟨hbt, by omega⟩)
          · rw [if_neg q, if_pos (nI_le (by omega) a2)]
            exact ih f (j + 1) (some i0) (by omega) (by omega) hc
theorem opn_F : ∀ n, n < 7 → ∀ i, i < 64 → i < 2 ^ n - 1 → 0 < opn n i := by decide +kernel
theorem opn_all : ∀ n, n < 7 → opn n (2 ^ n - 1) = 0 := by decide +kernel
theorem orl_F : ∀ i, i < 64 → ∀ j, j < 6 → i.testBit j = false → i < i ||| 2 ^ j := by decide +kernel
/-- the best that can follow stands there for every set from i on -/
def bsX (d n : Nat) (q : Nat → Nat) (E : Nat → Int32) (i : Nat) (g : Nat → Int32) : Prop := ∀ S, i ≤ S → S < 2 ^ n → g S = nI (bst (Cw d n q E) n (opn n S) S)
theorem next_e {N d n S r : Nat} {q : Nat → Nat} {E : Nat → Int32} {σ : St} (hN : 41 ≤ N) (hd : d ≤ 9999) (hn : n ≤ 6) (hq : ∀ t, t < n → q t ≤ 60) (h : arX d n q E σ) (hb : bsX d n q E (S + 1) (σ.2.1 77)) (hS : S < 2 ^ n) (ho : opn n S = r + 1) : ∃ i, i < n ∧ S.testBit i = false ∧ S ||| 2 ^ i < 2 ^ n ∧ opn n (S ||| 2 ^ i) = r ∧ fX1_leastNext N σ (nI S) = some (nI i) ∧ fX1_weightBehind N σ (nI S) (nI i) = some (nI (bst (Cw d n q E) n (r + 1) S)) ∧ gre (Cw d n q E) n (r + 1) S = i :: gre (Cw d n q E) n r (S ||| 2 ^ i) := by
  have h64 : 2 ^ n ≤ 2 ^ 6 := Nat.pow_le_pow_right (by decide) hn
  obtain ⟨i, c1, c2, c3, c4, c5, c6⟩ := gre_s (C := Cw d n q E) ho
  have hwt : ∀ j, j < n → S.testBit j = false → fX1_weightBehind N σ (nI S) (nI j) = some (nI (Cw d n q E (S ||| 2 ^ j) j + bst (Cw d n q E) n r (S ||| 2 ^ j))) := by
    intro j hj hbt
    have ho2 : opn n (S ||| 2 ^ j) = r := by have := opn_or (n := n) (S := S) hj hbt; omega
    have hlt := orl_F S (by omega) j (by omega) hbt
    exact xwt hn h hS hj (by rw [hb _ (by omega) (or_b hS hj), ho2])
  have hr : r < n := by
    have := cntB_le (P := fun j => !(S.testBit j)) n
    have : opn n S ≤ n := this
    omega
  refine ⟨i, c3, c2, or_b hS c3, c4, ?_, ?_, c5⟩
  · unfold fX1_leastNext
    have e := next_l (N := N) (σ := σ) (w := fun j => Cw d n q E (S ||| 2 ^ j) j + bst (Cw d n q E) n r (S ||| 2 ^ j)) hn h.1 hS (fun j hj hbt => ⟨hwt j hj hbt, by
      have b1 := Cw_b (E := E) hd hn hq (S ||| 2 ^ j) j
      have b2 := bst_le (n := n) (Cw_b (E := E) hd hn hq) r (S ||| 2 ^ j)
      have b3 : 1058935 * r ≤ 1058935 * 6 := Nat.mul_le_mul_left _ (by omega)
      show Cw d n q E (S ||| 2 ^ j) j + bst (Cw d n q E) n r (S ||| 2 ^ j) < 2 ^ 31
      omega⟩) n N 0 none (by omega) (by omega) (fun i e => by cases e)
    rw [c1] at e
    exact e
  · rw [hwt i c3 c2, c6]
theorem a20_s {N f : Nat} {σ : St} {x2 : Int32} : fX1_arrange_20 N (f + 1) σ x2 = fX1_arrange_20b N (fX1_arrange_20 N f) σ x2 := rfl
theorem a20_end {N : Nat} {σ : St} {k20 : St → Int32 → Option St} {x2 : Int32} (h : x2 < 0) : fX1_arrange_20b N k20 σ x2 = some σ := if_pos h
theorem a20_step {N : Nat} {σ : St} {k20 : St → Int32 → Option St} {x2 r8 r10 y : Int32} (h : ¬ x2 < 0) (l : fX1_leastNext N σ x2 = some r8) (wq : fX1_weightBehind N σ x2 r8 = some r10) (h3 : ix x2 64 = true) (hy : x2 + (-1) = y) : fX1_arrange_20b N k20 σ x2 = k20 (aW σ 77 x2 r10) y := by
  subst hy
  exact (if_neg h).trans ((bd_some l).trans ((bd_some wq).trans (if_pos h3)))
theorem arr_loop {N d n : Nat} {q : Nat → Nat} {E : Nat → Int32} {σ : St} (hN : 41 ≤ N) (hd : d ≤ 9999) (hn : n ≤ 6) (hq : ∀ t, t < n → q t ≤ 60) (h : arX d n q E σ) : ∀ (i f : Nat) (g : Nat → Int32) (x : Int32), i ≤ 2 ^ n - 1 → i < f → x = nI i + (-1) → bsX d n q E i g → ∃ g', fX1_arrange_20 N f (sA σ 77 g) x = some (sA σ 77 g') ∧ bsX d n q E 0 g' := by
  have h64 : 2 ^ n ≤ 2 ^ 6 := Nat.pow_le_pow_right (by decide) hn
  intro i
  induction i with
  | zero =>
    intro f g x hi hf hx hb
    cases f with
    | zero => omega
    | succ f => exact ⟨g, by rw [a20_s]; exact a20_end (by rw [hx]; exact m1_neg), hb⟩
  | succ i ih =>
    intro f g x hi hf hx hb
    cases f with
    | zero => omega
    | succ f =>
      rw [pk_m1] at hx
      subst hx
      obtain ⟨r, hr⟩ : ∃ r, opn n i = r + 1 := ⟨opn n i - 1, by have := opn_F n (by omega) i (by omega) (by omega); omega⟩
      obtain ⟨j, j1, j2, j3, j4, j5, j6, j7⟩ := next_e (N := N) (S := i) (r := r) (σ := sA σ 77 g) hN hd hn hq h hb (by omega) hr
      rw [a20_s, a20_step (nI_pos (by omega)) j5 j6 (ix_nI (show i < 64 by omega) (by decide)) rfl, aW_nI (by omega), sA_sA]
      refine ih f _ _ (by omega) (by omega) rfl (fun S h1 h2 => ?_)
      by_cases e : S = i
      · subst e; rw [up_s, hr]
      · rw [pk_un e]; exact hb S (by omega) h2
theorem xarr {N d n : Nat} {q : Nat → Nat} {E : Nat → Int32} {σ : St} (hN : 200 ≤ N) (hd : d ≤ 9999) (hn : n ≤ 6) (hq : ∀ t, t < n → q t ≤ 60) (h : arX d n q E σ) : ∃ g, fX1_arrange N σ = some (sA σ 77 g) ∧ bsX d n q E 0 g := by
  have h64 : 2 ^ n ≤ 2 ^ 6 := Nat.pow_le_pow_right (by decide) hn
  have hp : 0 < 2 ^ n := Nat.two_pow_pos n
  have e1 : ((1 : Int32) <<< ((σ.1 16) &&& 31)) - 1 = nI (2 ^ n - 1) := by rw [h.1, shl_nI (by omega), show (1 : Int32) = nI 1 from rfl, pk_sub (by omega)]
  have st : ∀ v1 v6 : Int32, ((1 : Int32) <<< ((σ.1 16) &&& 31)) - 1 = v1 → v1 - 1 = v6 → ix v1 64 = true → fX1_arrange N σ = fX1_arrange_20 N N (aW σ 77 v1 0) v6 := by
    intro v1 v6 a b c
    subst a
    subst b
    exact if_pos c
  rw [st _ (nI (2 ^ n - 1) - 1) e1 rfl (ix_nI (by omega) (by decide)), aW_nI (by omega)]
  exact arr_loop (N := N) (by omega) hd hn hq h (2 ^ n - 1) N _ _ (Nat.le_refl _) (by omega) (by rw [Int32.sub_eq_add_neg]) (fun S h1 h2 => by
    have : S = 2 ^ n - 1 := by omega
    subst this
    rw [up_s, opn_all n (by omega)]
    rfl)
theorem s27_s {N f : Nat} {σ : St} {x1 x2 x3 x4 : Int32} : fX1_spanAt_27 N σ (f + 1) x1 x2 x3 x4 = fX1_spanAt_27b N σ (fX1_spanAt_27 N σ f) x1 x2 x3 x4 := rfl
theorem s27_end {N : Nat} {σ : St} {k27 : Int32 → Int32 → Int32 → Int32 → Option Int32} {x1 x2 x3 x4 : Int32} (h : x1 ≤ x4) (h3 : ¬ x3 = -1) (h6 : ix x3 6 = true) : fX1_spanAt_27b N σ k27 x1 x2 x3 x4 = some (aR σ 74 x3) := (if_pos h).trans ((if_neg h3).trans (if_pos h6))
theorem s27_step {N : Nat} {σ : St} {k27 : Int32 → Int32 → Int32 → Int32 → Option Int32} {x1 x2 x3 x4 v r : Int32} (h : ¬ x1 ≤ x4) (h3 : ¬ x3 = -1) (hv : x2 ||| ((1 : Int32) <<< (x3 &&& 31)) = v) (l : fX1_leastNext N σ v = some r) : fX1_spanAt_27b N σ k27 x1 x2 x3 x4 = k27 x1 v r (x4 + 1) := by
  subst hv
  exact (if_neg h).trans ((if_neg h3).trans (bd_some l))
theorem sp_loop {N d n i : Nat} {q : Nat → Nat} {E : Nat → Int32} {σ : St} (hN : 200 ≤ N) (hd : d ≤ 9999) (hn : n ≤ 6) (hq : ∀ t, t < n → q t ≤ 60) (h : arX d n q E σ) (hb : bsX d n q E 0 (σ.2.1 77)) (hi : i < n) : ∀ (m f k S r j : Nat), k + m = i → m < f → S < 2 ^ n → opn n S = r + 1 → m ≤ r → j < n → S ||| 2 ^ j < 2 ^ n → opn n (S ||| 2 ^ j) = r → gre (Cw d n q E) n (r + 1) S = j :: gre (Cw d n q E) n r (S ||| 2 ^ j) → ∃ t, t < n ∧ (gre (Cw d n q E) n (r + 1) S)[m]? = some t ∧ fX1_spanAt_27 N σ f (nI i) (nI S) (nI j) (nI k) = some (σ.2.1 74 t) := by
  have h64 : 2 ^ n ≤ 2 ^ 6 := Nat.pow_le_pow_right (by decide) hn
  intro m
  induction m with
  | zero =>
    intro f k S r j hk hf hS ho hm hj hor hor2 hg
    cases f with
    | zero => omega
    | succ f =>
      refine ⟨j, hj, by rw [hg]; rfl, ?_⟩
      rw [s27_s, s27_end (nI_le (by omega) (by omega)) (nI_m1 (by omega)) (ix_nI (by omega) (by decide)), aR_nI (by omega)]
  | succ m ih =>
    intro f k S r j hk hf hS ho hm hj hor hor2 hg
    cases f with
    | zero => omega
    | succ f =>
      have hj2 : 2 ^ j < 2 ^ n := Nat.pow_lt_pow_right (by decide) hj
      obtain ⟨r', rfl⟩ : ∃ r', r = r' + 1 := ⟨r - 1, by omega⟩
      obtain ⟨j', j1, j2, j3, j4, j5, j6, j7⟩ := next_e (N := N) (S := S ||| 2 ^ j) (r := r') (σ := σ) (by omega) hd hn hq h (fun S' a b => hb S' (by omega) b) hor hor2
      obtain ⟨t, t1, t2, t3⟩ := ih f (k + 1) (S ||| 2 ^ j) r' j' (by omega) (by omega) hor hor2 (by omega) j1 j3 j4 j7
      refine ⟨t, t1, by rw [hg]; exact t2, ?_⟩
      rw [s27_s, s27_step (v := nI (S ||| 2 ^ j)) (nI_ge (by omega) (by omega)) (nI_m1 (by omega)) (by rw [shl_nI (by omega), or_nI (by omega) (by omega)]) j5, nI_1]
      exact t3
theorem opn_0 : ∀ n, n < 7 → opn n 0 = n := by decide +kernel
theorem xspan {N d n i : Nat} {q : Nat → Nat} {E : Nat → Int32} {σ : St} (hN : 200 ≤ N) (hd : d ≤ 9999) (hn : n ≤ 6) (hq : ∀ t, t < n → q t ≤ 60) (h : arX d n q E σ) (hb : bsX d n q E 0 (σ.2.1 77)) (hi : i < n) : ∃ t, t < n ∧ (gre (Cw d n q E) n n 0)[i]? = some t ∧ fX1_spanAt N σ (nI i) = some (σ.2.1 74 t) := by
  obtain ⟨r, hr⟩ : ∃ r, n = r + 1 := ⟨n - 1, by omega⟩
  have ho : opn n 0 = r + 1 := by rw [opn_0 n (by omega)]; exact hr
  obtain ⟨j, j1, j2, j3, j4, j5, j6, j7⟩ := next_e (N := N) (S := 0) (r := r) (σ := σ) (by omega) hd hn hq h (fun S' a b => hb S' (by omega) b) (Nat.two_pow_pos n) ho
  obtain ⟨t, t1, t2, t3⟩ := sp_loop (N := N) hN hd hn hq h hb hi i N 0 0 r j (by omega) (by omega) (Nat.two_pow_pos n) ho (by omega) j1 j3 j4 j7
  refine ⟨t, t1, by rw [show gre (Cw d n q E) n n 0 = gre (Cw d n q E) n (r + 1) 0 by rw [← hr]]; exact t2, ?_⟩
  have hw : ¬ fX11_within (nI i) 0 ((σ.1 16) - 1) = 0 := wi_ne.mpr ⟨nI_pos' (by omega), by rw [h.1, show (1 : Int32) = nI 1 from rfl, pk_sub (by omega)]; exact nI_le (by omega) (by omega)⟩
  exact (if_neg hw).trans ((bd_some (show fX1_leastNext N σ 0 = some (nI j) from j5)).trans t3)
