/-! PURE: the best order: the set programme against all orders in their order -/
def opn (n S : Nat) : Nat := cntB (fun j => !(S.testBit j)) n
theorem cntB_one {P Q : Nat → Bool} {j : Nat} : ∀ n, j < n → P j = true → Q j = false → (∀ i, ¬ i = j → Q i = P i) → cntB Q n + 1 = cntB P n
  | 0, h, _, _, _ => by omega
  | n + 1, h, h1, h2, h3 => by
    unfold cntB
    by_cases e : j = n
    · subst e
      have : cntB Q j = cntB P j := by
        have a := cntB_mono (P := P) (Q := Q) j (fun k hk q => by rw [h3 k (by omega)]; exact q)
        have b := cntB_mono (P := Q) (Q := P) j (fun k hk q => by rw [← h3 k (by omega)]; exact q)
        omega
      rw [h1, h2, this]
      rfl
    · have := cntB_one (P := P) (Q := Q) n (by omega) h1 h2 h3
      rw [h3 n (fun q => e q.symm)]
      omega
theorem tb_or (S j i : Nat) : (S ||| 2 ^ j).testBit i = (S.testBit i || decide (j = i)) := by rw [Nat.testBit_or, Nat.testBit_two_pow]
theorem opn_or {n S j : Nat} (hj : j < n) (ho : S.testBit j = false) : opn n (S ||| 2 ^ j) + 1 = opn n S := by
  unfold opn
  refine cntB_one n hj (by rw [ho]; rfl) (by rw [tb_or, decide_eq_true rfl, Bool.or_true]; rfl) (fun i hi => ?_)
  rw [tb_or, decide_eq_false (fun q => hi q.symm), Bool.or_false]
def enB (E : Nat → List (List Nat)) (S : Nat) : Nat → Nat → List (List Nat)
  | 0, _ => []
  | m + 1, j => (if S.testBit j then [] else (E j).map (j :: ·)) ++ enB E S m (j + 1)
/-- all orders of r more behind a set, the lesser first -/
def enu (n : Nat) : Nat → Nat → List (List Nat)
  | 0, _ => [[]]
  | r + 1, S => enB (fun j => enu n r (S ||| 2 ^ j)) S n 0
def vl (C : Nat → Nat → Nat) : Nat → List Nat → Nat
  | _, [] => 0
  | S, j :: l => C (S ||| 2 ^ j) j + vl C (S ||| 2 ^ j) l
def nxL (w : Nat → Nat) (S : Nat) : Nat → Nat → Option Nat → Option Nat
  | 0, _, c => c
  | m + 1, j, c => nxL w S m (j + 1) (if S.testBit j then c else match c with | none => some j | some i => if w j < w i then some j else some i)
def bst (C : Nat → Nat → Nat) (n : Nat) : Nat → Nat → Nat
  | 0, _ => 0
  | r + 1, S => match nxL (fun j => C (S ||| 2 ^ j) j + bst C n r (S ||| 2 ^ j)) S n 0 none with
    | none => 0
    | some j => C (S ||| 2 ^ j) j + bst C n r (S ||| 2 ^ j)
def gre (C : Nat → Nat → Nat) (n : Nat) : Nat → Nat → List Nat
  | 0, _ => []
  | r + 1, S => match nxL (fun j => C (S ||| 2 ^ j) j + bst C n r (S ||| 2 ^ j)) S n 0 none with
    | none => []
    | some j => j :: gre C n r (S ||| 2 ^ j)
def stp (f : List Nat → Nat) (c : Option (List Nat)) (l : List Nat) : Option (List Nat) := match c with
  | none => some l
  | some b => if f l < f b then some l else some b
def fmn (f : List Nat → Nat) (c : Option (List Nat)) (L : List (List Nat)) : Option (List Nat) := L.foldl (stp f) c
theorem fmn_le (f : List Nat → Nat) : ∀ (L : List (List Nat)) (x : List Nat), ∃ y, fmn f (some x) L = some y ∧ f y ≤ f x
  | [], x => ⟨x, rfl, Nat.le_refl _⟩
  | l :: t, x => by
    show ∃ y, fmn f (if f l < f x then some l else some x) t = some y ∧ _
    by_cases h : f l < f x
    · rw [if_pos h]
      obtain ⟨y, a, b⟩ := fmn_le f t l
      exact ⟨y, a, by omega⟩
    · rw [if_neg h]; exact fmn_le f t x
theorem fmn_cmb (f : List Nat → Nat) : ∀ (L : List (List Nat)) (x : List Nat), fmn f (some x) L = match fmn f none L with | none => some x | some y => if f y < f x then some y else some x
  | [], x => rfl
  | l :: t, x => by
    show fmn f (if f l < f x then some l else some x) t = match fmn f (some l) t with | none => some x | some y => if f y < f x then some y else some x
    by_cases h : f l < f x
    · rw [if_pos h]
      obtain ⟨y, a, b⟩ := fmn_le f t l
      rw [a]
      show some y = if f y < f x then some y else some x
      rw [if_pos (by omega)]
    · rw [if_neg h, fmn_cmb f t x, fmn_cmb f t l]
      cases hz : fmn f none t with
      | none =>
        show some x = if f l < f x then some l else some x
        rw [if_neg h]
      | some z =>
        show (if f z < f x then some z else some x) = match (if f z < f l then some z else some l) with | none => some x | some y => if f y < f x then some y else some x
        by_cases h2 : f z < f l
        · rw [if_pos h2]
        · rw [if_neg h2]
          show _ = if f l < f x then some l else some x
          rw [if_neg h, if_neg (by omega)]
theorem fmn_map (f : List Nat → Nat) (j : Nat) : ∀ (L : List (List Nat)) (c : Option (List Nat)), fmn f (c.map (j :: ·)) (L.map (j :: ·)) = (fmn (fun l => f (j :: l)) c L).map (j :: ·)
  | [], c => rfl
  | l :: t, c => by
    show fmn f (stp f (c.map (j :: ·)) (j :: l)) (t.map (j :: ·)) = (fmn (fun l => f (j :: l)) (stp (fun l => f (j :: l)) c l) t).map (j :: ·)
    rw [← fmn_map f j t]
    congr 1
    cases c with
    | none => rfl
    | some b =>
      show (if f (j :: l) < f (j :: b) then some (j :: l) else some (j :: b)) = (if f (j :: l) < f (j :: b) then some l else some b).map (j :: ·)
      split <;> rfl
theorem fmn_add (h : List Nat → Nat) (k : Nat) : ∀ (L : List (List Nat)) (c : Option (List Nat)), fmn (fun l => k + h l) c L = fmn h c L
  | [], c => rfl
  | l :: t, c => by
    show fmn (fun l => k + h l) (stp (fun l => k + h l) c l) t = fmn h (stp h c l) t
    rw [fmn_add h k t]
    congr 1
    cases c with
    | none => rfl
    | some b =>
      show (if k + h l < k + h b then some l else some b) = if h l < h b then some l else some b
      by_cases q : h l < h b
      · rw [if_pos q, if_pos (by omega)]
      · rw [if_neg q, if_neg (by omega)]
theorem fmn_app (f : List Nat → Nat) (c : Option (List Nat)) (L M : List (List Nat)) : fmn f c (L ++ M) = fmn f (fmn f c L) M := List.foldl_append
theorem nxL_some {w : Nat → Nat} {S : Nat} : ∀ (m j : Nat) (c : Option Nat), (∀ i, c = some i → S.testBit i = false ∧ i < j + m) → (¬ c = none ∨ ∃ i, j ≤ i ∧ i < j + m ∧ S.testBit i = false) → ∃ i, nxL w S m j c = some i ∧ S.testBit i = false ∧ i < j + m
  | 0, j, c, hc, h => by
    cases c with
    | none => rcases h with h | ⟨i, a, b, _⟩; exact absurd rfl h; omega
    | some i => exact ⟨i, rfl, hc i rfl⟩
  | m + 1, j, c, hc, h => by
    show ∃ i, nxL w S m (j + 1) _ = some i ∧ _
    rw [show j + (m + 1) = j + 1 + m by omega] at hc h ⊢
    by_cases q : S.testBit j = true
    · rw [if_pos q]
      refine nxL_some m (j + 1) c hc (h.imp id (fun ⟨i, a, b, d⟩ => ?_))
      by_cases e : i = j
      · rw [e, q] at d; cases d
      · exact ⟨i, by omega, b, d⟩
    · rw [if_neg q]
      have q : S.testBit j = false := by cases z : S.testBit j with | false => rfl | true => exact absurd z q
      cases c with
      | none => exact nxL_some m (j + 1) (some j) (fun i e => by cases e; exact ⟨q, by omega⟩) (Or.inl (fun e => by cases e))
      | some i0 =>
        show ∃ i, nxL w S m (j + 1) (if w j < w i0 then some j else some i0) = some i ∧ _
        by_cases z : w j < w i0
        · rw [if_pos z]; exact nxL_some m (j + 1) (some j) (fun i e => by cases e; exact ⟨q, by omega⟩) (Or.inl (fun e => by cases e))
        · rw [if_neg z]; exact nxL_some m (j + 1) (some i0) (fun i e => hc i e) (Or.inl (fun e => by cases e))
theorem opn_ex {S : Nat} : ∀ n, 0 < opn n S → ∃ i, i < n ∧ S.testBit i = false
  | 0, h => by unfold opn cntB at h; omega
  | n + 1, h => by
    cases q : S.testBit n with
    | false => exact ⟨n, by omega, q⟩
    | true =>
      have : opn (n + 1) S = opn n S := by
        unfold opn
        show cntB _ n + (if (!(S.testBit n)) = true then 1 else 0) = _
        rw [q]; rfl
      rw [this] at h
      obtain ⟨i, a, b⟩ := opn_ex n h
      exact ⟨i, by omega, b⟩
theorem enB_fmn {C : Nat → Nat → Nat} {n r S : Nat} (ih : ∀ S, opn n S = r → fmn (vl C S) none (enu n r S) = some (gre C n r S) ∧ vl C S (gre C n r S) = bst C n r S) (hS : opn n S = r + 1) : ∀ (m j : Nat) (c : Option Nat), j + m = n → (∀ i, c = some i → S.testBit i = false ∧ i < n) → fmn (vl C S) (c.map (fun i => i :: gre C n r (S ||| 2 ^ i))) (enB (fun j => enu n r (S ||| 2 ^ j)) S m j) = (nxL (fun j => C (S ||| 2 ^ j) j + bst C n r (S ||| 2 ^ j)) S m j c).map (fun i => i :: gre C n r (S ||| 2 ^ i))
  | 0, j, c, _, _ => rfl
  | m + 1, j, c, hj, hc => by
    show fmn (vl C S) _ ((if S.testBit j then [] else (enu n r (S ||| 2 ^ j)).map (j :: ·)) ++ enB (fun j => enu n r (S ||| 2 ^ j)) S m (j + 1)) = (nxL _ S m (j + 1) _).map _
    rw [fmn_app]
    by_cases q : S.testBit j = true
    · rw [if_pos q, if_pos q]
      exact enB_fmn ih hS m (j + 1) c (by omega) hc
    · rw [if_neg q, if_neg q]
      have q : S.testBit j = false := by cases z : S.testBit j with | false => rfl | true => exact absurd z q
      have hop : opn n (S ||| 2 ^ j) = r := by have := opn_or (n := n) (S := S) (j := j) (by omega) q; omega
      obtain ⟨g1, g2⟩ := ih (S ||| 2 ^ j) hop
      have blk : fmn (vl C S) none ((enu n r (S ||| 2 ^ j)).map (j :: ·)) = some (j :: gre C n r (S ||| 2 ^ j)) := by
        have e := fmn_map (vl C S) j (enu n r (S ||| 2 ^ j)) none
        rw [show Option.map (fun x => j :: x) (none : Option (List Nat)) = none from rfl] at e
        rw [e, show (fun l => vl C S (j :: l)) = (fun l => C (S ||| 2 ^ j) j + vl C (S ||| 2 ^ j) l) from rfl, fmn_add, g1]
        rfl
      have vj : ∀ i, S.testBit i = false → i < n → vl C S (i :: gre C n r (S ||| 2 ^ i)) = C (S ||| 2 ^ i) i + bst C n r (S ||| 2 ^ i) := by
        intro i hi hi2
        have hop2 : opn n (S ||| 2 ^ i) = r := by have := opn_or (n := n) (S := S) (j := i) hi2 hi; omega
        show C (S ||| 2 ^ i) i + vl C (S ||| 2 ^ i) (gre C n r (S ||| 2 ^ i)) = _
        rw [(ih _ hop2).2]
      cases c with
      | none =>
        have e1 : fmn (vl C S) (Option.map (fun i => i :: gre C n r (S ||| 2 ^ i)) none) ((enu n r (S ||| 2 ^ j)).map (j :: ·)) = Option.map (fun i => i :: gre C n r (S ||| 2 ^ i)) (some j) := blk
        rw [e1]
        exact enB_fmn ih hS m (j + 1) (some j) (by omega) (fun i e => by cases e; exact ⟨q, by omega⟩)
      | some i0 =>
        obtain ⟨h1, h2⟩ := hc i0 rfl
        have e1 : fmn (vl C S) (Option.map (fun i => i :: gre C n r (S ||| 2 ^ i)) (some i0)) ((enu n r (S ||| 2 ^ j)).map (j :: ·)) = Option.map (fun i => i :: gre C n r (S ||| 2 ^ i)) (if C (S ||| 2 ^ j) j + bst C n r (S ||| 2 ^ j) < C (S ||| 2 ^ i0) i0 + bst C n r (S ||| 2 ^ i0) then some j else some i0) := by
          show fmn (vl C S) (some (i0 :: gre C n r (S ||| 2 ^ i0))) _ = _
          rw [fmn_cmb, blk]
          show (if vl C S (j :: gre C n r (S ||| 2 ^ j)) < vl C S (i0 :: gre C n r (S ||| 2 ^ i0)) then some (j :: gre C n r (S ||| 2 ^ j)) else some (i0 :: gre C n r (S ||| 2 ^ i0))) = _
          rw [vj j q (by omega), vj i0 h1 h2]
          split <;> rfl
        rw [e1]
        refine enB_fmn ih hS m (j + 1) _ (by omega) (fun i e => ?_)
        split at e
        · cases e; exact ⟨q, by omega⟩
        · cases e; exact ⟨h1, h2⟩
theorem gre_1 {C : Nat → Nat → Nat} {n r S i : Nat} (h : nxL (fun j => C (S ||| 2 ^ j) j + bst C n r (S ||| 2 ^ j)) S n 0 none = some i) : gre C n (r + 1) S = i :: gre C n r (S ||| 2 ^ i) := by
  show (match nxL (fun j => C (S ||| 2 ^ j) j + bst C n r (S ||| 2 ^ j)) S n 0 none with | none => [] | some j => j :: gre C n r (S ||| 2 ^ j)) = _
  rw [h]
theorem bst_1 {C : Nat → Nat → Nat} {n r S i : Nat} (h : nxL (fun j => C (S ||| 2 ^ j) j + bst C n r (S ||| 2 ^ j)) S n 0 none = some i) : bst C n (r + 1) S = C (S ||| 2 ^ i) i + bst C n r (S ||| 2 ^ i) := by
  show (match nxL (fun j => C (S ||| 2 ^ j) j + bst C n r (S ||| 2 ^ j)) S n 0 none with | none => 0 | some j => C (S ||| 2 ^ j) j + bst C n r (S ||| 2 ^ j)) = _
  rw [h]
/-- the first best of all orders is the one that takes the best next each time -/
theorem enu_best {C : Nat → Nat → Nat} {n : Nat} : ∀ (r S : Nat), opn n S = r → fmn (vl C S) none (enu n r S) = some (gre C n r S) ∧ vl C S (gre C n r S) = bst C n r S
  | 0, S, _ => ⟨rfl, rfl⟩
  | r + 1, S, h => by
    have e := enB_fmn (C := C) (fun S => enu_best r S) h n 0 none (by omega) (fun i e => by cases e)
    obtain ⟨i0, a, b⟩ := opn_ex n (show 0 < opn n S by omega)
    obtain ⟨i, c1, c2, c3⟩ := nxL_some (w := fun j => C (S ||| 2 ^ j) j + bst C n r (S ||| 2 ^ j)) (S := S) n 0 none (fun i e => by cases e) (Or.inr ⟨i0, by omega, by omega, b⟩)
    rw [c1] at e
    have g : gre C n (r + 1) S = i :: gre C n r (S ||| 2 ^ i) := gre_1 c1
    have bb : bst C n (r + 1) S = C (S ||| 2 ^ i) i + bst C n r (S ||| 2 ^ i) := bst_1 c1
    have hop : opn n (S ||| 2 ^ i) = r := by have := opn_or (n := n) (S := S) (j := i) (by omega) c2; omega
    rw [g, bb]
    refine ⟨e, ?_⟩
    show C (S ||| 2 ^ i) i + vl C (S ||| 2 ^ i) (gre C n r (S ||| 2 ^ i)) = _
    rw [(enu_best r _ hop).2]
theorem gre_s {C : Nat → Nat → Nat} {n r S : Nat} (h : opn n S = r + 1) : ∃ i, nxL (fun j => C (S ||| 2 ^ j) j + bst C n r (S ||| 2 ^ j)) S n 0 none = some i ∧ S.testBit i = false ∧ i < n ∧ opn n (S ||| 2 ^ i) = r ∧ gre C n (r + 1) S = i :: gre C n r (S ||| 2 ^ i) ∧ bst C n (r + 1) S = C (S ||| 2 ^ i) i + bst C n r (S ||| 2 ^ i) := by
  obtain ⟨i0, a, b⟩ := opn_ex n (show 0 < opn n S by omega)
  obtain ⟨i, c1, c2, c3⟩ := nxL_some (w := fun j => C (S ||| 2 ^ j) j + bst C n r (S ||| 2 ^ j)) (S := S) n 0 none (fun i e => by cases e) (Or.inr ⟨i0, by omega, by omega, b⟩)
  exact ⟨i, c1, c2, by omega, by have := opn_or (n := n) (S := S) (j := i) (by omega) c2; omega, gre_1 c1, bst_1 c1⟩
theorem bst_le {C : Nat → Nat → Nat} {n B : Nat} (hC : ∀ S j, C S j ≤ B) : ∀ r S, bst C n r S ≤ B * r
  | 0, _ => Nat.zero_le _
  | r + 1, S => by
    unfold bst
    split
    · exact Nat.zero_le _
    · rename_i j _
      have h1 := hC (S ||| 2 ^ j) j
      have h2 := bst_le (C := C) (n := n) hC r (S ||| 2 ^ j)
      rw [Nat.mul_succ]; omega
/-- the model's decoding of the number of an order -/
def srO (u : Nat) : Nat → Nat → Nat → Option Nat
  | 0, _, _ => none
  | f + 1, sk, at' => if u.testBit at' then srO u f sk (at' + 1) else if sk = 0 then some at' else srO u f (sk - 1) (at' + 1)
def dcO : Nat → Nat → Nat → Nat → Option (List Nat)
  | 0, _, _, _ => some []
  | m + 1, u, left, base => match srO u 20 (left / base) 0 with
    | none => none
    | some r => match dcO m (u ||| 2 ^ r) (left % base) (if m ≤ 1 then 1 else base / m) with
      | none => none
      | some l => some (r :: l)
def fcN : Nat → Nat
  | 0 => 1
  | n + 1 => (n + 1) * fcN n
def bsN (n : Nat) : Nat := fcN (n - 1)
theorem dec_F : ∀ n, n < 7 → (List.range (fcN n)).map (fun w => dcO n 0 w (bsN n)) = (enu n n 0).map some := by decide +kernel
theorem len_F : ∀ n, n < 7 → (enu n n 0).length = fcN n := by decide +kernel
theorem dec_e {n w : Nat} (hn : n < 7) (hw : w < (enu n n 0).length) : dcO n 0 w (bsN n) = some ((enu n n 0)[w]) := by
  have h := dec_F n hn
  have hl := len_F n hn
  have h2 := congrArg (fun L => L[w]?) h
  simp only [List.getElem?_map, List.getElem?_range (show w < fcN n by omega), List.getElem?_eq_getElem hw] at h2
  exact Option.some.inj h2
