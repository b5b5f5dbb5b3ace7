/-! PURE: TEXT: the descent over TOKENS as numbers, and the class's -/
def sgn (L t : Nat) : Bool := if L = 0 then decide (t = 130) else if L = 1 then decide (t = 131) else if L = 2 then (decide (t = 60) || decide (t = 61)) else if L = 3 then (decide (t = 43) || decide (t = 45)) else decide (t = 42)
/-- signs of a level, one behind the other -/
def lpD (T : Nat → Nat) (L : Nat) (r : Nat → Nat × Option (List Nat)) : Nat → Nat → List Nat → Nat × Option (List Nat)
  | 0, j, c => (j, some c)
  | m + 1, j, c => if sgn L (T j) then (match r (j + 1) with
      | (j', none) => (j', none)
      | (j', some c') => lpD T L r m j' (c ++ (c' ++ [10000 + T j]))) else (j, some c)
/-- what opens: 0 for ( -/
def opD (does o i : Nat) (r : Nat → Nat × Option (List Nat)) : Nat × Option (List Nat) := if o < 5 then (match r (i + 1) with
      | (j, none) => (j, none)
      | (j, some c) => (j, some (if does = 0 then c else c ++ [10000 + does]))) else (i, none)
def dsD (T NM : Nat → Nat) : Nat → Nat → Nat → Nat → Nat × Option (List Nat)
  | 0, _, _, i => (i, none)
  | d + 1, L, o, i => if L < 5 then (if L = 2 ∧ T i = 132 then opD 132 o i (dsD T NM d 2 (o + 1)) else (match dsD T NM d (L + 1) o i with
      | (j, none) => (j, none)
      | (j, some c) => lpD T L (dsD T NM d (L + 1) o) (if L = 2 then 1 else 160) j c)) else
    (if T i = 45 then opD 133 o i (dsD T NM d 5 (o + 1)) else if T i = 40 then (match opD 0 o i (dsD T NM d 0 (o + 1)) with
      | (j, none) => (j, none)
      | (j, some c) => if T j = 41 then (j + 1, some c) else (j, none)) else if T i = 2 then (i + 1, some [NM i]) else if 134 ≤ T i ∧ T i ≤ 139 then (i + 1, some [10000 + T i]) else (i, none))
/-- a piece of code, the class's -/
def xcD (k : Nat) : Int32 := if k < 10000 then nI k else -(nI (k - 10000))
/-- the class's TOKENS: from them on -/
def tkX (T NM : Nat → Nat) (la : Nat) (σ : St) : Prop := la ≤ 160 ∧ (∀ i, i ≤ la → σ.2.1 52 i = nI (T i) ∧ T i < 256 ∧ (T i = 2 → σ.2.1 54 i = nI (NM i) ∧ NM i < 10000)) ∧ (∀ i, i < la → 2 ≤ T i) ∧ T la < 2
/-- where the class stands: at TOKEN i, with n pieces of code -/
def stX (σ : St) (i n : Nat) (g : Nat → Int32) : St := sI (sI (sA σ 55 g) 7 (nI i)) 8 (nI n)
def ext (g : Nat → Int32) (n : Nat) : List Nat → Nat → Int32
  | [] => g
  | k :: l => ext (upd g n (xcD k)) (n + 1) l
theorem ext_app (g : Nat → Int32) : ∀ (l m : List Nat) (n : Nat), ext g n (l ++ m) = ext (ext g n l) (n + l.length) m
  | [], m, n => rfl
  | k :: l, m, n => by
    show ext (upd g n (xcD k)) (n + 1) (l ++ m) = ext (ext (upd g n (xcD k)) (n + 1) l) (n + (l.length + 1)) m
    rw [ext_app _ l m (n + 1), show n + 1 + l.length = n + (l.length + 1) by omega]
theorem ext_lo (g : Nat → Int32) : ∀ (l : List Nat) (n k : Nat), k < n → ext g n l k = g k
  | [], _, _, _ => rfl
  | x :: l, n, k, h => by
    show ext (upd g n (xcD x)) (n + 1) l k = _
    rw [ext_lo _ l (n + 1) k (by omega), pk_un (by omega)]
theorem ext_at (g : Nat → Int32) : ∀ (l : List Nat) (n i x : Nat), l[i]? = some x → ext g n l (n + i) = xcD x
  | [], _, _, _, h => by simp at h
  | y :: l, n, i, x, h => by
    show ext (upd g n (xcD y)) (n + 1) l (n + i) = _
    cases i with
    | zero =>
      have : y = x := Option.some.inj h
      subst this
      show ext (upd g n (xcD y)) (n + 1) l n = _
      rw [ext_lo _ l (n + 1) n (by omega), up_s]
    | succ i =>
      have := ext_at (upd g n (xcD y)) l (n + 1) i x h
      rw [show n + (i + 1) = n + 1 + i by omega]; exact this
theorem stX_at (σ : St) (i n i' : Nat) (g : Nat → Int32) : sI (stX σ i n g) 7 (nI i') = stX σ i' n g := by
  show (va_up (va_up (va_up σ.1 7 (nI i)) 8 (nI n)) 7 (nI i'), va_up σ.2.1 55 g, σ.2.2) = (va_up (va_up σ.1 7 (nI i')) 8 (nI n), va_up σ.2.1 55 g, σ.2.2)
  have : va_up (va_up (va_up σ.1 7 (nI i)) 8 (nI n)) 7 (nI i') = va_up (va_up σ.1 7 (nI i')) 8 (nI n) := by
    funext j
    unfold va_up
    by_cases h1 : j = 7
    · subst h1; rfl
    · by_cases h2 : j = 8
      · subst h2; rfl
      · rw [if_neg h1, if_neg h2, if_neg h1, if_neg h2, if_neg h1]
  rw [this]
theorem stX_put (σ : St) (i n n' : Nat) (g g' : Nat → Int32) : sI (sA (stX σ i n g) 55 g') 8 (nI n') = stX σ i n' g' := by
  show (va_up (va_up (va_up σ.1 7 (nI i)) 8 (nI n)) 8 (nI n'), va_up (va_up σ.2.1 55 g) 55 g', σ.2.2) = (va_up (va_up σ.1 7 (nI i)) 8 (nI n'), va_up σ.2.1 55 g', σ.2.2)
  rw [vz_up_up, vz_up_up]
theorem emit_v {N : Nat} {σ : St} {x1 y : Int32} (h : σ.1 8 < 160) (h1 : ix (σ.1 8) 160 = true) (hy : σ.1 8 + 1 = y) : fX8_emit N σ x1 = some (sI (aW σ 55 (σ.1 8) x1) 8 y) := by
  subst hy
  exact (if_pos h).trans (if_pos h1)
theorem xemit {N i n : Nat} {σ : St} {g : Nat → Int32} {k : Nat} {x : Int32} (hn : n < 160) (hx : x = xcD k) : fX8_emit N (stX σ i n g) x = some (stX σ i (n + 1) (ext g n [k])) := by
  have e8 : (stX σ i n g).1 8 = nI n := rfl
  rw [emit_v (y := nI (n + 1)) (by rw [e8]; exact nI_lt (b := 160) hn (by decide)) (by rw [e8]; exact ix_nI hn (by decide)) (by rw [e8, nI_1]), e8, aW_nI (by omega), stX_put, hx]
  rfl
theorem acc_v {N : Nat} {σ : St} {x1 y : Int32} (h : ix (σ.1 7) 161 = true) (hy : σ.1 7 + 1 = y) : fX8_accept N σ x1 = if aR σ 52 (σ.1 7) = x1 then some (1, sI σ 7 y) else some (0, σ) := by
  subst hy
  exact if_pos h
theorem xaccept {N la i n t : Nat} {T NM : Nat → Nat} {σ : St} {g : Nat → Int32} (hT : tkX T NM la σ) (hi : i ≤ la) (ht : t < 256) : fX8_accept N (stX σ i n g) (nI t) = if T i = t then some (1, stX σ (i + 1) n g) else some (0, stX σ i n g) := by
  have e7 : (stX σ i n g).1 7 = nI i := rfl
  have h160 := hT.1
  obtain ⟨e1, e2, _⟩ := hT.2.1 i hi
  rw [acc_v (y := nI (i + 1)) (by rw [e7]; exact ix_nI (by omega) (by decide)) (by rw [e7, nI_1]), e7, aR_nI (by omega), show (stX σ i n g).2.1 52 i = nI (T i) from e1, stX_at]
  by_cases q : T i = t
  · rw [if_pos q, if_pos (by rw [q])]
  · rw [if_neg q, if_neg (fun z => q ((nI_eq (by omega) (by omega)).mp z))]
theorem nm_t {α β : Type} {e : α} {f : α → β} {y : β} (h : f e = y) : nm e f = y := h
theorem rl_one {N : Nat} {rl : St → Int32 → Int32 → Option (Int32 × St)} {σ σ' : St} {x1 x2 r : Int32} (h : ¬ x1 < 5) (hr : fX8_readOne N rl σ x2 = some (r, σ')) (hb : bz r = true) : fX8_readLevel N rl σ x1 x2 = some (r, σ') := (if_neg h).trans ((bd2_some hr).trans (if_pos hb))
theorem rl_not {N : Nat} {rl : St → Int32 → Int32 → Option (Int32 × St)} {σ σ' : St} {x1 x2 r : Int32} (h : x1 < 5) (h2 : x1 = 2) (h3 : ix (σ.1 7) 161 = true) (ht : aR σ 52 (σ.1 7) = 132) (hr : fX8_readOpened N rl σ 132 2 x2 = some (r, σ')) (hb : bz r = true) : fX8_readLevel N rl σ x1 x2 = some (r, σ') := (if_pos h).trans ((if_pos h2).trans ((if_pos h3).trans ((if_pos ht).trans ((bd2_some hr).trans (if_pos hb)))))
theorem rl_41a {N : Nat} {rl : St → Int32 → Int32 → Option (Int32 × St)} {σ : St} {x1 x2 : Int32} (h : x1 < 5) (h2 : x1 = 2) (h3 : ix (σ.1 7) 161 = true) (ht : ¬ aR σ 52 (σ.1 7) = 132) : fX8_readLevel N rl σ x1 x2 = fX8_readLevel_41 N rl σ x1 x2 := (if_pos h).trans ((if_pos h2).trans ((if_pos h3).trans (if_neg ht)))
theorem rl_41b {N : Nat} {rl : St → Int32 → Int32 → Option (Int32 × St)} {σ : St} {x1 x2 : Int32} (h : x1 < 5) (h2 : ¬ x1 = 2) : fX8_readLevel N rl σ x1 x2 = fX8_readLevel_41 N rl σ x1 x2 := (if_pos h).trans (if_neg h2)
theorem r41_f {N : Nat} {rl : St → Int32 → Int32 → Option (Int32 × St)} {σ σ' : St} {x1 x2 y : Int32} (hy : x1 + 1 = y) (hr : rl σ y x2 = some (0, σ')) : fX8_readLevel_41 N rl σ x1 x2 = some (0, σ') := by
  subst hy
  exact (bd2_some hr).trans (if_pos rfl)
theorem r41_k {N : Nat} {rl : St → Int32 → Int32 → Option (Int32 × St)} {σ σ' : St} {x1 x2 y : Int32} (hy : x1 + 1 = y) (hr : rl σ y x2 = some (1, σ')) : fX8_readLevel_41 N rl σ x1 x2 = fX8_readLevel_70 N rl N σ' x1 x2 (if x1 = 2 then 1 else 160) 0 := by
  subst hy
  refine (bd2_some hr).trans ((if_neg (show ¬ (1 : Int32) = 0 from by decide)).trans ?_)
  by_cases q : x1 = 2
  · rw [if_pos q, if_pos q]; rfl
  · rw [if_neg q, if_neg q]; rfl
theorem r70_s {N f : Nat} {rl : St → Int32 → Int32 → Option (Int32 × St)} {σ : St} {x1 x2 x3 x4 : Int32} : fX8_readLevel_70 N rl (f + 1) σ x1 x2 x3 x4 = fX8_readLevel_70b N rl (fX8_readLevel_70 N rl f) σ x1 x2 x3 x4 := rfl
theorem r70_1 {N : Nat} {rl : St → Int32 → Int32 → Option (Int32 × St)} {k70 : St → Int32 → Int32 → Int32 → Int32 → Option (Int32 × St)} {σ : St} {x1 x2 x3 x4 : Int32} (h : x3 ≤ x4) : fX8_readLevel_70b N rl k70 σ x1 x2 x3 x4 = some (1, σ) := if_pos h
theorem r70_2 {N : Nat} {rl : St → Int32 → Int32 → Option (Int32 × St)} {k70 : St → Int32 → Int32 → Int32 → Int32 → Option (Int32 × St)} {σ : St} {x1 x2 x3 x4 : Int32} (h : ¬ x3 ≤ x4) (h1 : ix (σ.1 7) 161 = true) (hs : fX8_isSignOf x1 (aR σ 52 (σ.1 7)) = 0) : fX8_readLevel_70b N rl k70 σ x1 x2 x3 x4 = some (1, σ) := (if_neg h).trans ((if_pos h1).trans (if_pos hs))
theorem r70_f {N : Nat} {rl : St → Int32 → Int32 → Option (Int32 × St)} {k70 : St → Int32 → Int32 → Int32 → Int32 → Option (Int32 × St)} {σ σ' : St} {x1 x2 x3 x4 y l : Int32} (h : ¬ x3 ≤ x4) (h1 : ix (σ.1 7) 161 = true) (hs : ¬ fX8_isSignOf x1 (aR σ 52 (σ.1 7)) = 0) (hy : σ.1 7 + 1 = y) (hl : x1 + 1 = l) (hr : rl (sI σ 7 y) l x2 = some (0, σ')) : fX8_readLevel_70b N rl k70 σ x1 x2 x3 x4 = some (0, σ') := by
  subst hy
  subst hl
  exact (if_neg h).trans ((if_pos h1).trans ((if_neg hs).trans ((if_pos h1).trans (nm_t (nm_t ((bd2_some hr).trans (if_pos rfl)))))))
theorem r70_k {N : Nat} {rl : St → Int32 → Int32 → Option (Int32 × St)} {k70 : St → Int32 → Int32 → Int32 → Int32 → Option (Int32 × St)} {σ σ' σ2 : St} {x1 x2 x3 x4 y l v : Int32} (h : ¬ x3 ≤ x4) (h1 : ix (σ.1 7) 161 = true) (hv : aR σ 52 (σ.1 7) = v) (hs : ¬ fX8_isSignOf x1 v = 0) (hy : σ.1 7 + 1 = y) (hl : x1 + 1 = l) (hr : rl (sI σ 7 y) l x2 = some (1, σ')) (he : fX8_emit N σ' (-v) = some σ2) : fX8_readLevel_70b N rl k70 σ x1 x2 x3 x4 = k70 σ2 x1 x2 x3 (x4 + 1) := by
  subst hv
  subst hy
  subst hl
  exact (if_neg h).trans ((if_pos h1).trans ((if_neg hs).trans ((if_pos h1).trans (nm_t (nm_t ((bd2_some hr).trans ((if_neg (show ¬ (1 : Int32) = 0 from by decide)).trans (bd_some he))))))))
theorem ro_n {N : Nat} {rl : St → Int32 → Int32 → Option (Int32 × St)} {σ : St} {x1 x2 x3 : Int32} (h : ¬ x3 < 5) : fX8_readOpened N rl σ x1 x2 x3 = some (0, σ) := if_neg h
theorem ro_f {N : Nat} {rl : St → Int32 → Int32 → Option (Int32 × St)} {σ σ' : St} {x1 x2 x3 y o : Int32} (h : x3 < 5) (hy : σ.1 7 + 1 = y) (ho : x3 + 1 = o) (hr : rl (sI σ 7 y) x2 o = some (0, σ')) : fX8_readOpened N rl σ x1 x2 x3 = some (0, σ') := by
  subst hy
  subst ho
  exact (if_pos h).trans (nm_t ((bd2_some hr).trans (if_pos rfl)))
theorem ro_0 {N : Nat} {rl : St → Int32 → Int32 → Option (Int32 × St)} {σ σ' : St} {x1 x2 x3 y o : Int32} (h : x3 < 5) (hy : σ.1 7 + 1 = y) (ho : x3 + 1 = o) (hr : rl (sI σ 7 y) x2 o = some (1, σ')) (h1 : x1 = 0) : fX8_readOpened N rl σ x1 x2 x3 = some (1, σ') := by
  subst hy
  subst ho
  exact (if_pos h).trans (nm_t ((bd2_some hr).trans ((if_neg (show ¬ (1 : Int32) = 0 from by decide)).trans (if_pos h1))))
theorem ro_1 {N : Nat} {rl : St → Int32 → Int32 → Option (Int32 × St)} {σ σ' σ2 : St} {x1 x2 x3 y o : Int32} (h : x3 < 5) (hy : σ.1 7 + 1 = y) (ho : x3 + 1 = o) (hr : rl (sI σ 7 y) x2 o = some (1, σ')) (h1 : ¬ x1 = 0) (he : fX8_emit N σ' (-x1) = some σ2) : fX8_readOpened N rl σ x1 x2 x3 = some (1, σ2) := by
  subst hy
  subst ho
  exact (if_pos h).trans (nm_t ((bd2_some hr).trans ((if_neg (show ¬ (1 : Int32) = 0 from by decide)).trans ((if_neg h1).trans (bd_some he)))))
theorem r1_min {N : Nat} {rl : St → Int32 → Int32 → Option (Int32 × St)} {σ σ' : St} {x1 v r : Int32} (h : ix (σ.1 7) 161 = true) (hv : aR σ 52 (σ.1 7) = v) (h1 : v = 45) (hr : fX8_readOpened N rl σ 133 5 x1 = some (r, σ')) (hb : bz r = true) : fX8_readOne N rl σ x1 = some (r, σ') := by
  subst hv
  exact (if_pos h).trans ((if_pos h1).trans ((bd2_some hr).trans (if_pos hb)))
theorem r1_of {N : Nat} {rl : St → Int32 → Int32 → Option (Int32 × St)} {σ σ' : St} {x1 v : Int32} (h : ix (σ.1 7) 161 = true) (hv : aR σ 52 (σ.1 7) = v) (h1 : ¬ v = 45) (h2 : v = 40) (hr : fX8_readOpened N rl σ 0 0 x1 = some (0, σ')) : fX8_readOne N rl σ x1 = some (0, σ') := by
  subst hv
  exact (if_pos h).trans ((if_neg h1).trans ((if_pos h2).trans ((bd2_some hr).trans (if_pos rfl))))
theorem r1_oa {N : Nat} {rl : St → Int32 → Int32 → Option (Int32 × St)} {σ σ' σ2 : St} {x1 v r : Int32} (h : ix (σ.1 7) 161 = true) (hv : aR σ 52 (σ.1 7) = v) (h1 : ¬ v = 45) (h2 : v = 40) (hr : fX8_readOpened N rl σ 0 0 x1 = some (1, σ')) (ha : fX8_accept N σ' 41 = some (r, σ2)) (hb : r = 0 ∨ r = 1) : fX8_readOne N rl σ x1 = some (r, σ2) := by
  subst hv
  refine (if_pos h).trans ((if_neg h1).trans ((if_pos h2).trans ((bd2_some hr).trans ((if_neg (show ¬ (1 : Int32) = 0 from by decide)).trans ((bd2_some ha).trans ?_)))))
  rcases hb with rfl | rfl
  · exact if_pos rfl
  · exact if_neg (by decide)
theorem r1_num {N : Nat} {rl : St → Int32 → Int32 → Option (Int32 × St)} {σ σ' : St} {x1 v w y : Int32} (h : ix (σ.1 7) 161 = true) (hv : aR σ 52 (σ.1 7) = v) (h1 : ¬ v = 45) (h2 : ¬ v = 40) (h3 : v = 2) (hw : aR σ 54 (σ.1 7) = w) (he : fX8_emit N σ w = some σ') (hy : σ'.1 7 + 1 = y) : fX8_readOne N rl σ x1 = some (1, sI σ' 7 y) := by
  subst hv
  subst hw
  subst hy
  exact (if_pos h).trans ((if_neg h1).trans ((if_neg h2).trans ((if_pos h3).trans ((if_pos h3).trans ((if_pos h).trans (bd_some he))))))
theorem r1_nam {N : Nat} {rl : St → Int32 → Int32 → Option (Int32 × St)} {σ σ' : St} {x1 v y : Int32} (h : ix (σ.1 7) 161 = true) (hv : aR σ 52 (σ.1 7) = v) (h1 : ¬ v = 45) (h2 : ¬ v = 40) (h3 : ¬ v = 2) (h4 : ¬ fX11_within v 134 139 = 0) (he : fX8_emit N σ (-v) = some σ') (hy : σ'.1 7 + 1 = y) : fX8_readOne N rl σ x1 = some (1, sI σ' 7 y) := by
  subst hv
  subst hy
  exact (if_pos h).trans ((if_neg h1).trans ((if_neg h2).trans ((if_neg h3).trans ((if_neg h4).trans ((if_neg h3).trans (bd_some he))))))
theorem r1_bad {N : Nat} {rl : St → Int32 → Int32 → Option (Int32 × St)} {σ : St} {x1 v : Int32} (h : ix (σ.1 7) 161 = true) (hv : aR σ 52 (σ.1 7) = v) (h1 : ¬ v = 45) (h2 : ¬ v = 40) (h3 : ¬ v = 2) (h4 : fX11_within v 134 139 = 0) : fX8_readOne N rl σ x1 = some (0, σ) := by
  subst hv
  exact (if_pos h).trans ((if_neg h1).trans ((if_neg h2).trans ((if_neg h3).trans (if_pos h4))))
theorem sgn_x {L t : Nat} (hL : L < 5) (ht : t < 256) : (fX8_isSignOf (nI L) (nI t) = 0) ↔ sgn L t = false := by
  have key : ∀ L : Fin 5, ∀ t : Fin 256, decide (fX8_isSignOf (nI L.val) (nI t.val) = 0) = !(sgn L.val t.val) := by decide +kernel
  have := key ⟨L, hL⟩ ⟨t, ht⟩
  constructor
  · intro h
    have this : decide (fX8_isSignOf (nI L) (nI t) = 0) = !(sgn L t) := this
    rw [decide_eq_true h] at this
    cases hs : sgn L t with
    | false => rfl
    | true => rw [hs] at this; cases this
  · intro h
    have this : decide (fX8_isSignOf (nI L) (nI t) = 0) = !(sgn L t) := this
    rw [h] at this
    exact of_decide_eq_true this
