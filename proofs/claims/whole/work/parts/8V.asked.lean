/-! PURE: the model's best order -/
def okO (n : Nat) : Nat → List Nat → Prop
  | _, [] => True
  | S, t :: l => t < n ∧ S.testBit t = false ∧ okO n (S ||| 2 ^ t) l
theorem enB_mem {E : Nat → List (List Nat)} {S : Nat} {x : List Nat} : ∀ (m j : Nat), x ∈ enB E S m j → ∃ t l, x = t :: l ∧ j ≤ t ∧ t < j + m ∧ S.testBit t = false ∧ l ∈ E t
  | 0, j, h => by cases h
  | m + 1, j, h => by
    have h : x ∈ (if S.testBit j then [] else (E j).map (j :: ·)) ++ enB E S m (j + 1) := h
    rcases List.mem_append.mp h with h | h
    · cases hb : S.testBit j with
      | true => rw [hb] at h; cases h
      | false =>
        rw [hb] at h
        obtain ⟨l, h1, h2⟩ := List.mem_map.mp h
        exact ⟨j, l, h2.symm, Nat.le_refl _, by omega, hb, h1⟩
    · obtain ⟨t, l, a, b, c, d⟩ := enB_mem m (j + 1) h
      exact ⟨t, l, a, by omega, by omega, d⟩
theorem enu_ok {n : Nat} : ∀ (r S : Nat) (x : List Nat), x ∈ enu n r S → okO n S x ∧ x.length = r
  | 0, S, x, h => by
    have : x = [] := List.mem_singleton.mp h
    subst this
    exact ⟨trivial, rfl⟩
  | r + 1, S, x, h => by
    obtain ⟨t, l, a, b, c, d, e⟩ := enB_mem n 0 h
    subst a
    obtain ⟨h1, h2⟩ := enu_ok r (S ||| 2 ^ t) l e
    exact ⟨⟨by omega, d, h1⟩, by rw [List.length_cons, h2]⟩
theorem smN_one {g h : Nat → Nat} {j v : Nat} : ∀ n, j < n → h j = g j + v → (∀ i, ¬ i = j → h i = g i) → smN h n = smN g n + v
  | 0, hj, _, _ => by omega
  | n + 1, hj, h1, h2 => by
    unfold smN
    by_cases e : j = n
    · subst e
      rw [smN_cg (g := h) (h := g) j (fun k hk => h2 k (by omega)), h1]; omega
    · rw [smN_one n (by omega) h1 h2, h2 n (fun q => e q.symm)]; omega
theorem dSu_or {d n S t : Nat} {q : Nat → Nat} (ht : t < n) (ho : S.testBit t = false) : dSu d n q (S ||| 2 ^ t) = dSu d n q S + q t := by
  unfold dSu
  rw [smN_one (g := fun k => if S.testBit k then q k else 0) (h := fun k => if (S ||| 2 ^ t).testBit k then q k else 0) (j := t) (v := q t) n ht ?_ ?_]
  · omega
  · show (if (S ||| 2 ^ t).testBit t = true then q t else 0) = (if S.testBit t = true then q t else 0) + q t
    rw [tb_or, ho, decide_eq_true rfl]; rw [if_pos (by decide), if_neg (by decide)]; omega
  · intro i hi
    show (if (S ||| 2 ^ t).testBit i = true then q i else 0) = (if S.testBit i = true then q i else 0)
    rw [tb_or, decide_eq_false (fun z => hi z.symm), Bool.or_false]
def ltO (d n : Nat) (q : Nat → Nat) (E : Nat → Int32) (S t : Nat) : Nat := if E t = -1 then 0 else if nI (dSu d n q S) ≤ E t then 0 else 1
theorem Cw_lt {d n S t : Nat} {q : Nat → Nat} {E : Nat → Int32} : Cw d n q E S t = dSu d n q S + 1048576 * ltO d n q E S t := by
  unfold Cw ltO
  split
  · rfl
  · split <;> rfl
theorem j13_s {N f : Nat} {σ : St} {x1 x2 x3 x4 x5 : Int32} : fX12_judge_13 N (f + 1) σ x1 x2 x3 x4 x5 = fX12_judge_13b N (fX12_judge_13 N f) σ x1 x2 x3 x4 x5 := rfl
theorem j13_step {N : Nat} {σ : St} {k13 : St → Int32 → Int32 → Int32 → Int32 → Int32 → Option St} {x1 x2 x3 x4 x5 t s v4 v6 : Int32} (h : ¬ x1 ≤ x5) (h5 : ix x5 6 = true) (ht : aR σ 50 x5 = t) (h6 : ix t 6 = true) (hs : aR σ 48 t = s) (h7 : ix s 16 = true) (h4 : x4 + aR σ 19 s = v4) (h8 : x3 + v4 = v6) : fX12_judge_13b N k13 σ x1 x2 x3 x4 x5 = k13 σ x1 (x2 + (if aR σ 49 t = -1 then 0 else if v4 ≤ aR σ 49 t then 0 else 1)) v6 v4 (x5 + 1) := by
  subst ht
  subst hs
  subst h4
  subst h8
  refine (if_neg h).trans ((if_pos h5).trans ((if_pos h6).trans ((if_pos h7).trans ((if_pos h5).trans ((if_pos h6).trans ?_)))))
  by_cases q1 : aR σ 49 (aR σ 50 x5) = -1
  · rw [if_pos q1, if_pos q1]; rfl
  · rw [if_neg q1, if_neg q1]
    refine (if_pos h5).trans ((if_pos h6).trans ?_)
    by_cases q2 : x4 + aR σ 19 (aR σ 48 (aR σ 50 x5)) ≤ aR σ 49 (aR σ 50 x5)
    · rw [if_pos q2, if_pos q2]; rfl
    · rw [if_neg q2, if_neg q2]; rfl
/-- what the model holds of a choice -/
def chM (n : Nat) (A : Nat → Nat) (E : Nat → Int32) (τ : St) : Prop := ∀ t, t < n → τ.2.1 48 t = nI (A t) ∧ τ.2.1 49 t = E t
theorem judge_loop {N n d : Nat} {A q : Nat → Nat} {E : Nat → Int32} {τ : St} (hn : n ≤ 6) (hd : d ≤ 9999) (hq : ∀ t, t < n → q t ≤ 60) (hA : ∀ t, t < n → A t < 16 ∧ τ.2.1 19 (A t) = nI (q t)) (hM : chM n A E τ) : ∀ (l : List Nat) (f k S late sum : Nat), k + l.length = n → l.length < f → okO n S l → (∀ i r, l[i]? = some r → τ.2.1 50 (k + i) = nI r) → late + l.length ≤ 6 → sum + 10359 * l.length ≤ 62154 → ∃ late' sum' dn kk, fX12_judge_13 N f τ (nI n) (nI late) (nI sum) (nI (dSu d n q S)) (nI k) = fX12_judge_13b N kk τ (nI n) (nI late') (nI sum') dn (nI n) ∧ 1048576 * late' + sum' = 1048576 * late + sum + vl (Cw d n q E) S l ∧ late' ≤ 6 ∧ sum' ≤ 62154 := by
  intro l
  induction l with
  | nil =>
    intro f k S late sum hk hf ho h50 hl hs
    cases f with
    | zero => omega
    | succ f =>
      have : k = n := by rw [List.length_nil] at hk; omega
      subst this
      rw [List.length_nil] at hl hs
      exact ⟨late, sum, _, _, j13_s, rfl, by omega, by omega⟩
  | cons t l ih =>
    intro f k S late sum hk hf ho h50 hl hs
    rw [List.length_cons] at hk hf hl hs
    cases f with
    | zero => omega
    | succ f =>
      obtain ⟨ht, hbt, ho2⟩ := ho
      obtain ⟨a1, a2⟩ := hA t ht
      obtain ⟨m1, m2⟩ := hM t ht
      have e50 : τ.2.1 50 k = nI t := by have := h50 0 t rfl; rw [Nat.add_zero] at this; exact this
      have hb2 := dSu_b (d := d) (n := n) (S := S ||| 2 ^ t) hq
      have eor := dSu_or (d := d) (q := q) ht hbt
      rw [j13_s, j13_step (t := nI t) (s := nI (A t)) (v4 := nI (dSu d n q (S ||| 2 ^ t))) (v6 := nI (sum + dSu d n q (S ||| 2 ^ t))) (nI_ge (by omega) (by omega)) (ix_nI (show k < 6 by omega) (by decide)) (by rw [aR_nI (by omega)]; exact e50) (ix_nI (by omega) (by decide)) (by rw [aR_nI (by omega)]; exact m1) (ix_nI a1 (by decide)) (by rw [aR_nI (by omega), a2, nI_add, eor]) (nI_add _ _), aR_nI (by omega), m2, nI_1]
      have el : (nI late + (if E t = -1 then 0 else if nI (dSu d n q (S ||| 2 ^ t)) ≤ E t then 0 else 1) : Int32) = nI (late + ltO d n q E (S ||| 2 ^ t) t) := by
        unfold ltO
        by_cases q1 : E t = -1
        · rw [if_pos q1, if_pos q1, Int32.add_zero, Nat.add_zero]
        · rw [if_neg q1, if_neg q1]
          by_cases q2 : nI (dSu d n q (S ||| 2 ^ t)) ≤ E t
          · rw [if_pos q2, if_pos q2, Int32.add_zero, Nat.add_zero]
          · rw [if_neg q2, if_neg q2, nI_1]
      rw [el]
      have hlt : ltO d n q E (S ||| 2 ^ t) t ≤ 1 := by unfold ltO; split; omega; split <;> omega
      obtain ⟨late', sum', dn, kk, z1, z2, z3, z4⟩ := ih f (k + 1) (S ||| 2 ^ t) (late + ltO d n q E (S ||| 2 ^ t) t) (sum + dSu d n q (S ||| 2 ^ t)) (by omega) (by omega) ho2 (fun i r h => by have := h50 (i + 1) r h; rw [show k + (i + 1) = k + 1 + i by omega] at this; exact this) (by omega) (by omega)
      refine ⟨late', sum', dn, kk, z1, ?_, z3, z4⟩
      show _ = 1048576 * late + sum + (Cw d n q E (S ||| 2 ^ t) t + vl (Cw d n q E) (S ||| 2 ^ t) l)
      rw [Cw_lt]
      omega
theorem j138_loop {N n : Nat} {σ : St} (hn : n ≤ 6) : ∀ (m f i : Nat) (g : Nat → Int32), i + m = n → m < f → (∀ k, k < i → g k = σ.2.1 50 k) → ∃ g', fX12_judge_138 N f (sA σ 51 g) (nI n) (nI i) = some (sA σ 51 g') ∧ ∀ k, k < n → g' k = σ.2.1 50 k := by
  intro m
  induction m with
  | zero =>
    intro f i g hi hf h
    cases f with
    | zero => omega
    | succ f => exact ⟨g, if_pos (nI_le (by omega) (by omega)), fun k hk => h k (by omega)⟩
  | succ m ih =>
    intro f i g hi hf h
    cases f with
    | zero => omega
    | succ f =>
      have e : fX12_judge_138 N (f + 1) (sA σ 51 g) (nI n) (nI i) = fX12_judge_138 N f (sA σ 51 (upd g i (σ.2.1 50 i))) (nI n) (nI (i + 1)) := by
        have h6 : ix (nI i) 6 = true := ix_nI (by omega) (by decide)
        refine ((if_neg (nI_ge (show i < n by omega) (by omega))).trans ((if_pos h6).trans (if_pos h6))).trans ?_
        show fX12_judge_138 N f (aW (sA σ 51 g) 51 (nI i) (aR (sA σ 51 g) 50 (nI i))) (nI n) (nI i + 1) = _
        rw [aW_nI (by omega), aR_nI (by omega), sA_sA, nI_1]
        rfl
      rw [e]
      refine ih f (i + 1) _ (by omega) (by omega) (fun k hk => ?_)
      by_cases z : k = i
      · subst z; rw [up_s]
      · rw [pk_un z]; exact h k (by omega)
/-- the best so far -/
def bR3 (V : List Nat → Nat) (c : Option (List Nat)) (τ : St) : Prop := match c with
  | none => τ.1 19 = -1
  | some l => τ.1 19 = nI (V l / 1048576) ∧ τ.1 20 = nI (V l % 1048576) ∧ V l < 8388608 ∧ ∀ i r, l[i]? = some r → τ.2.1 51 i = nI r
theorem j125 {N n late sum : Nat} {τ : St} (hN : 41 ≤ N) (hn : n ≤ 6) : ∃ g, fX12_judge_125 N τ (nI n) (nI late) (nI sum) = some (sA (sI (sI τ 19 (nI late)) 20 (nI sum)) 51 g) ∧ ∀ k, k < n → g k = τ.2.1 50 k := by
  obtain ⟨g, z1, z2⟩ := j138_loop (N := N) (σ := sI (sI τ 19 (nI late)) 20 (nI sum)) hn n N 0 (τ.2.1 51) (by omega) (by omega) (fun k hk => by omega)
  refine ⟨g, ?_, z2⟩
  have e : sA (sI (sI τ 19 (nI late)) 20 (nI sum)) 51 (τ.2.1 51) = sI (sI τ 19 (nI late)) 20 (nI sum) := sA_self _ 51
  rw [e] at z1
  exact z1
theorem mjudge {N n d : Nat} {κ : Nat → Nat} {σx : St} {A q : Nat → Nat} {E : Nat → Int32} {τ : St} {l : List Nat} {c : Option (List Nat)} (hN : 200 ≤ N) (hn : n ≤ 6) (hd : d ≤ 9999) (hday : τ.1 0 = nI d) (hq : ∀ t, t < n → q t ≤ 60) (hA : ∀ t, t < n → A t < 16 ∧ τ.2.1 19 (A t) = nI (q t)) (hK : InvK κ σx τ) (hM : chM n A E τ) (hB : bR3 (vl (Cw d n q E) 0) c τ) (hl : l.length = n) (hok : okO n 0 l) (h50 : ∀ i r, l[i]? = some r → τ.2.1 50 i = nI r) : ∃ τ', fX12_judge N τ (nI n) = some τ' ∧ τ'.1 0 = nI d ∧ (∀ t, t < n → A t < 16 ∧ τ'.2.1 19 (A t) = nI (q t)) ∧ InvK κ σx τ' ∧ chM n A E τ' ∧ bR3 (vl (Cw d n q E) 0) (stp (vl (Cw d n q E) 0) c l) τ' := by
  obtain ⟨hd1, hs, hla, hhe, hho, hli, hle, hc, hta, hx, hcl, hlo, hsh⟩ := id hK
  have h0 : dSu d n q 0 = d := by
    unfold dSu
    have := smN_b (g := fun t => if (0 : Nat).testBit t then q t else 0) (b := 0) n (fun k hk => by rw [Nat.zero_testBit]; exact Nat.le_refl _)
    omega
  obtain ⟨late, sum, dn, kk, z1, z2, z3, z4⟩ := judge_loop (N := N) (d := d) hn hd hq hA hM l N 0 0 0 0 (by omega) (by omega) hok (fun i r h => by rw [Nat.zero_add]; exact h50 i r h) (by omega) (by omega)
  rw [h0, ← hday] at z1
  have z1 : fX12_judge N τ (nI n) = fX12_judge_13b N kk τ (nI n) (nI late) (nI sum) dn (nI n) := z1
  generalize hV : vl (Cw d n q E) 0 = V at hB z2 ⊢
  have eL : V l / 1048576 = late := by omega
  have eS : V l % 1048576 = sum := by omega
  have eV : V l < 8388608 := by omega
  obtain ⟨g, w1, w2⟩ := j125 (N := N) (n := n) (late := late) (sum := sum) (τ := τ) (by omega) hn
  have take : fX12_judge_13b N kk τ (nI n) (nI late) (nI sum) dn (nI n) = fX12_judge_125 N τ (nI n) (nI late) (nI sum) → stp V c l = some l → ∃ τ', fX12_judge N τ (nI n) = some τ' ∧ τ'.1 0 = nI d ∧ (∀ t, t < n → A t < 16 ∧ τ'.2.1 19 (A t) = nI (q t)) ∧ InvK κ σx τ' ∧ chM n A E τ' ∧ bR3 V (stp V c l) τ' := by
    intro e1 e2
    refine ⟨_, (z1.trans e1).trans w1, hday, hA, ⟨hd1, hs, hla, hhe, hho, hli, hle, hc, hta, hx, hcl, hlo, hsh⟩, hM, ?_⟩
    rw [e2]
    refine ⟨?_, ?_, eV, fun i r h => ?_⟩
    · rw [eL]; rfl
    · rw [eS]; rfl
    · show g i = nI r
      rw [w2 i (by rw [← hl]; exact (List.getElem?_eq_some_iff.mp h).1), h50 i r h]
  have keep : fX12_judge_13b N kk τ (nI n) (nI late) (nI sum) dn (nI n) = some τ → stp V c l = c → ∃ τ', fX12_judge N τ (nI n) = some τ' ∧ τ'.1 0 = nI d ∧ (∀ t, t < n → A t < 16 ∧ τ'.2.1 19 (A t) = nI (q t)) ∧ InvK κ σx τ' ∧ chM n A E τ' ∧ bR3 V (stp V c l) τ' := by
    intro e1 e2
    refine ⟨τ, z1.trans e1, hday, hA, hK, hM, ?_⟩
    rw [e2]; exact hB
  cases c with
  | none => exact take ((if_pos (Int32.le_refl _)).trans (if_pos hB)) rfl
  | some l0 =>
    obtain ⟨b1, b2, b3, b4⟩ := hB
    have n1 : ¬ τ.1 19 = -1 := by rw [b1]; exact nI_m1 (by omega)
    have es : stp V (some l0) l = if V l < V l0 then some l else some l0 := rfl
    by_cases q1 : late < V l0 / 1048576
    · refine take ((if_pos (Int32.le_refl _)).trans ((if_neg n1).trans (if_pos ?_))) ?_
      · rw [b1]; exact nI_lt q1 (by omega)
      · rw [es, if_pos (by omega)]
    · have m1 : ¬ nI late < τ.1 19 := by rw [b1]; exact nI_nlt (by omega) (by omega)
      by_cases q2 : late = V l0 / 1048576
      · have m2 : nI late = τ.1 19 := by rw [b1, q2]
        by_cases q3 : V l0 % 1048576 ≤ sum
        · refine keep ((if_pos (Int32.le_refl _)).trans ((if_neg n1).trans ((if_neg m1).trans ((if_pos m2).trans (if_pos ?_))))) ?_
          · rw [b2]; exact nI_le q3 (by omega)
          · rw [es, if_neg (by omega)]
        · refine take ((if_pos (Int32.le_refl _)).trans ((if_neg n1).trans ((if_neg m1).trans ((if_pos m2).trans (if_neg ?_))))) ?_
          · rw [b2]; exact nI_ge (by omega) (by omega)
          · rw [es, if_pos (by omega)]
      · have m2 : ¬ nI late = τ.1 19 := by rw [b1]; exact fun z => q2 ((nI_eq (by omega) (by omega)).mp z)
        refine keep ((if_pos (Int32.le_refl _)).trans ((if_neg n1).trans ((if_neg m1).trans (if_neg m2)))) ?_
        rw [es, if_neg (by omega)]
theorem fac_F : ∀ n, n < 7 → fcN n ≤ 720 := by decide
theorem o26_loop {N n d : Nat} {κ : Nat → Nat} {σx : St} {A q : Nat → Nat} {E : Nat → Int32} (hN : 2000 ≤ N) (hn : n ≤ 6) (hd : d ≤ 9999) (hq : ∀ t, t < n → q t ≤ 60) : ∀ (m f w : Nat) (τ : St), w + m = (enu n n 0).length → m < f → τ.1 0 = nI d → (∀ t, t < n → A t < 16 ∧ τ.2.1 19 (A t) = nI (q t)) → InvK κ σx τ → chM n A E τ → bR3 (vl (Cw d n q E) 0) (fmn (vl (Cw d n q E) 0) none ((enu n n 0).take w)) τ → ∃ τ', fX12_orderAll_26 N f τ (nI n) (nI (fcN n)) (nI w) = some τ' ∧ InvK κ σx τ' ∧ chM n A E τ' ∧ bR3 (vl (Cw d n q E) 0) (fmn (vl (Cw d n q E) 0) none (enu n n 0)) τ' := by
  intro m
  have hlen := len_F n (by omega)
  have hfac := fac_F n (by omega)
  induction m with
  | zero =>
    intro f w τ hw hf h0 hA hK hM hB
    cases f with
    | zero => omega
    | succ f =>
      refine ⟨τ, if_pos (nI_le (by omega) (by omega)), hK, hM, ?_⟩
      rw [List.take_of_length_le (by omega)] at hB
      exact hB
  | succ m ih =>
    intro f w τ hw hf h0 hA hK hM hB
    cases f with
    | zero => omega
    | succ f =>
      have hwl : w < (enu n n 0).length := by omega
      obtain ⟨ok, hl⟩ := enu_ok n 0 _ (List.getElem_mem hwl)
      obtain ⟨hd1, hs, hla, hhe, hho, hli, hle, hc, hta, hx, hcl, hlo, hsh⟩ := id hK
      obtain ⟨g, o1, _, o3⟩ := morder (N := N) (σ := τ) (by omega) (by omega) (by omega) (dec_e (show n < 7 by omega) hwl)
      obtain ⟨τ', j1, j2, j3, j4, j5, j6⟩ := mjudge (N := N) (κ := κ) (σx := σx) (τ := sA τ 50 g) (c := fmn (vl (Cw d n q E) 0) none ((enu n n 0).take w)) (by omega) hn hd h0 hq hA ⟨hd1, hs, hla, hhe, hho, hli, hle, hc, hta, hx, hcl, hlo, hsh⟩ hM (by
        cases hcc : fmn (vl (Cw d n q E) 0) none ((enu n n 0).take w) with
        | none => rw [hcc] at hB; exact hB
        | some l0 => rw [hcc] at hB; exact hB) hl ok o3
      have e : fX12_orderAll_26 N (f + 1) τ (nI n) (nI (fcN n)) (nI w) = fX12_orderAll_26 N f τ' (nI n) (nI (fcN n)) (nI (w + 1)) := by
        rw [← nI_1]
        exact (if_neg (nI_ge (by omega) (by omega))).trans ((bd_some o1).trans (bd_some j1))
      rw [e]
      refine ih f (w + 1) τ' (by omega) (by omega) j2 j3 j4 j5 ?_
      rw [List.take_succ_eq_append_getElem hwl, fmn_app]
      exact j6
theorem o4_e {N M : Nat} {σ : St} : ∀ n, n < 7 → fX12_orderAll_4 N (M + 10) σ (nI n) 1 2 = fX12_orderAll_26 N N (sI σ 19 (-1)) (nI n) (nI (fcN n)) 0
  | 0, _ => rfl
  | 1, _ => rfl
  | 2, _ => rfl
  | 3, _ => rfl
  | 4, _ => rfl
  | 5, _ => rfl
  | 6, _ => rfl
  | n + 7, h => by omega
theorem morders {N n d : Nat} {κ : Nat → Nat} {σx τ : St} {A q : Nat → Nat} {E : Nat → Int32} (hN : 2000 ≤ N) (hn : n ≤ 6) (hd : d ≤ 9999) (hq : ∀ t, t < n → q t ≤ 60) (h0 : τ.1 0 = nI d) (hA : ∀ t, t < n → A t < 16 ∧ τ.2.1 19 (A t) = nI (q t)) (hK : InvK κ σx τ) (hM : chM n A E τ) : ∃ τ', fX12_orderAll N τ (nI n) = some τ' ∧ InvK κ σx τ' ∧ chM n A E τ' ∧ bR3 (vl (Cw d n q E) 0) (some (gre (Cw d n q E) n n 0)) τ' := by
  obtain ⟨M, hM2⟩ : ∃ M, N = M + 10 := ⟨N - 10, by omega⟩
  obtain ⟨hd1, hs, hla, hhe, hho, hli, hle, hc, hta, hx, hcl, hlo, hsh⟩ := id hK
  have e : fX12_orderAll N τ (nI n) = fX12_orderAll_26 N N (sI τ 19 (-1)) (nI n) (nI (fcN n)) 0 := by
    show fX12_orderAll_4 N N τ (nI n) 1 2 = _
    have := o4_e (N := N) (M := M) (σ := τ) n (by omega)
    rw [← hM2] at this
    exact this
  have hlen := len_F n (by omega)
  have hfac := fac_F n (by omega)
  obtain ⟨τ', z1, z2, z3, z4⟩ := o26_loop (N := N) (κ := κ) (σx := σx) hN hn hd hq (enu n n 0).length N 0 (sI τ 19 (-1)) (by omega) (by omega) h0 hA ⟨hd1, hs, hla, hhe, hho, hli, hle, hc, hta, hx, hcl, hlo, hsh⟩ hM rfl
  rw [(enu_best (C := Cw d n q E) n 0 (opn_0 n (by omega))).1] at z4
  exact ⟨τ', e.trans z1, z2, z3, z4⟩
