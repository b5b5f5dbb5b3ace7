/-! PURE: parting by SHARES, yearly -/
theorem sJ_sJ (σ : St) (k : Nat) (f g : Nat → Int64) : sJ (sJ σ k f) k g = sJ σ k g := by unfold sJ; rw [vz_up_up]
theorem jR_nI {σ : St} {c k : Nat} (h : k < 2 ^ 31) : jR σ c (nI k) = σ.2.2 c k := by show σ.2.2 c (nI k).toNatClampNeg = _; rw [nI_clamp h]
theorem jW_nI {σ : St} {c k : Nat} {v : Int64} (h : k < 2 ^ 31) : jW σ c (nI k) v = sJ σ c (vp_updL (σ.2.2 c) k v) := by show sJ σ c (vp_updL (σ.2.2 c) (nI k).toNatClampNeg v) = _; rw [nI_clamp h]
def sU (w : Nat → Int32) : Nat → Nat → Int32 → Int32
  | 0, _, a => a
  | m + 1, i, a => sU w m (i + 1) (a + w i)
def sD (w : Nat → Int32) : Nat → Int32 → Int32
  | 0, a => a
  | i + 1, a => sD w i (a + w i)
theorem sU_out (w : Nat → Int32) : ∀ (m i : Nat) (a b : Int32), sU w m i (a + b) = a + sU w m i b
  | 0, _, _, _ => rfl
  | m + 1, i, a, b => by unfold sU; rw [Int32.add_assoc, sU_out w m (i + 1)]
theorem sU_snoc (w : Nat → Int32) : ∀ (m i : Nat) (a : Int32), sU w (m + 1) i a = sU w m i a + w (i + m)
  | 0, i, a => rfl
  | m + 1, i, a => by
    show sU w (m + 1) (i + 1) (a + w i) = sU w m (i + 1) (a + w i) + w (i + (m + 1))
    rw [sU_snoc w m (i + 1), show i + 1 + m = i + (m + 1) by omega]
theorem sD_e (w : Nat → Int32) : ∀ (n : Nat) (a : Int32), sD w n a = sU w n 0 a
  | 0, _ => rfl
  | n + 1, a => by
    rw [sU_snoc, show sD w (n + 1) a = sD w n (a + w n) from rfl, sD_e w n, Nat.zero_add, Int32.add_comm a, sU_out, Int32.add_comm]
theorem sU_nn {w : Nat → Int32} : ∀ (m i a : Nat), (∀ k, k < i + m → rg 0 99 (w k)) → ∃ S, S ≤ a + 99 * m ∧ sU w m i (nI a) = nI S
  | 0, i, a, _ => ⟨a, by omega, rfl⟩
  | m + 1, i, a, h => by
    obtain ⟨v, hv, e⟩ := rg_of (x := w i) (hi := 99) (h i (by omega)) (by decide)
    obtain ⟨S, hS, e2⟩ := sU_nn (w := w) m (i + 1) (a + v) (fun k hk => h k (by omega))
    refine ⟨S, by omega, ?_⟩
    show sU w m (i + 1) (nI a + w i) = _
    rw [e, nI_add, e2]
def lU (w : Nat → Int32) : Nat → Nat → Int32 → Int32
  | 0, _, l => l
  | m + 1, i, l => lU w m (i + 1) (if l = -1 then (if w i ≤ 0 then l else nI i) else l)
def lD (w : Nat → Int32) : Nat → Int32 → Int32
  | 0, l => l
  | i + 1, l => lD w i (if w i ≤ 0 then l else nI i)
theorem lU_snoc (w : Nat → Int32) : ∀ (m i : Nat) (l : Int32), lU w (m + 1) i l = if lU w m i l = -1 then (if w (i + m) ≤ 0 then lU w m i l else nI (i + m)) else lU w m i l
  | 0, i, l => rfl
  | m + 1, i, l => by
    show lU w (m + 1) (i + 1) _ = _
    rw [lU_snoc w m (i + 1), show i + 1 + m = i + (m + 1) by omega]
    rfl
theorem lD_e (w : Nat → Int32) : ∀ (n : Nat) (l : Int32), n < 2 ^ 31 → lD w n l = if lU w n 0 (-1) = -1 then l else lU w n 0 (-1)
  | 0, l, _ => by rw [if_pos (show lU w 0 0 (-1) = -1 from rfl)]; rfl
  | n + 1, l, hn => by
    rw [show lD w (n + 1) l = lD w n (if w n ≤ 0 then l else nI n) from rfl, lD_e w n _ (by omega), lU_snoc, Nat.zero_add]
    by_cases h1 : lU w n 0 (-1) = -1
    · by_cases h2 : w n ≤ 0
      · simp only [if_pos h1, if_pos h2]
      · simp only [if_pos h1, if_neg h2]
        rw [if_neg (nI_m1 (by omega))]
    · simp only [if_neg h1]
theorem lD_m (w : Nat → Int32) (n : Nat) (hn : n < 2 ^ 31) : lD w n (-1) = lU w n 0 (-1) := by
  rw [lD_e w n _ hn]
  by_cases h : lU w n 0 (-1) = -1
  · rw [if_pos h, h]
  · rw [if_neg h]
def gU (t : Nat → Int64) : Nat → Nat → Int64 → Int64
  | 0, _, a => a
  | m + 1, i, a => gU t m (i + 1) (a + t i)
def gL (t : Nat → Int64) : Nat → Nat → Int64 → Int64
  | 0, _, a => a
  | m + 1, i, a => gL t m (i + 1) (a - t i)
theorem gL_e (t : Nat → Int64) (c : Int64) : ∀ (m i : Nat) (a : Int64), gL t m i (c - a) = c - gU t m i a
  | 0, _, _ => rfl
  | m + 1, i, a => by
    show gL t m (i + 1) (c - a - t i) = c - gU t m (i + 1) (a + t i)
    rw [Int64.sub_sub, gL_e t c m (i + 1)]
/-- what comes to ow of what is of's -/
def ptS (w : Nat → Int32) (c : Int64) (ow of : Nat) : Int64 :=
  if 0 < sU w 10 0 0 then (if nI ow = lU w 10 0 (-1) then c * (w ow).toInt64 / (sU w 10 0 0).toInt64 + c - gU (fun i => c * (w i).toInt64 / (sU w 10 0 0).toInt64) 10 0 0 else c * (w ow).toInt64 / (sU w 10 0 0).toInt64) else (if nI of = nI ow then c else 0)
theorem pos_ne {x : Int32} (h : 0 < x) : ¬ x.toInt64 = 0 := by
  intro e
  have h1 := congrArg Int64.toInt e
  rw [Int32.toInt_toInt64, show (0 : Int64).toInt = 0 from rfl] at h1
  have h2 := Int32.lt_iff_toInt_lt.mp h
  rw [show (0 : Int32).toInt = 0 from rfl] at h2
  omega
theorem xgiv_loop {N of ow : Nat} {σ : St} {w : Nat → Int32} {x3 : Int32} (hof : of < 10) (how : ow < 10) (hw : ∀ j, j < 10 → σ.2.1 (25 + of) j = w j) (h3 : 0 < x3) : ∀ (m f i : Nat) (g : Int64) (l : Int32), i + m = 10 → m < f → fX3_part_59 N σ f (nI of) (nI ow) x3 g l (nI i) = some (if nI ow = lU w m i l then (σ.2.2 35 of * (w ow).toInt64 / x3.toInt64 + σ.2.2 35 of) - gU (fun i => σ.2.2 35 of * (w i).toInt64 / x3.toInt64) m i g else σ.2.2 35 of * (w ow).toInt64 / x3.toInt64) := by
  intro m
  induction m with
  | zero =>
    intro f i g l hi hf
    cases f with
    | zero => omega
    | succ f =>
      show fX3_part_59b N σ (fX3_part_59 N σ f) (nI of) (nI ow) x3 g l (nI i) = _
      unfold fX3_part_59b nm
      rw [if_pos (show (10 : Int32) ≤ nI i from nI_le (a := 10) (by omega) (by omega))]
      simp only [ix_nI hof (by decide), ix_nI how (by decide), if_true, if_pos (pos_ne h3), jR_nI (show of < 2 ^ 31 by omega), nI_clamp (show of < 2 ^ 31 by omega), aR_nI (show ow < 2 ^ 31 by omega), hw ow how]
      show (if nI ow = l then _ else _) = some (if nI ow = l then _ else _)
      by_cases q : nI ow = l
      · rw [if_pos q, if_pos q]; rfl
      · rw [if_neg q, if_neg q]
  | succ m ih =>
    intro f i g l hi hf
    cases f with
    | zero => omega
    | succ f =>
      show fX3_part_59b N σ (fX3_part_59 N σ f) (nI of) (nI ow) x3 g l (nI i) = _
      have hi10 : i < 10 := by omega
      unfold fX3_part_59b fX3_part_88 nm
      rw [if_neg (show ¬ (10 : Int32) ≤ nI i from nI_ge (b := 10) (by omega) (by omega))]
      simp only [ix_nI hof (by decide), ix_nI hi10 (by decide), if_true, if_pos (pos_ne h3), jR_nI (show of < 2 ^ 31 by omega), nI_clamp (show of < 2 ^ 31 by omega), aR_nI (show i < 2 ^ 31 by omega), hw i hi10, nI_1]
      rw [show lU w (m + 1) i l = lU w m (i + 1) (if l = -1 then (if w i ≤ 0 then l else nI i) else l) from rfl, show ∀ t : Nat → Int64, gU t (m + 1) i g = gU t m (i + 1) (g + t i) from fun _ => rfl]
      by_cases q1 : l = -1
      · by_cases q2 : w i ≤ 0
        · simp only [if_pos q1, if_pos q2]; exact ih f (i + 1) _ _ (by omega) (by omega)
        · simp only [if_pos q1, if_neg q2]; exact ih f (i + 1) _ _ (by omega) (by omega)
      · simp only [if_neg q1]; exact ih f (i + 1) _ _ (by omega) (by omega)
theorem xpart_loop {N of ow : Nat} {σ : St} {w : Nat → Int32} (hN : 41 ≤ N) (hof : of < 10) (how : ow < 10) (hw : ∀ j, j < 10 → σ.2.1 (25 + of) j = w j) : ∀ (m f i : Nat) (a : Int32), i + m = 10 → m < f → sU w m i a = sU w 10 0 0 → fX3_part_5 N σ f (nI of) (nI ow) a (nI i) = some (ptS w (σ.2.2 35 of) ow of) := by
  intro m
  induction m with
  | zero =>
    intro f i a hi hf ha
    cases f with
    | zero => omega
    | succ f =>
      show fX3_part_5b N σ (fX3_part_5 N σ f) (nI of) (nI ow) a (nI i) = _
      unfold fX3_part_5b
      rw [if_pos (show (10 : Int32) ≤ nI i from nI_le (a := 10) (by omega) (by omega))]
      have ha : a = sU w 10 0 0 := ha
      unfold ptS
      rw [← ha]
      by_cases q : 0 < a
      · rw [if_pos q, if_pos q, show (0 : Int32) = nI 0 from rfl, xgiv_loop hof how hw q 10 N 0 0 (-1) (by omega) (by omega)]
      · rw [if_neg q, if_neg q]
        simp only [ix_nI hof (by decide), if_true, jR_nI (show of < 2 ^ 31 by omega)]
        by_cases q2 : nI of = nI ow
        · rw [if_pos q2, if_pos q2]
        · rw [if_neg q2, if_neg q2]
  | succ m ih =>
    intro f i a hi hf ha
    cases f with
    | zero => omega
    | succ f =>
      show fX3_part_5b N σ (fX3_part_5 N σ f) (nI of) (nI ow) a (nI i) = _
      have hi10 : i < 10 := by omega
      unfold fX3_part_5b nm
      rw [if_neg (show ¬ (10 : Int32) ≤ nI i from nI_ge (b := 10) (by omega) (by omega))]
      simp only [ix_nI hof (by decide), ix_nI hi10 (by decide), if_true, nI_clamp (show of < 2 ^ 31 by omega), aR_nI (show i < 2 ^ 31 by omega), hw i hi10, nI_1]
      exact ih f (i + 1) _ (by omega) (by omega) ha
theorem xpart {N of ow : Nat} {σ : St} {w : Nat → Int32} (hN : 41 ≤ N) (hof : of < 10) (how : ow < 10) (hw : ∀ j, j < 10 → σ.2.1 (25 + of) j = w j) : fX3_part N σ (nI of) (nI ow) = some (ptS w (σ.2.2 35 of) ow of) := by
  unfold fX3_part
  exact xpart_loop hN hof how hw 10 N 0 0 (by omega) (by omega) rfl
def cmS (w : Nat → Nat → Int32) (c : Nat → Int64) (ow : Nat) : Nat → Nat → Int64 → Int64
  | 0, _, a => a
  | m + 1, of, a => cmS w c ow m (of + 1) (a + ptS (w of) (c of) ow of)
theorem xcome_loop {N ow : Nat} {σ : St} {w : Nat → Nat → Int32} {c : Nat → Int64} (hN : 41 ≤ N) (how : ow < 10) (hw : ∀ i j, i < 10 → j < 10 → σ.2.1 (25 + i) j = w i j) (hc : ∀ i, i < 10 → σ.2.2 35 i = c i) : ∀ (m f i : Nat) (a : Int64), i + m = 10 → m < f → fX3_comesTo_5 N σ f (nI ow) a (nI i) = some (cmS w c ow m i a) := by
  intro m
  induction m with
  | zero =>
    intro f i a hi hf
    cases f with
    | zero => omega
    | succ f =>
      show fX3_comesTo_5b N σ (fX3_comesTo_5 N σ f) (nI ow) a (nI i) = _
      unfold fX3_comesTo_5b
      rw [if_pos (show (10 : Int32) ≤ nI i from nI_le (a := 10) (by omega) (by omega))]
      rfl
  | succ m ih =>
    intro f i a hi hf
    cases f with
    | zero => omega
    | succ f =>
      show fX3_comesTo_5b N σ (fX3_comesTo_5 N σ f) (nI ow) a (nI i) = _
      unfold fX3_comesTo_5b nm
      rw [if_neg (show ¬ (10 : Int32) ≤ nI i from nI_ge (b := 10) (by omega) (by omega)), xpart hN (show i < 10 by omega) how (fun j hj => hw i j (by omega) hj), hc i (by omega)]
      simp only [bd, nI_1]
      exact ih f (i + 1) _ (by omega) (by omega)
theorem mleft_loop {N of ow : Nat} {σ : St} {w : Nat → Int32} {x5 x6 : Int32} {x2 : Int64} {k5 : Int32 → Int64 → Int32 → Option Int64} (hof : of < 10) (how : ow < 10) (hw : ∀ j, j < 10 → σ.2.1 4 (10 * of + j) = w j) (h5 : 0 < x5) : ∀ (m f i : Nat) (g : Int64), i + m = 10 → m < f → fX12_parted_116 N σ k5 f (nI ow) x2 (nI of) x5 x6 g (nI i) = k5 (nI ow) (x2 + σ.2.2 30 of * (w ow).toInt64 / x5.toInt64 + (if x6 = nI ow then gL (fun i => σ.2.2 30 of * (w i).toInt64 / x5.toInt64) m i g else 0)) (nI (of + 1)) := by
  have em : ∀ j, (10 : Int32) * nI of + nI j = nI (10 * of + j) := fun j => by rw [show (10 : Int32) = nI 10 from rfl, pk_mul, nI_add]
  intro m
  induction m with
  | zero =>
    intro f i g hi hf
    cases f with
    | zero => omega
    | succ f =>
      show fX12_parted_116b N σ k5 (fX12_parted_116 N σ k5 f) (nI ow) x2 (nI of) x5 x6 g (nI i) = _
      unfold fX12_parted_116b fX12_parted_201 fX12_parted_203 nm
      rw [if_pos (show (10 : Int32) ≤ nI i from nI_le (a := 10) (by omega) (by omega))]
      simp only [em, ix_nI hof (by decide), ix_nI (show 10 * of + ow < 100 by omega) (by decide), if_true, if_pos (pos_ne h5), jR_nI (show of < 2 ^ 31 by omega), aR_nI (show 10 * of + ow < 2 ^ 31 by omega), hw ow how, nI_1]
      show _ = k5 (nI ow) (_ + (if x6 = nI ow then g else 0)) _
      by_cases q : x6 = nI ow
      · rw [if_pos q, if_pos q]
      · rw [if_neg q, if_neg q]
  | succ m ih =>
    intro f i g hi hf
    cases f with
    | zero => omega
    | succ f =>
      show fX12_parted_116b N σ k5 (fX12_parted_116 N σ k5 f) (nI ow) x2 (nI of) x5 x6 g (nI i) = _
      have hi10 : i < 10 := by omega
      unfold fX12_parted_116b nm
      rw [if_neg (show ¬ (10 : Int32) ≤ nI i from nI_ge (b := 10) (by omega) (by omega))]
      simp only [em, ix_nI hof (by decide), ix_nI (show 10 * of + i < 100 by omega) (by decide), if_true, if_pos (pos_ne h5), jR_nI (show of < 2 ^ 31 by omega), aR_nI (show 10 * of + i < 2 ^ 31 by omega), hw i hi10, nI_1]
      exact ih f (i + 1) _ (by omega) (by omega)
theorem p22_s {N f : Nat} {σ : St} {k5 : Int32 → Int64 → Int32 → Option Int64} {x1 x4 x5 x6 x7 : Int32} {x2 : Int64} : fX12_parted_22 N σ k5 (f + 1) x1 x2 x4 x5 x6 x7 = fX12_parted_22b N σ k5 (fX12_parted_22 N σ k5 f) x1 x2 x4 x5 x6 x7 := rfl
theorem p22_end {N : Nat} {σ : St} {k5 : Int32 → Int64 → Int32 → Option Int64} {k22 : Int32 → Int64 → Int32 → Int32 → Int32 → Int32 → Option Int64} {x1 x4 x5 x6 x7 : Int32} {x2 : Int64} (h : x7 < 0) : fX12_parted_22b N σ k5 k22 x1 x2 x4 x5 x6 x7 = if x5 = 0 then (if x4 = x1 then (if ix x4 10 = true then k5 x1 (x2 + jR σ 30 x4) (x4 + 1) else none) else k5 x1 (x2 + 0) (x4 + 1)) else (if ix x4 10 = true then fX12_parted_116 N σ k5 N x1 x2 x4 x5 x6 (jR σ 30 x4) 0 else none) := if_pos h
theorem m1_neg : nI 0 + (-1) < 0 := by rw [nI_0, Int32.zero_add]; decide
theorem mall_end {N of ow f : Nat} {σ : St} {w : Nat → Int32} {x2 : Int64} {a l : Int32} {k5 : Int32 → Int64 → Int32 → Option Int64} (hN : 41 ≤ N) (hof : of < 10) (how : ow < 10) (hw : ∀ j, j < 10 → σ.2.1 4 (10 * of + j) = w j) (hr : ∀ j, j < 10 → rg 0 99 (w j)) (ha : a = sU w 10 0 0) (hl : l = lU w 10 0 (-1)) : fX12_parted_22 N σ k5 (f + 1) (nI ow) x2 (nI of) a l (nI 0 + (-1)) = k5 (nI ow) (x2 + ptS w (σ.2.2 30 of) ow of) (nI (of + 1)) := by
  rw [p22_s, p22_end m1_neg]
  obtain ⟨S, hS, eS⟩ := sU_nn (w := w) 10 0 0 (fun k hk => hr k (by omega))
  have eS : sU w 10 0 0 = nI S := eS
  unfold ptS
  rw [← ha, ← hl]
  simp only [ix_nI hof (by decide), if_true, jR_nI (show of < 2 ^ 31 by omega), nI_1]
  by_cases q : 0 < a
  · have q0 : ¬ a = 0 := fun e => by rw [e] at q; exact absurd q (by decide)
    rw [if_neg q0, if_pos q, show (0 : Int32) = nI 0 from rfl, mleft_loop hof how hw q 10 N 0 _ (by omega) (by omega)]
    have e1 := gL_e (fun i => σ.2.2 30 of * (w i).toInt64 / a.toInt64) (σ.2.2 30 of) 10 0 0
    rw [Int64.sub_zero] at e1
    rw [e1]
    by_cases q3 : l = nI ow
    · rw [if_pos q3, if_pos q3.symm]
      simp only [Int64.sub_eq_add_neg, Int64.add_assoc]
    · rw [if_neg q3, if_neg (fun e => q3 e.symm), Int64.add_zero]
  · have q0 : a = 0 := by
      rw [ha, eS] at q ⊢
      cases S with
      | zero => rfl
      | succ S => exact absurd (nI_lt (a := 0) (by omega) (by omega)) q
    rw [if_pos q0, if_neg q]
    by_cases q3 : nI of = nI ow
    · rw [if_pos q3, if_pos q3]
    · rw [if_neg q3, if_neg q3]
theorem mall_loop {N of ow : Nat} {σ : St} {w : Nat → Int32} {x2 : Int64} {k5 : Int32 → Int64 → Int32 → Option Int64} (hN : 41 ≤ N) (hof : of < 10) (how : ow < 10) (hw : ∀ j, j < 10 → σ.2.1 4 (10 * of + j) = w j) (hr : ∀ j, j < 10 → rg 0 99 (w j)) : ∀ (i f : Nat) (a l : Int32), i ≤ 10 → i < f → sD w i a = sU w 10 0 0 → lD w i l = lU w 10 0 (-1) → fX12_parted_22 N σ k5 f (nI ow) x2 (nI of) a l (nI i + (-1)) = k5 (nI ow) (x2 + ptS w (σ.2.2 30 of) ow of) (nI (of + 1)) := by
  have em : ∀ j, (10 : Int32) * nI of + nI j = nI (10 * of + j) := fun j => by rw [show (10 : Int32) = nI 10 from rfl, pk_mul, nI_add]
  intro i
  induction i with
  | zero =>
    intro f a l hi hf ha hl
    cases f with
    | zero => omega
    | succ f =>
      exact mall_end hN hof how hw hr ha hl
  | succ i ih =>
    intro f a l hi hf ha hl
    cases f with
    | zero => omega
    | succ f =>
      rw [pk_m1, p22_s]
      have hi10 : i < 10 := by omega
      generalize hx7 : nI i = x7
      unfold fX12_parted_22b fX12_parted_68 nm
      rw [← hx7, if_neg (nI_pos (by omega))]
      simp only [em, ix_nI (show 10 * of + i < 100 by omega) (by decide), if_true, aR_nI (show 10 * of + i < 2 ^ 31 by omega), hw i hi10]
      by_cases q : w i ≤ 0
      · rw [if_pos q]
        refine ih f _ _ (by omega) (by omega) ha ?_
        rw [← hl, show lD w (i + 1) l = lD w i (if w i ≤ 0 then l else nI i) from rfl, if_pos q]
      · rw [if_neg q]
        refine ih f _ _ (by omega) (by omega) ha ?_
        rw [← hl, show lD w (i + 1) l = lD w i (if w i ≤ 0 then l else nI i) from rfl, if_neg q]
theorem mpart_loop {N ow : Nat} {σ : St} {w : Nat → Nat → Int32} {c : Nat → Int64} (hN : 41 ≤ N) (how : ow < 10) (hw : ∀ i j, i < 10 → j < 10 → σ.2.1 4 (10 * i + j) = w i j) (hr : ∀ i j, i < 10 → j < 10 → rg 0 99 (w i j)) (hc : ∀ i, i < 10 → σ.2.2 30 i = c i) : ∀ (m f i : Nat) (a : Int64), i + m = 10 → m < f → fX12_parted_5 N σ f (nI ow) a (nI i) = some (cmS w c ow m i a) := by
  intro m
  induction m with
  | zero =>
    intro f i a hi hf
    cases f with
    | zero => omega
    | succ f =>
      show fX12_parted_5b N σ (fX12_parted_5 N σ f) (nI ow) a (nI i) = _
      unfold fX12_parted_5b
      rw [if_pos (show (10 : Int32) ≤ nI i from nI_le (a := 10) (by omega) (by omega))]
      rfl
  | succ m ih =>
    intro f i a hi hf
    cases f with
    | zero => omega
    | succ f =>
      show fX12_parted_5b N σ (fX12_parted_5 N σ f) (nI ow) a (nI i) = _
      unfold fX12_parted_5b
      rw [if_neg (show ¬ (10 : Int32) ≤ nI i from nI_ge (b := 10) (by omega) (by omega)), show (9 : Int32) = nI 10 + (-1) from by decide, mall_loop hN (show i < 10 by omega) how (fun j hj => hw i j (by omega) hj) (fun j hj => hr i j (by omega) hj) 10 N 0 (-1) (by omega) (by omega) (sD_e _ _ _) (lD_m _ _ (by decide)), hc i (by omega)]
      exact ih f (i + 1) _ (by omega) (by omega)
/-- what comes to an OWNER is the same, if the tills are -/
theorem parts_e {N ow : Nat} {σ τ : St} (h : I_heir σ τ) (hc : ∀ k, k < 10 → σ.2.2 35 k = τ.2.2 30 k) (how : ow < 10) (hN : 41 ≤ N) : ∃ r, fX3_comesTo N σ (nI ow) = some r ∧ fX12_parted N τ (nI ow) = some r := by
  have hw : ∀ i j, i < 10 → j < 10 → σ.2.1 (25 + i) j = τ.2.1 4 (10 * i + j) := fun i j hi hj => by rw [← rH_e hi]; exact (h i j hi hj).1
  have hr : ∀ i j, i < 10 → j < 10 → rg 0 99 (τ.2.1 4 (10 * i + j)) := fun i j hi hj => by rw [← (h i j hi hj).1]; exact (h i j hi hj).2
  refine ⟨cmS (fun i j => τ.2.1 4 (10 * i + j)) (τ.2.2 30) ow 10 0 0, ?_, ?_⟩
  · unfold fX3_comesTo
    exact xcome_loop hN how hw hc 10 N 0 0 (by omega) (by omega)
  · unfold fX12_parted
    exact mpart_loop hN how (fun i j _ _ => rfl) hr (fun i _ => rfl) 10 N 0 0 (by omega) (by omega)
theorem clear_loop {N : Nat} {σ : St} : ∀ (m f i : Nat) (c : Nat → Int64), i + m = 10 → m < f → (∀ k, k < i → c k = 0) → ∃ c', fX12_clearComes_2 N f (sJ σ 30 c) (nI i) = some (sJ σ 30 c') ∧ ∀ k, k < 10 → c' k = 0 := by
  intro m
  induction m with
  | zero =>
    intro f i c hi hf h
    cases f with
    | zero => omega
    | succ f =>
      refine ⟨c, ?_, fun k hk => h k (by omega)⟩
      show fX12_clearComes_2b N (fX12_clearComes_2 N f) (sJ σ 30 c) (nI i) = _
      unfold fX12_clearComes_2b
      rw [if_pos (show (10 : Int32) ≤ nI i from nI_le (a := 10) (by omega) (by omega))]
  | succ m ih =>
    intro f i c hi hf h
    cases f with
    | zero => omega
    | succ f =>
      show ∃ c', fX12_clearComes_2b N (fX12_clearComes_2 N f) (sJ σ 30 c) (nI i) = some (sJ σ 30 c') ∧ _
      unfold fX12_clearComes_2b nm
      rw [if_neg (show ¬ (10 : Int32) ≤ nI i from nI_ge (b := 10) (by omega) (by omega))]
      simp only [ix_nI (show i < 10 by omega) (by decide), if_true, jW_nI (show i < 2 ^ 31 by omega), sJ_sJ, nI_1]
      refine ih f (i + 1) _ (by omega) (by omega) (fun k hk => ?_)
      by_cases e : k = i
      · subst e; exact pk_uLs
      · rw [pk_uLn e]; exact h k (by omega)
theorem mclear {N : Nat} {σ : St} (hN : 41 ≤ N) : ∃ c', fX12_clearComes N σ = some (sJ σ 30 c') ∧ ∀ k, k < 10 → c' k = 0 := by
  have h := clear_loop (N := N) (σ := σ) 10 N 0 (σ.2.2 30) (by omega) (by omega) (fun k hk => by omega)
  rw [sJ_self] at h
  exact h
theorem year_loop {N n nT nP nL ow : Nat} {σx σm : St} {g : Nat → Int32} {day : Int32} (hhe : I_heir σx σm) (hc : I_const σm) (hs : I_sale n σx σm) (hl : I_line nT nP σx σm) (h : I_leaf nP nL σx σm) (hN : 41 ≤ N) (how : ow < 10) (hg : ∀ k, k < nL → g k = bI (fB n σm day k)) : ∀ (m f i : Nat) (c c' : Nat → Int64), i + m = nL → m < f → (∀ k, k < 10 → c k = c' k) → ∃ r c2 c2', fX5_yearlyTo_15 N f (sJ (sA σx 50 g) 35 c) (nI ow) day (nI i) = some (r, sJ (sA σx 50 g) 35 c2) ∧ fX12_yearly_24 N f (sJ σm 30 c') (nI ow) day (nI i) = some (r, sJ σm 30 c2') := by
  intro m
  have hL := h.1
  induction m with
  | zero =>
    intro f i c c' hi hf hcc
    cases f with
    | zero => omega
    | succ f =>
      obtain ⟨r, e1, e2⟩ := parts_e (N := N) (σ := sJ (sA σx 50 g) 35 c) (τ := sJ σm 30 c') hhe hcc how hN
      refine ⟨r, c, c', ?_, ?_⟩
      · show fX5_yearlyTo_15b N (fX5_yearlyTo_15 N f) (sJ (sA σx 50 g) 35 c) (nI ow) day (nI i) = _
        unfold fX5_yearlyTo_15b
        rw [show (sJ (sA σx 50 g) 35 c).1 4 = nI nL from h.2.1, if_pos (nI_le (by omega) (by omega)), e1]
        rfl
      · show fX12_yearly_24b N (fX12_yearly_24 N f) (sJ σm 30 c') (nI ow) day (nI i) = _
        unfold fX12_yearly_24b
        rw [show (sJ σm 30 c').1 4 = nI nL from h.2.2.1, if_pos (nI_le (by omega) (by omega)), e2]
        rfl
  | succ m ih =>
    intro f i c c' hi hf hcc
    cases f with
    | zero => omega
    | succ f =>
      have hk : i < nL := by omega
      have h24 : i < 24 := by omega
      obtain ⟨kd, hkd, e1, f1⟩ := kind_of h hk
      obtain ⟨sp, hsp, f2, e2⟩ := h.2.2.2.2.1 i hk
      obtain ⟨p, hp, e3, f3⟩ := plot_of hl hsp
      have h16 : sp < 16 := Nat.lt_of_lt_of_le hsp hl.2.2.2.1
      obtain ⟨o, ho, eo⟩ := rg_of (hi := 9) (owS_rg hs (nI p) day) (by decide)
      have z1 : (sJ (sA σx 50 g) 35 c).2.1 50 i = g i := rfl
      have z2 : (sJ (sA σx 50 g) 35 c).2.1 43 i = nI sp := f2
      have z3 : (sJ (sA σx 50 g) 35 c).2.1 37 sp = nI p := f3
      have y2 : (sJ σm 30 c').2.1 23 i = nI sp := e2
      have y3 : (sJ σm 30 c').2.1 16 sp = nI p := e3
      have xo : fX4_ownerOn N (sJ (sA σx 50 g) 35 c) (nI p) day = some (nI o) := by rw [← eo]; exact xown (σx := sJ (sA σx 50 g) 35 c) (σm := σm) hs hN (nI p) day
      have mo : fX12_ownerIn N (sJ σm 30 c') (nI p) day = some (nI o) := by rw [← eo]; exact mown (σx := σx) (σm := sJ σm 30 c') hs hN (nI p) day
      have xy : fX5_yearlyOf N (sJ (sA σx 50 g) 35 c) (nI i) = some (yS (σm.2.1 24 i) kd) := xyear (σx := sJ (sA σx 50 g) 35 c) (σm := σm) h hk hkd f1
      have my : fX12_yearlyOf N (sJ σm 30 c') (nI i) = some (yS (σm.2.1 24 i) kd) := myear (σx := σx) (σm := sJ σm 30 c') h hk hkd e1
      have mf : fX12_isInForce N (sJ σm 30 c') (nI i) day = some (bI (fB n σm day i)) := mforce (σx := σx) (σm := sJ σm 30 c') hc hs hl h hN hk
      show ∃ r c2 c2', fX5_yearlyTo_15b N (fX5_yearlyTo_15 N f) (sJ (sA σx 50 g) 35 c) (nI ow) day (nI i) = some (r, sJ (sA σx 50 g) 35 c2) ∧ fX12_yearly_24b N (fX12_yearly_24 N f) (sJ σm 30 c') (nI ow) day (nI i) = some (r, sJ σm 30 c2')
      unfold fX5_yearlyTo_15b fX12_yearly_24b fX5_yearlyTo_67 fX12_yearly_71 fX3_pay nm
      rw [show (sJ (sA σx 50 g) 35 c).1 4 = nI nL from h.2.1, show (sJ σm 30 c').1 4 = nI nL from h.2.2.1, if_neg (nI_ge hk (by omega)), if_neg (nI_ge hk (by omega)), mf]
      simp only [ix_nI h24 (by decide), ix_nI h16 (by decide), if_true, aR_nI (show i < 2 ^ 31 by omega), aR_nI (show sp < 2 ^ 31 by omega), z1, z2, z3, y2, y3, xo, mo, xy, my, bd, ix_nI (show o < 10 by omega) (by decide), jR_nI (show o < 2 ^ 31 by omega), jW_nI (show o < 2 ^ 31 by omega), sJ_sJ, nI_1, hg i hk]
      cases fB n σm day i with
      | false =>
        simp only [if_pos (show bI false = 0 from rfl)]
        exact ih f (i + 1) c c' (by omega) (by omega) hcc
      | true =>
        simp only [if_neg (show ¬ bI true = 0 from by decide)]
        refine ih f (i + 1) _ _ (by omega) (by omega) (fun k hk2 => ?_)
        show vp_updL c o (c o + _) k = vp_updL c' o (c' o + _) k
        by_cases e : k = o
        · subst e; rw [pk_uLs, pk_uLs, hcc k hk2]
        · rw [pk_uLn e, pk_uLn e, hcc k hk2]
theorem s_yearly {N : Nat} (hN : 41 ≤ N) : SP_yearly Inv N := by
  intro σx σm a1 a2 hI
  obtain ⟨κ, hd, hs, hla, hhe, hho, hli, hle, hc, ht, hx, hcl, hlo, hsh⟩ := id hI
  unfold fX11_yearly fX12_yearly
  rw [isOwner_e, isDay_e]
  by_cases h1 : fX11_isOwner a1 = 0
  · simp only [if_pos h1]; exact ⟨_, _, _, rfl, rfl, hI⟩
  by_cases h2 : fX11_isDay a2 = 0
  · simp only [if_neg h1, if_pos h2]; exact ⟨_, _, _, rfl, rfl, hI⟩
  obtain ⟨ow, how, rfl⟩ := ow_of h1
  simp only [if_neg h1, if_neg h2]
  obtain ⟨g, e1, e2⟩ := xmark (span := -1) (day := a2) hs hli hle hN
  obtain ⟨c', e3, e4⟩ := mclear (N := N) (σ := σm) hN
  unfold fX5_yearlyTo fX3_emptyTill nm
  rw [e1, e3]
  simp only [bd]
  obtain ⟨r, c2, c2', e5, e6⟩ := year_loop (g := g) (day := a2) hhe hc hs hli hle hN how (fun k hk => by rw [e2 k hk]; unfold aB; rw [decide_eq_true (rfl : (-1 : Int32) = -1), Bool.true_or, Bool.true_and]) (κ 4) N 0 (flJ ((sA σx 50 g).2.2 35) 10 0) c' (by omega) (by have := hle.1; omega) (fun k hk => by rw [e4 k hk]; unfold flJ; rw [if_pos hk])
  rw [show fX5_yearlyTo_15 N N (sJ (sA σx 50 g) 35 (flJ ((sA σx 50 g).2.2 35) 10 0)) (nI ow) a2 0 = _ from e5, show fX12_yearly_24 N N (sJ σm 30 c') (nI ow) a2 0 = _ from e6]
  exact ⟨_, _, _, rfl, rfl, κ, hd, hs, hla, hhe, hho, hli, hle, hc, ht, hx, hcl, hlo, hsh⟩
