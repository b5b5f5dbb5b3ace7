/-! PURE: says, due -/
theorem xact0 {N : Nat} {σ : St} {x1 a : Int32} (h1 : ix (σ.1 11) 6 = true) (ha : aR σ 63 (σ.1 11) = a) : fX0_comesTo N σ x1 0 = fX0_comesTo_53 N N (sI σ 12 0) x1 a 0 := by
  subst ha
  exact (if_pos rfl).trans ((if_pos rfl).trans (if_pos h1))
theorem xact1 {N : Nat} {σ : St} {x1 a b : Int32} (h1 : ix (σ.1 11) 6 = true) (ha : aR σ 63 (σ.1 11) = a) (hb : aR σ 64 (σ.1 11) = b) : fX0_comesTo N σ x1 1 = fX0_comesTo_53 N N (sI σ 12 0) x1 b a := by
  subst ha
  subst hb
  exact (if_neg (show ¬ (1 : Int32) = 0 from by decide)).trans ((if_pos h1).trans ((if_neg (show ¬ (1 : Int32) = 0 from by decide)).trans (if_pos h1)))
theorem mact {N : Nat} {σ : St} {x1 x2 y : Int32} (hy : 2 * σ.1 7 + x1 = y) : fX12_partOf N σ x1 x2 = fX12_partOf_15 N N σ x2 y 0 0 := by
  subst hy
  rfl
/-- a part of THE ACT comes to the same on both sides -/
theorem act_e {N d nT nP nX ru sp : Nat} {σx σm : St} {part : Int32} (hd : I_day d σx σm) (hla : I_land d σx σm) (hli : I_line nT nP σx σm) (hx : I_text nX ru σx σm) (hsp : sp < nP) (hN : 200 ≤ N) (hp : part = 0 ∨ part = 1) : ∃ r s e s', fX0_comesTo N σx (nI sp) part = some (r, xS σx s e) ∧ fX12_partOf N σm part (nI sp) = some (r, sA σm 38 s') := by
  obtain ⟨hX, _, _, hru, e11, e7, hT⟩ := hx
  obtain ⟨a, b, hab, f63, f64, f33, f33', c1, c2, o1, o2⟩ := hT ru hru
  have hru6 : ru < 6 := by omega
  have h1 : ix (σx.1 11) 6 = true := by rw [e11]; exact ix_nI hru6 (by decide)
  have e63 : aR σx 63 (σx.1 11) = nI a := by rw [e11, aR_nI (by omega)]; exact f63
  have e64 : aR σx 64 (σx.1 11) = nI (a + b) := by rw [e11, aR_nI (by omega)]; exact f64
  have s0 : sI σx 12 0 = xS σx (σx.2.1 65) 0 := by unfold xS; rw [sA_self]; rfl
  have rc : rC σx ru = σx.2.1 (57 + ru) := rC_e hru6
  rcases hp with rfl | rfl
  · obtain ⟨dp, d0, d1, d2⟩ := o1
    obtain ⟨r, s, e, s', q1, q2⟩ := eval_loop (N := N) (sp := sp) (bx := 0) (n := a) (row := 2 * ru) (dp := dp) hd hla hli hsp hru6 e11 (by omega) f33 (by omega) (fun k hk => by rw [Nat.zero_add, ← rc, show 160 * (2 * ru) + k = 320 * ru + k by omega]; exact c1 k hk) d0 d1 (fun k hk => by rw [show 160 * (2 * ru) + k = 320 * ru + k by omega]; exact d2 k hk) a N 0 (σx.2.1 65) (σm.2.1 38) (by omega) (by omega) (fun j hj => by omega)
    rw [d0, Nat.zero_add] at q1
    rw [d0, sA_self] at q2
    refine ⟨r, s, e, s', ?_, ?_⟩
    · rw [xact0 h1 e63, s0]
      exact q1
    · rw [mact (y := nI (2 * ru)) (by rw [e7, show (2 : Int32) = nI 2 from rfl, pk_mul, Int32.add_zero])]
      exact q2
  · obtain ⟨dp, d0, d1, d2⟩ := o2
    obtain ⟨r, s, e, s', q1, q2⟩ := eval_loop (N := N) (sp := sp) (bx := a) (n := b) (row := 2 * ru + 1) (dp := dp) hd hla hli hsp hru6 e11 (by omega) f33' hab (fun k hk => by rw [← rc, show 160 * (2 * ru + 1) + k = 320 * ru + 160 + k by omega]; exact c2 k hk) d0 d1 (fun k hk => by rw [show 160 * (2 * ru + 1) + k = 320 * ru + 160 + k by omega]; exact d2 k hk) b N 0 (σx.2.1 65) (σm.2.1 38) (by omega) (by omega) (fun j hj => by omega)
    rw [d0, Nat.add_zero] at q1
    rw [d0, sA_self] at q2
    refine ⟨r, s, e, s', ?_, ?_⟩
    · rw [xact1 h1 e63 e64, s0]
      exact q1
    · rw [mact (y := nI (2 * ru + 1)) (by rw [e7, show (2 : Int32) = nI 2 from rfl, pk_mul, nI_1])]
      exact q2
theorem s_says {N : Nat} (hN : 200 ≤ N) : SP_says Inv N := by
  intro σx σm a1 a2 hI
  obtain ⟨κ, hd, hs, hla, hhe, hho, hli, hle, hc, ht, hx, hcl, hlo, hsh⟩ := id hI
  unfold fX11_says fX12_says
  rw [isSpan_e hli, isIn_w (x := a2) (a := 0) (b := 1) (A := 0) (B := 1) rfl rfl]
  by_cases h1 : fX6_isSpan σx a1 = 0
  · simp only [if_pos h1]; exact ⟨_, _, _, rfl, rfl, hI⟩
  by_cases h2 : fX11_within a2 0 1 = 0
  · simp only [if_neg h1, if_pos h2]; exact ⟨_, _, _, rfl, rfl, hI⟩
  obtain ⟨sp, hsp, rfl⟩ := span_of hli h1
  obtain ⟨v, hv, e⟩ := rg_of (hi := 1) (wi_rg (a := 0) (b := 1) h2) (by decide)
  simp only [if_neg h1, if_neg h2]
  have hp : a2 = 0 ∨ a2 = 1 := by
    rcases (show v = 0 ∨ v = 1 by omega) with rfl | rfl
    · exact Or.inl e
    · exact Or.inr e
  obtain ⟨r, s, e, s', q1, q2⟩ := act_e hd hla hli hx hsp hN hp
  rw [q1, q2]
  exact ⟨_, _, _, rfl, rfl, κ, hd, hs, hla, hhe, hho, hli, hle, hc, ht, hx, hcl, hlo, hsh⟩
def dN (f g : Nat → Int32) : Nat → Nat
  | 0 => 0
  | c + 1 => dN f g c + (if dupB f g c c then 2 ^ c else 0)
theorem dN_lt {f g : Nat → Int32} : ∀ n, dN f g n < 2 ^ n
  | 0 => Nat.zero_lt_one
  | n + 1 => by
    have h := dN_lt (f := f) (g := g) n
    unfold dN
    rw [Nat.pow_succ]
    split <;> omega
theorem or_add {a n : Nat} (ha : a < 2 ^ n) (hn : n < 31) : nI a ||| nI (2 ^ n) = nI (a + 2 ^ n) := by
  have hp : 2 ^ n < 2 ^ 31 := Nat.pow_lt_pow_right (by decide) hn
  apply Int32.toBitVec_inj.mp
  apply BitVec.eq_of_toNat_eq
  rw [Int32.toBitVec_or, BitVec.toNat_or, pk_tn (by omega), pk_tn (by omega), pk_tn (by omega), Nat.or_comm]
  have := Nat.two_pow_add_eq_or_of_lt ha 1
  rw [Nat.mul_one] at this
  omega
theorem shl1F : ∀ n : Fin 30, (1 : Int32) <<< (nI n.val &&& 31) = nI (2 ^ n.val) := by decide +kernel
theorem smodF : ∀ n : Fin 30, ((nI n.val &&& 31).toBitVec.smod 32).toNat = n.val := by decide +kernel
theorem dbl_N {f g : Nat → Int32} : ∀ n, n ≤ 30 → dbl f g n = nI (dN f g n)
  | 0, _ => rfl
  | n + 1, h => by
    have h1 := dbl_N (f := f) (g := g) n (by omega)
    unfold dbl dN
    rw [h1]
    by_cases q : dupB f g n n = true
    · rw [if_pos q, if_pos q, shl1F ⟨n, by omega⟩, or_add (dN_lt n) (by omega)]
    · rw [if_neg q, if_neg q, Int32.or_zero, Nat.add_zero]
theorem dN_bit {f g : Nat → Int32} : ∀ n c, c < n → dN f g n / 2 ^ c % 2 = if dupB f g c c then 1 else 0
  | 0, c, h => by omega
  | n + 1, c, h => by
    unfold dN
    by_cases e : c = n
    · subst e
      have h1 := dN_lt (f := f) (g := g) c
      by_cases q : dupB f g c c = true
      · rw [if_pos q, if_pos q, Nat.add_div_right _ (Nat.two_pow_pos c), Nat.div_eq_of_lt h1]
      · rw [if_neg q, if_neg q, Nat.add_zero, Nat.div_eq_of_lt h1]
    · have h1 := dN_bit (f := f) (g := g) n c (by omega)
      rw [← h1]
      by_cases q : dupB f g n n = true
      · rw [if_pos q, show 2 ^ n = 2 ^ c * (2 * 2 ^ (n - c - 1)) by rw [← Nat.pow_succ', ← Nat.pow_add]; congr 1; omega, Nat.add_mul_div_left _ _ (Nat.two_pow_pos c)]
        omega
      · rw [if_neg q, Nat.add_zero]
theorem bit_e {f g : Nat → Int32} {n c : Nat} (hn : n ≤ 30) (hc : c < n) : (dbl f g n >>> (nI c &&& 31)) &&& 1 = bI (dupB f g c c) := by
  have h1 := dN_lt (f := f) (g := g) n
  have hp : 2 ^ n < 2 ^ 31 := Nat.pow_lt_pow_right (by decide) (by omega)
  have h3 : dN f g n / 2 ^ c ≤ dN f g n := Nat.div_le_self _ _
  rw [dbl_N n hn, pk_shrN (by omega) _ c (smodF ⟨c, by omega⟩), pk_andN (by omega) 1 rfl, Nat.pow_one, dN_bit n c hc]
  cases dupB f g c c <;> rfl
theorem amt_e {v s : Int32} (h : 0 ≤ s) : (if (0 : Int32) < (if v < s then v else s) then (if v < s then v else s) else (0 : Int32)) = (if (if (0 : Int32) < v then v else (0 : Int32)) < s then (if (0 : Int32) < v then v else (0 : Int32)) else s) := by
  have h' := Int32.le_iff_toInt_le.mp h
  by_cases q1 : v < s
  · by_cases q2 : 0 < v
    · simp only [if_pos q1, if_pos q2]
    · simp only [if_pos q1, if_neg q2]
      by_cases q3 : 0 < s
      · rw [if_pos q3]
      · rw [if_neg q3]
        exact Int32.le_antisymm h (Int32.not_lt.mp q3)
  · by_cases q2 : 0 < v
    · simp only [if_neg q1, if_pos q2]
      by_cases q3 : 0 < s
      · rw [if_pos q3]
      · rw [if_neg q3]
        exact Int32.le_antisymm h (Int32.not_lt.mp q3)
    · simp only [if_neg q1, if_neg q2]
      by_cases q3 : 0 < s
      · exact absurd (Int32.lt_of_lt_of_le q3 (Int32.not_lt.mp q1)) q2
      · rw [if_neg q3, if_neg q3]
        exact Int32.le_antisymm h (Int32.not_lt.mp q3)
theorem d9_s {N f : Nat} {σ : St} {x1 x2 : Int32} : fX2_dueTo_9 N (f + 1) σ x1 x2 = fX2_dueTo_9b N (fX2_dueTo_9 N f) σ x1 x2 := rfl
theorem m17_s {N f : Nat} {σ : St} {x1 x2 : Int32} : fX12_due_17 N (f + 1) σ x1 x2 = fX12_due_17b N (fX12_due_17 N f) σ x1 x2 := rfl
theorem d9_end {N : Nat} {σ : St} {k9 : St → Int32 → Int32 → Option (Int64 × St)} {x1 x2 : Int32} {r : Int64} (h : σ.1 13 ≤ x2) (hr : fX3_comesTo N σ x1 = some r) : fX2_dueTo_9b N k9 σ x1 x2 = some (r, σ) := (if_pos h).trans (bd_some hr)
theorem d56 {N : Nat} {σ : St} {k9 : St → Int32 → Int32 → Option (Int64 × St)} {x1 x2 : Int32} : fX2_dueTo_56 N k9 σ x1 x2 = k9 σ x1 (x2 + 1) := rfl
theorem d9_dup {N : Nat} {σ : St} {k9 : St → Int32 → Int32 → Option (Int64 × St)} {x1 x2 b : Int32} (h : ¬ σ.1 13 ≤ x2) (hb : ((σ.1 14) >>> (x2 &&& 31)) &&& 1 = b) (hb0 : ¬ b = 0) : fX2_dueTo_9b N k9 σ x1 x2 = k9 σ x1 (x2 + 1) := by
  subst hb
  exact (if_neg h).trans ((if_neg hb0).trans d56)
theorem d9_has {N : Nat} {σ σ1 : St} {k9 : St → Int32 → Int32 → Option (Int64 × St)} {x1 x2 b r : Int32} (h : ¬ σ.1 13 ≤ x2) (hb : ((σ.1 14) >>> (x2 &&& 31)) &&& 1 = b) (hb0 : b = 0) (h3 : ix x2 30 = true) (hh : fX5_hasOn N σ (aR σ 67 x2) (σ.1 0) = some (r, σ1)) (hr : r = 1) : fX2_dueTo_9b N k9 σ x1 x2 = k9 σ1 x1 (x2 + 1) := by
  subst hb
  exact (if_neg h).trans ((if_pos hb0).trans ((if_pos h3).trans ((bd2_some hh).trans ((if_pos hr).trans d56))))
theorem d9_pay {N : Nat} {σ σ1 σ2 σ3 : St} {k9 : St → Int32 → Int32 → Option (Int64 × St)} {x1 x2 b r v : Int32} (h : ¬ σ.1 13 ≤ x2) (hb : ((σ.1 14) >>> (x2 &&& 31)) &&& 1 = b) (hb0 : b = 0) (h3 : ix x2 30 = true) (hh : fX5_hasOn N σ (aR σ 67 x2) (σ.1 0) = some (r, σ1)) (hr : ¬ r = 1) (hc : fX0_comesTo N σ1 (aR σ1 67 x2) 1 = some (v, σ2)) (hp : fX3_pay N σ2 (aR σ1 66 x2) (if (0 : Int32) < (if v < (aR σ1 68 x2) then v else (aR σ1 68 x2)) then (if v < (aR σ1 68 x2) then v else (aR σ1 68 x2)) else (0 : Int32)).toInt64 = some σ3) : fX2_dueTo_9b N k9 σ x1 x2 = k9 σ3 x1 (x2 + 1) := by
  subst hb
  refine (if_neg h).trans ((if_pos hb0).trans ((if_pos h3).trans ((bd2_some hh).trans ((if_neg hr).trans ?_))))
  refine (if_neg (show ¬ (1 : Int32) = 0 from by decide)).trans ((if_pos h3).trans ((if_pos h3).trans ((if_pos h3).trans ?_)))
  exact (bd2_some hc).trans (bd_some hp)
theorem xpay {N o : Nat} {σ : St} {v : Int64} (ho : o < 10) : fX3_pay N σ (nI o) v = some (sJ σ 35 (vp_updL (σ.2.2 35) o (σ.2.2 35 o + v))) := by
  rw [← jW_nI (show o < 2 ^ 31 by omega), ← jR_nI (show o < 2 ^ 31 by omega)]
  exact (if_pos (ix_nI ho (by decide))).trans (if_pos (ix_nI ho (by decide)))
theorem m17_end {N : Nat} {σ : St} {k17 : St → Int32 → Int32 → Option (Int64 × St)} {x1 x2 : Int32} {r : Int64} (h : σ.1 17 ≤ x2) (hr : fX12_parted N σ x1 = some r) : fX12_due_17b N k17 σ x1 x2 = some (r, σ) := (if_pos h).trans (bd_some hr)
theorem m17_dup {N : Nat} {σ : St} {k17 : St → Int32 → Int32 → Option (Int64 × St)} {x1 x2 b : Int32} (h : ¬ σ.1 17 ≤ x2) (hb : fX12_isDoubled N σ x2 = some b) (hb0 : ¬ b = 0) : fX12_due_17b N k17 σ x1 x2 = k17 σ x1 (x2 + 1) := (if_neg h).trans ((bd_some hb).trans (if_neg hb0))
theorem m17_has {N : Nat} {σ : St} {k17 : St → Int32 → Int32 → Option (Int64 × St)} {x1 x2 b r : Int32} (h : ¬ σ.1 17 ≤ x2) (hb : fX12_isDoubled N σ x2 = some b) (hb0 : b = 0) (h3 : ix x2 30 = true) (hh : fX12_hasIn N σ (aR σ 40 x2) (σ.1 0) = some r) (hr : r = 1) : fX12_due_17b N k17 σ x1 x2 = k17 σ x1 (x2 + 1) := (if_neg h).trans ((bd_some hb).trans ((if_pos hb0).trans ((if_pos h3).trans ((bd_some hh).trans (if_pos hr)))))
theorem m17_pay {N : Nat} {σ σ1 : St} {k17 : St → Int32 → Int32 → Option (Int64 × St)} {x1 x2 b r v : Int32} (h : ¬ σ.1 17 ≤ x2) (hb : fX12_isDoubled N σ x2 = some b) (hb0 : b = 0) (h3 : ix x2 30 = true) (hh : fX12_hasIn N σ (aR σ 40 x2) (σ.1 0) = some r) (hr : ¬ r = 1) (h4 : ix (aR σ 39 x2) 10 = true) (hc : fX12_partOf N σ 1 (aR σ 40 x2) = some (v, σ1)) : fX12_due_17b N k17 σ x1 x2 = k17 (jW σ1 30 (aR σ 39 x2) ((jR σ 30 (aR σ 39 x2)) + (if (if (0 : Int32) < v then v else (0 : Int32)) < (aR σ 41 x2) then (if (0 : Int32) < v then v else (0 : Int32)) else (aR σ 41 x2)).toInt64)) x1 (x2 + 1) := by
  refine (if_neg h).trans ((bd_some hb).trans ((if_pos hb0).trans ((if_pos h3).trans ((bd_some hh).trans ((if_neg hr).trans ?_)))))
  refine (if_pos h3).trans ((if_pos h4).trans ((if_pos h3).trans ((if_pos h3).trans ?_)))
  exact (bd2_some hc).trans (if_pos h4)
theorem due_loop {N ow : Nat} {κ : Nat → Nat} (hN : 200 ≤ N) (how : ow < 10) : ∀ (m f i : Nat) (τx τm : St), i + m = κ 8 → m < f → InvK κ τx τm → (∀ k, k < 10 → τx.2.2 35 k = τm.2.2 30 k) → ∃ r τx' τm', fX2_dueTo_9 N f τx (nI ow) (nI i) = some (r, τx') ∧ fX12_due_17 N f τm (nI ow) (nI i) = some (r, τm') ∧ InvK κ τx' τm' := by
  intro m
  induction m with
  | zero =>
    intro f i τx τm hi hf hK ht
    cases f with
    | zero => omega
    | succ f =>
      obtain ⟨hd, hs, hla, hhe, hho, hli, hle, hc, hta, hx, hcl, hlo, hsh⟩ := id hK
      have h30 := hcl.1
      obtain ⟨r, e1, e2⟩ := parts_e (N := N) hhe ht how (by omega)
      exact ⟨r, τx, τm, by rw [d9_s]; exact d9_end (by rw [hcl.2.1]; exact nI_le (by omega) (by omega)) e1, by rw [m17_s]; exact m17_end (by rw [hcl.2.2.1]; exact nI_le (by omega) (by omega)) e2, hK⟩
  | succ m ih =>
    intro f i τx τm hi hf hK ht
    cases f with
    | zero => omega
    | succ f =>
      obtain ⟨hd, hs, hla, hhe, hho, hli, hle, hc, hta, hx, hcl, hlo, hsh⟩ := id hK
      have h30 := hcl.1
      have hic : i < κ 8 := by omega
      have x1 : ¬ τx.1 13 ≤ nI i := by rw [hcl.2.1]; exact nI_ge hic (by omega)
      have y1 : ¬ τm.1 17 ≤ nI i := by rw [hcl.2.2.1]; exact nI_ge hic (by omega)
      have x3 : ix (nI i) 30 = true := ix_nI (by omega) (by decide)
      have xb : ((τx.1 14) >>> (nI i &&& 31)) &&& 1 = bI (dupB (τm.2.1 39) (τm.2.1 40) i i) := by rw [hcl.2.2.2.2.2.2]; exact bit_e h30 hic
      have yb : fX12_isDoubled N τm (nI i) = some (bI (dupB (τm.2.1 39) (τm.2.1 40) i i)) := mdoub (by omega) (by omega)
      rw [d9_s, m17_s]
      cases hdu : dupB (τm.2.1 39) (τm.2.1 40) i i with
      | true =>
        rw [hdu] at xb yb
        rw [d9_dup x1 xb (by decide), m17_dup y1 yb (by decide), nI_1]
        exact ih f (i + 1) τx τm (by omega) (by omega) hK ht
      | false =>
        rw [hdu] at xb yb
        obtain ⟨sp, hsp, s1, s2⟩ := hcl.2.2.2.2.1 i hic
        have h16 : sp < 16 := Nat.lt_of_lt_of_le hsp hli.2.2.2.1
        obtain ⟨g, xh⟩ := xhas (N := N) (span := nI sp) (day := τx.1 0) hs hli hle (by omega) (nI_m1 (by omega))
        have mh := mhas (N := N) (span := nI sp) (day := τm.1 0) hc hs hli hle (by omega)
        have ed : τx.1 0 = τm.1 0 := by rw [hd.2.1, hd.2.2]
        have xh : fX5_hasOn N τx (aR τx 67 (nI i)) (τx.1 0) = some (hasS (κ 1) (κ 4) τm (nI sp) (τm.1 0), sA τx 50 g) := by rw [aR_nI (by omega), s1, xh, ed]
        have mh : fX12_hasIn N τm (aR τm 40 (nI i)) (τm.1 0) = some (hasS (κ 1) (κ 4) τm (nI sp) (τm.1 0)) := by rw [aR_nI (by omega), s2, mh]
        by_cases q : hasS (κ 1) (κ 4) τm (nI sp) (τm.1 0) = 1
        · rw [d9_has x1 xb rfl x3 xh q, m17_has y1 yb rfl x3 mh q, nI_1]
          exact ih f (i + 1) (sA τx 50 g) τm (by omega) (by omega) ⟨hd, hs, hla, hhe, hho, hli, hle, hc, hta, hx, hcl, hlo, hsh⟩ ht
        · obtain ⟨v, s, e, s', q1, q2⟩ := act_e (N := N) (σx := sA τx 50 g) (σm := τm) (part := 1) hd hla hli hx hsp hN (Or.inr rfl)
          have xc : fX0_comesTo N (sA τx 50 g) (aR (sA τx 50 g) 67 (nI i)) 1 = some (v, xS (sA τx 50 g) s e) := by rw [aR_nI (by omega), show (sA τx 50 g).2.1 67 i = nI sp from s1, q1]
          have mc : fX12_partOf N τm 1 (aR τm 40 (nI i)) = some (v, sA τm 38 s') := by rw [aR_nI (by omega), s2, q2]
          obtain ⟨o, -, ho, o1, o2⟩ := eqR.of (lo := 0) (hi := 9) hcl.2.2.2.1 hic (by decide)
          have e66 : aR (sA τx 50 g) 66 (nI i) = nI o := by rw [aR_nI (by omega)]; exact o1
          have e39 : aR τm 39 (nI i) = nI o := by rw [aR_nI (by omega)]; exact o2
          have e68 : aR (sA τx 50 g) 68 (nI i) = τm.2.1 41 i := by rw [aR_nI (by omega)]; exact (hcl.2.2.2.2.2.1 i hic).1
          have e41 : aR τm 41 (nI i) = τm.2.1 41 i := aR_nI (by omega)
          have h0 : 0 ≤ τm.2.1 41 i := by rw [← (hcl.2.2.2.2.2.1 i hic).1]; exact Int32.le_iff_toInt_le.mpr (hcl.2.2.2.2.2.1 i hic).2.1
          rw [d9_pay x1 xb rfl x3 xh q xc (by rw [e66]; exact xpay (by omega)), m17_pay y1 yb rfl x3 mh q (by rw [e39]; exact ix_nI (by omega) (by decide)) mc, e68, e39, e41, jW_nI (by omega), jR_nI (by omega), amt_e h0, nI_1]
          refine ih f (i + 1) _ _ (by omega) (by omega) ⟨hd, hs, hla, hhe, hho, hli, hle, hc, hta, hx, hcl, hlo, hsh⟩ (fun k hk => ?_)
          generalize (if (if (0 : Int32) < v then v else (0 : Int32)) < τm.2.1 41 i then (if (0 : Int32) < v then v else (0 : Int32)) else τm.2.1 41 i).toInt64 = am
          show vp_updL (τx.2.2 35) o (τx.2.2 35 o + am) k = vp_updL (τm.2.2 30) o (τm.2.2 30 o + am) k
          by_cases z : k = o
          · subst z; rw [pk_uLs, pk_uLs, ht k hk]
          · rw [pk_uLn z, pk_uLn z, ht k hk]
theorem s_due {N : Nat} (hN : 200 ≤ N) : SP_due Inv N := by
  intro σx σm a1 hI
  obtain ⟨κ, hd, hs, hla, hhe, hho, hli, hle, hc, ht, hx, hcl, hlo, hsh⟩ := id hI
  unfold fX11_due fX12_due
  rw [isOwner_e]
  by_cases h1 : fX11_isOwner a1 = 0
  · simp only [if_pos h1]; exact ⟨_, _, _, rfl, rfl, hI⟩
  obtain ⟨ow, how, rfl⟩ := ow_of h1
  simp only [if_neg h1]
  obtain ⟨c', e3, e4⟩ := mclear (N := N) (σ := σm) (by omega)
  unfold fX2_dueTo fX3_emptyTill nm
  rw [e3]
  simp only [bd]
  obtain ⟨r, τx, τm, e1, e2, hK⟩ := due_loop (N := N) (κ := κ) hN how (κ 8) N 0 (sJ σx 35 (flJ (σx.2.2 35) 10 0)) (sJ σm 30 c') (by omega) (by have := hcl.1; omega) ⟨hd, hs, hla, hhe, hho, hli, hle, hc, ht, hx, hcl, hlo, hsh⟩ (fun k hk => by
    show flJ (σx.2.2 35) 10 0 k = c' k
    rw [e4 k hk]; unfold flJ; rw [if_pos hk])
  rw [show fX2_dueTo_9 N N (sJ σx 35 (flJ (σx.2.2 35) 10 0)) (nI ow) 0 = _ from e1, show fX12_due_17 N N (sJ σm 30 c') (nI ow) 0 = _ from e2]
  exact ⟨_, _, _, rfl, rfl, κ, hK⟩
