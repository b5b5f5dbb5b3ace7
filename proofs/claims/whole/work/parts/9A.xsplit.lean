/-! PURE: TEXT: the class splits THE TAPE: words, one TOKEN, all -/
/-- the word of a literal -/
def wix (k : Nat) : Nat := if k ≤ 5 then k + 5 else k - 6
theorem lit_e : ∀ k : Fin 12, ¬ k.val = 0 → (stLen.getD k.val 0 = wlen (wix k.val) ∧ wlen (wix k.val) ≤ 5 ∧ wix k.val < 11) ∧ ∀ j : Fin 5, j.val < wlen (wix k.val) → chS k.val (nI j.val) = nI (wch (wix k.val) j.val) ∧ wch (wix k.val) j.val < 256 := by decide +kernel
theorem iw_s {N f : Nat} {σ : St} {x1 x4 : Int32} {x3 : Nat} : fX8_isWord_15 N σ (f + 1) x1 x3 x4 = fX8_isWord_15b N σ (fX8_isWord_15 N σ f) x1 x3 x4 := rfl
theorem iw_e {N : Nat} {σ : St} {k15 : Int32 → Nat → Int32 → Option Int32} {x1 x4 : Int32} {x3 : Nat} (h3 : x3 < 12) (h : nI (stLen.getD x3 0) ≤ x4) : fX8_isWord_15b N σ k15 x1 x3 x4 = some 1 := (if_pos h3).trans (if_pos h)
theorem iw_y {N : Nat} {σ : St} {k15 : Int32 → Nat → Int32 → Option Int32} {x1 x4 y z : Int32} {x3 : Nat} (h3 : x3 < 12) (h : ¬ nI (stLen.getD x3 0) ≤ x4) (hy : x1 + x4 = y) (h1 : ix y 160 = true) (h2 : ix x4 (stLen.getD x3 0) = true) (hc : aR σ 51 y = chS x3 x4) (hz : x4 + 1 = z) : fX8_isWord_15b N σ k15 x1 x3 x4 = k15 x1 x3 z := by
  subst hy
  subst hz
  exact (if_pos h3).trans ((if_neg h).trans ((if_pos h1).trans ((if_pos h3).trans ((if_pos h2).trans ((if_pos hc).trans (nm_t rfl))))))
theorem iw_n {N : Nat} {σ : St} {k15 : Int32 → Nat → Int32 → Option Int32} {x1 x4 y : Int32} {x3 : Nat} (h3 : x3 < 12) (h : ¬ nI (stLen.getD x3 0) ≤ x4) (hy : x1 + x4 = y) (h1 : ix y 160 = true) (h2 : ix x4 (stLen.getD x3 0) = true) (hc : ¬ aR σ 51 y = chS x3 x4) : fX8_isWord_15b N σ k15 x1 x3 x4 = some 0 := by
  subst hy
  exact (if_pos h3).trans ((if_neg h).trans ((if_pos h1).trans ((if_pos h3).trans ((if_pos h2).trans (if_neg hc)))))
theorem iw_0 {N : Nat} {σ : St} {x1 x2 : Int32} {x3 : Nat} (h3 : x3 < 12) (h : ¬ x2 - x1 = nI (stLen.getD x3 0)) : fX8_isWord N σ x1 x2 x3 = some 0 := (if_pos h3).trans (if_neg h)
theorem iw_1 {N : Nat} {σ : St} {x1 x2 : Int32} {x3 : Nat} (h3 : x3 < 12) (h : x2 - x1 = nI (stLen.getD x3 0)) : fX8_isWord N σ x1 x2 x3 = fX8_isWord_15 N σ N x1 x3 0 := (if_pos h3).trans (if_pos h)
theorem cm_s {b : Nat → Nat} {p w k m : Nat} : cmB b p w k (m + 1) = (decide (b (p + k) = wch w k) && cmB b p w (k + 1) m) := rfl
theorem iw_l {N nB p k : Nat} {b : Nat → Nat} {σ : St} (hB : tpX b nB σ) (hk : k < 12) (hk0 : ¬ k = 0) (hp : p + wlen (wix k) ≤ nB) : ∀ (m j f : Nat), j + m = wlen (wix k) → m < f → fX8_isWord_15 N σ f (nI p) k (nI j) = some (bI (cmB b p (wix k) j m)) := by
  have h160 := hB.1
  obtain ⟨⟨l1, l2, l3⟩, l4⟩ := lit_e ⟨k, hk⟩ hk0
  have l1 : stLen.getD k 0 = wlen (wix k) := l1
  have l2 : wlen (wix k) ≤ 5 := l2
  intro m
  induction m with
  | zero =>
    intro j f hj hf
    cases f with
    | zero => omega
    | succ f =>
      rw [iw_s, iw_e hk (by rw [l1]; exact nI_le (by omega) (by omega))]
      rfl
  | succ m ih =>
    intro j f hj hf
    cases f with
    | zero => omega
    | succ f =>
      obtain ⟨b1, b2⟩ := hB.2.2 (p + j) (by omega)
      obtain ⟨c1, c2⟩ := l4 ⟨j, by omega⟩ (by show j < wlen (wix k); omega)
      have c1 : chS k (nI j) = nI (wch (wix k) j) := c1
      have c2 : wch (wix k) j < 256 := c2
      have x1 : ¬ nI (stLen.getD k 0) ≤ nI j := by rw [l1]; exact nI_ge (by omega) (by omega)
      have x2 : ix (nI (p + j)) 160 = true := ix_nI (by omega) (by decide)
      have x3 : ix (nI j) (stLen.getD k 0) = true := by rw [l1]; exact ix_nI (by omega) (by omega)
      have x4 : aR σ 51 (nI (p + j)) = nI (b (p + j)) := by rw [aR_nI (by omega)]; exact b1
      rw [cm_s]
      by_cases q : b (p + j) = wch (wix k) j
      · rw [iw_s, iw_y hk x1 (nI_add p j) x2 x3 (by rw [x4, c1, q]) (nI_1 j), decide_eq_true q, Bool.true_and]
        exact ih (j + 1) f (by omega) (by omega)
      · rw [iw_s, iw_n hk x1 (nI_add p j) x2 x3 (by rw [x4, c1]; exact fun z => q ((nI_eq (by omega) (by omega)).mp z)), decide_eq_false q, Bool.false_and]
        rfl
theorem xisw {N nB p e k : Nat} {b : Nat → Nat} {σ : St} (hN : 200 ≤ N) (hB : tpX b nB σ) (hk : k < 12) (hk0 : ¬ k = 0) (hp : p ≤ e) (he : e ≤ nB) : fX8_isWord N σ (nI p) (nI e) k = some (bI (isW b p e (wix k))) := by
  have h160 := hB.1
  obtain ⟨⟨l1, l2, l3⟩, l4⟩ := lit_e ⟨k, hk⟩ hk0
  have l1 : stLen.getD k 0 = wlen (wix k) := l1
  have l2 : wlen (wix k) ≤ 5 := l2
  have es : nI e - nI p = nI (e - p) := nI_subN hp
  unfold isW
  by_cases q : e - p = wlen (wix k)
  · rw [iw_1 hk (by rw [es, l1, q]), decide_eq_true q, Bool.true_and]
    exact iw_l hB hk hk0 (by omega) (wlen (wix k)) 0 N (by omega) (by omega)
  · rw [iw_0 hk (by rw [es, l1]; exact fun z => q ((nI_eq (by omega) (by omega)).mp z)), decide_eq_false q, Bool.false_and]
    rfl
theorem bdI {o : Option Int32} {c : Bool} {A B : Option Int32} (h : o = some (bI c)) : (bd o fun r => if r = 0 then A else B) = if c then B else A := by
  subst h
  cases c <;> rfl
theorem sIf {c : Bool} {v : Int32} {n r : Nat} {A : Option Int32} (hv : v = nI n) (h : A = some (nI r)) : (if c then some v else A) = some (nI (if c then n else r)) := by
  subst hv
  cases c
  · exact h
  · rfl
theorem xword {N nB p e : Nat} {b : Nat → Nat} {σ : St} (hN : 200 ≤ N) (hB : tpX b nB σ) (hp : p ≤ e) (he : e ≤ nB) : fX8_wordAt N σ (nI p) (nI e) = some (nI (wdT b p e)) := by
  have h : ∀ k, k < 12 → ¬ k = 0 → fX8_isWord N σ (nI p) (nI e) k = some (bI (isW b p e (wix k))) := fun k a c => xisw hN hB a c hp he
  have h1 : fX8_isWord N σ (nI p) (nI e) 1 = some (bI (isW b p e 6)) := h 1 (by decide) (by decide)
  have h2 : fX8_isWord N σ (nI p) (nI e) 2 = some (bI (isW b p e 7)) := h 2 (by decide) (by decide)
  have h3 : fX8_isWord N σ (nI p) (nI e) 3 = some (bI (isW b p e 8)) := h 3 (by decide) (by decide)
  have h4 : fX8_isWord N σ (nI p) (nI e) 4 = some (bI (isW b p e 9)) := h 4 (by decide) (by decide)
  have h5 : fX8_isWord N σ (nI p) (nI e) 5 = some (bI (isW b p e 10)) := h 5 (by decide) (by decide)
  have h6 : fX8_isWord N σ (nI p) (nI e) 6 = some (bI (isW b p e 0)) := h 6 (by decide) (by decide)
  have h7 : fX8_isWord N σ (nI p) (nI e) 7 = some (bI (isW b p e 1)) := h 7 (by decide) (by decide)
  have h8 : fX8_isWord N σ (nI p) (nI e) 8 = some (bI (isW b p e 2)) := h 8 (by decide) (by decide)
  have h9 : fX8_isWord N σ (nI p) (nI e) 9 = some (bI (isW b p e 3)) := h 9 (by decide) (by decide)
  have h10 : fX8_isWord N σ (nI p) (nI e) 10 = some (bI (isW b p e 4)) := h 10 (by decide) (by decide)
  have h11 : fX8_isWord N σ (nI p) (nI e) 11 = some (bI (isW b p e 5)) := h 11 (by decide) (by decide)
  unfold fX8_wordAt wdT
  exact (bdI h1).trans (sIf rfl ((bdI h2).trans (sIf rfl ((bdI h3).trans (sIf rfl ((bdI h4).trans (sIf rfl ((bdI h5).trans (sIf rfl ((bdI h6).trans (sIf rfl ((bdI h7).trans (sIf rfl ((bdI h8).trans (sIf rfl ((bdI h9).trans (sIf rfl ((bdI h10).trans (sIf rfl ((bdI h11).trans (sIf rfl rfl)))))))))))))))))))))
theorem put_r {N : Nat} {σ : St} {x1 x2 x3 y : Int32} (h : ix (σ.1 6) 161 = true) (hy : σ.1 6 + 1 = y) : fX8_put N σ x1 x2 x3 = some (x3, sI (aW (aW σ 52 (σ.1 6) x1) 53 (σ.1 6) x2) 6 y) := by
  subst hy
  exact (if_pos h).trans (nm_t ((if_pos h).trans (nm_t (nm_t rfl))))
def putS (σ : St) (n : Nat) (t q : Int32) : St := sI (sA (sA σ 52 (upd (σ.2.1 52) n t)) 53 (upd (σ.2.1 53) n q)) 6 (nI (n + 1))
theorem put_v {N n : Nat} {σ : St} {t q r : Int32} (h6 : σ.1 6 = nI n) (hn : n < 161) : fX8_put N σ t q r = some (r, putS σ n t q) := by
  rw [put_r (y := nI (n + 1)) (by rw [h6]; exact ix_nI hn (by decide)) (by rw [h6, nI_1]), h6, aW_nI (show n < 2 ^ 31 by omega), aW_nI (show n < 2 ^ 31 by omega)]
  rfl
theorem so_end {N : Nat} {σ σ' : St} {x1 r : Int32} (h : ¬ x1 < σ.1 5) (hp : fX8_put N σ 0 (σ.1 5) (-1) = some (r, σ')) : fX8_splitOne N σ x1 = some (r, σ') := (if_neg h).trans (bd2_some hp)
theorem so_bad {N : Nat} {σ σ' : St} {x1 v r : Int32} (h : x1 < σ.1 5) (h1 : ix x1 160 = true) (hv : aR σ 51 x1 = v) (hl : fX8_isLetter v = 0) (hd : fX8_isDigit v = 0) (hs : fX8_isSign v = 0) (hp : fX8_put N σ 1 x1 (-1) = some (r, σ')) : fX8_splitOne N σ x1 = some (r, σ') := by
  subst hv
  exact (if_pos h).trans ((if_pos h1).trans (nm_t ((if_pos hl).trans ((if_pos hd).trans ((if_pos hs).trans (bd2_some hp))))))
theorem so_sig {N : Nat} {σ σ' : St} {x1 v r y : Int32} (h : x1 < σ.1 5) (h1 : ix x1 160 = true) (hv : aR σ 51 x1 = v) (hl : fX8_isLetter v = 0) (hd : fX8_isDigit v = 0) (hs : ¬ fX8_isSign v = 0) (hy : x1 + 1 = y) (hp : fX8_put N σ v x1 y = some (r, σ')) : fX8_splitOne N σ x1 = some (r, σ') := by
  subst hv
  subst hy
  exact (if_pos h).trans ((if_pos h1).trans (nm_t ((if_pos hl).trans ((if_pos hd).trans ((if_neg hs).trans (bd2_some hp))))))
theorem so_num {N : Nat} {σ σ' : St} {x1 v e z w r : Int32} (h : x1 < σ.1 5) (h1 : ix x1 160 = true) (hv : aR σ 51 x1 = v) (hl : fX8_isLetter v = 0) (hd : ¬ fX8_isDigit v = 0) (hb : fX8_behindDigits N σ x1 = some e) (hz : e - x1 = z) (h4 : z ≤ 4) (hn : fX8_numberAt N σ x1 e = some w) (h6 : ix (σ.1 6) 161 = true) (hp : fX8_put N (aW σ 54 (σ.1 6) w) 2 x1 e = some (r, σ')) : fX8_splitOne N σ x1 = some (r, σ') := by
  subst hv
  subst hz
  exact (if_pos h).trans ((if_pos h1).trans (nm_t ((if_pos hl).trans ((if_neg hd).trans ((bd_some hb).trans ((if_pos h4).trans ((bd_some hn).trans ((if_pos h6).trans (nm_t (bd2_some hp))))))))))
theorem so_lng {N : Nat} {σ σ' : St} {x1 v e z r : Int32} (h : x1 < σ.1 5) (h1 : ix x1 160 = true) (hv : aR σ 51 x1 = v) (hl : fX8_isLetter v = 0) (hd : ¬ fX8_isDigit v = 0) (hb : fX8_behindDigits N σ x1 = some e) (hz : e - x1 = z) (h4 : ¬ z ≤ 4) (hp : fX8_put N σ 1 x1 (-1) = some (r, σ')) : fX8_splitOne N σ x1 = some (r, σ') := by
  subst hv
  subst hz
  exact (if_pos h).trans ((if_pos h1).trans (nm_t ((if_pos hl).trans ((if_neg hd).trans ((bd_some hb).trans ((if_neg h4).trans (bd2_some hp)))))))
theorem so_wrk {N : Nat} {σ σ' : St} {x1 v e w r : Int32} (h : x1 < σ.1 5) (h1 : ix x1 160 = true) (hv : aR σ 51 x1 = v) (hl : ¬ fX8_isLetter v = 0) (hb : fX8_behindLetters N σ x1 = some e) (hw : fX8_wordAt N σ x1 e = some w) (h2 : ¬ w = 1) (hp : fX8_put N σ w x1 e = some (r, σ')) : fX8_splitOne N σ x1 = some (r, σ') := by
  subst hv
  exact (if_pos h).trans ((if_pos h1).trans (nm_t ((if_neg hl).trans ((bd_some hb).trans ((bd_some hw).trans ((if_neg h2).trans (bd2_some hp)))))))
theorem so_wrd {N : Nat} {σ σ' : St} {x1 v e w r : Int32} (h : x1 < σ.1 5) (h1 : ix x1 160 = true) (hv : aR σ 51 x1 = v) (hl : ¬ fX8_isLetter v = 0) (hb : fX8_behindLetters N σ x1 = some e) (hw : fX8_wordAt N σ x1 e = some w) (h2 : w = 1) (hp : fX8_put N σ w x1 (-1) = some (r, σ')) : fX8_splitOne N σ x1 = some (r, σ') := by
  subst hv
  exact (if_pos h).trans ((if_pos h1).trans (nm_t ((if_neg hl).trans ((bd_some hb).trans ((bd_some hw).trans ((if_pos h2).trans (bd2_some hp)))))))
/-- the class has put i TOKENS -/
def lxR (b : Nat → Nat) (nB : Nat) (σ : St) (i : Nat) (τ : St) : Prop := (∀ k, ¬ k = 6 → τ.1 k = σ.1 k) ∧ τ.1 6 = nI i ∧ (∀ k, ¬ k = 52 → ¬ k = 53 → ¬ k = 54 → τ.2.1 k = σ.2.1 k) ∧ τ.2.2 = σ.2.2 ∧ ∀ k, k < i → τ.2.1 52 k = nI (TL b nB k) ∧ τ.2.1 53 k = nI (PLL b nB k) ∧ (TL b nB k = 2 → τ.2.1 54 k = nI (NML b nB k))
theorem lx_tp {b : Nat → Nat} {nB i : Nat} {σ τ : St} (hB : tpX b nB σ) (h : lxR b nB σ i τ) : tpX b nB τ := ⟨hB.1, by rw [h.1 5 (by decide)]; exact hB.2.1, fun k hk => by rw [h.2.2.1 51 (by decide) (by decide) (by decide)]; exact hB.2.2 k hk⟩
theorem lx_54 {b : Nat → Nat} {nB i : Nat} {σ τ : St} {v : Int32} (h : lxR b nB σ i τ) : lxR b nB σ i (sA τ 54 (upd (τ.2.1 54) i v)) := by
  obtain ⟨h1, h2, h3, h4, h5⟩ := h
  refine ⟨h1, h2, fun k a c d => ?_, h4, fun k hk => ?_⟩
  · show va_up τ.2.1 54 _ k = _
    rw [up_n d]; exact h3 k a c d
  · obtain ⟨a, c, d⟩ := h5 k hk
    refine ⟨a, c, fun z => ?_⟩
    show upd (τ.2.1 54) i v k = _
    rw [pk_un (by omega)]; exact d z
theorem lx_put {b : Nat → Nat} {nB i : Nat} {σ τ : St} (h : lxR b nB σ i τ) (hn : TL b nB i = 2 → τ.2.1 54 i = nI (NML b nB i)) : lxR b nB σ (i + 1) (putS τ i (nI (TL b nB i)) (nI (PLL b nB i))) := by
  obtain ⟨h1, h2, h3, h4, h5⟩ := h
  refine ⟨fun k a => ?_, rfl, fun k a c d => ?_, h4, fun k hk => ?_⟩
  · show va_up τ.1 6 _ k = _
    rw [up_n a]; exact h1 k a
  · show va_up (va_up τ.2.1 52 _) 53 _ k = _
    rw [up_n c, up_n a]; exact h3 k a c d
  · show upd (τ.2.1 52) i (nI (TL b nB i)) k = _ ∧ upd (τ.2.1 53) i (nI (PLL b nB i)) k = _ ∧ (_ → τ.2.1 54 k = _)
    by_cases q : k = i
    · subst q
      rw [up_s, up_s]
      exact ⟨rfl, rfl, hn⟩
    · rw [pk_un q, pk_un q]
      exact h5 k (by omega)
theorem xone {N nB i : Nat} {b : Nat → Nat} {σ τ : St} (hN : 200 ≤ N) (hB : tpX b nB σ) (hi : i < 161) (h : lxR b nB σ i τ) : ∃ τ', fX8_splitOne N τ (nI (PLL b nB i)) = some (if TL b nB i < 2 then -1 else nI (posL b nB (i + 1)), τ') ∧ lxR b nB σ (i + 1) τ' := by
  have hBt := lx_tp hB h
  have h160 := hB.1
  have h6 := h.2.1
  have hq := PLL_le b nB i
  have eT : TL b nB i = tokA b nB (PLL b nB i) := rfl
  have eN : NML b nB i = nmA b nB (PLL b nB i) := rfl
  have eP : posL b nB (i + 1) = bhA b nB (PLL b nB i) := rfl
  have hput := lx_put h
  have hput54 := lx_put (lx_54 (v := nI (NML b nB i)) h) (fun _ => show upd (τ.2.1 54) i (nI (NML b nB i)) i = nI (NML b nB i) from up_s _ _ _)
  generalize PLL b nB i = q at hq eT eN eP hput hput54 ⊢
  unfold tokA at eT
  unfold bhA at eP
  by_cases hlt : q < nB
  · rw [if_pos hlt] at eT eP
    obtain ⟨b1, b2⟩ := hBt.2.2 q hlt
    have x1 : nI q < τ.1 5 := by rw [hBt.2.1]; exact nI_lt hlt (by omega)
    have x2 : ix (nI q) 160 = true := ix_nI (by omega) (by decide)
    have x3 : aR τ 51 (nI q) = nI (b q) := by rw [aR_nI (by omega)]; exact b1
    obtain ⟨c1, c2, c3⟩ := xch ⟨b q, b2⟩
    have c1 : fX8_isLetter (nI (b q)) = bI (isL (b q)) := c1
    have c2 : fX8_isDigit (nI (b q)) = bI (isD (b q)) := c2
    have c3 : fX8_isSign (nI (b q)) = bI (isS (b q)) := c3
    cases z1 : isL (b q) with
    | true =>
      rw [z1] at c1
      rw [z1, if_pos rfl] at eT eP
      have n1 : ¬ fX8_isLetter (nI (b q)) = 0 := by rw [c1]; decide
      have e1 : fX8_behindLetters N τ (nI q) = some (nI (skL b nB q)) := xlt hBt (nB - q) q N (by omega) (by omega)
      have s1 := sk_b (fun k => isL (b k)) (nB - q) q
      have s1 : q ≤ skL b nB q ∧ skL b nB q ≤ q + (nB - q) := s1
      have e2 : fX8_wordAt N τ (nI q) (nI (skL b nB q)) = some (nI (wdT b q (skL b nB q))) := xword hN hBt s1.1 (by omega)
      have wr := wdT_r b q (skL b nB q)
      rw [← eT] at e2 wr
      by_cases w1 : TL b nB i = 1
      · rw [if_pos (by omega)]
        exact ⟨_, so_wrd x1 x2 x3 n1 e1 e2 (by rw [w1]; rfl) (put_v h6 hi), hput (fun z => by omega)⟩
      · rw [if_neg (by omega), eP]
        exact ⟨_, so_wrk x1 x2 x3 n1 e1 e2 (fun z => w1 ((nI_eq (b := 1) (by omega) (by decide)).mp z)) (put_v h6 hi), hput (fun z => by omega)⟩
    | false =>
      rw [z1] at c1
      rw [z1, if_neg (by decide)] at eT eP
      cases z2 : isD (b q) with
      | true =>
        rw [z2] at c2
        rw [z2, if_pos rfl] at eT eP
        have n2 : ¬ fX8_isDigit (nI (b q)) = 0 := by rw [c2]; decide
        have e1 : fX8_behindDigits N τ (nI q) = some (nI (skD b nB q)) := xdg hBt (nB - q) q N (by omega) (by omega)
        have s1 := sk_b (fun k => isD (b k)) (nB - q) q
        have s1 : q ≤ skD b nB q ∧ skD b nB q ≤ q + (nB - q) := s1
        have ez : nI (skD b nB q) - nI q = nI (skD b nB q - q) := nI_subN s1.1
        by_cases w1 : skD b nB q - q ≤ 4
        · rw [if_pos w1] at eT
          have hd : ∀ k, k < skD b nB q - q → isD (b (q + k)) = true := fun k hk => sk_all (P := fun k => isD (b k)) (nB - q) q (q + k) (by omega) (by unfold skD at hk; omega)
          have e2 : fX8_numberAt N τ (nI q) (nI (skD b nB q)) = some (nI (NML b nB i)) := by
            have := xnum (N := N) (p := q) (n := skD b nB q - q) hBt (by omega) hd (skD b nB q - q) 0 N (by omega) (by omega)
            rw [show q + (skD b nB q - q) = skD b nB q by omega] at this
            rw [eN]
            exact this
          rw [if_neg (by omega), eP]
          refine ⟨_, so_num x1 x2 x3 c1 n2 e1 ez (nI_le (b := 4) w1 (by decide)) e2 (by rw [h6]; exact ix_nI hi (by decide)) ?_, hput54⟩
          rw [h6, aW_nI (show i < 2 ^ 31 by omega), eT]
          exact put_v h6 hi
        · rw [if_neg w1] at eT
          rw [if_pos (by omega)]
          refine ⟨_, so_lng x1 x2 x3 c1 n2 e1 ez (nI_ge (a := 4) (by omega) (by omega)) ?_, hput (fun z => by omega)⟩
          rw [eT]; exact put_v h6 hi
      | false =>
        rw [z2] at c2
        rw [z2, if_neg (by decide)] at eT eP
        cases z3 : isS (b q) with
        | true =>
          rw [z3] at c3
          rw [z3, if_pos rfl] at eT
          have := isS_r z3
          rw [if_neg (by omega), eP]
          refine ⟨_, so_sig x1 x2 x3 c1 c2 (by rw [c3]; decide) (nI_1 q) ?_, hput (fun z => by omega)⟩
          rw [eT]; exact put_v h6 hi
        | false =>
          rw [z3] at c3
          rw [z3, if_neg (by decide)] at eT
          rw [if_pos (by omega)]
          refine ⟨_, so_bad x1 x2 x3 c1 c2 c3 ?_, hput (fun z => by omega)⟩
          rw [eT]; exact put_v h6 hi
  · rw [if_neg hlt] at eT eP
    have x1 : ¬ nI q < τ.1 5 := by rw [hBt.2.1]; exact nI_nlt (by omega) (by omega)
    rw [if_pos (by omega)]
    refine ⟨_, so_end x1 ?_, hput (fun z => by omega)⟩
    rw [eT, hBt.2.1, show nB = q by omega]; exact put_v h6 hi
