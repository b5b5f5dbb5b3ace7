/-! PURE: TEXT: the model's steps -/
theorem frE_I {σ0 σ : St} {j : Nat} {v : Int32} (h : frE σ0 σ) (h1 : 8 ≤ j) (h2 : j ≤ 16) : frE σ0 (sI σ j v) := ⟨fun k hk => by
  show va_up σ.1 j v k = _
  rw [up_n (by omega)]; exact h.1 k hk, h.2.1, h.2.2⟩
theorem frE_A {σ0 σ : St} {j : Nat} {f : Nat → Int32} (h : frE σ0 σ) (hj : j = 32 ∨ j = 33 ∨ j = 36 ∨ j = 37) : frE σ0 (sA σ j f) := ⟨h.1, fun k a b c d => by
  show va_up σ.2.1 j f k = _
  rw [up_n (by omega)]; exact h.2.1 k a b c d, h.2.2⟩
theorem mcD_w {t : Nat} (h : wtT t) : mcD (10000 + t) = nI (opc t) := by
  have h2 : t < 134 := by rcases h with h | h | h | h | h | h | h | h | h | h <;> omega
  unfold mcD
  rw [if_neg (by omega), if_neg (by omega), show 10000 + t - 10000 = t by omega]
theorem mdoAll_l {N cA r i : Nat} {T NM PL bh : Nat → Nat} {σ0 : St} {cp : Nat → Bool} (hr : r ≤ 7) (hcA : cA + 160 ≤ 1920) (hi : i ≤ 160) : ∀ (W E : List Nat) (f : Nat) (σ : St), W.length < f → PS T NM PL bh σ0 cA i W E cp σ → ∃ σ', fX12_doAll_0 N f σ (nI r) = some σ' ∧ PS T NM PL bh σ0 cA i (fl r W E).1 (fl r W E).2 cp σ' := by
  intro W
  induction W with
  | nil =>
    intro E f σ hf hP
    cases f with
    | zero => omega
    | succ f =>
      obtain ⟨c0, c1, c2, c3, cr⟩ := id hP
      exact ⟨σ, by rw [d0_s, d0_end (by rw [c3]; decide)], hP⟩
  | cons t W ih =>
    intro E f σ hf hP
    cases f with
    | zero => omega
    | succ f =>
      obtain ⟨c0, c1, c2, c3, c4, c5, c6, c7, c8, c9, c10, c11, c12, c13, c14⟩ := id hP
      rw [List.length_cons] at hf c3 c14
      have hwt := c4 t (List.mem_cons_self ..)
      obtain ⟨w1, w2, w3, w4, w5, w6, w7⟩ := wt_e hwt
      have x0 : ¬ σ.1 12 ≤ 0 := by rw [c3]; exact nI_nle (by omega) (by omega)
      have xy : σ.1 12 - 1 = nI W.length := by rw [c3, nI_pred]
      have x1 : ix (nI W.length) 170 = true := ix_nI (by omega) (by decide)
      have xw : aR σ 36 (nI W.length) = nI (opc t) := by rw [aR_nI (by omega)]; exact c5 _ _ rev_top
      rw [d0_s]
      by_cases q : t = 40 ∨ rk t < r
      · have e : fl r (t :: W) E = (t :: W, E) := if_pos q
        rw [e]
        by_cases q1 : t = 40
        · exact ⟨σ, d0_opn x0 xy x1 xw (w3.mpr q1), hP⟩
        · have q2 : rk t < r := q.resolve_left q1
          exact ⟨σ, d0_low x0 xy x1 xw (fun z => q1 (w3.mp z)) (by rw [w1]; exact nI_lt q2 (by omega)), hP⟩
      · have q1 : ¬ t = 40 := fun z => q (Or.inl z)
        have e : fl r (t :: W) E = fl r W (E ++ [10000 + t]) := if_neg q
        rw [e]
        have ho : σ.1 13 - (if nI (opc t) = 13 then 1 else if nI (opc t) = 14 then 1 else 0) = nI (cnO W) := by
          rw [c6, show cnO (t :: W) = cnO W + (if isO t then 1 else 0) from rfl]
          by_cases z1 : t = 132
          · rw [if_pos (w4.mpr z1), if_pos (by rw [z1]; decide), nI_pred]
          · rw [if_neg (fun y => z1 (w4.mp y))]
            by_cases z2 : t = 133
            · rw [if_pos (w5.mpr z2), if_pos (by rw [z2]; decide), nI_pred]
            · rw [if_neg (fun y => z2 (w5.mp y)), if_neg (by unfold isO; rw [decide_eq_false q1, decide_eq_false z1, decide_eq_false z2]; decide), Int32.sub_zero]
              rfl
        have he := memit (N := N) (cA := cA) (e := E.length) (σ := sI (sI σ 12 (nI W.length)) 13 (nI (cnO W))) (x := nI (opc t)) c9 c10 (by omega)
        rw [d0_pop x0 xy x1 xw (fun z => q1 (w3.mp z)) (by rw [w1]; exact nI_nlt (by omega) (by omega)) ho he]
        refine ih (E ++ [10000 + t]) f _ (by omega) ⟨c0, frE_I (frE_A (frE_I (frE_I c1 (by omega) (by omega)) (by omega) (by omega)) (Or.inl rfl)) (by omega) (by omega), c2, rfl, fun s hs => c4 s (List.mem_cons_of_mem _ hs), fun k s hs => c5 k s (rev_lo hs), rfl, ?_, ?_, c9, ?_, fun k x hx => ?_, fun k hk => ?_, fun k hk => ?_, ?_⟩
        · show σ.1 14 = _
          rw [c7, show dpt (t :: W) = dpt W + (if t = 40 then 1 else 0) from rfl, if_neg q1]; rfl
        · have : cnO (t :: W) = cnO W + (if isO t then 1 else 0) := rfl
          omega
        · show nI (E.length + 1) = _
          rw [List.length_append]; rfl
        · show upd (σ.2.1 32) (cA + E.length) (nI (opc t)) (cA + k) = _
          rcases app_cases hx with ⟨rfl, rfl⟩ | ⟨hk, hx⟩
          · rw [up_s, mcD_w hwt]
          · rw [pk_un (by omega)]; exact c11 k x hx
        · show upd (σ.2.1 32) (cA + E.length) (nI (opc t)) k = _
          rw [pk_un (by omega)]; exact c12 k hk
        · show σ.2.1 37 k = _
          exact c13 k (by
            have : dpt (t :: W) = dpt W + (if t = 40 then 1 else 0) := rfl
            omega)
        · rw [List.length_append, List.length_cons, List.length_nil]; omega
theorem mdoAll {N cA r i : Nat} {T NM PL bh : Nat → Nat} {σ0 σ : St} {cp : Nat → Bool} {W E : List Nat} (hN : 200 ≤ N) (hr : r ≤ 7) (hcA : cA + 160 ≤ 1920) (hi : i ≤ 160) (hP : PS T NM PL bh σ0 cA i W E cp σ) : ∃ σ', fX12_doAll N σ (nI r) = some σ' ∧ PS T NM PL bh σ0 cA i (fl r W E).1 (fl r W E).2 cp σ' := mdoAll_l hr hcA hi W E N σ (by have := hP.2.2.2.2.2.2.2.2.2.2.2.2.2.2; omega) hP
theorem aw_v {N : Nat} {σ : St} {x1 y : Int32} (h : ix (σ.1 12) 170 = true) (hy : σ.1 12 + 1 = y) : fX12_await N σ x1 = some (sI (aW σ 36 (σ.1 12) x1) 12 y) := by
  subst hy
  exact if_pos h
theorem mawait {N w : Nat} {σ : St} {x : Int32} (h12 : σ.1 12 = nI w) (hw : w < 170) : fX12_await N σ x = some (sI (sA σ 36 (upd (σ.2.1 36) w x)) 12 (nI (w + 1))) := by
  rw [aw_v (y := nI (w + 1)) (by rw [h12]; exact ix_nI hw (by decide)) (by rw [h12, nI_1]), h12, aW_nI (by omega)]
theorem sg_e {T NM PL bh : Nat → Nat} {i c : Nat} {σ : St} (h : Cur T NM PL bh i σ) (hv : vTk (T i)) (hc : 40 ≤ c) (hc2 : c < 128) : fX12_isSign σ (nI c) = bI (decide (T i = c)) := by
  unfold fX12_isSign
  rw [h.2.1]
  by_cases q : T i = c
  · have k3 : kdT (T i) = 3 := by unfold kdT; rw [if_neg (by omega), if_neg (by omega), if_neg (by omega), if_pos (by omega)]
    have w : woT (T i) (NM i) = T i := by unfold woT; rw [if_neg (by omega), if_pos (by omega)]
    rw [k3, if_pos (show nI 3 = 3 from rfl), h.2.2.2 (by omega), w, q, if_pos rfl, decide_eq_true rfl]
    rfl
  · rw [decide_eq_false q]
    by_cases k3 : nI (kdT (T i)) = 3
    · rw [if_pos k3]
      have k3' : kdT (T i) = 3 := (nI_eq (b := 3) (by unfold kdT; split; omega; split; omega; split; omega; split; omega; split <;> omega) (by decide)).mp k3
      have h128 : 2 ≤ T i ∧ T i < 128 ∧ ¬ T i = 2 := by
        unfold kdT at k3'
        by_cases a : T i = 0
        · rw [if_pos a] at k3'; cases k3'
        · rw [if_neg a] at k3'
          by_cases b : T i = 1
          · rw [if_pos b] at k3'; cases k3'
          · rw [if_neg b] at k3'
            by_cases c : T i = 2
            · rw [if_pos c] at k3'; cases k3'
            · rw [if_neg c] at k3'
              by_cases d : T i < 128
              · exact ⟨by omega, d, c⟩
              · rw [if_neg d] at k3'; split at k3' <;> cases k3'
      have w : woT (T i) (NM i) = T i := by unfold woT; rw [if_neg h128.2.2, if_pos h128.2.1]
      rw [h.2.2.2 h128.1, w, if_neg (fun z => q ((nI_eq (by omega) (by omega)).mp z))]
      rfl
    · rw [if_neg k3]; rfl
theorem ky_e {T NM PL bh : Nat → Nat} {i k : Nat} {σ : St} (h : Cur T NM PL bh i σ) (hk : k < 5) (hv : vTk (T i)) : fX12_isKey σ (nI k) = bI (decide (T i = 128 + k)) := by
  unfold fX12_isKey
  rw [h.2.1]
  by_cases q : T i = 128 + k
  · have k4 : kdT (T i) = 4 := by unfold kdT; rw [if_neg (by omega), if_neg (by omega), if_neg (by omega), if_neg (by omega), if_pos (by omega)]
    have w : woT (T i) (NM i) = k := by unfold woT; rw [if_neg (by omega), if_neg (by omega), if_pos (by omega)]; omega
    rw [k4, if_pos (show nI 4 = 4 from rfl), h.2.2.2 (by omega), w, if_pos rfl, decide_eq_true q]
    rfl
  · rw [decide_eq_false q]
    by_cases k4 : nI (kdT (T i)) = 4
    · rw [if_pos k4]
      have k4' : kdT (T i) = 4 := (nI_eq (b := 4) (by unfold kdT; split; omega; split; omega; split; omega; split; omega; split <;> omega) (by decide)).mp k4
      have h128 : 128 ≤ T i ∧ T i < 134 := by
        unfold kdT at k4'
        by_cases a : T i = 0
        · rw [if_pos a] at k4'; cases k4'
        · rw [if_neg a] at k4'
          by_cases b : T i = 1
          · rw [if_pos b] at k4'; cases k4'
          · rw [if_neg b] at k4'
            by_cases c : T i = 2
            · rw [if_pos c] at k4'; cases k4'
            · rw [if_neg c] at k4'
              by_cases d : T i < 128
              · rw [if_pos d] at k4'; cases k4'
              · rw [if_neg d] at k4'
                by_cases e : T i < 134
                · exact ⟨by omega, e⟩
                · rw [if_neg e] at k4'; cases k4'
      have w : woT (T i) (NM i) = T i - 128 := by unfold woT; rw [if_neg (by omega), if_neg (by omega), if_pos h128.2]
      rw [h.2.2.2 (by omega), w, if_neg (fun z => q (by have := (nI_eq (by omega) (by omega)).mp z; omega))]
      rfl
    · rw [if_neg k4]; rfl
theorem e40_s {N f : Nat} {σ : St} {x1 x2 x3 : Int32} : fX12_readE_40 N (f + 1) σ x1 x2 x3 = fX12_readE_40b N (fX12_readE_40 N f) σ x1 x2 x3 := rfl
theorem e_num {N : Nat} {σ σ1 σ2 σ3 : St} {k40 : St → Int32 → Int32 → Int32 → Option (Int32 × St)} {x1 x2 x3 y : Int32} (h0 : ¬ x2 = 0) (h : σ.1 9 = 1) (hy : -1 - σ.1 10 = y) (he : fX12_emit N σ y = some σ1) (hd : fX12_doAll N σ1 7 = some σ2) (hn : fX12_next N σ2 = some σ3) : fX12_readE_40b N k40 σ x1 x2 x3 = k40 σ3 x1 0 x3 := by
  subst hy
  exact (if_neg h0).trans ((if_pos h).trans ((if_pos h).trans ((bd_some he).trans ((bd_some hd).trans (bd_some hn)))))
theorem e_nam {N : Nat} {σ σ1 σ2 σ3 : St} {k40 : St → Int32 → Int32 → Int32 → Option (Int32 × St)} {x1 x2 x3 : Int32} (h0 : ¬ x2 = 0) (h1 : ¬ σ.1 9 = 1) (h : σ.1 9 = 2) (he : fX12_emit N σ (σ.1 10) = some σ1) (hd : fX12_doAll N σ1 7 = some σ2) (hn : fX12_next N σ2 = some σ3) : fX12_readE_40b N k40 σ x1 x2 x3 = k40 σ3 x1 0 x3 := (if_neg h0).trans ((if_neg h1).trans ((if_pos h).trans ((if_neg h1).trans ((bd_some he).trans ((bd_some hd).trans (bd_some hn))))))
theorem e_ahf {N : Nat} {σ σ1 : St} {k40 : St → Int32 → Int32 → Int32 → Option (Int32 × St)} {x1 x2 x3 : Int32} (h0 : ¬ x2 = 0) (h1 : ¬ σ.1 9 = 1) (h2 : ¬ σ.1 9 = 2) (ha : fX12_ahead N σ x3 = some (0, σ1)) : fX12_readE_40b N k40 σ x1 x2 x3 = some (0, σ1) := (if_neg h0).trans ((if_neg h1).trans ((if_neg h2).trans ((if_neg h0).trans (nm_t ((bd2_some ha).trans (if_pos rfl))))))
theorem e_ahk {N : Nat} {σ σ1 σ2 : St} {k40 : St → Int32 → Int32 → Int32 → Option (Int32 × St)} {x1 x2 x3 v : Int32} (h0 : ¬ x2 = 0) (h1 : ¬ σ.1 9 = 1) (h2 : ¬ σ.1 9 = 2) (hv : fX12_isSign σ 45 = v) (ha : fX12_ahead N σ x3 = some (1, σ1)) (hn : fX12_next N σ1 = some σ2) : fX12_readE_40b N k40 σ x1 x2 x3 = k40 σ2 x1 x2 (if v = 0 then 1 else 0) := by
  subst hv
  refine (if_neg h0).trans ((if_neg h1).trans ((if_neg h2).trans ((if_neg h0).trans (nm_t ((bd2_some ha).trans ((if_neg (show ¬ (1 : Int32) = 0 from by decide)).trans ?_))))))
  by_cases q : fX12_isSign σ 45 = 0
  · rw [if_pos q, if_pos q]; exact bd_some hn
  · rw [if_neg q, if_neg q]; exact bd_some hn
theorem e_mid {N : Nat} {σ : St} {k40 : St → Int32 → Int32 → Int32 → Option (Int32 × St)} {x1 x2 x3 : Int32} (h0 : x2 = 0) (h1 : fX12_isSign σ 59 = 0 ∨ ¬ σ.1 14 = 0) : fX12_readE_40b N k40 σ x1 x2 x3 = fX12_readE_165 N k40 σ x1 x2 x3 := by
  refine (if_pos h0).trans ((if_pos h0).trans ?_)
  by_cases q : fX12_isSign σ 59 = 0
  · exact if_pos q
  · exact (if_neg q).trans (if_neg (h1.resolve_left q))
theorem e_end {N : Nat} {σ σ1 : St} {k40 : St → Int32 → Int32 → Int32 → Option (Int32 × St)} {x1 x2 x3 : Int32} (h0 : x2 = 0) (h1 : ¬ fX12_isSign σ 59 = 0) (h2 : σ.1 14 = 0) (hd : fX12_doAll N σ 1 = some σ1) (h3 : ix x1 12 = true) : fX12_readE_40b N k40 σ x1 x2 x3 = some (1, aW σ1 33 x1 (σ1.1 16)) := (if_pos h0).trans ((if_pos h0).trans ((if_neg h1).trans ((if_pos h2).trans ((bd_some hd).trans (if_pos h3)))))
theorem e_bet {N : Nat} {σ σ1 σ2 : St} {k40 : St → Int32 → Int32 → Int32 → Option (Int32 × St)} {x1 x2 x3 : Int32} (hb : fX12_between N σ = some (1, σ1)) (hn : fX12_next N σ1 = some σ2) : fX12_readE_165 N k40 σ x1 x2 x3 = k40 σ2 x1 1 (if fX12_isKey σ1 3 = 0 then (if fX12_isKey σ1 2 = 0 then 0 else 1) else 1) := by
  refine (bd2_some hb).trans ((if_neg (show ¬ (1 : Int32) = 0 from by decide)).trans ?_)
  by_cases q : fX12_isKey σ1 3 = 0
  · rw [if_pos q, if_pos q]
    by_cases q2 : fX12_isKey σ1 2 = 0
    · rw [if_pos q2, if_pos q2]; exact bd_some hn
    · rw [if_neg q2, if_neg q2]; exact bd_some hn
  · rw [if_neg q, if_neg q]; exact bd_some hn
theorem e_clf {N : Nat} {σ σ1 σ2 : St} {k40 : St → Int32 → Int32 → Int32 → Option (Int32 × St)} {x1 x2 x3 : Int32} (hb : fX12_between N σ = some (0, σ1)) (hc : fX12_closes N σ1 = some (0, σ2)) : fX12_readE_165 N k40 σ x1 x2 x3 = some (0, σ2) := (bd2_some hb).trans ((if_pos rfl).trans ((bd2_some hc).trans (if_pos rfl)))
theorem e_clk {N : Nat} {σ σ1 σ2 σ3 : St} {k40 : St → Int32 → Int32 → Int32 → Option (Int32 × St)} {x1 x2 x3 : Int32} (hb : fX12_between N σ = some (0, σ1)) (hc : fX12_closes N σ1 = some (1, σ2)) (hn : fX12_next N σ2 = some σ3) : fX12_readE_165 N k40 σ x1 x2 x3 = k40 σ3 x1 x2 x3 := (bd2_some hb).trans ((if_pos rfl).trans ((bd2_some hc).trans ((if_neg (show ¬ (1 : Int32) = 0 from by decide)).trans (bd_some hn))))
