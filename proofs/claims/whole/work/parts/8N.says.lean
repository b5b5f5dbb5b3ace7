/-! PURE: what THE ACT says: both stacks -/
def xS (σ : St) (s : Nat → Int32) (d : Nat) : St := sI (sA σ 65 s) 12 (nI d)
theorem xS_w (σ : St) (s s' : Nat → Int32) (d d' : Nat) : sI (sA (xS σ s d) 65 s') 12 (nI d') = xS σ s' d' := by
  show (va_up (va_up σ.1 12 (nI d)) 12 (nI d'), va_up (va_up σ.2.1 65 s) 65 s', σ.2.2) = (va_up σ.1 12 (nI d'), va_up σ.2.1 65 s', σ.2.2)
  rw [vz_up_up, vz_up_up]
theorem xS_t (σ : St) (s : Nat → Int32) (d d' : Nat) : sI (xS σ s d) 12 (nI d') = xS σ s d' := by
  show (va_up (va_up σ.1 12 (nI d)) 12 (nI d'), va_up σ.2.1 65 s, σ.2.2) = (va_up σ.1 12 (nI d'), va_up σ.2.1 65 s, σ.2.2)
  rw [vz_up_up]
theorem xpush {N d : Nat} {σ : St} {s : Nat → Int32} {v : Int32} (hd : d < 160) : fX0_push N (xS σ s d) v = some (xS σ (upd s d v) (d + 1)) := by
  unfold fX0_push nm
  rw [show (xS σ s d).1 12 = nI d from rfl, if_pos (show nI d < 160 from nI_lt (b := 160) hd (by decide))]
  simp only [ix_nI hd (by decide), if_true, aW_nI (show d < 2 ^ 31 by omega)]
  rw [show ∀ f, (sA (xS σ s d) 65 f).1 12 = nI d from fun _ => rfl, nI_1, xS_w]
  rfl
theorem xpull {N d : Nat} {σ : St} {s : Nat → Int32} (hd : d < 160) : fX0_pull N (xS σ s (d + 1)) = some (s d, xS σ s d) := by
  unfold fX0_pull nm
  rw [show (xS σ s (d + 1)).1 12 = nI (d + 1) from rfl, if_pos (show 0 < nI (d + 1) from nI_lt (a := 0) (by omega) (by omega)), nI_pred, xS_t]
  dsimp only
  rw [show (xS σ s d).1 12 = nI d from rfl]
  simp only [ix_nI hd (by decide), if_true, aR_nI (show d < 2 ^ 31 by omega)]
  rfl
/-- a sign between two: the class's and the model's -/
def bR2 (x m : Int32) : Prop := (x = -43 ∧ m = 6) ∨ (x = -45 ∧ m = 7) ∨ (x = -42 ∧ m = 8) ∨ (x = -60 ∧ m = 9) ∨ (x = -61 ∧ m = 10) ∨ (x = -131 ∧ m = 11) ∨ (x = -130 ∧ m = 12)
theorem bin_e {x m : Int32} (h : bR2 x m) : x < 0 ∧ fX11_within (-x) 134 139 = 0 ∧ ¬ x = -132 ∧ ¬ x = -133 ∧ 0 ≤ m ∧ 6 ≤ m ∧ ¬ m < 6 ∧ ¬ m = 13 ∧ ¬ m = 14 ∧ ∀ p q, fX0_joined (-x) p q = fX12_done m p q := by
  rcases h with ⟨rfl, rfl⟩ | ⟨rfl, rfl⟩ | ⟨rfl, rfl⟩ | ⟨rfl, rfl⟩ | ⟨rfl, rfl⟩ | ⟨rfl, rfl⟩ | ⟨rfl, rfl⟩
  all_goals exact ⟨by decide, by decide, by decide, by decide, by decide, by decide, by decide, by decide, by decide, fun p q => rfl⟩
theorem cr_5 {x m : Int32} (h : cr x m) : (rg 0 9999 x ∧ m = -1 - x) ∨ (∃ j, j < 6 ∧ x = -(nI (134 + j)) ∧ m = nI j) ∨ bR2 x m ∨ (x = -132 ∧ m = 13) ∨ (x = -133 ∧ m = 14) := by
  rcases h with h | h | h | h | h | h | h | h | h | h | h
  · exact Or.inl h
  · exact Or.inr (Or.inl h)
  · exact Or.inr (Or.inr (Or.inl (Or.inl h)))
  · exact Or.inr (Or.inr (Or.inl (Or.inr (Or.inl h))))
  · exact Or.inr (Or.inr (Or.inl (Or.inr (Or.inr (Or.inl h)))))
  · exact Or.inr (Or.inr (Or.inl (Or.inr (Or.inr (Or.inr (Or.inl h))))))
  · exact Or.inr (Or.inr (Or.inl (Or.inr (Or.inr (Or.inr (Or.inr (Or.inl h)))))))
  · exact Or.inr (Or.inr (Or.inl (Or.inr (Or.inr (Or.inr (Or.inr (Or.inr (Or.inl h))))))))
  · exact Or.inr (Or.inr (Or.inl (Or.inr (Or.inr (Or.inr (Or.inr (Or.inr (Or.inr h))))))))
  · exact Or.inr (Or.inr (Or.inr (Or.inl h)))
  · exact Or.inr (Or.inr (Or.inr (Or.inr h)))
theorem num_m {v : Nat} (h : v ≤ 9999) : (-1 : Int32) - nI v < 0 ∧ (-1 : Int32) - (-1 - nI v) = nI v := by
  constructor
  · have e : (-1 : Int32) - nI v = nI 0 - nI (1 + v) := by
      rw [← nI_add, show (-1 : Int32) = nI 0 - nI 1 from by decide, Int32.sub_sub]
    rw [e]
    exact pk_sneg (by omega) (by omega)
  · rw [Int32.sub_eq_add_neg, Int32.neg_sub, Int32.add_comm, Int32.sub_add_cancel]
theorem nam_x : ∀ j : Fin 6, -(nI (134 + j.val)) < 0 ∧ ¬ fX11_within (- -(nI (134 + j.val))) 134 139 = 0 ∧ 0 ≤ nI j.val ∧ ¬ 6 ≤ nI j.val ∧ nI j.val < 6 := by decide
theorem nam_e {N d nT nP j sp : Nat} {σx σm : St} (hd : I_day d σx σm) (hla : I_land d σx σm) (hli : I_line nT nP σx σm) (hj : j < 6) (hsp : sp < nP) : ∃ v, fX0_named N σx (nI (134 + j)) (nI sp) = some v ∧ fX12_nameOf N σm (nI j) (nI sp) = some v := by
  have h16 : sp < 16 := Nat.lt_of_lt_of_le hsp hli.2.2.2.1
  obtain ⟨p, hp, e1, e2⟩ := plot_of hli hsp
  obtain ⟨v, n1, n2⟩ := near_e (N := N) hd hla hli hsp
  unfold fX0_named fX12_nameOf nm
  simp only [ix_nI h16 (by decide), if_true, aR_nI (show sp < 2 ^ 31 by omega), e1, e2, ix_nI hp (by decide), show ix (0 : Int32) 4 = true from rfl, show ix (1 : Int32) 4 = true from rfl, show 17 + (0 : Int32).toNatClampNeg = 17 from rfl, show 17 + (1 : Int32).toNatClampNeg = 18 from rfl, aR_nI (show p < 2 ^ 31 by omega)]
  rcases (show j = 0 ∨ j = 1 ∨ j = 2 ∨ j = 3 ∨ j = 4 ∨ j = 5 by omega) with rfl | rfl | rfl | rfl | rfl | rfl
  · exact ⟨nI d, by rw [hd.2.1]; rfl, by rw [hd.2.2]; rfl⟩
  · refine ⟨σm.2.1 17 sp, ?_, rfl⟩
    rw [(hli.2.2.2.2.2.2.2.2.1 sp hsp).1]; rfl
  · exact ⟨v, by rw [n1]; rfl, by rw [n2]; rfl⟩
  · exact ⟨hiS σm p, by rw [xtrees hd hla hp]; rfl, by rw [mtrees hp]; rfl⟩
  · refine ⟨σm.2.1 5 p, ?_, rfl⟩
    rw [(hla.1 p hp).1]; rfl
  · refine ⟨σm.2.1 6 p, ?_, rfl⟩
    rw [(hla.2.1 p hp).1]; rfl
theorem c53_s {N f : Nat} {σ : St} {x1 x4 x5 : Int32} : fX0_comesTo_53 N (f + 1) σ x1 x4 x5 = fX0_comesTo_53b N (fX0_comesTo_53 N f) σ x1 x4 x5 := rfl
theorem p15_s {N f : Nat} {σ : St} {x2 x3 x4 x5 : Int32} : fX12_partOf_15 N (f + 1) σ x2 x3 x4 x5 = fX12_partOf_15b N (fX12_partOf_15 N f) σ x2 x3 x4 x5 := rfl
theorem bd_some {α β : Type} {o : Option α} {v : α} {f : α → Option β} (h : o = some v) : bd o f = f v := by rw [h]; rfl
theorem bd2_some {α γ β : Type} {o : Option (α × γ)} {v : α} {w : γ} {f : α → γ → Option β} (h : o = some (v, w)) : bd2 o f = f v w := by rw [h]; rfl
theorem m15_end {N : Nat} {σ : St} {k15 : St → Int32 → Int32 → Int32 → Int32 → Option (Int32 × St)} {x2 x3 x4 x5 : Int32} (h1 : ix x3 12 = true) (h2 : aR σ 33 x3 ≤ x5) : fX12_partOf_15b N k15 σ x2 x3 x4 x5 = some (aR σ 38 0, σ) := (if_pos h1).trans ((if_pos h2).trans (if_pos (show ix (0 : Int32) 170 = true from rfl)))
theorem m15_num {N : Nat} {σ : St} {k15 : St → Int32 → Int32 → Int32 → Int32 → Option (Int32 × St)} {x2 x3 x4 x5 y c : Int32} (h1 : ix x3 12 = true) (h2 : ¬ aR σ 33 x3 ≤ x5) (hy : 160 * x3 + x5 = y) (h3 : ix y 1920 = true) (hc : aR σ 32 y = c) (h4 : ¬ 0 ≤ c) (h5 : ix x4 170 = true) : fX12_partOf_15b N k15 σ x2 x3 x4 x5 = k15 (aW σ 38 x4 (-1 - c)) x2 x3 (x4 + 1) (x5 + 1) := by
  subst hy
  subst hc
  exact (if_pos h1).trans ((if_neg h2).trans ((if_pos h3).trans ((if_neg h4).trans (if_pos h5))))
theorem m15_nam {N : Nat} {σ : St} {k15 : St → Int32 → Int32 → Int32 → Int32 → Option (Int32 × St)} {x2 x3 x4 x5 y c v : Int32} (h1 : ix x3 12 = true) (h2 : ¬ aR σ 33 x3 ≤ x5) (hy : 160 * x3 + x5 = y) (h3 : ix y 1920 = true) (hc : aR σ 32 y = c) (h4 : 0 ≤ c) (h6 : ¬ 6 ≤ c) (h5 : ix x4 170 = true) (hn : fX12_nameOf N σ c x2 = some v) : fX12_partOf_15b N k15 σ x2 x3 x4 x5 = k15 (aW σ 38 x4 v) x2 x3 (x4 + 1) (x5 + 1) := by
  subst hy
  subst hc
  exact (if_pos h1).trans ((if_neg h2).trans ((if_pos h3).trans ((if_pos h4).trans ((if_neg h6).trans ((bd_some hn).trans (if_pos h5))))))
theorem m15_b2 {N : Nat} {σ : St} {k15 : St → Int32 → Int32 → Int32 → Int32 → Option (Int32 × St)} {x2 x3 x5 c v z1 : Int32} (hz1 : v - 1 = z1) (h9 : ix z1 170 = true) (h5 : ix v 170 = true) : (if ix (v - 1) 170 = true then if ix v 170 = true then if ix (v - 1) 170 = true then nm (aW σ 38 (v - 1) (fX12_done c (aR σ 38 (v - 1)) (aR σ 38 v))) fun σ13 => fX12_partOf_188 N k15 σ13 x2 x3 v x5 else none else none else none) = k15 (aW σ 38 z1 (fX12_done c (aR σ 38 z1) (aR σ 38 v))) x2 x3 v (x5 + 1) := by
  rw [hz1, if_pos h9, if_pos h5, if_pos h9]
  rfl
theorem m15_bin {N : Nat} {σ : St} {k15 : St → Int32 → Int32 → Int32 → Int32 → Option (Int32 × St)} {x2 x3 x4 x5 y c z z1 : Int32} (h1 : ix x3 12 = true) (h2 : ¬ aR σ 33 x3 ≤ x5) (hy : 160 * x3 + x5 = y) (h3 : ix y 1920 = true) (hc : aR σ 32 y = c) (h4 : 0 ≤ c) (h6 : 6 ≤ c) (h7 : ¬ c = 13) (h8 : ¬ c = 14) (hz : x4 + (-1) = z) (hz1 : z - 1 = z1) (h5 : ix z 170 = true) (h9 : ix z1 170 = true) : fX12_partOf_15b N k15 σ x2 x3 x4 x5 = k15 (aW σ 38 z1 (fX12_done c (aR σ 38 z1) (aR σ 38 z))) x2 x3 z (x5 + 1) := by
  subst hy
  subst hc
  refine (if_pos h1).trans ((if_neg h2).trans ((if_pos h3).trans ((if_pos h4).trans ((if_pos h6).trans ((if_neg h7).trans ((if_neg h8).trans ?_))))))
  rw [hz]
  exact m15_b2 hz1 h9 h5
theorem m15_not {N : Nat} {σ : St} {k15 : St → Int32 → Int32 → Int32 → Int32 → Option (Int32 × St)} {x2 x3 x4 x5 y c z1 : Int32} (h1 : ix x3 12 = true) (h2 : ¬ aR σ 33 x3 ≤ x5) (hy : 160 * x3 + x5 = y) (h3 : ix y 1920 = true) (hc : aR σ 32 y = c) (h4 : 0 ≤ c) (h6 : 6 ≤ c) (h7 : c = 13) (hz1 : x4 - 1 = z1) (h9 : ix z1 170 = true) : fX12_partOf_15b N k15 σ x2 x3 x4 x5 = k15 (aW σ 38 z1 (if aR σ 38 z1 = 0 then 1 else 0)) x2 x3 x4 (x5 + 1) := by
  subst hy
  subst hc
  subst hz1
  refine (if_pos h1).trans ((if_neg h2).trans ((if_pos h3).trans ((if_pos h4).trans ((if_pos h6).trans ((if_pos h7).trans ((if_pos h9).trans ?_))))))
  by_cases q : aR σ 38 (x4 - 1) = 0
  · rw [if_pos q, if_pos q]
    exact if_pos h9
  · rw [if_neg q, if_neg q]
    exact if_pos h9
theorem m15_neg {N : Nat} {σ : St} {k15 : St → Int32 → Int32 → Int32 → Int32 → Option (Int32 × St)} {x2 x3 x4 x5 y c z1 : Int32} (h1 : ix x3 12 = true) (h2 : ¬ aR σ 33 x3 ≤ x5) (hy : 160 * x3 + x5 = y) (h3 : ix y 1920 = true) (hc : aR σ 32 y = c) (h4 : 0 ≤ c) (h6 : 6 ≤ c) (h7 : ¬ c = 13) (h8 : c = 14) (hz1 : x4 - 1 = z1) (h9 : ix z1 170 = true) : fX12_partOf_15b N k15 σ x2 x3 x4 x5 = k15 (aW σ 38 z1 (-(aR σ 38 z1))) x2 x3 x4 (x5 + 1) := by
  subst hy
  subst hc
  subst hz1
  exact (if_pos h1).trans ((if_neg h2).trans ((if_pos h3).trans ((if_pos h4).trans ((if_pos h6).trans ((if_neg h7).trans ((if_pos h8).trans ((if_pos h9).trans (if_pos h9))))))))
theorem c53_end {N : Nat} {σ : St} {k53 : St → Int32 → Int32 → Int32 → Option (Int32 × St)} {x1 x4 x5 : Int32} (h : x4 ≤ x5) : fX0_comesTo_53b N k53 σ x1 x4 x5 = some (aR σ 65 0, σ) := (if_pos h).trans (if_pos (show ix (0 : Int32) 160 = true from rfl))
theorem c53_num {N : Nat} {σ σ' : St} {k53 : St → Int32 → Int32 → Int32 → Option (Int32 × St)} {x1 x4 x5 c  : Int32} (h : ¬ x4 ≤ x5) (h1 : ix (σ.1 11) 6 = true) (h2 : ix x5 160 = true) (hc : aR σ (57 + (σ.1 11).toNatClampNeg) x5 = c) (h3 : ¬ c < 0) (hp : fX0_push N σ c = some σ') : fX0_comesTo_53b N k53 σ x1 x4 x5 = k53 σ' x1 x4 (x5 + 1) := by
  subst hc
  exact (if_neg h).trans ((if_pos h1).trans ((if_pos h2).trans ((if_neg h3).trans (bd_some hp))))
theorem c53_nam {N : Nat} {σ σ' : St} {k53 : St → Int32 → Int32 → Int32 → Option (Int32 × St)} {x1 x4 x5 c v : Int32} (h : ¬ x4 ≤ x5) (h1 : ix (σ.1 11) 6 = true) (h2 : ix x5 160 = true) (hc : aR σ (57 + (σ.1 11).toNatClampNeg) x5 = c) (h3 : c < 0) (h4 : ¬ fX11_within (-c) 134 139 = 0) (hn : fX0_named N σ (-c) x1 = some v) (hp : fX0_push N σ v = some σ') : fX0_comesTo_53b N k53 σ x1 x4 x5 = k53 σ' x1 x4 (x5 + 1) := by
  subst hc
  exact (if_neg h).trans ((if_pos h1).trans ((if_pos h2).trans ((if_pos h3).trans ((if_neg h4).trans ((bd_some hn).trans (bd_some hp))))))
theorem xjoin {N : Nat} {σ σ1 σ2 σ' : St} {c r1 r2 : Int32} (hq1 : fX0_pull N σ = some (r1, σ1)) (hq2 : fX0_pull N σ1 = some (r2, σ2)) (hp : fX0_push N σ2 (fX0_joined c r2 r1) = some σ') : fX0_join N σ c = some σ' := (bd2_some hq1).trans ((bd2_some hq2).trans (bd_some hp))
theorem c53_bin {N : Nat} {σ σ1 σ2 σ' : St} {k53 : St → Int32 → Int32 → Int32 → Option (Int32 × St)} {x1 x4 x5 c r1 r2 : Int32} (h : ¬ x4 ≤ x5) (h1 : ix (σ.1 11) 6 = true) (h2 : ix x5 160 = true) (hc : aR σ (57 + (σ.1 11).toNatClampNeg) x5 = c) (h3 : c < 0) (h4 : fX11_within (-c) 134 139 = 0) (h5 : ¬ c = -132) (h6 : ¬ c = -133) (hq1 : fX0_pull N σ = some (r1, σ1)) (hq2 : fX0_pull N σ1 = some (r2, σ2)) (hp : fX0_push N σ2 (fX0_joined (-c) r2 r1) = some σ') : fX0_comesTo_53b N k53 σ x1 x4 x5 = k53 σ' x1 x4 (x5 + 1) := by
  subst hc
  exact (if_neg h).trans ((if_pos h1).trans ((if_pos h2).trans ((if_pos h3).trans ((if_pos h4).trans ((if_neg h5).trans ((if_neg h6).trans (bd_some (xjoin hq1 hq2 hp))))))))
theorem c53_not {N : Nat} {σ σ1 σ' : St} {k53 : St → Int32 → Int32 → Int32 → Option (Int32 × St)} {x1 x4 x5 c r1 : Int32} (h : ¬ x4 ≤ x5) (h1 : ix (σ.1 11) 6 = true) (h2 : ix x5 160 = true) (hc : aR σ (57 + (σ.1 11).toNatClampNeg) x5 = c) (h3 : c < 0) (h4 : fX11_within (-c) 134 139 = 0) (h5 : c = -132) (hq1 : fX0_pull N σ = some (r1, σ1)) (hp : fX0_push N σ1 (if r1 = 0 then 1 else 0) = some σ') : fX0_comesTo_53b N k53 σ x1 x4 x5 = k53 σ' x1 x4 (x5 + 1) := by
  subst hc
  refine (if_neg h).trans ((if_pos h1).trans ((if_pos h2).trans ((if_pos h3).trans ((if_pos h4).trans ((if_pos h5).trans ((bd2_some hq1).trans ?_))))))
  by_cases q : r1 = 0
  · rw [if_pos q] at hp
    exact (if_pos q).trans (bd_some hp)
  · rw [if_neg q] at hp
    exact (if_neg q).trans (bd_some hp)
theorem c53_neg {N : Nat} {σ σ1 σ' : St} {k53 : St → Int32 → Int32 → Int32 → Option (Int32 × St)} {x1 x4 x5 c r1 : Int32} (h : ¬ x4 ≤ x5) (h1 : ix (σ.1 11) 6 = true) (h2 : ix x5 160 = true) (hc : aR σ (57 + (σ.1 11).toNatClampNeg) x5 = c) (h3 : c < 0) (h4 : fX11_within (-c) 134 139 = 0) (h5 : ¬ c = -132) (h6 : c = -133) (hq1 : fX0_pull N σ = some (r1, σ1)) (hp : fX0_push N σ1 (-r1) = some σ') : fX0_comesTo_53b N k53 σ x1 x4 x5 = k53 σ' x1 x4 (x5 + 1) := by
  subst hc
  exact (if_neg h).trans ((if_pos h1).trans ((if_pos h2).trans ((if_pos h3).trans ((if_pos h4).trans ((if_neg h5).trans ((if_pos h6).trans ((bd2_some hq1).trans (bd_some hp))))))))
theorem okC_dp {f : Nat → Int32} {n : Nat} {dp : Nat → Nat} (h0 : dp 0 = 0) (h : ∀ k, k < n → (f k < 6 ∧ dp (k + 1) = dp k + 1) ∨ ((f k = 13 ∨ f k = 14) ∧ 1 ≤ dp k ∧ dp (k + 1) = dp k) ∨ ((6 ≤ f k ∧ f k ≤ 12) ∧ 2 ≤ dp k ∧ dp (k + 1) + 1 = dp k)) : ∀ k, k ≤ n → dp k ≤ k
  | 0, _ => by omega
  | k + 1, hk => by
    have h1 := okC_dp h0 h k (by omega)
    rcases h k (by omega) with ⟨_, a⟩ | ⟨_, _, a⟩ | ⟨_, _, a⟩ <;> omega
theorem eval_loop {N d nT nP sp ru bx n row : Nat} {σx σm : St} {dp : Nat → Nat} (hd : I_day d σx σm) (hla : I_land d σx σm) (hli : I_line nT nP σx σm) (hsp : sp < nP) (hru : ru < 6) (er : σx.1 11 = nI ru) (hrow : row < 12) (en : σm.2.1 33 row = nI n) (hbn : bx + n ≤ 160) (hcr : ∀ k, k < n → cr (σx.2.1 (57 + ru) (bx + k)) (σm.2.1 32 (160 * row + k))) (h0 : dp 0 = 0) (h1 : dp n = 1) (hdp : ∀ k, k < n → (σm.2.1 32 (160 * row + k) < 6 ∧ dp (k + 1) = dp k + 1) ∨ ((σm.2.1 32 (160 * row + k) = 13 ∨ σm.2.1 32 (160 * row + k) = 14) ∧ 1 ≤ dp k ∧ dp (k + 1) = dp k) ∨ ((6 ≤ σm.2.1 32 (160 * row + k) ∧ σm.2.1 32 (160 * row + k) ≤ 12) ∧ 2 ≤ dp k ∧ dp (k + 1) + 1 = dp k)) : ∀ (m f k : Nat) (s s' : Nat → Int32), k + m = n → m < f → (∀ j, j < dp k → s j = s' j) → ∃ r s2 d2 s2', fX0_comesTo_53 N f (xS σx s (dp k)) (nI sp) (nI (bx + n)) (nI (bx + k)) = some (r, xS σx s2 d2) ∧ fX12_partOf_15 N f (sA σm 38 s') (nI sp) (nI row) (nI (dp k)) (nI k) = some (r, sA σm 38 s2') := by
  intro m
  induction m with
  | zero =>
    intro f k s s' hk hf hs
    cases f with
    | zero => omega
    | succ f =>
      have e : k = n := by omega
      subst e
      refine ⟨s 0, s, dp k, s', ?_, ?_⟩
      · rw [c53_s, c53_end (Int32.le_refl _)]
        rfl
      · rw [p15_s, m15_end (ix_nI hrow (by decide)) (by rw [aR_nI (by omega), show (sA σm 38 s').2.1 33 row = nI k from en]; exact Int32.le_refl _), hs 0 (by omega)]
        rfl
  | succ m ih =>
    intro f k s s' hk hf hs
    cases f with
    | zero => omega
    | succ f =>
      have hkn : k < n := by omega
      have hdk := okC_dp h0 hdp k (by omega)
      have x1 : ¬ nI (bx + n) ≤ nI (bx + k) := nI_ge (by omega) (by omega)
      have x2 : ix ((xS σx s (dp k)).1 11) 6 = true := by rw [show (xS σx s (dp k)).1 11 = nI ru from er]; exact ix_nI hru (by decide)
      have x3 : ix (nI (bx + k)) 160 = true := ix_nI (by omega) (by decide)
      have xc : aR (xS σx s (dp k)) (57 + ((xS σx s (dp k)).1 11).toNatClampNeg) (nI (bx + k)) = σx.2.1 (57 + ru) (bx + k) := by
        rw [show (xS σx s (dp k)).1 11 = nI ru from er, nI_clamp (by omega), aR_nI (by omega)]
        show va_up σx.2.1 65 s (57 + ru) (bx + k) = _
        rw [up_n (by omega)]
      have y1 : ix (nI row) 12 = true := ix_nI hrow (by decide)
      have y2 : ¬ aR (sA σm 38 s') 33 (nI row) ≤ nI k := by rw [aR_nI (by omega), show (sA σm 38 s').2.1 33 row = nI n from en]; exact nI_ge hkn (by omega)
      have em : (160 : Int32) * nI row + nI k = nI (160 * row + k) := by rw [show (160 : Int32) = nI 160 from rfl, pk_mul, nI_add]
      have y3 : ix (nI (160 * row + k)) 1920 = true := ix_nI (by omega) (by decide)
      have yc : aR (sA σm 38 s') 32 (nI (160 * row + k)) = σm.2.1 32 (160 * row + k) := aR_nI (by omega)
      have hc := cr_5 (hcr k hkn)
      have hD := hdp k hkn
      have ih' := ih f (k + 1)
      rw [c53_s, p15_s]
      generalize σx.2.1 (57 + ru) (bx + k) = x at hc xc
      generalize σm.2.1 32 (160 * row + k) = c at hc hD yc
      rcases hc with ⟨hr, rfl⟩ | ⟨j, hj, rfl, rfl⟩ | hb | ⟨rfl, rfl⟩ | ⟨rfl, rfl⟩
      · obtain ⟨v, hv, rfl⟩ := rg_of (hi := 9999) hr (by decide)
        obtain ⟨q1, q2⟩ := num_m hv
        have q3 : ¬ (0 : Int32) ≤ -1 - nI v := Int32.not_le.mpr q1
        have eD : dp (k + 1) = dp k + 1 := by
          rcases hD with ⟨_, a⟩ | ⟨a | a, _⟩ | ⟨a, _⟩
          · exact a
          · rw [a] at q1; exact absurd q1 (by decide)
          · rw [a] at q1; exact absurd q1 (by decide)
          · exact absurd (Int32.le_trans (show (0 : Int32) ≤ 6 from by decide) a.1) q3
        rw [c53_num x1 x2 x3 xc (nI_pos (by omega)) (xpush (by omega)), m15_num y1 y2 em y3 yc q3 (ix_nI (show dp k < 170 by omega) (by decide)), q2, aW_nI (by omega), sA_sA, nI_1, nI_1, nI_1, ← eD]
        refine ih' _ _ (by omega) (by omega) (fun j hj => ?_)
        show upd s (dp k) (nI v) j = upd s' (dp k) (nI v) j
        by_cases e : j = dp k
        · subst e; rw [up_s, up_s]
        · rw [pk_un e, pk_un e]; exact hs j (by omega)
      · obtain ⟨q1, q2, q3, q4, q5⟩ := nam_x ⟨j, hj⟩
        have eD : dp (k + 1) = dp k + 1 := by
          rcases hD with ⟨_, a⟩ | ⟨a | a, _⟩ | ⟨a, _⟩
          · exact a
          · rw [a] at q5; exact absurd q5 (by decide)
          · rw [a] at q5; exact absurd q5 (by decide)
          · exact absurd a.1 q4
        obtain ⟨v, n1, n2⟩ := nam_e (N := N) (σx := xS σx s (dp k)) (σm := sA σm 38 s') hd hla hli hj hsp
        rw [c53_nam x1 x2 x3 xc q1 q2 (by rw [Int32.neg_neg]; exact n1) (xpush (by omega)), m15_nam y1 y2 em y3 yc q3 q4 (ix_nI (show dp k < 170 by omega) (by decide)) n2, aW_nI (by omega), sA_sA, nI_1, nI_1, nI_1, ← eD]
        refine ih' _ _ (by omega) (by omega) (fun j hj => ?_)
        show upd s (dp k) v j = upd s' (dp k) v j
        by_cases e : j = dp k
        · subst e; rw [up_s, up_s]
        · rw [pk_un e, pk_un e]; exact hs j (by omega)
      · obtain ⟨q1, q2, q3, q4, q5, q6, q7, q8, q9, q10⟩ := bin_e hb
        obtain ⟨hd2, eD⟩ : 2 ≤ dp k ∧ dp (k + 1) + 1 = dp k := by
          rcases hD with ⟨a, _⟩ | ⟨a | a, _⟩ | ⟨_, a⟩
          · exact absurd a q7
          · exact absurd a q8
          · exact absurd a q9
          · exact a
        obtain ⟨e, he⟩ : ∃ e, dp k = e + 1 + 1 := ⟨dp k - 2, by omega⟩
        have eD' : dp (k + 1) = e + 1 := by omega
        rw [c53_bin x1 x2 x3 xc q1 q2 q3 q4 (by rw [he]; exact xpull (by omega)) (xpull (by omega)) (xpush (by omega)), m15_bin (z := nI (e + 1)) (z1 := nI e) y1 y2 em y3 yc q5 q6 q8 q9 (by rw [he, pk_m1]) (nI_pred e) (ix_nI (show e + 1 < 170 by omega) (by decide)) (ix_nI (show e < 170 by omega) (by decide)), aW_nI (by omega), aR_nI (by omega), aR_nI (by omega), sA_sA, nI_1, nI_1, q10]
        rw [show (sA σm 38 s').2.1 38 = s' from rfl, ← hs e (by omega), ← hs (e + 1) (by omega), ← eD']
        refine ih' _ _ (by omega) (by omega) (fun j hj => ?_)
        by_cases z : j = e
        · subst z; rw [up_s, up_s]
        · rw [pk_un z, pk_un z]; exact hs j (by omega)
      · obtain ⟨hd2, eD⟩ : 1 ≤ dp k ∧ dp (k + 1) = dp k := by
          rcases hD with ⟨a, _⟩ | ⟨_, a⟩ | ⟨a, _⟩
          · exact absurd a (by decide)
          · exact a
          · exact absurd a.2 (by decide)
        obtain ⟨e, he⟩ : ∃ e, dp k = e + 1 := ⟨dp k - 1, by omega⟩
        have eD' : dp (k + 1) = e + 1 := by omega
        rw [c53_not x1 x2 x3 xc (by decide) (by decide) rfl (by rw [he]; exact xpull (by omega)) (xpush (by omega)), m15_not (z1 := nI e) y1 y2 em y3 yc (by decide) (by decide) rfl (by rw [he, nI_pred]) (ix_nI (show e < 170 by omega) (by decide)), aW_nI (by omega), aR_nI (by omega), sA_sA, nI_1, nI_1]
        rw [show (sA σm 38 s').2.1 38 = s' from rfl, ← hs e (by omega), he, ← eD']
        refine ih' _ _ (by omega) (by omega) (fun j hj => ?_)
        by_cases z : j = e
        · subst z; rw [up_s, up_s]
        · rw [pk_un z, pk_un z]; exact hs j (by omega)
      · obtain ⟨hd2, eD⟩ : 1 ≤ dp k ∧ dp (k + 1) = dp k := by
          rcases hD with ⟨a, _⟩ | ⟨_, a⟩ | ⟨a, _⟩
          · exact absurd a (by decide)
          · exact a
          · exact absurd a.2 (by decide)
        obtain ⟨e, he⟩ : ∃ e, dp k = e + 1 := ⟨dp k - 1, by omega⟩
        have eD' : dp (k + 1) = e + 1 := by omega
        rw [c53_neg x1 x2 x3 xc (by decide) (by decide) (by decide) rfl (by rw [he]; exact xpull (by omega)) (xpush (by omega)), m15_neg (z1 := nI e) y1 y2 em y3 yc (by decide) (by decide) (by decide) rfl (by rw [he, nI_pred]) (ix_nI (show e < 170 by omega) (by decide)), aW_nI (by omega), aR_nI (by omega), sA_sA, nI_1, nI_1]
        rw [show (sA σm 38 s').2.1 38 = s' from rfl, ← hs e (by omega), he, ← eD']
        refine ih' _ _ (by omega) (by omega) (fun j hj => ?_)
        by_cases z : j = e
        · subst z; rw [up_s, up_s]
        · rw [pk_un z, pk_un z]; exact hs j (by omega)
