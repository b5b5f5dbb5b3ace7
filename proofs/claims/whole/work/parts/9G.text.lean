/-! PURE: TEXT: text -/
def fr2x (σ τ : St) : Prop := (∀ k, ¬ k = 5 → ¬ k = 6 → ¬ k = 7 → ¬ k = 8 → ¬ k = 9 → ¬ k = 10 → τ.1 k = σ.1 k) ∧ (∀ k, ¬ k = 52 → ¬ k = 53 → ¬ k = 54 → ¬ k = 55 → ¬ k = 57 → ¬ k = 58 → ¬ k = 59 → ¬ k = 60 → ¬ k = 61 → ¬ k = 62 → ¬ k = 63 → ¬ k = 64 → τ.2.1 k = σ.2.1 k) ∧ τ.2.2 = σ.2.2
theorem expx {σ τ : St} (h : fr2x σ τ) : ∃ (v5 v6 v7 v8 v9 v10 : Int32) (f52 f53 f54 f55 f57 f58 f59 f60 f61 f62 f63 f64 : Nat → Int32), τ = ((va_up (va_up (va_up (va_up (va_up (va_up σ.1 5 v5) 6 v6) 7 v7) 8 v8) 9 v9) 10 v10), (va_up (va_up (va_up (va_up (va_up (va_up (va_up (va_up (va_up (va_up (va_up (va_up σ.2.1 52 f52) 53 f53) 54 f54) 55 f55) 57 f57) 58 f58) 59 f59) 60 f60) 61 f61) 62 f62) 63 f63) 64 f64), σ.2.2) := by
  refine ⟨τ.1 5, τ.1 6, τ.1 7, τ.1 8, τ.1 9, τ.1 10, τ.2.1 52, τ.2.1 53, τ.2.1 54, τ.2.1 55, τ.2.1 57, τ.2.1 58, τ.2.1 59, τ.2.1 60, τ.2.1 61, τ.2.1 62, τ.2.1 63, τ.2.1 64, ?_⟩
  have e1 : τ.1 = (va_up (va_up (va_up (va_up (va_up (va_up σ.1 5 (τ.1 5)) 6 (τ.1 6)) 7 (τ.1 7)) 8 (τ.1 8)) 9 (τ.1 9)) 10 (τ.1 10)) := by
    funext k
    unfold va_up
    by_cases q10 : k = 10
    · rw [if_pos q10, q10]
    rw [if_neg q10]
    by_cases q9 : k = 9
    · rw [if_pos q9, q9]
    rw [if_neg q9]
    by_cases q8 : k = 8
    · rw [if_pos q8, q8]
    rw [if_neg q8]
    by_cases q7 : k = 7
    · rw [if_pos q7, q7]
    rw [if_neg q7]
    by_cases q6 : k = 6
    · rw [if_pos q6, q6]
    rw [if_neg q6]
    by_cases q5 : k = 5
    · rw [if_pos q5, q5]
    rw [if_neg q5]
    exact h.1 k q5 q6 q7 q8 q9 q10
  have e2 : τ.2.1 = (va_up (va_up (va_up (va_up (va_up (va_up (va_up (va_up (va_up (va_up (va_up (va_up σ.2.1 52 (τ.2.1 52)) 53 (τ.2.1 53)) 54 (τ.2.1 54)) 55 (τ.2.1 55)) 57 (τ.2.1 57)) 58 (τ.2.1 58)) 59 (τ.2.1 59)) 60 (τ.2.1 60)) 61 (τ.2.1 61)) 62 (τ.2.1 62)) 63 (τ.2.1 63)) 64 (τ.2.1 64)) := by
    funext k
    unfold va_up
    by_cases q64 : k = 64
    · rw [if_pos q64, q64]
    rw [if_neg q64]
    by_cases q63 : k = 63
    · rw [if_pos q63, q63]
    rw [if_neg q63]
    by_cases q62 : k = 62
    · rw [if_pos q62, q62]
    rw [if_neg q62]
    by_cases q61 : k = 61
    · rw [if_pos q61, q61]
    rw [if_neg q61]
    by_cases q60 : k = 60
    · rw [if_pos q60, q60]
    rw [if_neg q60]
    by_cases q59 : k = 59
    · rw [if_pos q59, q59]
    rw [if_neg q59]
    by_cases q58 : k = 58
    · rw [if_pos q58, q58]
    rw [if_neg q58]
    by_cases q57 : k = 57
    · rw [if_pos q57, q57]
    rw [if_neg q57]
    by_cases q55 : k = 55
    · rw [if_pos q55, q55]
    rw [if_neg q55]
    by_cases q54 : k = 54
    · rw [if_pos q54, q54]
    rw [if_neg q54]
    by_cases q53 : k = 53
    · rw [if_pos q53, q53]
    rw [if_neg q53]
    by_cases q52 : k = 52
    · rw [if_pos q52, q52]
    rw [if_neg q52]
    exact h.2.1 k q52 q53 q54 q55 q57 q58 q59 q60 q61 q62 q63 q64
  have e3 : (τ.1, τ.2.1, τ.2.2) = _ := congr (congrArg Prod.mk e1) (congr (congrArg Prod.mk e2) h.2.2)
  exact e3
def fr2m (σ τ : St) : Prop := (∀ k, ¬ k = 5 → ¬ k = 6 → ¬ k = 8 → ¬ k = 9 → ¬ k = 10 → ¬ k = 11 → ¬ k = 12 → ¬ k = 13 → ¬ k = 14 → ¬ k = 15 → ¬ k = 16 → τ.1 k = σ.1 k) ∧ (∀ k, ¬ k = 32 → ¬ k = 33 → ¬ k = 36 → ¬ k = 37 → τ.2.1 k = σ.2.1 k) ∧ τ.2.2 = σ.2.2
theorem expm {σ τ : St} (h : fr2m σ τ) : ∃ (v5 v6 v8 v9 v10 v11 v12 v13 v14 v15 v16 : Int32) (f32 f33 f36 f37 : Nat → Int32), τ = ((va_up (va_up (va_up (va_up (va_up (va_up (va_up (va_up (va_up (va_up (va_up σ.1 5 v5) 6 v6) 8 v8) 9 v9) 10 v10) 11 v11) 12 v12) 13 v13) 14 v14) 15 v15) 16 v16), (va_up (va_up (va_up (va_up σ.2.1 32 f32) 33 f33) 36 f36) 37 f37), σ.2.2) := by
  refine ⟨τ.1 5, τ.1 6, τ.1 8, τ.1 9, τ.1 10, τ.1 11, τ.1 12, τ.1 13, τ.1 14, τ.1 15, τ.1 16, τ.2.1 32, τ.2.1 33, τ.2.1 36, τ.2.1 37, ?_⟩
  have e1 : τ.1 = (va_up (va_up (va_up (va_up (va_up (va_up (va_up (va_up (va_up (va_up (va_up σ.1 5 (τ.1 5)) 6 (τ.1 6)) 8 (τ.1 8)) 9 (τ.1 9)) 10 (τ.1 10)) 11 (τ.1 11)) 12 (τ.1 12)) 13 (τ.1 13)) 14 (τ.1 14)) 15 (τ.1 15)) 16 (τ.1 16)) := by
    funext k
    unfold va_up
    by_cases q16 : k = 16
    · rw [if_pos q16, q16]
    rw [if_neg q16]
    by_cases q15 : k = 15
    · rw [if_pos q15, q15]
    rw [if_neg q15]
    by_cases q14 : k = 14
    · rw [if_pos q14, q14]
    rw [if_neg q14]
    by_cases q13 : k = 13
    · rw [if_pos q13, q13]
    rw [if_neg q13]
    by_cases q12 : k = 12
    · rw [if_pos q12, q12]
    rw [if_neg q12]
    by_cases q11 : k = 11
    · rw [if_pos q11, q11]
    rw [if_neg q11]
    by_cases q10 : k = 10
    · rw [if_pos q10, q10]
    rw [if_neg q10]
    by_cases q9 : k = 9
    · rw [if_pos q9, q9]
    rw [if_neg q9]
    by_cases q8 : k = 8
    · rw [if_pos q8, q8]
    rw [if_neg q8]
    by_cases q6 : k = 6
    · rw [if_pos q6, q6]
    rw [if_neg q6]
    by_cases q5 : k = 5
    · rw [if_pos q5, q5]
    rw [if_neg q5]
    exact h.1 k q5 q6 q8 q9 q10 q11 q12 q13 q14 q15 q16
  have e2 : τ.2.1 = (va_up (va_up (va_up (va_up σ.2.1 32 (τ.2.1 32)) 33 (τ.2.1 33)) 36 (τ.2.1 36)) 37 (τ.2.1 37)) := by
    funext k
    unfold va_up
    by_cases q37 : k = 37
    · rw [if_pos q37, q37]
    rw [if_neg q37]
    by_cases q36 : k = 36
    · rw [if_pos q36, q36]
    rw [if_neg q36]
    by_cases q33 : k = 33
    · rw [if_pos q33, q33]
    rw [if_neg q33]
    by_cases q32 : k = 32
    · rw [if_pos q32, q32]
    rw [if_neg q32]
    exact h.2.1 k q32 q33 q36 q37
  have e3 : (τ.1, τ.2.1, τ.2.2) = _ := congr (congrArg Prod.mk e1) (congr (congrArg Prod.mk e2) h.2.2)
  exact e3
def InvO (κ : Nat → Nat) (σx σm : St) : Prop := I_day (κ 0) σx σm ∧ I_sale (κ 1) σx σm ∧ I_land (κ 0) σx σm ∧ I_heir σx σm ∧ I_hold σx σm ∧ I_line (κ 2) (κ 3) σx σm ∧ I_leaf (κ 3) (κ 4) σx σm ∧ I_const σm ∧ I_claim (κ 3) (κ 8) σx σm ∧ I_look (κ 9) σx σm ∧ I_sheet σx σm
theorem inv_fr {κ : Nat → Nat} {σx τx σm τm : St} (hx : fr2x σx τx) (hm : fr2m σm τm) (h : InvO κ σx σm) : InvO κ τx τm := by
  obtain ⟨v5, v6, v7, v8, v9, v10, f52, f53, f54, f55, f57, f58, f59, f60, f61, f62, f63, f64, rfl⟩ := expx hx
  obtain ⟨w5, w6, w8, w9, w10, w11, w12, w13, w14, w15, w16, g32, g33, g36, g37, rfl⟩ := expm hm
  obtain ⟨hd, hs, hla, hhe, hho, hli, hle, hc, hcl, hlo, hsh⟩ := h
  exact ⟨hd, hs, hla, hhe, hho, hli, hle, hc, hcl, hlo, hsh⟩
def tbd (t : Nat) (σx σm : St) : Prop := ∃ a b, a + b ≤ 160 ∧ σx.2.1 63 t = nI a ∧ σx.2.1 64 t = nI (a + b) ∧ σm.2.1 33 (2 * t) = nI a ∧ σm.2.1 33 (2 * t + 1) = nI b ∧ (∀ k, k < a → cr (rC σx t k) (σm.2.1 32 (320 * t + k))) ∧ (∀ k, k < b → cr (rC σx t (a + k)) (σm.2.1 32 (320 * t + 160 + k))) ∧ okC (fun k => σm.2.1 32 (320 * t + k)) a ∧ okC (fun k => σm.2.1 32 (320 * t + 160 + k)) b
theorem okC_cg {f g : Nat → Int32} {n : Nat} (h : ∀ k, k < n → g k = f k) (hf : okC f n) : okC g n := by
  obtain ⟨dp, h1, h2, h3⟩ := hf
  exact ⟨dp, h1, h2, fun k hk => by rw [h k hk]; exact h3 k hk⟩
theorem tbd_old {n t : Nat} {σx τx σm τm : St} (hn : n ≤ 6) (ht : t < n) (f57 : τx.2.1 (57 + t) = σx.2.1 (57 + t)) (f63 : τx.2.1 63 t = σx.2.1 63 t) (f64 : τx.2.1 64 t = σx.2.1 64 t) (m33 : ∀ k, k < 2 * n → τm.2.1 33 k = σm.2.1 33 k) (m32 : ∀ k, k < 320 * n → τm.2.1 32 k = σm.2.1 32 k) (h : tbd t σx σm) : tbd t τx τm := by
  obtain ⟨a, b, h1, h2, h3, h4, h5, h6, h7, h8, h9⟩ := h
  have er : rC τx t = rC σx t := by rw [rC_e (show t < 6 by omega), rC_e (show t < 6 by omega), f57]
  refine ⟨a, b, h1, by rw [f63]; exact h2, by rw [f64]; exact h3, by rw [m33 _ (by omega)]; exact h4, by rw [m33 _ (by omega)]; exact h5, fun k hk => ?_, fun k hk => ?_, okC_cg (fun k hk => m32 (320 * t + k) (by omega)) h8, okC_cg (fun k hk => m32 (320 * t + 160 + k) (by omega)) h9⟩
  · rw [er, m32 (320 * t + k) (by omega)]; exact h6 k hk
  · rw [er, m32 (320 * t + 160 + k) (by omega)]; exact h7 k hk
theorem kp_v {N : Nat} {σ : St} (h : ix (σ.1 10) 6 = true) (hc : cpok 0 0 (σ.1 8) 160 160 = true) : fX0_keep N σ = some (σ.1 10 + 1 - 1, sI (aW (aW (sA σ (57 + (σ.1 10).toNatClampNeg) (va_cpy (σ.2.1 55) (σ.2.1 (57 + (σ.1 10).toNatClampNeg)) ((0 : Int32)).toNatClampNeg ((0 : Int32)).toNatClampNeg (σ.1 8).toNatClampNeg)) 63 (σ.1 10) (σ.1 9)) 64 (σ.1 10) (σ.1 8)) 10 (σ.1 10 + 1)) := (if_pos h).trans ((if_pos hc).trans (nm_t ((if_pos h).trans (nm_t ((if_pos h).trans (nm_t (nm_t rfl)))))))
theorem xkeep {N n a L : Nat} {σ : St} (h10 : σ.1 10 = nI n) (hn : n < 6) (h8 : σ.1 8 = nI L) (h9 : σ.1 9 = nI a) (hL : L ≤ 160) : ∃ τ, fX0_keep N σ = some (nI n, τ) ∧ τ.1 10 = nI (n + 1) ∧ (∀ k, ¬ k = 10 → τ.1 k = σ.1 k) ∧ (∀ k, ¬ k = 57 + n → ¬ k = 63 → ¬ k = 64 → τ.2.1 k = σ.2.1 k) ∧ τ.2.2 = σ.2.2 ∧ (∀ k, k < L → τ.2.1 (57 + n) k = σ.2.1 55 k) ∧ τ.2.1 63 = upd (σ.2.1 63) n (nI a) ∧ τ.2.1 64 = upd (σ.2.1 64) n (nI L) := by
  have hc : cpok 0 0 (σ.1 8) 160 160 = true := by
    rw [h8]
    refine decide_eq_true ⟨by decide, by decide, nI_pos (by omega), ?_, ?_⟩
    · rw [nI_clamp (by omega)]
      show 0 + L ≤ 160
      omega
    · rw [nI_clamp (by omega)]
      show 0 + L ≤ 160
      omega
  have e := kp_v (N := N) (σ := σ) (by rw [h10]; exact ix_nI hn (by decide)) hc
  rw [h10, h8, h9, aW_nI (show n < 2 ^ 31 by omega), aW_nI (show n < 2 ^ 31 by omega), nI_clamp (show n < 2 ^ 31 by omega), nI_clamp (show L < 2 ^ 31 by omega), nI_1, nI_pred] at e
  obtain ⟨G, hG⟩ : ∃ G : Nat → Int32, G = va_cpy (σ.2.1 55) (σ.2.1 (57 + n)) ((0 : Int32)).toNatClampNeg ((0 : Int32)).toNatClampNeg L := ⟨_, rfl⟩
  rw [← hG] at e
  refine ⟨_, e, rfl, fun k hk => ?_, fun k k1 k2 k3 => ?_, rfl, fun k hk => ?_, ?_, ?_⟩
  · show va_up σ.1 10 _ k = _
    rw [up_n hk]
  · show va_up (va_up (va_up σ.2.1 (57 + n) G) 63 _) 64 _ k = _
    rw [up_n k3, up_n k2, up_n k1]
  · show va_up (va_up (va_up σ.2.1 (57 + n) G) 63 _) 64 _ (57 + n) k = _
    rw [up_n (by omega), up_n (by omega), up_e, hG]
    show (if 0 ≤ k ∧ k < 0 + L then σ.2.1 55 (0 + (k - 0)) else _) = _
    rw [if_pos (by omega), Nat.sub_zero, Nat.zero_add]
  · show va_up (va_up (va_up σ.2.1 (57 + n) G) 63 (upd (va_up σ.2.1 (57 + n) G 63) n (nI a))) 64 (upd (va_up (va_up σ.2.1 (57 + n) G) 63 (upd (va_up σ.2.1 (57 + n) G 63) n (nI a)) 64) n (nI L)) 63 = _
    rw [up_n (by decide), up_e, up_n (by omega)]
  · show va_up (va_up (va_up σ.2.1 (57 + n) G) 63 (upd (va_up σ.2.1 (57 + n) G 63) n (nI a))) 64 (upd (va_up (va_up σ.2.1 (57 + n) G) 63 (upd (va_up σ.2.1 (57 + n) G 63) n (nI a)) 64) n (nI L)) 64 = _
    rw [up_e, up_n (by decide), up_n (by omega)]
theorem tx_4 {N : Nat} {σ : St} (h : ¬ σ.1 10 < 6) : fX11_text N σ = some (-4, σ) := if_neg h
theorem tx_f {N : Nat} {σ σ1 : St} {r : Int32} (h : σ.1 10 < 6) (hr : fX8_readTape N σ = some (r, σ1)) (hn : ¬ r = -1) : fX11_text N σ = some (-100 - r, σ1) := (if_pos h).trans ((bd2_some hr).trans (if_neg hn))
theorem tx_k {N : Nat} {σ σ1 σ2 : St} {r : Int32} (h : σ.1 10 < 6) (hr : fX8_readTape N σ = some (-1, σ1)) (hk : fX0_keep N σ1 = some (r, σ2)) : fX11_text N σ = some (r, σ2) := (if_pos h).trans ((bd2_some hr).trans ((if_pos rfl).trans (bd2_some hk)))
theorem tm_4 {N : Nat} {σ : St} (h : σ.1 6 = 6) : fX12_text N σ = some (-4, σ) := if_pos h
theorem tm_f {N : Nat} {σ σ1 : St} {r : Int32} (h : ¬ σ.1 6 = 6) (hr : fX12_readAll N σ (σ.1 6) = some (r, σ1)) (hn : ¬ r = -1) : fX12_text N σ = some (-100 - r, sI σ1 5 0) := (if_neg h).trans ((bd2_some hr).trans (nm_t (if_neg hn)))
theorem tm_k {N : Nat} {σ σ1 : St} {y z : Int32} (h : ¬ σ.1 6 = 6) (hr : fX12_readAll N σ (σ.1 6) = some (-1, σ1)) (hy : σ1.1 6 + 1 = y) (hz : y - 1 = z) : fX12_text N σ = some (z, sI (sI σ1 5 0) 6 y) := by
  subst hy
  subst hz
  exact (if_neg h).trans ((bd2_some hr).trans (nm_t ((if_pos rfl).trans (nm_t rfl))))
theorem s_text {N : Nat} (hN : 200 ≤ N) : SP_text Inv N := by
  intro σx σm hI
  obtain ⟨κ, hd, hs, hla, hhe, hho, hli, hle, hc, ht, hx, hcl, hlo, hsh⟩ := id hI
  have hO : InvO κ σx σm := ⟨hd, hs, hla, hhe, hho, hli, hle, hc, hcl, hlo, hsh⟩
  obtain ⟨x1, x2, x3, x4, x5, x6, x7⟩ := hx
  have x7 : ∀ t, t < κ 6 → tbd t σx σm := x7
  by_cases h6 : κ 6 = 6
  · exact ⟨-4, σx, σm, tx_4 (by rw [x2, h6]; decide), tm_4 (by rw [x3, h6]; rfl), hI⟩
  have hn6 : κ 6 < 6 := by omega
  have hx6 : σx.1 10 < 6 := by rw [x2]; exact nI_lt (b := 6) hn6 (by decide)
  have hm6 : ¬ σm.1 6 = 6 := by rw [x3]; exact fun z => h6 ((nI_eq (b := 6) (by omega) (by decide)).mp z)
  have hb : ∀ k, k < κ 5 → σx.2.1 51 k = nI (σx.2.1 51 k).toInt.toNat ∧ (σx.2.1 51 k).toInt.toNat < 256 := fun k hk => by
    obtain ⟨r1, r2⟩ := (ht.2.2.2 k hk).1
    have r2 : (σx.2.1 51 k).toInt ≤ 255 := r2
    refine ⟨?_, by omega⟩
    apply Int32.toInt_inj.mp
    rw [nI_toInt (by omega)]
    omega
  have hB : tpX (fun k => (σx.2.1 51 k).toInt.toNat) (κ 5) σx := ⟨ht.1, ht.2.1, hb⟩
  have hM : tpM (fun k => (σx.2.1 51 k).toInt.toNat) (κ 5) σm := ⟨ht.1, ht.2.2.1, fun k hk => ⟨by
    rw [(ht.2.2.2 k hk).2]
    show _ = (nI (σx.2.1 51 k).toInt.toNat).toInt8.toInt32
    rw [← (hb k hk).1], (hb k hk).2⟩, hc.2.2.1, hc.2.2.2⟩
  generalize (fun k => (σx.2.1 51 k).toInt.toNat) = b at hB hM
  obtain ⟨la, l1, l2, l3⟩ := la_ex b (κ 5)
  have e1 := xtape hN hB l1 l2 l3
  have e2 := mread (n := κ 6) hN hM hn6 l1 l2 l3
  have e3 : ∀ j c c', rpD (TL b (κ 5)) (NML b (κ 5)) = (j, some (c, c')) → gdC c ∧ gdC c' := fun j c c' h => rp_gd (fun i z => (tok_v.2 z).1) h
  have hple := PLL_le b (κ 5)
  generalize rpD (TL b (κ 5)) (NML b (κ 5)) = R at e1 e2 e3
  obtain ⟨j, oc⟩ := R
  cases oc with
  | none =>
    obtain ⟨τx, a1, a2, a3⟩ := e1
    obtain ⟨τm, c1, c2⟩ := e2
    have n1 : ¬ nI (PLL b (κ 5) j) = -1 := nI_m1 (by have := hple j; have := ht.1; omega)
    have fx : fr2x σx τx := ⟨fun k q5 q6 q7 q8 q9 q10 => a2.1 k q5 q6 q7 q8 q9, fun k q52 q53 q54 q55 q57 q58 q59 q60 q61 q62 q63 q64 => a2.2.1 k q52 q53 q54 q55, a2.2.2⟩
    have fm : fr2m σm (sI τm 5 0) := ⟨fun k q5 q6 q8 q9 q10 q11 q12 q13 q14 q15 q16 => by
      show va_up τm.1 5 0 k = _
      rw [up_n q5]; exact c2.1.1 k (by omega), fun k q32 q33 q36 q37 => c2.1.2.1 k q32 q33 q36 q37, c2.1.2.2⟩
    obtain ⟨hd', hs', hla', hhe', hho', hli', hle', hc', hcl', hlo', hsh'⟩ := inv_fr fx fm hO
    refine ⟨_, τx, sI τm 5 0, tx_f hx6 a1 n1, tm_f hm6 (by rw [x3]; exact c1) n1, va_up κ 5 0, hd', hs', hla', hhe', hho', hli', hle', hc', ⟨Nat.zero_le _, a3, rfl, fun k hk => absurd hk (Nat.not_lt_zero k)⟩, ⟨x1, ?_, ?_, x4, ?_, ?_, fun t ht => ?_⟩, hcl', hlo', hsh'⟩
    · rw [a2.1 10 (by decide) (by decide) (by decide) (by decide) (by decide)]; exact x2
    · show τm.1 6 = _
      rw [c2.1.1 6 (by omega)]; exact x3
    · rw [a2.1 11 (by decide) (by decide) (by decide) (by decide) (by decide)]; exact x5
    · show τm.1 7 = _
      rw [c2.1.1 7 (by omega)]; exact x6
    · have ht : t < κ 6 := ht
      have h57 : τx.2.1 (57 + t) = σx.2.1 (57 + t) := a2.2.1 (57 + t) (by omega) (by omega) (by omega) (by omega)
      have h63 : τx.2.1 63 = σx.2.1 63 := a2.2.1 63 (by decide) (by decide) (by decide) (by decide)
      have h64 : τx.2.1 64 = σx.2.1 64 := a2.2.1 64 (by decide) (by decide) (by decide) (by decide)
      exact tbd_old (τm := sI τm 5 0) x1 ht h57 (by rw [h63]) (by rw [h64]) c2.2.1 c2.2.2 (x7 t ht)
  | some cc =>
    obtain ⟨c, c'⟩ := cc
    obtain ⟨g1, g2⟩ := e3 j c c' rfl
    obtain ⟨τ0, g, a1, a2, a3, a4, a5, a6, a7⟩ := e1
    obtain ⟨τm, c1, c2, c3, c4, c5, c6⟩ := e2
    have a10 : τ0.1 10 = nI (κ 6) := by
      rw [a2.1 10 (by decide) (by decide) (by decide) (by decide) (by decide)]; exact x2
    obtain ⟨τx, k1, k2, k3, k4, k5, k6, k7, k8⟩ := xkeep (N := N) a10 hn6 a4 a5 a7
    have fx : fr2x σx τx := ⟨fun k q5 q6 q7 q8 q9 q10 => (k3 k q10).trans (a2.1 k q5 q6 q7 q8 q9), fun k q52 q53 q54 q55 q57 q58 q59 q60 q61 q62 q63 q64 => (k4 k (by omega) q63 q64).trans (a2.2.1 k q52 q53 q54 q55), k5.trans a2.2.2⟩
    have m6 : τm.1 6 = nI (κ 6) := by rw [c2.1.1 6 (by omega)]; exact x3
    have fm : fr2m σm (sI (sI τm 5 0) 6 (nI (κ 6 + 1))) := ⟨fun k q5 q6 q8 q9 q10 q11 q12 q13 q14 q15 q16 => by
      show va_up (va_up τm.1 5 0) 6 _ k = _
      rw [up_n q6, up_n q5]; exact c2.1.1 k (by omega), fun k q32 q33 q36 q37 => c2.1.2.1 k q32 q33 q36 q37, c2.1.2.2⟩
    obtain ⟨hd', hs', hla', hhe', hho', hli', hle', hc', hcl', hlo', hsh'⟩ := inv_fr fx fm hO
    have a63 : τ0.2.1 63 = σx.2.1 63 := a2.2.1 63 (by decide) (by decide) (by decide) (by decide)
    have a64 : τ0.2.1 64 = σx.2.1 64 := a2.2.1 64 (by decide) (by decide) (by decide) (by decide)
    refine ⟨nI (κ 6), τx, sI (sI τm 5 0) 6 (nI (κ 6 + 1)), tx_k hx6 a1 k1, tm_k hm6 (by rw [x3]; exact c1) (by rw [m6, nI_1]) (nI_pred (κ 6)), va_up (va_up κ 5 0) 6 (κ 6 + 1), hd', hs', hla', hhe', hho', hli', hle', hc', ⟨Nat.zero_le _, (k3 5 (by decide)).trans a3, rfl, fun k hk => absurd hk (Nat.not_lt_zero k)⟩, ⟨hn6, k2, rfl, Nat.lt_succ_of_lt x4, ?_, ?_, fun t ht => ?_⟩, hcl', hlo', hsh'⟩
    · rw [k3 11 (by decide), a2.1 11 (by decide) (by decide) (by decide) (by decide) (by decide)]; exact x5
    · show τm.1 7 = _
      rw [c2.1.1 7 (by omega)]; exact x6
    · have ht : t < κ 6 + 1 := ht
      by_cases q : t = κ 6
      · show tbd t τx (sI (sI τm 5 0) 6 (nI (κ 6 + 1)))
        rw [q]
        have hX : ∀ k x, (c ++ c')[k]? = some x → rC τx (κ 6) k = xcD x := fun k x hx => by
          have hk := (List.getElem?_eq_some_iff.mp hx).1
          rw [List.length_append] at hk
          rw [rC_e hn6, k6 k hk, a6]
          have := ext_at g (c ++ c') 0 k x hx
          rw [Nat.zero_add] at this
          exact this
        refine ⟨c.length, c'.length, a7, by rw [k7, up_s], by rw [k8, up_s], c3, c4, fun k hk => ?_, fun k hk => ?_, okC_of g1 c5, okC_of g2 c6⟩
        · have hxk : c[k]? = some c[k] := List.getElem?_eq_getElem hk
          have hxk2 : (c ++ c')[k]? = some c[k] := by rw [List.getElem?_append_left hk]; exact hxk
          rw [hX k _ hxk2, show (sI (sI τm 5 0) 6 (nI (κ 6 + 1))).2.1 32 (320 * κ 6 + k) = mcD c[k] from c5 k _ hxk]
          exact cr_of (g1.1 _ (List.getElem_mem hk))
        · have hxk : c'[k]? = some c'[k] := List.getElem?_eq_getElem hk
          have hxk2 : (c ++ c')[c.length + k]? = some c'[k] := by rw [List.getElem?_append_right (by omega), Nat.add_sub_cancel_left]; exact hxk
          rw [hX _ _ hxk2, show (sI (sI τm 5 0) 6 (nI (κ 6 + 1))).2.1 32 (320 * κ 6 + 160 + k) = mcD c'[k] from c6 k _ hxk]
          exact cr_of (g2.1 _ (List.getElem_mem hk))
      · have ht : t < κ 6 := by omega
        have h57 : τx.2.1 (57 + t) = σx.2.1 (57 + t) := (k4 (57 + t) (by omega) (by omega) (by omega)).trans (a2.2.1 (57 + t) (by omega) (by omega) (by omega) (by omega))
        exact tbd_old (τm := sI (sI τm 5 0) 6 (nI (κ 6 + 1))) x1 ht h57 (by rw [k7, pk_un q, a63]) (by rw [k8, pk_un q, a64]) c2.2.1 c2.2.2 (x7 t ht)
