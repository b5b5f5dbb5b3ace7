/-! PURE: THE START: THE ACT -/
def actL : List Nat := [112, 97, 121, 115, 32, 110, 101, 97, 114, 32, 60, 32, 54, 32, 59, 32, 115, 117, 109, 32, 49, 48, 32, 42, 32, 115, 112, 97, 110, 32, 43, 32, 119, 111, 114, 116, 104, 32, 59]
def actB (k : Nat) : Nat := actL.getD k 0
theorem actb_e : ∀ k : Fin 39, chS 0 (nI k.val) = nI (actB k.val) ∧ actB k.val < 256 := by decide +kernel
theorem act_r : rpD (TL actB 39) (NML actB 39) = (12, some ([10136, 6, 10060], [10, 10135, 10042, 10139, 10043])) := by decide +kernel
theorem tk_r {N : Nat} {σ : St} {x1 y : Int32} (h : σ.1 5 < 160) (h1 : ix (σ.1 5) 160 = true) (hy : σ.1 5 + 1 = y) : fX8_take N σ x1 = some (sI (aW σ 51 (σ.1 5) x1) 5 y) := by
  subst hy
  exact (if_pos h).trans ((if_pos h1).trans (nm_t (nm_t rfl)))
theorem ta_s {N f : Nat} {σ : St} {x1 : Int32} : fX8_takeTheAct_2 N (f + 1) σ x1 = fX8_takeTheAct_2b N (fX8_takeTheAct_2 N f) σ x1 := rfl
theorem ta_e {N : Nat} {σ : St} {k2 : St → Int32 → Option St} {x1 : Int32} (h : nI (stLen.getD 0 0) ≤ x1) : fX8_takeTheAct_2b N k2 σ x1 = some σ := if_pos h
theorem ta_k {N : Nat} {σ σ' : St} {k2 : St → Int32 → Option St} {x1 v y : Int32} (h : ¬ nI (stLen.getD 0 0) ≤ x1) (h1 : ix x1 (stLen.getD 0 0) = true) (hv : chS 0 x1 = v) (ht : fX8_take N σ v = some σ') (hy : x1 + 1 = y) : fX8_takeTheAct_2b N k2 σ x1 = k2 σ' y := by
  subst hv
  subst hy
  exact (if_neg h).trans ((if_pos h1).trans ((bd_some ht).trans rfl))
def tA (σ : St) (i : Nat) (τ : St) : Prop := (∀ k, ¬ k = 5 → τ.1 k = σ.1 k) ∧ τ.1 5 = nI i ∧ (∀ k, ¬ k = 51 → τ.2.1 k = σ.2.1 k) ∧ τ.2.2 = σ.2.2 ∧ ∀ k, k < i → τ.2.1 51 k = nI (actB k)
theorem ta_l {N : Nat} {σ : St} : ∀ (m i f : Nat) (τ : St), i + m = 39 → m < f → tA σ i τ → ∃ τ', fX8_takeTheAct_2 N f τ (nI i) = some τ' ∧ tA σ 39 τ' := by
  have e39 : stLen.getD 0 0 = 39 := rfl
  intro m
  induction m with
  | zero =>
    intro i f τ hi hf h
    obtain ⟨f, rfl⟩ : ∃ g, f = g + 1 := ⟨f - 1, by omega⟩
    have : i = 39 := by omega
    subst this
    exact ⟨τ, by rw [ta_s, ta_e (by rw [e39]; exact nI_le (Nat.le_refl _) (by decide))], h⟩
  | succ m ih =>
    intro i f τ hi hf h
    obtain ⟨f, rfl⟩ : ∃ g, f = g + 1 := ⟨f - 1, by omega⟩
    obtain ⟨h1, h2, h3, h4, h5⟩ := h
    have c1 : chS 0 (nI i) = nI (actB i) := (actb_e ⟨i, by omega⟩).1
    have e := tk_r (N := N) (σ := τ) (x1 := nI (actB i)) (y := nI (i + 1)) (by rw [h2]; exact nI_lt (b := 160) (by omega) (by decide)) (by rw [h2]; exact ix_nI (by omega) (by decide)) (by rw [h2, nI_1])
    rw [h2, aW_nI (show i < 2 ^ 31 by omega)] at e
    rw [ta_s, ta_k (by rw [e39]; exact nI_ge (by omega) (by decide)) (by rw [e39]; exact ix_nI (by omega) (by decide)) c1 e (nI_1 i)]
    refine ih (i + 1) f _ (by omega) (by omega) ⟨fun k hk => ?_, rfl, fun k hk => ?_, h4, fun k hk => ?_⟩
    · show va_up τ.1 5 _ k = _
      rw [up_n hk]; exact h1 k hk
    · show va_up τ.2.1 51 _ k = _
      rw [up_n hk]; exact h3 k hk
    · show upd (τ.2.1 51) i (nI (actB i)) k = _
      by_cases q : k = i
      · subst q; rw [up_s]
      · rw [pk_un q]; exact h5 k (by omega)
theorem rg0 {hi : Int} (h : 0 ≤ hi) : rg 0 hi 0 := ⟨by decide, by rw [show (0 : Int32).toInt = 0 from rfl]; exact h⟩
theorem eq0 {lo hi : Int} {f g : Nat → Int32} : eqR 0 lo hi f g := fun k hk => absurd hk (Nat.not_lt_zero k)
theorem z19 : ∀ k : Fin 48, flI (fun _ => 0) 48 10 k.val = mI_7 k.val ∧ (1 ≤ (flI (fun _ => 0) 48 10 k.val).toInt ∧ (flI (fun _ => 0) 48 10 k.val).toInt ≤ 999) := by decide +kernel
theorem z78 : ∀ k : Fin 4, flI (fun _ => 0) 4 (-1) k.val = mI_52 k.val ∧ (-1 ≤ (flI (fun _ => 0) 4 (-1) k.val).toInt ∧ (flI (fun _ => 0) 4 (-1) k.val).toInt ≤ 2) ∧ flI (fun _ => 0) 4 (-1) k.val = -1 := by decide +kernel
def κ00 : Nat → Nat := fun k => if k = 6 then 1 else 0
theorem o_start (v : Int32) (f : Nat → Int32) : InvO κ00 (va_up σx00.1 5 v, va_up σx00.2.1 51 f, σx00.2.2) σm0 := by
  have n0 : ∀ {p : Prop} {k : Nat}, k < 0 → p := fun h => absurd h (Nat.not_lt_zero _)
  refine ⟨⟨Nat.zero_le _, rfl, rfl⟩, ⟨Nat.zero_le _, rfl, rfl, eq0, eq0, eq0⟩, ⟨fun k _ => ⟨rfl, rg0 (by decide)⟩, fun k _ => ⟨rfl, rg0 (by decide)⟩, fun k hk => z19 ⟨k, hk⟩, fun k _ => ⟨rfl, rg0 (by decide)⟩, fun k _ => ⟨rfl, rg0 (by decide)⟩, fun k _ => ⟨rfl, rg0 (by decide)⟩, fun k _ => ⟨rfl, rg0 (by decide)⟩⟩, fun i j hi hj => ?_, fun k _ => ⟨rfl, rg0 (by decide)⟩, ⟨Nat.zero_le _, rfl, rfl, Nat.zero_le _, rfl, rfl, eq0, eq0, eq0, eq0, eq0, fun k hk => n0 hk⟩, ⟨Nat.zero_le _, rfl, rfl, eq0, fun k hk => n0 hk, eq0, eq0, fun k hk => n0 hk, fun k _ => ⟨rfl, rg0 (by decide)⟩, eq0, fun k _ => ⟨rfl, rg0 (by decide)⟩, fun k _ _ => ⟨rfl, rfl⟩⟩, ⟨rfl, rfl, rfl, rfl⟩, ⟨Nat.zero_le _, rfl, rfl, eq0, fun k hk => n0 hk, eq0, rfl⟩, ⟨Nat.zero_le _, rfl, rfl, eq0, fun k hk => n0 hk⟩, ⟨fun k hk => ⟨(z78 ⟨k, hk⟩).1, (z78 ⟨k, hk⟩).2.1⟩, fun k _ => ⟨rfl, rg0 (by decide)⟩, fun i j hi _ hne => absurd (z78 ⟨i, hi⟩).2.2 hne⟩⟩
  rcases (show i = 0 ∨ i = 1 ∨ i = 2 ∨ i = 3 ∨ i = 4 ∨ i = 5 ∨ i = 6 ∨ i = 7 ∨ i = 8 ∨ i = 9 by omega) with rfl | rfl | rfl | rfl | rfl | rfl | rfl | rfl | rfl | rfl
  · exact ⟨rfl, rg0 (by decide)⟩
  · exact ⟨rfl, rg0 (by decide)⟩
  · exact ⟨rfl, rg0 (by decide)⟩
  · exact ⟨rfl, rg0 (by decide)⟩
  · exact ⟨rfl, rg0 (by decide)⟩
  · exact ⟨rfl, rg0 (by decide)⟩
  · exact ⟨rfl, rg0 (by decide)⟩
  · exact ⟨rfl, rg0 (by decide)⟩
  · exact ⟨rfl, rg0 (by decide)⟩
  · exact ⟨rfl, rg0 (by decide)⟩
theorem z32a : ∀ k : Fin 3, mI_32 (320 * 0 + k.val) = mcD ([10136, 6, 10060].getD k.val 0) := by decide +kernel
theorem z32b : ∀ k : Fin 5, mI_32 (320 * 0 + 160 + k.val) = mcD ([10, 10135, 10042, 10139, 10043].getD k.val 0) := by decide +kernel
theorem z33 : mI_33 (2 * 0) = nI 3 ∧ mI_33 (2 * 0 + 1) = nI 5 := by decide +kernel
theorem gD_of {l : List Nat} {k x : Nat} (h : l[k]? = some x) : k < l.length ∧ l.getD k 0 = x := by
  refine ⟨(List.getElem?_eq_some_iff.mp h).1, ?_⟩
  rw [List.getD_eq_getElem?_getD, h]; rfl
theorem s_start {N : Nat} (hN : 200 ≤ N) : ∃ σ1 r1 σ2 r2 σ3, fX8_takeTheAct N σx00 = some σ1 ∧ fX8_readTape N σ1 = some (r1, σ2) ∧ fX0_keep N σ2 = some (r2, σ3) ∧ Inv σ3 σm0 := by
  obtain ⟨σ1, e1, t1, t2, t3, t4, t5⟩ := ta_l (N := N) (σ := σx00) 39 0 N σx00 (by decide) (by omega) ⟨fun _ _ => rfl, rfl, fun _ _ => rfl, rfl, fun k hk => absurd hk (Nat.not_lt_zero k)⟩
  have hB : tpX actB 39 σ1 := ⟨by decide, t2, fun k hk => ⟨t5 k hk, (actb_e ⟨k, hk⟩).2⟩⟩
  obtain ⟨la, l1, l2, l3⟩ := la_ex actB 39
  have hT := xtape hN hB l1 l2 l3
  have e3 := rp_gd (fun i z => (tok_v.2 z).1) act_r
  rw [act_r] at hT
  obtain ⟨τ0, g, a1, a2, a3, a4, a5, a6, a7⟩ := hT
  obtain ⟨g1, g2⟩ := e3
  have a10 : τ0.1 10 = nI 0 := by
    rw [a2.1 10 (by decide) (by decide) (by decide) (by decide) (by decide), t1 10 (by decide)]; rfl
  obtain ⟨τx, k1, k2, k3, k4, k5, k6, k7, k8⟩ := xkeep (N := N) a10 (by decide) a4 a5 a7
  refine ⟨σ1, -1, τ0, nI 0, τx, e1, a1, k1, κ00, ?_⟩
  have fx : fr2x σ1 τx := ⟨fun k q5 q6 q7 q8 q9 q10 => (k3 k q10).trans (a2.1 k q5 q6 q7 q8 q9), fun k q52 q53 q54 q55 q57 q58 q59 q60 q61 q62 q63 q64 => (k4 k (by omega) q63 q64).trans (a2.2.1 k q52 q53 q54 q55), k5.trans a2.2.2⟩
  have fm : fr2m σm0 σm0 := ⟨fun _ _ _ _ _ _ _ _ _ _ _ _ => rfl, fun _ _ _ _ _ => rfl, rfl⟩
  have x1 : σ1.1 = va_up σx00.1 5 (σ1.1 5) := by
    funext k
    by_cases q : k = 5
    · subst q; rw [up_e]
    · rw [up_n q]; exact t1 k q
  have x2 : σ1.2.1 = va_up σx00.2.1 51 (σ1.2.1 51) := by
    funext k
    by_cases q : k = 51
    · subst q; rw [up_e]
    · rw [up_n q]; exact t3 k q
  have x3 : (σ1.1, σ1.2.1, σ1.2.2) = (va_up σx00.1 5 (σ1.1 5), va_up σx00.2.1 51 (σ1.2.1 51), σx00.2.2) := congr (congrArg Prod.mk x1) (congr (congrArg Prod.mk x2) t4)
  have hO : InvO κ00 σ1 σm0 := by
    have h := o_start (σ1.1 5) (σ1.2.1 51)
    rw [← x3] at h
    exact h
  obtain ⟨hd', hs', hla', hhe', hho', hli', hle', hc', hcl', hlo', hsh'⟩ := inv_fr fx fm hO
  have a63 : τx.2.1 63 0 = nI 3 := by rw [k7, up_s]; rfl
  have a64 : τx.2.1 64 0 = nI (3 + 5) := by rw [k8, up_s]; rfl
  have hX : ∀ k x, ([10136, 6, 10060] ++ [10, 10135, 10042, 10139, 10043] : List Nat)[k]? = some x → rC τx 0 k = xcD x := fun k x hx => by
    have hk := (List.getElem?_eq_some_iff.mp hx).1
    rw [rC_e (by decide), k6 k hk, a6]
    have := ext_at g _ 0 k x hx
    rw [Nat.zero_add] at this
    exact this
  have q1 : ∀ k x, ([10136, 6, 10060] : List Nat)[k]? = some x → σm0.2.1 32 (320 * 0 + k) = mcD x := fun k x hx => by
    obtain ⟨i1, i2⟩ := gD_of hx
    rw [← i2]; exact z32a ⟨k, i1⟩
  have q2 : ∀ k x, ([10, 10135, 10042, 10139, 10043] : List Nat)[k]? = some x → σm0.2.1 32 (320 * 0 + 160 + k) = mcD x := fun k x hx => by
    obtain ⟨i1, i2⟩ := gD_of hx
    rw [← i2]; exact z32b ⟨k, i1⟩
  have hb : tbd 0 τx σm0 := by
    refine ⟨3, 5, by decide, a63, a64, z33.1, z33.2, fun k hk => ?_, fun k hk => ?_, okC_of g1 q1, okC_of g2 q2⟩
    · have hxk : ([10136, 6, 10060] : List Nat)[k]? = some ([10136, 6, 10060] : List Nat)[k] := List.getElem?_eq_getElem hk
      have hxk2 : ([10136, 6, 10060] ++ [10, 10135, 10042, 10139, 10043] : List Nat)[k]? = some ([10136, 6, 10060] : List Nat)[k] := by rw [List.getElem?_append_left hk]; exact hxk
      rw [hX k _ hxk2, q1 k _ hxk]
      exact cr_of (g1.1 _ (List.getElem_mem hk))
    · have hxk : ([10, 10135, 10042, 10139, 10043] : List Nat)[k]? = some ([10, 10135, 10042, 10139, 10043] : List Nat)[k] := List.getElem?_eq_getElem hk
      have hxk2 : ([10136, 6, 10060] ++ [10, 10135, 10042, 10139, 10043] : List Nat)[3 + k]? = some ([10, 10135, 10042, 10139, 10043] : List Nat)[k] := by
        rw [List.getElem?_append_right (show ([10136, 6, 10060] : List Nat).length ≤ 3 + k from Nat.le_add_right 3 k), show 3 + k - ([10136, 6, 10060] : List Nat).length = k from Nat.add_sub_cancel_left 3 k]; exact hxk
      rw [hX _ _ hxk2, q2 k _ hxk]
      exact cr_of (g2.1 _ (List.getElem_mem hk))
  refine ⟨hd', hs', hla', hhe', hho', hli', hle', hc', ⟨Nat.zero_le _, (k3 5 (by decide)).trans a3, rfl, fun k hk => absurd hk (Nat.not_lt_zero k)⟩, ⟨by decide, k2, rfl, by decide, ?_, rfl, fun t ht => ?_⟩, hcl', hlo', hsh'⟩
  · rw [k3 11 (by decide), a2.1 11 (by decide) (by decide) (by decide) (by decide) (by decide), t1 11 (by decide)]; rfl
  · have ht : t < 1 := ht
    have : t = 0 := by omega
    subst this
    exact hb
