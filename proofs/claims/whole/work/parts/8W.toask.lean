/-! PURE: toAsk -/
theorem t26_s {N f : Nat} {σ : St} {x1 x2 x3 x4 : Int32} : fX12_toAsk_26 N (f + 1) σ x1 x2 x3 x4 = fX12_toAsk_26b N (fX12_toAsk_26 N f) σ x1 x2 x3 x4 := rfl
def tlM (N : Nat) (σ : St) (x2 x3 : Int32) : Option (Int32 × St) := if x2 < (-1 : Int32) then (some ((-1 : Int32), σ)) else (if x2 < x3 then (bd (fX12_orderAll N σ x3) fun σ1 => if x2 = (-1 : Int32) then (some ((σ1.1 19), σ1)) else (if ix x2 6 = true then if ix (aR σ1 51 x2) 6 = true then some ((aR σ1 48 (aR σ1 51 x2)), σ1) else none else none)) else (some ((-1 : Int32), σ)))
theorem t26_end {N : Nat} {σ : St} {k26 : St → Int32 → Int32 → Int32 → Int32 → Option (Int32 × St)} {x1 x2 x3 x4 : Int32} (h : σ.1 3 ≤ x4) : fX12_toAsk_26b N k26 σ x1 x2 x3 x4 = tlM N σ x2 x3 := if_pos h
theorem t26_skip {N : Nat} {σ : St} {k26 : St → Int32 → Int32 → Int32 → Int32 → Option (Int32 × St)} {x1 x2 x3 x4 c : Int32} (h : ¬ σ.1 3 ≤ x4) (hb : (x1 >>> (x4 &&& 31)) &&& 1 = c) (hc : ¬ c = 1) : fX12_toAsk_26b N k26 σ x1 x2 x3 x4 = k26 σ x1 x2 x3 (x4 + 1) := by
  subst hb
  exact (if_neg h).trans (if_neg hc)
theorem t26_bad {N : Nat} {σ : St} {k26 : St → Int32 → Int32 → Int32 → Int32 → Option (Int32 × St)} {x1 x2 x3 x4 c : Int32} (h : ¬ σ.1 3 ≤ x4) (hb : (x1 >>> (x4 &&& 31)) &&& 1 = c) (hc : c = 1) (h6 : x3 = 6) : fX12_toAsk_26b N k26 σ x1 x2 x3 x4 = some (-2, σ) := by
  subst hb
  exact (if_neg h).trans ((if_pos hc).trans (if_pos h6))
theorem t26_take {N : Nat} {σ : St} {k26 : St → Int32 → Int32 → Int32 → Int32 → Option (Int32 × St)} {x1 x2 x3 x4 c r : Int32} (h : ¬ σ.1 3 ≤ x4) (hb : (x1 >>> (x4 &&& 31)) &&& 1 = c) (hc : c = 1) (h6 : ¬ x3 = 6) (h3 : ix x3 6 = true) (he : fX12_ends N (aW σ 48 x3 x4) x4 = some r) : fX12_toAsk_26b N k26 σ x1 x2 x3 x4 = k26 (aW (aW σ 48 x3 x4) 49 x3 r) x1 x2 (x3 + 1) (x4 + 1) := by
  subst hb
  refine (if_neg h).trans ((if_pos hc).trans ((if_neg h6).trans ((if_pos h3).trans ?_)))
  show bd (fX12_ends N (aW σ 48 x3 x4) x4) (fun r8 => if ix x3 6 = true then nm (aW (aW σ 48 x3 x4) 49 x3 r8) fun σ11 => nm (x3 + 1) fun v13 => fX12_toAsk_77 N k26 σ11 x1 x2 v13 x4 else none) = _
  rw [he]
  exact if_pos h3
theorem t26_loop {N b : Nat} {κ : Nat → Nat} {σx σm : St} {e : Nat → Int32} {x2 : Int32} (hN : 200 ≤ N) (hb : b < 2 ^ κ 3) (hK0 : InvK κ σx σm) (he : ∀ j, j < κ 3 → fX12_ends N σm (nI j) = some (e j)) : ∀ (m f i : Nat) (τ : St), i + m = κ 3 → m < f → InvK κ σx τ → chM (pcb b i) (sel b 16) (fun t => e (sel b 16 t)) τ → pcb b i ≤ 6 → ((pcb b (κ 3) ≤ 6 → ∃ τ', fX12_toAsk_26 N f τ (nI b) x2 (nI (pcb b i)) (nI i) = tlM N τ' x2 (nI (pcb b (κ 3))) ∧ InvK κ σx τ' ∧ chM (pcb b (κ 3)) (sel b 16) (fun t => e (sel b 16 t)) τ') ∧ (6 < pcb b (κ 3) → ∃ τ', fX12_toAsk_26 N f τ (nI b) x2 (nI (pcb b i)) (nI i) = some (-2, τ') ∧ InvK κ σx τ')) := by
  intro m
  induction m with
  | zero =>
    intro f i τ hi hf hK hM h6
    cases f with
    | zero => omega
    | succ f =>
      have ei : i = κ 3 := by omega
      subst ei
      obtain ⟨hd, hs, hla, hhe, hho, hli, hle, hc, hta, hx, hcl, hlo, hsh⟩ := id hK
      refine ⟨fun _ => ⟨τ, ?_, hK, hM⟩, fun h => by omega⟩
      rw [t26_s, t26_end (by rw [hli.2.2.2.2.2.1]; exact Int32.le_refl _)]
  | succ m ih =>
    intro f i τ hi hf hK hM h6
    cases f with
    | zero => omega
    | succ f =>
      obtain ⟨hd, hs, hla, hhe, hho, hli, hle, hc, hta, hx, hcl, hlo, hsh⟩ := id hK
      have h16 := hli.2.2.2.1
      have hiP : i < κ 3 := by omega
      have hb31 : b < 2 ^ 31 := Nat.lt_of_lt_of_le hb (Nat.pow_le_pow_right (by decide) (by omega))
      have hbit := shr_bt hb31 (show i < 31 by omega)
      have x3 : ¬ τ.1 3 ≤ nI i := by rw [hli.2.2.2.2.2.1]; exact nI_ge hiP (by omega)
      rw [t26_s]
      cases hbt : b.testBit i with
      | false =>
        rw [hbt] at hbit
        rw [t26_skip x3 hbit (by decide), nI_1, ← pcb_s0 hbt]
        exact ih f (i + 1) τ (by omega) (by omega) hK (by rw [pcb_s0 hbt]; exact hM) (by rw [pcb_s0 hbt]; exact h6)
      | true =>
        rw [hbt] at hbit
        by_cases q6 : pcb b i = 6
        · have : pcb b (i + 1) ≤ pcb b (κ 3) := cntB_n (κ 3) (by omega)
          rw [pcb_s1 hbt] at this
          refine ⟨fun h => by omega, fun _ => ⟨τ, ?_, hK⟩⟩
          exact t26_bad x3 hbit rfl (by rw [q6]; rfl)
        · obtain ⟨r, g, z1, z2, _⟩ := ends_e (N := N) (σx := σx) (σm := sA τ 48 (upd (τ.2.1 48) (pcb b i) (nI i))) hd hc hs hli hle hN hiP
          have er : r = e i := by
            obtain ⟨hd', hs', hla', hhe', hho', hli', hle', hc', hr'⟩ := id hK0
            obtain ⟨r', g', y1, y2, _⟩ := ends_e (N := N) (σx := σx) (σm := σm) hd' hc' hs' hli' hle' hN hiP
            have e1 : r' = e i := Option.some.inj (y2.symm.trans (he i hiP))
            have e2 := Option.some.inj (z1.symm.trans y1)
            have e3 : r = r' := congrArg Prod.fst e2
            rw [e3, e1]
          subst er
          have es : sel b 16 (pcb b i) = i := sel_e hbt 16 (by omega)
          rw [t26_take x3 hbit rfl (fun z => q6 ((nI_eq (b := 6) (by omega) (by decide)).mp z)) (ix_nI (show pcb b i < 6 by omega) (by decide)) (by rw [aW_nI (by omega)]; exact z2), aW_nI (by omega), aW_nI (by omega), nI_1, nI_1, ← pcb_s1 hbt]
          refine ih f (i + 1) _ (by omega) (by omega) ⟨hd, hs, hla, hhe, hho, hli, hle, hc, hta, hx, hcl, hlo, hsh⟩ (fun t ht => ?_) (by rw [pcb_s1 hbt]; omega)
          rw [pcb_s1 hbt] at ht
          show upd (τ.2.1 48) (pcb b i) (nI i) t = nI (sel b 16 t) ∧ upd (τ.2.1 49) (pcb b i) (e i) t = e (sel b 16 t)
          by_cases z : t = pcb b i
          · subst z; rw [up_s, up_s, es]; exact ⟨rfl, rfl⟩
          · rw [pk_un z, pk_un z]; exact hM t (by omega)
theorem ushF : ∀ n : Fin 17, (((nI n.val).toUInt32 &&& Int32.toUInt32 31).toBitVec % 32).toNat = n.val := by decide +kernel
theorem bits_x {n : Nat} (hn : n ≤ 16) (x : Int32) : (((x).toUInt32 >>> ((nI n).toUInt32 &&& Int32.toUInt32 31)).toInt32 = 0) ↔ ∃ b, b < 2 ^ n ∧ x = nI b := by
  have hs := ushF ⟨n, by omega⟩
  have hp : 2 ^ n ≤ 2 ^ 16 := Nat.pow_le_pow_right (by decide) hn
  constructor
  · intro h
    have h1 := pk_ushr x (nI n) n hs
    rw [h] at h1
    have h2 : x.toBitVec.toNat / 2 ^ n = 0 := h1.symm
    have h3 : x.toBitVec.toNat < 2 ^ n := by
      rcases Nat.div_eq_zero_iff.mp h2 with z | z
      · have := Nat.two_pow_pos n; omega
      · exact z
    refine ⟨x.toBitVec.toNat, h3, ?_⟩
    apply Int32.toBitVec_inj.mp
    apply BitVec.eq_of_toNat_eq
    rw [pk_tn (by omega)]
  · intro ⟨b, hb, e⟩
    rw [e, pk_ushrN (by omega) (nI n) n hs, Nat.div_eq_of_lt hb]
    rfl
theorem bits_m {n : Nat} (hn : n ≤ 16) (x : Int32) : (¬ fX11_within x 0 (((1 : Int32) <<< (nI n &&& 31)) - 1) = 0) ↔ ∃ b, b < 2 ^ n ∧ x = nI b := by
  have hp : 2 ^ n ≤ 2 ^ 16 := Nat.pow_le_pow_right (by decide) hn
  have h0 := Nat.two_pow_pos n
  rw [shl_nI (by omega), show (1 : Int32) = nI 1 from rfl, pk_sub (by omega)]
  constructor
  · intro h
    have := wi_rg h
    obtain ⟨b, hb, e⟩ := rg_of (x := x) (hi := 2 ^ n - 1) ⟨this.1, by have := this.2; rw [nI_toInt (by omega)] at this; exact this⟩ (by omega)
    exact ⟨b, by omega, e⟩
  · intro ⟨b, hb, e⟩
    rw [e]
    exact wi_ne.mpr ⟨nI_pos' (by omega), nI_le (by omega) (by omega)⟩
theorem s_toAsk {N : Nat} (hN : 2000 ≤ N) : SP_toAsk Inv N := by
  intro σx σm a1 a2 hI
  obtain ⟨κ, hK⟩ := id hI
  obtain ⟨hd, hs, hla, hhe, hho, hli, hle, hc, ht, hx, hcl, hlo, hsh⟩ := id hK
  have h16 := hli.2.2.2.1
  have hm : fX12_isIn a1.toInt64 0 ((((1 : Int32) <<< ((σm.1 3) &&& 31)) - 1)).toInt64 = fX11_within a1 0 (((1 : Int32) <<< (nI (κ 3) &&& 31)) - 1) := by
    rw [isIn_w (x := a1) (a := 0) (b := ((1 : Int32) <<< ((σm.1 3) &&& 31)) - 1) (A := 0) rfl rfl, hli.2.2.2.2.2.1]
  by_cases hbb : ∃ b, b < 2 ^ κ 3 ∧ a1 = nI b
  · have c1 : ((a1).toUInt32 >>> (((σx.1 3)).toUInt32 &&& Int32.toUInt32 31)).toInt32 = 0 := by rw [hli.2.2.2.2.1]; exact (bits_x h16 a1).mpr hbb
    have c2 : ¬ fX12_isIn a1.toInt64 0 ((((1 : Int32) <<< ((σm.1 3) &&& 31)) - 1)).toInt64 = 0 := by rw [hm]; exact (bits_m h16 a1).mpr hbb
    obtain ⟨b, hb, rfl⟩ := hbb
    have hp : 2 ^ κ 3 ≤ 2 ^ 16 := Nat.pow_le_pow_right (by decide) h16
    have ebc : fJ6_bitCount_0f7a4 (nI b) = nI (pcb b 16) := by rw [bc_x (by omega), bc_pc 16 b (by decide) (by omega)]; rfl
    have e16 : pcb b 16 = pcb b (κ 3) := by
      have := pcb_hi (hiB_of hb) (16 - κ 3)
      rw [show κ 3 + (16 - κ 3) = 16 by omega] at this
      exact this
    have hle16 : pcb b 16 ≤ 16 := cntB_le 16
    have hes : ∀ j, j < κ 3 → ∃ r, fX12_ends N σm (nI j) = some r := fun j hj => by
      obtain ⟨r, g, _, z, _⟩ := ends_e (N := N) hd hc hs hli hle (by omega) hj
      exact ⟨r, z⟩
    have he : ∀ j, j < κ 3 → fX12_ends N σm (nI j) = some ((fX12_ends N σm (nI j)).getD 0) := fun j hj => by
      obtain ⟨r, z⟩ := hes j hj
      rw [z]; rfl
    generalize hE : (fun j => (fX12_ends N σm (nI j)).getD 0) = e at *
    have he : ∀ j, j < κ 3 → fX12_ends N σm (nI j) = some (e j) := fun j hj => by rw [← hE]; exact he j hj
    have hq1 : ∀ j, j < κ 3 → ∃ v, v ≤ 60 ∧ σm.2.1 19 j = nI v := fun j hj => by
      obtain ⟨v, -, h1, -, h2⟩ := eqR.of (lo := 1) (hi := 60) hli.2.2.2.2.2.2.2.2.2.2.1 hj (by decide)
      exact ⟨v, h1, h2⟩
    have hq : ∀ j, j < κ 3 → σm.2.1 19 j = nI ((σm.2.1 19 j).toNatClampNeg) ∧ (σm.2.1 19 j).toNatClampNeg ≤ 60 := fun j hj => by
      obtain ⟨v, h1, h2⟩ := hq1 j hj
      rw [h2, nI_clamp (by omega)]; exact ⟨rfl, h1⟩
    obtain ⟨t1, t2⟩ := t26_loop (N := N) (σm := σm) (e := e) (x2 := a2) (by omega) hb hK he (κ 3) N 0 σm (by omega) (by omega) hK (fun t ht => by
      have : pcb b 0 = 0 := rfl
      omega) (Nat.zero_le _)
    have t0 : fX12_toAsk N σm (nI b) a2 = fX12_toAsk_26 N N σm (nI b) a2 (nI (pcb b 0)) (nI 0) := if_neg c2
    rw [t0]
    by_cases q6 : pcb b 16 ≤ 6
    · have x0 : fX11_toAsk N σx (nI b) a2 = bd (fX1_choose N σx (nI b)) (fun σ1 => bd (fX1_arrange N σ1) fun σ3 => if a2 = (-1 : Int32) then (bd (fX1_late N σ3) fun r7 => some (r7, σ3)) else (bd (fX1_spanAt N σ3 a2) fun r5 => some (r5, σ3))) := (if_pos c1).trans (if_pos (by rw [ebc]; exact nI_le (b := 6) q6 (by decide)))
      obtain ⟨τm, m1, m2, m3⟩ := t1 (by omega)
      obtain ⟨hd2, hs2, hla2, hhe2, hho2, hli2, hle2, hc2, ht2, hx2, hcl2, hlo2, hsh2⟩ := id m2
      have k0 : chX b 0 (κ 0) e (fun j => (σm.2.1 19 j).toNatClampNeg) (sA (sI σx 16 0) 76 (upd (σx.2.1 76) 0 (nI (κ 0)))) := by
        refine ⟨rfl, fun t ht => by have : pcb b 0 = 0 := rfl
                                    omega, fun S hS => ?_⟩
        have : S = 0 := by
          have e0 : pcb b 0 = 0 := rfl
          rw [e0] at hS
          omega
        subst this
        show upd (σx.2.1 76) 0 (nI (κ 0)) 0 = _
        rw [up_s]
        rfl
      have he2 : ∀ j, j < κ 3 → fX12_ends N τm (nI j) = some (e j) := fun j hj => by
        obtain ⟨r, g, y1, y2, _⟩ := ends_e (N := N) hd hc hs hli hle (by omega) hj
        obtain ⟨r', g', z1, z2, _⟩ := ends_e (N := N) hd2 hc2 hs2 hli2 hle2 (by omega) hj
        have e1 : r = e j := Option.some.inj (y2.symm.trans (he j hj))
        have e2 : r' = r := congrArg Prod.fst (Option.some.inj (z1.symm.trans y1))
        rw [z2, e2, e1]
      have hq2 : ∀ j, j < κ 3 → τm.2.1 19 j = nI ((σm.2.1 19 j).toNatClampNeg) := fun j hj => by
        rw [← (hli2.2.2.2.2.2.2.2.2.2.2.1 j hj).1, (hli.2.2.2.2.2.2.2.2.2.2.1 j hj).1]; exact (hq j hj).1
      obtain ⟨τ1, c3, c4, c5⟩ := choose_loop (N := N) (σm := τm) (e := e) (q := fun j => (σm.2.1 19 j).toNatClampNeg) (by omega) hb q6 he2 hq2 16 N 0 (sA (sI σx 16 0) 76 (upd (σx.2.1 76) 0 (nI (κ 0)))) (by omega) (by omega) ⟨hd2, hs2, hla2, hhe2, hho2, hli2, hle2, hc2, ht2, hx2, hcl2, hlo2, hsh2⟩ k0
      have c3 : fX1_choose N σx (nI b) = some τ1 := by
        have st : fX1_choose N σx (nI b) = fX1_choose_20 N N (aW (sI σx 16 0) 76 0 (σx.1 0)) (nI b) 0 := rfl
        rw [st, show aW (sI σx 16 0) 76 0 (σx.1 0) = sA (sI σx 16 0) 76 (upd (σx.2.1 76) 0 (σx.1 0)) from rfl, hd.2.1]
        exact c3
      have hselP : ∀ t, t < pcb b 16 → sel b 16 t < κ 3 := by
        intro t ht2
        have key : ∀ m, t < pcb b m → m ≤ 16 → ∃ j, j < m ∧ b.testBit j = true ∧ pcb b j = t := by
          intro m
          induction m with
          | zero => intro h _; have : pcb b 0 = 0 := rfl
                    omega
          | succ m ihm =>
            intro h hm2
            cases hbt : b.testBit m with
            | false => rw [pcb_s0 hbt] at h; obtain ⟨j, j1, j2⟩ := ihm h (by omega); exact ⟨j, by omega, j2⟩
            | true =>
              rw [pcb_s1 hbt] at h
              by_cases z : pcb b m = t
              · exact ⟨m, by omega, hbt, z⟩
              · obtain ⟨j, j1, j2⟩ := ihm (by omega) (by omega); exact ⟨j, by omega, j2⟩
        obtain ⟨j, j1, j2, j3⟩ := key 16 ht2 (by omega)
        rw [← j3, sel_e j2 16 j1]
        by_cases z : j < κ 3
        · exact z
        · rw [hiB_of hb j (by omega)] at j2; cases j2
      have hax : arX (κ 0) (pcb b 16) (fun t => (σm.2.1 19 (sel b 16 t)).toNatClampNeg) (fun t => e (sel b 16 t)) τ1 := ⟨c5.1, fun t ht2 => (c5.2.1 t ht2).2, c5.2.2⟩
      have hq60 : ∀ t, t < pcb b 16 → (σm.2.1 19 (sel b 16 t)).toNatClampNeg ≤ 60 := fun t ht2 => (hq _ (hselP t ht2)).2
      have hA : ∀ t, t < pcb b 16 → sel b 16 t < 16 ∧ τm.2.1 19 (sel b 16 t) = nI ((σm.2.1 19 (sel b 16 t)).toNatClampNeg) := fun t ht2 => ⟨by have := hselP t ht2; omega, hq2 _ (hselP t ht2)⟩
      obtain ⟨g7, c6, c7⟩ := xarr (N := N) (by omega) hd.1 q6 hq60 hax
      have hax2 : arX (κ 0) (pcb b 16) (fun t => (σm.2.1 19 (sel b 16 t)).toNatClampNeg) (fun t => e (sel b 16 t)) (sA τ1 77 g7) := hax
      obtain ⟨ad, as, ala, ahe, aho, ali, ale, ac, at', ax, acl, alo, ash⟩ := id c4
      have hK3 : InvK κ (sA τ1 77 g7) τm := ⟨ad, as, ala, ahe, aho, ali, ale, ac, at', ax, acl, alo, ash⟩
      rw [← e16] at m1 m3
      obtain ⟨τm', o1, o2, o3, o4⟩ := morders (N := N) (σx := sA τ1 77 g7) hN q6 hd.1 hq60 hd2.2.2 hA hK3 m3
      rw [x0, c3, m1]
      unfold tlM
      rw [o1]
      simp only [bd]
      rw [c6]
      simp only [bd]
      obtain ⟨o5, o6, o7, o8⟩ := o4
      have hbest := (enu_best (C := Cw (κ 0) (pcb b 16) (fun t => (σm.2.1 19 (sel b 16 t)).toNatClampNeg) (fun t => e (sel b 16 t))) (pcb b 16) 0 (opn_0 _ (by omega))).2
      by_cases q1 : a2 = -1
      · have l1 : fX1_late N (sA τ1 77 g7) = some (nI (bst (Cw (κ 0) (pcb b 16) (fun t => (σm.2.1 19 (sel b 16 t)).toNatClampNeg) (fun t => e (sel b 16 t))) (pcb b 16) (pcb b 16) 0 / 1048576)) := by
          have st : fX1_late N (sA τ1 77 g7) = some (g7 0 / 1048576) := rfl
          rw [st, c7 0 (Nat.le_refl _) (Nat.two_pow_pos _), opn_0 _ (by omega), show (1048576 : Int32) = nI 1048576 from rfl, pk_div (by omega) (by decide) (by decide)]
        rw [q1, l1, if_neg (show ¬ (-1 : Int32) < -1 from by decide), if_pos (show (-1 : Int32) < nI (pcb b 16) from m1_lt (by omega))]
        simp only [if_true]
        rw [o5, hbest]
        exact ⟨_, _, _, rfl, rfl, κ, o2⟩
      · rw [if_neg q1, if_neg q1]
        by_cases q2 : a2 < 0
        · have q3 : a2 < -1 := by
            have := Int32.lt_iff_toInt_lt.mp q2
            rw [show (0 : Int32).toInt = 0 from rfl] at this
            rw [Int32.lt_iff_toInt_lt, show (-1 : Int32).toInt = -1 from rfl]
            have : ¬ a2.toInt = -1 := fun y => q1 (Int32.toInt_inj.mp y)
            omega
          have sa : fX1_spanAt N (sA τ1 77 g7) a2 = some (-1) := if_pos (wi_eq.mpr (fun y => Int32.not_lt.mpr y.1 q2))
          rw [sa, if_pos q3]
          exact ⟨_, _, _, rfl, rfl, κ, hK3⟩
        · obtain ⟨k, hk, rfl⟩ := nI_of q2
          rw [if_neg (show ¬ nI k < -1 from fun y => nI_pos hk (Int32.lt_trans y (by decide)))]
          by_cases q4 : k < pcb b 16
          · obtain ⟨t, u1, u2, u3⟩ := xspan (N := N) (by omega) hd.1 q6 hq60 hax2 c7 q4
            rw [u3, if_pos (nI_lt q4 (by omega)), ix_nI (show k < 6 by omega) (by decide)]
            simp only [if_true]
            rw [aR_nI (by omega), o8 k t u2, ix_nI (show t < 6 by omega) (by decide)]
            simp only [if_true]
            rw [aR_nI (by omega), (o3 t u1).1, show (sA τ1 77 g7).2.1 74 t = nI (sel b 16 t) from (c5.2.1 t u1).1]
            exact ⟨_, _, _, rfl, rfl, κ, o2⟩
          · have sa : fX1_spanAt N (sA τ1 77 g7) (nI k) = some (-1) := by
              refine if_pos (wi_eq.mpr (fun y => ?_))
              have y2 := y.2
              rw [show (sA τ1 77 g7).1 16 = nI (pcb b 16) from c5.1] at y2
              by_cases z : pcb b 16 = 0
              · rw [z] at y2
                exact nI_pos hk (Int32.lt_of_le_of_lt y2 (by decide))
              · rw [show (1 : Int32) = nI 1 from rfl, pk_sub (by omega)] at y2
                have := (nI_leI hk (by omega)).mp y2
                omega
            rw [sa, if_neg (nI_nlt (by omega) (by omega))]
            exact ⟨_, _, _, rfl, rfl, κ, hK3⟩
    · have x0 : fX11_toAsk N σx (nI b) a2 = some (-2, σx) := (if_pos c1).trans (if_neg (by rw [ebc]; exact nI_ge (a := 6) (by omega) (by omega)))
      obtain ⟨τm, m1, m2⟩ := t2 (by omega)
      rw [x0, m1]
      exact ⟨_, _, _, rfl, rfl, κ, m2⟩
  · have c1 : ¬ ((a1).toUInt32 >>> (((σx.1 3)).toUInt32 &&& Int32.toUInt32 31)).toInt32 = 0 := by rw [hli.2.2.2.2.1]; exact fun z => hbb ((bits_x h16 a1).mp z)
    have c2 : fX12_isIn a1.toInt64 0 ((((1 : Int32) <<< ((σm.1 3) &&& 31)) - 1)).toInt64 = 0 := by
      rw [hm]
      by_cases z : fX11_within a1 0 (((1 : Int32) <<< (nI (κ 3) &&& 31)) - 1) = 0
      · exact z
      · exact absurd ((bits_m h16 a1).mp z) hbb
    exact ⟨-2, σx, σm, if_neg c1, if_pos c2, hI⟩
