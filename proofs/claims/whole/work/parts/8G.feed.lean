/-! PURE: feed, costs -/
theorem lg_lt (a b : Int64) : (lg_cmp a b < 0) ↔ a < b := by
  unfold lg_cmp
  simp only [gt_iff_lt, Int64.lt_iff_toInt_lt, ← Int64.toInt_inj]
  by_cases h1 : b.toInt < a.toInt
  · simp [h1]; omega
  · by_cases h2 : a.toInt = b.toInt
    · simp [h2]
    · simp [h1, h2]; omega
theorem fb255 : ∀ i : Fin 8, (255#32).getLsbD i.val = true := by decide
theorem fb_bv (b : BitVec 64) (n : Nat) (hn : n ≤ 56) : BitVec.signExtend 8 (BitVec.signExtend 32 (b >>> n) &&& 255#32) = BitVec.signExtend 8 (BitVec.signExtend 32 (BitVec.sshiftRight b n)) := by
  rw [BitVec.signExtend_eq_setWidth_of_le _ (by decide), BitVec.signExtend_eq_setWidth_of_le _ (by decide), BitVec.signExtend_eq_setWidth_of_le _ (by decide), BitVec.signExtend_eq_setWidth_of_le _ (by decide)]
  apply BitVec.eq_of_getLsbD_eq
  intro i hi
  have h1 : (255#32).getLsbD i = true := fb255 ⟨i, hi⟩
  have h2 : ¬ 64 ≤ i := by omega
  have h3 : n + i < 64 := by omega
  simp only [BitVec.getLsbD_setWidth, BitVec.getLsbD_and, BitVec.getLsbD_ushiftRight, BitVec.getLsbD_sshiftRight, h1, h2, h3, Bool.and_true, if_true, decide_false, Bool.not_false, Bool.true_and]
theorem feed_byte (x : Int64) : ∀ (k : Nat), k < 8 → (((x.toUInt64 >>> ((8 * nI k).toInt64.toUInt64 &&& Int64.toUInt64 63)).toInt64).toInt32 &&& (255 : Int32)).toInt8 = ((x >>> ((8 * nI k).toInt64 &&& 63)).toInt32).toInt8
  | 0, _ => Int8.toBitVec_inj.mp (show BitVec.signExtend 8 (BitVec.signExtend 32 (x.toBitVec >>> (0 : Nat)) &&& 255#32) = BitVec.signExtend 8 (BitVec.signExtend 32 (BitVec.sshiftRight x.toBitVec 0)) from fb_bv x.toBitVec 0 (by decide))
  | 1, _ => Int8.toBitVec_inj.mp (show BitVec.signExtend 8 (BitVec.signExtend 32 (x.toBitVec >>> (8 : Nat)) &&& 255#32) = BitVec.signExtend 8 (BitVec.signExtend 32 (BitVec.sshiftRight x.toBitVec 8)) from fb_bv x.toBitVec 8 (by decide))
  | 2, _ => Int8.toBitVec_inj.mp (show BitVec.signExtend 8 (BitVec.signExtend 32 (x.toBitVec >>> (16 : Nat)) &&& 255#32) = BitVec.signExtend 8 (BitVec.signExtend 32 (BitVec.sshiftRight x.toBitVec 16)) from fb_bv x.toBitVec 16 (by decide))
  | 3, _ => Int8.toBitVec_inj.mp (show BitVec.signExtend 8 (BitVec.signExtend 32 (x.toBitVec >>> (24 : Nat)) &&& 255#32) = BitVec.signExtend 8 (BitVec.signExtend 32 (BitVec.sshiftRight x.toBitVec 24)) from fb_bv x.toBitVec 24 (by decide))
  | 4, _ => Int8.toBitVec_inj.mp (show BitVec.signExtend 8 (BitVec.signExtend 32 (x.toBitVec >>> (32 : Nat)) &&& 255#32) = BitVec.signExtend 8 (BitVec.signExtend 32 (BitVec.sshiftRight x.toBitVec 32)) from fb_bv x.toBitVec 32 (by decide))
  | 5, _ => Int8.toBitVec_inj.mp (show BitVec.signExtend 8 (BitVec.signExtend 32 (x.toBitVec >>> (40 : Nat)) &&& 255#32) = BitVec.signExtend 8 (BitVec.signExtend 32 (BitVec.sshiftRight x.toBitVec 40)) from fb_bv x.toBitVec 40 (by decide))
  | 6, _ => Int8.toBitVec_inj.mp (show BitVec.signExtend 8 (BitVec.signExtend 32 (x.toBitVec >>> (48 : Nat)) &&& 255#32) = BitVec.signExtend 8 (BitVec.signExtend 32 (BitVec.sshiftRight x.toBitVec 48)) from fb_bv x.toBitVec 48 (by decide))
  | 7, _ => Int8.toBitVec_inj.mp (show BitVec.signExtend 8 (BitVec.signExtend 32 (x.toBitVec >>> (56 : Nat)) &&& 255#32) = BitVec.signExtend 8 (BitVec.signExtend 32 (BitVec.sshiftRight x.toBitVec 56)) from fb_bv x.toBitVec 56 (by decide))
  | k + 8, h => by omega
theorem and255 (x : Int32) : rg 0 255 (x &&& 255) := by
  obtain ⟨j, h1, h2⟩ := pk_andE x (m := 255) 8 rfl
  rw [h2]
  exact rg_nI (by omega) (by omega)
theorem feed_loop {N n : Nat} {σx σm : St} {by8 : Int64} (hn : n ≤ 8) : ∀ (m f i b : Nat) (τx τm : St), i + m = n → m < f → b + m ≤ 160 → (∃ f1 f2, τx = sI (sA σx 51 f1) 5 (nI b) ∧ τm = sI (sA σm 31 f2) 5 (nI b) ∧ ∀ k, k < b → rg 0 255 (f1 k) ∧ f2 k = (f1 k).toInt8.toInt32) → ∃ f1 f2, fX11_feed_34 N f τx (nI n) by8 (nI i) = some (nI (b + m), sI (sA σx 51 f1) 5 (nI (b + m))) ∧ fX12_feed_33 N f τm (nI n) by8 (nI i) = some (nI (b + m), sI (sA σm 31 f2) 5 (nI (b + m))) ∧ ∀ k, k < b + m → rg 0 255 (f1 k) ∧ f2 k = (f1 k).toInt8.toInt32 := by
  intro m
  induction m with
  | zero =>
    intro f i b τx τm hi hf hb ⟨f1, f2, ex, em, h⟩
    cases f with
    | zero => omega
    | succ f =>
      refine ⟨f1, f2, ?_, ?_, h⟩
      · show fX11_feed_34b N (fX11_feed_34 N f) τx (nI n) by8 (nI i) = _
        unfold fX11_feed_34b
        rw [if_pos (nI_le (by omega) (by omega)), ex]; rfl
      · show fX12_feed_33b N (fX12_feed_33 N f) τm (nI n) by8 (nI i) = _
        unfold fX12_feed_33b
        rw [if_pos (nI_le (by omega) (by omega)), em]; rfl
  | succ m ih =>
    intro f i b τx τm hi hf hb ⟨f1, f2, ex, em, h⟩
    cases f with
    | zero => omega
    | succ f =>
      show ∃ g1 g2, fX11_feed_34b N (fX11_feed_34 N f) τx (nI n) by8 (nI i) = some (nI (b + (m + 1)), sI (sA σx 51 g1) 5 (nI (b + (m + 1)))) ∧ fX12_feed_33b N (fX12_feed_33 N f) τm (nI n) by8 (nI i) = some (nI (b + (m + 1)), sI (sA σm 31 g2) 5 (nI (b + (m + 1)))) ∧ _
      unfold fX11_feed_34b fX12_feed_33b fX8_take nm
      rw [if_neg (nI_ge (by omega) (by omega)), if_neg (nI_ge (by omega) (by omega)), show b + (m + 1) = (b + 1) + m by omega]
      have x5 : τx.1 5 = nI b := by rw [ex]; rfl
      have m5 : τm.1 5 = nI b := by rw [em]; rfl
      rw [x5, m5, if_pos (show nI b < 160 from nI_lt (b := 160) (by omega) (by decide)), pk_vb]
      simp only [ix_nI (show b < 160 by omega) (by decide), aW_nI (show b < 2 ^ 31 by omega), if_true, bd, sA_1, x5, m5, nI_1]
      generalize hv : ((by8.toUInt64 >>> ((8 * nI i).toInt64.toUInt64 &&& Int64.toUInt64 63)).toInt64).toInt32 &&& (255 : Int32) = v
      have hv8 : v.toInt8 = ((by8 >>> ((8 * nI i).toInt64 &&& 63)).toInt32).toInt8 := by rw [← hv]; exact feed_byte by8 i (by omega)
      rw [← hv8]
      have rv : rg 0 255 v := by rw [← hv]; exact and255 _
      refine ih f (i + 1) (b + 1) _ _ (by omega) (by omega) (by omega) ⟨upd f1 b v, upd f2 b v.toInt8.toInt32, ?_, ?_, fun k hk => ?_⟩
      · rw [ex]
        show sI (sA (sI (sA σx 51 f1) 5 (nI b)) 51 (upd f1 b v)) 5 (nI (b + 1)) = _
        show (va_up (va_up σx.1 5 (nI b)) 5 (nI (b + 1)), va_up (va_up σx.2.1 51 f1) 51 (upd f1 b v), σx.2.2) = (va_up σx.1 5 (nI (b + 1)), va_up σx.2.1 51 (upd f1 b v), σx.2.2)
        rw [vz_up_up, vz_up_up]
      · rw [em]
        show (va_up (va_up σm.1 5 (nI b)) 5 (nI (b + 1)), va_up (va_up σm.2.1 31 f2) 31 (upd f2 b v.toInt8.toInt32), σm.2.2) = (va_up σm.1 5 (nI (b + 1)), va_up σm.2.1 31 (upd f2 b v.toInt8.toInt32), σm.2.2)
        rw [vz_up_up, vz_up_up]
      · by_cases e : k = b
        · subst e; rw [up_s, up_s]; exact ⟨rv, rfl⟩
        · rw [pk_un e, pk_un e]; exact h k (by omega)
theorem s_feed {N : Nat} (hN : 41 ≤ N) : SP_feed Inv N := by
  intro σx σm a1 a2 hI
  obtain ⟨κ, hd, hs, hla, hhe, hho, hli, hle, hc, ht, hx, hcl, hlo, hsh⟩ := id hI
  unfold fX11_feed fX12_feed
  rw [isIn_w (x := a1) (a := 1) (b := 8) (A := 1) (B := 8) rfl rfl]
  by_cases h1 : fX11_within a1 1 8 = 0
  · simp only [if_pos h1]; exact ⟨_, _, _, rfl, rfl, hI⟩
  have r1 := wi_rg h1
  obtain ⟨n, hn, rfl⟩ := rg_of (x := a1) (hi := 8) ⟨by have := r1.1; rw [show (1 : Int32).toInt = 1 from rfl] at this; omega, r1.2⟩ (by decide)
  have hB := ht.1
  simp only [if_neg h1, ht.2.1, ht.2.2.1, nI_add]
  by_cases h2 : nI (κ 5 + n) ≤ 160
  · simp only [if_pos h2]
    have h3 : κ 5 + n ≤ 160 := (nI_leI (b := 160) (by omega) (by decide)).mp h2
    obtain ⟨f1, f2, e1, e2, e3⟩ := feed_loop (N := N) (n := n) (σx := σx) (σm := σm) (by8 := a2) hn n N 0 (κ 5) σx σm (by omega) (by omega) h3 ⟨σx.2.1 51, σm.2.1 31, by rw [sA_self, ← ht.2.1]; unfold sI; rw [vz_up_self], by rw [sA_self, ← ht.2.2.1]; unfold sI; rw [vz_up_self], ht.2.2.2⟩
    rw [show fX11_feed_34 N N σx (nI n) a2 0 = _ from e1, show fX12_feed_33 N N σm (nI n) a2 0 = _ from e2]
    exact ⟨_, _, _, rfl, rfl, va_up κ 5 (κ 5 + n), hd, hs, hla, hhe, hho, hli, hle, hc, ⟨h3, rfl, rfl, e3⟩, hx, hcl, hlo, hsh⟩
  · simp only [if_neg h2]; exact ⟨_, _, _, rfl, rfl, hI⟩
theorem cost_loop {N s p n fr sz : Nat} {σx σm : St} (hs : s < 4) (hp : p < 48) (hn : n ≤ 40) (hfr : fr ≤ 40) (hsz : sz ≤ 40) (e79 : σx.2.1 79 s = nI sz) (e53 : σm.2.1 53 s = nI sz) (hrow : ∀ j, j < 40 → rS σx s j = σm.2.1 54 (40 * s + j)) : ∀ (m f i : Nat) (c : Int32) (f1 f2 : Nat → Int32), i + m = n → m < f → eqR 48 1 999 f1 f2 → ∃ r g1 g2, fX9_tellCosts_6 N f (sA σx 19 f1) (nI p) (nI s) (nI fr) (nI n) c (nI i) = some (r, sA σx 19 g1) ∧ fX12_costs_82 N f (sA σm 7 f2) (nI p) (nI s) (nI fr) (nI n) c (nI i) = some (r, sA σm 7 g2) ∧ eqR 48 1 999 g1 g2 := by
  intro m
  induction m with
  | zero =>
    intro f i c f1 f2 hi hf h
    cases f with
    | zero => omega
    | succ f =>
      refine ⟨c, f1, f2, ?_, ?_, h⟩
      · show fX9_tellCosts_6b N (fX9_tellCosts_6 N f) (sA σx 19 f1) (nI p) (nI s) (nI fr) (nI n) c (nI i) = _
        unfold fX9_tellCosts_6b
        rw [if_pos (nI_le (by omega) (by omega))]
      · show fX12_costs_82b N (fX12_costs_82 N f) (sA σm 7 f2) (nI p) (nI s) (nI fr) (nI n) c (nI i) = _
        unfold fX12_costs_82b
        rw [if_pos (nI_le (by omega) (by omega))]
  | succ m ih =>
    intro f i c f1 f2 hi hf h
    cases f with
    | zero => omega
    | succ f =>
      show ∃ r g1 g2, fX9_tellCosts_6b N (fX9_tellCosts_6 N f) (sA σx 19 f1) (nI p) (nI s) (nI fr) (nI n) c (nI i) = some (r, sA σx 19 g1) ∧ fX12_costs_82b N (fX12_costs_82 N f) (sA σm 7 f2) (nI p) (nI s) (nI fr) (nI n) c (nI i) = some (r, sA σm 7 g2) ∧ _
      unfold fX9_tellCosts_6b fX12_costs_82b fX9_tellCosts_88 fX12_costs_153
      rw [if_neg (nI_ge (by omega) (by omega)), if_neg (nI_ge (by omega) (by omega)), nI_l (show fr < 2 ^ 31 by omega), nI_l (show i < 2 ^ 31 by omega), lN_add, nI_add, nI_add]
      unfold nm
      have z79 : (sA σx 19 f1).2.1 79 s = nI sz := e79
      have z53 : (sA σm 7 f2).2.1 53 s = nI sz := e53
      simp only [lN_i, ix_nI hs (by decide), aR_nI (show s < 2 ^ 31 by omega), if_true, z53]
      rw [if_neg (show ¬ lg_cmp (lN (fr + i)) 0 < 0 from fun q => by have := (lg_lt _ _).mp q; rw [show (0 : Int64) = lN 0 from rfl, pk_lLT (by omega) (by omega)] at this; omega)]
      rcases xplaces (N := N) (σ := sA σx 19 f1) hs z79 hsz (nI (fr + i)) 1 with ⟨e5, q⟩ | ⟨e5, i', k', hik, ei, ek⟩
      · have hge : sz ≤ fr + i := by
          rcases q with q | q | q
          · exact absurd q (nI_pos (by omega))
          · exact absurd q (by decide)
          · rw [Int32.lt_iff_toInt_lt, sub_tI (by omega) (by omega), show (1 : Int32).toInt = 1 from rfl] at q; omega
        rw [e5, if_neg (show ¬ lg_cmp (lN (fr + i)) (nI sz).toInt64 < 0 from fun q => by have := (lg_lt _ _).mp q; rw [nI_l (by omega), pk_lLT (by omega) (by omega)] at this; omega)]
        exact ⟨_, f1, f2, rfl, rfl, h⟩
      · have hi' : fr + i = i' := (nI_eq (by omega) (by omega)).mp ei
        have hk' : 1 = k' := (nI_eq (a := 1) (by omega) (by omega)).mp ek
        have hlt : fr + i < sz := by omega
        rw [e5, if_pos (show lg_cmp (lN (fr + i)) (nI sz).toInt64 < 0 from (lg_lt _ _).mpr (by rw [nI_l (by omega), pk_lLT (by omega) (by omega)]; exact hlt))]
        have em : (40 : Int32) * nI s + nI (fr + i) = nI (40 * s + (fr + i)) := by rw [show (40 : Int32) = nI 40 from rfl, pk_mul, nI_add]
        rw [em]
        simp only [bd, if_neg (show ¬ (1 : Int32) = 0 from by decide), ix_nI (show fr + i < 40 by omega) (by decide), ix_nI (show 40 * s + (fr + i) < 160 by omega) (by decide), aR_nI (show fr + i < 2 ^ 31 by omega), aR_nI (show 40 * s + (fr + i) < 2 ^ 31 by omega), nI_clamp (show s < 2 ^ 31 by omega), if_true, show ix (2 : Int32) 4 = true from rfl, show stT 0 (2 : Int32).toNatClampNeg = 1 from rfl, show stT 1 (2 : Int32).toNatClampNeg = 999 from rfl]
        have er : (sA σx 19 f1).2.1 (81 + s) (fr + i) = σm.2.1 54 (40 * s + (fr + i)) := by
          rw [← hrow (fr + i) (by omega), rS_e hs]
          show va_up σx.2.1 19 f1 (81 + s) (fr + i) = _
          unfold va_up
          rw [if_neg (by omega)]
        rw [er, show (sA σm 7 f2).2.1 54 (40 * s + (fr + i)) = σm.2.1 54 (40 * s + (fr + i)) from rfl]
        generalize σm.2.1 54 (40 * s + (fr + i)) = v
        unfold fX12_set
        rw [isPlot_e, isIn_w (x := v) (a := 1) (b := 999) (A := 1) (B := 999) rfl rfl]
        simp only [if_neg (show ¬ (2 : Int32) = 0 from by decide), if_neg (show ¬ (2 : Int32) = 1 from by decide), if_true]
        by_cases h1 : fX11_isPlot (nI (p + i)) = 0
        · simp only [if_pos h1, bd2, if_pos (show (-2 : Int32) < 0 from by decide), Int32.add_zero, nI_1]
          exact ih f (i + 1) c f1 f2 (by omega) (by omega) h
        · by_cases h2 : fX11_within v 1 999 = 0
          · simp only [if_neg h1, if_pos h2, bd2, if_pos (show (-2 : Int32) < 0 from by decide), Int32.add_zero, nI_1]
            exact ih f (i + 1) c f1 f2 (by omega) (by omega) h
          · obtain ⟨p2, hp2, ep2⟩ := pl_of h1
            have hpi : p + i = p2 := (nI_eq (by omega) (by omega)).mp ep2
            subst hpi
            have hpos : ¬ f2 (p + i) < 0 := by
              obtain ⟨q1, q2⟩ := h (p + i) hp2
              rw [← q1, Int32.lt_iff_toInt_lt, show (0 : Int32).toInt = 0 from rfl]
              have := q2.1; omega
            unfold fX4_tell
            simp only [if_neg h1, if_neg h2, bd2, nm, show ix (2 : Int32) 4 = true from rfl, ix_nI hp2 (by decide), aR_nI (show p + i < 2 ^ 31 by omega), aW_nI (show p + i < 2 ^ 31 by omega), if_true, show 17 + (2 : Int32).toNatClampNeg = 19 from rfl, sA_sA, nI_1]
            rw [show (sA σm 7 f2).2.1 7 (p + i) = f2 (p + i) from rfl, if_neg hpos]
            exact ih f (i + 1) (c + 1) _ _ (by omega) (by omega) (eqR_upd h (wi_rg h2) (p + i))
theorem s_costs {N : Nat} (hN : 41 ≤ N) : SP_costs Inv N := by
  intro σx σm a1 a2 a3 a4 a5 hI
  obtain ⟨κ, hd, hs, hla, hhe, hho, hli, hle, hc, ht, hx, hcl, hlo, hsh⟩ := id hI
  unfold fX11_costs fX12_costs
  rw [isPlot_e, isSheet_e, isIn_w (x := a3) (a := 0) (b := 2) (A := 0) (B := 2) rfl rfl, isIn_w (x := a5) (a := 0) (b := 40) (A := 0) (B := 40) rfl rfl]
  by_cases h1 : fX11_isPlot a1 = 0
  · simp only [if_pos h1]; exact ⟨_, _, _, rfl, rfl, hI⟩
  by_cases h2 : fX9_isSheet a2 = 0
  · simp only [if_neg h1, if_pos h2]; exact ⟨_, _, _, rfl, rfl, hI⟩
  by_cases h3 : fX11_within a3 0 2 = 0
  · simp only [if_neg h1, if_neg h2, if_pos h3]; exact ⟨_, _, _, rfl, rfl, hI⟩
  by_cases h4 : fX11_within a5 0 40 = 0
  · simp only [if_neg h1, if_neg h2, if_neg h3, if_pos h4]; exact ⟨_, _, _, rfl, rfl, hI⟩
  obtain ⟨p, hp, rfl⟩ := pl_of h1
  obtain ⟨s, hs4, rfl⟩ := sh_of h2
  obtain ⟨n, hn, rfl⟩ := rg_of (hi := 40) (wi_rg (a := 0) (b := 40) h4) (by decide)
  obtain ⟨f1, r1⟩ := hsh.1 s hs4
  obtain ⟨sz, -, hsz, e79, e53⟩ := eqR.of (lo := 0) (hi := 40) hsh.2.1 hs4 (by decide)
  simp only [if_neg h1, if_neg h2, if_neg h3, if_neg h4, xmiss hs4, bd, ix_nI hs4 (by decide), aR_nI (show s < 2 ^ 31 by omega), if_true]
  unfold fX12_costs_64
  simp only [ix_nI hs4 (by decide), aR_nI (show s < 2 ^ 31 by omega), if_true]
  rw [← f1]
  by_cases h5 : σx.2.1 78 s = -1
  · rw [decide_eq_true h5, if_neg (show ¬ bI true = 0 from by decide), if_pos ((srt r1).mpr h5), if_neg (fun q => (srt' r1).mp q h5)]
    exact ⟨_, _, _, rfl, rfl, hI⟩
  rw [decide_eq_false h5, if_pos (show bI false = 0 from rfl), if_neg (fun q => h5 ((srt r1).mp q)), if_pos ((srt' r1).mpr h5)]
  by_cases h6 : σx.2.1 78 s = a3
  · simp only [if_pos h6]
    unfold fX9_tellCosts
    have fin : ∀ r g1 g2, fX9_tellCosts_6 N N σx (nI p) (nI s) a4 (nI n) 0 0 = some (r, sA σx 19 g1) → fX12_costs_82 N N σm (nI p) (nI s) a4 (nI n) 0 0 = some (r, sA σm 7 g2) → eqR 48 1 999 g1 g2 → ∃ r' σx' σm', (bd2 (fX9_tellCosts_6 N N σx (nI p) (nI s) a4 (nI n) 0 0) fun r6 σ4 => some (r6, σ4)) = some (r', σx') ∧ fX12_costs_82 N N σm (nI p) (nI s) a4 (nI n) 0 0 = some (r', σm') ∧ Inv σx' σm' := by
      intro r g1 g2 q1 q2 q3
      rw [q1, q2]
      exact ⟨_, _, _, rfl, rfl, κ, hd, hs, ⟨hla.1, hla.2.1, q3, hla.2.2.2⟩, hhe, hho, hli, hle, hc, ht, hx, hcl, hlo, hsh⟩
    by_cases h7 : a4 < 0 ∨ 40 < a4
    · obtain ⟨M, rfl⟩ : ∃ M, N = M + 1 := ⟨N - 1, by omega⟩
      by_cases h8 : n = 0
      · subst h8
        refine fin 0 (σx.2.1 19) (σm.2.1 7) ?_ ?_ hla.2.2.1
        · rw [sA_self]; rfl
        · rw [sA_self]; rfl
      · refine fin (-12) (σx.2.1 19) (σm.2.1 7) ?_ ?_ hla.2.2.1
        · rw [sA_self]
          show fX9_tellCosts_6b (M + 1) (fX9_tellCosts_6 (M + 1) M) σx (nI p) (nI s) a4 (nI n) 0 0 = _
          unfold fX9_tellCosts_6b
          rw [show (0 : Int32) = nI 0 from rfl, if_neg (nI_ge (by omega) (by omega))]
          rw [show nI 0 = 0 from rfl, Int32.add_zero]
          rcases xplaces (N := M + 1) hs4 e79 hsz a4 1 with ⟨e5, q⟩ | ⟨e5, i', k', hik, ei, ek⟩
          · rw [e5]; rfl
          · exfalso
            subst ei
            rcases h7 with q | q
            · exact absurd q (nI_pos (by omega))
            · rw [show (40 : Int32) = nI 40 from rfl, nI_ltI (by decide) (by omega)] at q; omega
        · rw [sA_self]
          show fX12_costs_82b (M + 1) (fX12_costs_82 (M + 1) M) σm (nI p) (nI s) a4 (nI n) 0 0 = _
          unfold fX12_costs_82b
          rw [show (0 : Int32) = nI 0 from rfl, if_neg (nI_ge (by omega) (by omega)), show (nI 0).toInt64 = 0 from rfl, Int64.add_zero]
          unfold nm
          simp only [ix_nI hs4 (by decide), aR_nI (show s < 2 ^ 31 by omega), if_true, e53, show nI 0 = (0 : Int32) from rfl]
          by_cases q : lg_cmp a4.toInt64 0 < 0
          · rw [if_pos q]
          · rw [if_neg q]
            have q0 : ¬ a4 < 0 := fun z => q ((lg_lt _ _).mpr (by rw [Int64.lt_iff_toInt_lt, Int32.toInt_toInt64]; exact Int32.lt_iff_toInt_lt.mp z))
            have q1 : 40 < a4 := h7.resolve_left q0
            rw [if_neg (fun z => by
              have := (lg_lt _ _).mp z
              rw [Int64.lt_iff_toInt_lt, Int32.toInt_toInt64, Int32.toInt_toInt64, nI_toInt (by omega)] at this
              rw [Int32.lt_iff_toInt_lt, show (40 : Int32).toInt = 40 from rfl] at q1
              omega)]
    · have q0 : ¬ a4 < 0 := fun z => h7 (Or.inl z)
      have q1 : ¬ 40 < a4 := fun z => h7 (Or.inr z)
      obtain ⟨fr, hfr, rfl⟩ := nI_of q0
      have hfr40 : fr ≤ 40 := by
        rw [show (40 : Int32) = nI 40 from rfl, nI_ltI (by decide) hfr] at q1; omega
      obtain ⟨r, g1, g2, d1, d2, d3⟩ := cost_loop (N := N) (σx := σx) (σm := σm) hs4 hp hn hfr40 hsz e79 e53 (fun j hj => hsh.2.2 s j hs4 hj h5) n N 0 0 (σx.2.1 19) (σm.2.1 7) (by omega) (by omega) hla.2.2.1
      rw [sA_self] at d1 d2
      exact fin r g1 g2 d1 d2 d3
  · simp only [if_neg h6]; exact ⟨_, _, _, rfl, rfl, hI⟩
