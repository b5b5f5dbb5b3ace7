/-! METHODS (printed by wip/whole/emit.py) -/
section METH
variable {p : Program} {l : Launch} {e : Env} {s : State} {m : MethodId} {av : Array Value} {below : List Frame} {meth : Method} {c : Code} {D : va_G} {ad : Nat → Nat} {cs : Nat → ClassId} {ts adK adV : Nat → Nat}
def fX0_keep (N : Nat) (σ : St) : Option (Int32 × St) :=
  if ix (σ.1 10) 6 = true then if cpok (0 : Int32) (0 : Int32) (σ.1 8) 160 160 = true then nm (sA σ (57 + ((σ.1 10)).toNatClampNeg) (va_cpy (σ.2.1 55) (σ.2.1 (57 + ((σ.1 10)).toNatClampNeg)) ((0 : Int32)).toNatClampNeg ((0 : Int32)).toNatClampNeg ((σ.1 8)).toNatClampNeg)) fun σ3 => if ix (σ3.1 10) 6 = true then nm (aW σ3 63 (σ3.1 10) (σ3.1 9)) fun σ6 => if ix (σ6.1 10) 6 = true then nm (aW σ6 64 (σ6.1 10) (σ6.1 8)) fun σ9 => nm (sI σ9 10 ((σ9.1 10) + (1 : Int32))) fun σ11 => some (((σ11.1 10) - (1 : Int32)), σ11) else none else none else none else none
set_option maxHeartbeats 2000000 in
set_option maxRecDepth 20000 in
theorem tX0_keep {r : Int32} {σ' : St} {N : Nat} {σ : St} (hf : fX0_keep N σ = some (r, σ')) : CI l (XWd D ad cs ts adK adV) yX0_keep cX0_keep 2 (some .int) 1 79 [.ref (ad 6), .ref (ad 5)] σ r σ' := by
  refine CI.of (by decide) (Nat.le_of_ble_eq_true rfl) ?_
  intro p e s m below meth c ls S hr hlk hw hl
  have hl : lv_has ls 2 [(0, .ref (ad 6)), (1, .ref (ad 5))] := hl
  unfold fX0_keep at hf
  refine lv_aload_n S.1 S.2.1 dX0_keep_0 rfl (lv_at hl 1 rfl) ?_
  refine xg_Reader_code S hw kf_X0_34 dX0_keep_1 ?_
  refine lv_iconst (v := 0) S.1 S.2.1 dX0_keep_4 (by decide) ?_
  refine lv_aload_n S.1 S.2.1 dX0_keep_5 rfl (lv_at hl 0 rfl) ?_
  refine xg_Acts_codes S hw kf_X0_11 dX0_keep_6 ?_
  refine lv_aload_n S.1 S.2.1 dX0_keep_9 rfl (lv_at hl 0 rfl) ?_
  refine xg_Acts_count S hw kf_X0_39 dX0_keep_10 ?_
  obtain ⟨h1, hf⟩ := gd_ix hf
  refine g_aald S hw 56 3 xe_56 rfl h1 dX0_keep_13 ?_
  refine lv_iconst (v := 0) S.1 S.2.1 dX0_keep_14 (by decide) ?_
  refine lv_aload_n S.1 S.2.1 dX0_keep_15 rfl (lv_at hl 1 rfl) ?_
  refine xg_Reader_length S hw kf_X0_43 dX0_keep_16 ?_
  obtain ⟨h2, hf⟩ := gd_cp hf
  obtain ⟨σ3, e4⟩ : ∃ z : St, z = sA σ (57 + ((σ.1 10)).toNatClampNeg) (va_cpy (σ.2.1 55) (σ.2.1 (57 + ((σ.1 10)).toNatClampNeg)) ((0 : Int32)).toNatClampNeg ((0 : Int32)).toNatClampNeg ((σ.1 8)).toNatClampNeg) := ⟨_, rfl⟩
  have hf := nm_s e4 hf
  refine g_cpy (σ' := σ3) (rest := []) S hl.1 kcp_X0 hw 55 (57 + ((σ.1 10)).toNatClampNeg) xe_55 (x2_57 (vp_lt h1)) rfl h2 (by rw [e4]; exact xt_57 (vp_lt h1) _) (Nat.le_of_ble_eq_true rfl) (Nat.le_of_ble_eq_true rfl) dX0_keep_19 (fun H locs hw => ?_)
  refine lv_aload_n S.1 S.2.1 dX0_keep_22 rfl (lv_at hl 0 rfl) ?_
  refine xg_Acts_middles S hw kf_X0_16 dX0_keep_23 ?_
  refine lv_aload_n S.1 S.2.1 dX0_keep_26 rfl (lv_at hl 0 rfl) ?_
  refine xg_Acts_count S hw kf_X0_39 dX0_keep_27 ?_
  refine lv_aload_n S.1 S.2.1 dX0_keep_30 rfl (lv_at hl 1 rfl) ?_
  refine xg_Reader_middle S hw kf_X0_52 dX0_keep_31 ?_
  obtain ⟨h5, hf⟩ := gd_ix hf
  obtain ⟨σ6, e7⟩ : ∃ z : St, z = aW σ3 63 (σ3.1 10) (σ3.1 9) := ⟨_, rfl⟩
  have hf := nm_s e7 hf
  refine g_iast (σ' := σ6) S hw 63 0 xe_63 rfl (by rw [e7]; exact xs_63 _) h5 dX0_keep_34 (fun H locs hw => ?_)
  refine lv_aload_n S.1 S.2.1 dX0_keep_35 rfl (lv_at hl 0 rfl) ?_
  refine xg_Acts_lengths S hw kf_X0_20 dX0_keep_36 ?_
  refine lv_aload_n S.1 S.2.1 dX0_keep_39 rfl (lv_at hl 0 rfl) ?_
  refine xg_Acts_count S hw kf_X0_39 dX0_keep_40 ?_
  refine lv_aload_n S.1 S.2.1 dX0_keep_43 rfl (lv_at hl 1 rfl) ?_
  refine xg_Reader_length S hw kf_X0_43 dX0_keep_44 ?_
  obtain ⟨h8, hf⟩ := gd_ix hf
  obtain ⟨σ9, e10⟩ : ∃ z : St, z = aW σ6 64 (σ6.1 10) (σ6.1 8) := ⟨_, rfl⟩
  have hf := nm_s e10 hf
  refine g_iast (σ' := σ9) S hw 64 0 xe_64 rfl (by rw [e10]; exact xs_64 _) h8 dX0_keep_47 (fun H locs hw => ?_)
  refine lv_aload_n S.1 S.2.1 dX0_keep_48 rfl (lv_at hl 0 rfl) ?_
  refine lv_dup S.1 S.2.1 dX0_keep_49 rfl ?_
  refine xg_Acts_count S hw kf_X0_39 dX0_keep_50 ?_
  refine lv_iconst (v := 1) S.1 S.2.1 dX0_keep_53 (by decide) ?_
  refine lv_iadd S.1 S.2.1 dX0_keep_54 ?_
  obtain ⟨σ11, e12⟩ : ∃ z : St, z = sI σ9 10 ((σ9.1 10) + (1 : Int32)) := ⟨_, rfl⟩
  have hf := nm_s e12 hf
  refine xp_Acts_count S hw e12 kf_X0_39 dX0_keep_55 (fun H locs hw => ?_)
  refine lv_aload_n S.1 S.2.1 dX0_keep_58 rfl (lv_at hl 0 rfl) ?_
  refine xg_Acts_count S hw kf_X0_39 dX0_keep_59 ?_
  refine lv_iconst (v := 1) S.1 S.2.1 dX0_keep_62 (by decide) ?_
  refine lv_isub S.1 S.2.1 dX0_keep_63 ?_
  exact g_iret (XWd_ok D ad cs ts adK adV) S hr hlk hw dX0_keep_64 (Prod.mk.inj (Option.some.inj hf)).1 (Prod.mk.inj (Option.some.inj hf)).2
def fX11_within (x0 : Int32) (x1 : Int32) (x2 : Int32) : Int32 :=
  if x0 < x1 then ((0 : Int32)) else (if x2 < x0 then ((0 : Int32)) else ((1 : Int32)))
set_option maxHeartbeats 2000000 in
set_option maxRecDepth 20000 in
theorem tX11_within {r : Int32} {σ : St} {x0 : Int32} {x1 : Int32} {x2 : Int32} (hf : fX11_within x0 x1 x2 = r) : CI l (XWd D ad cs ts adK adV) yX11_within cX11_within 3 (some .boolean) 0 0 [.int x0, .int x1, .int x2] σ r σ := by
  refine CI.of (by decide) (Nat.le_of_ble_eq_true rfl) ?_
  intro p e s m below meth c ls S hr hlk hw hl
  have hl : lv_has ls 3 [(0, .int x0), (1, .int x1), (2, .int x2)] := hl
  unfold fX11_within at hf
  refine lv_iload_n S.1 S.2.1 dX11_within_0 rfl (lv_at hl 0 rfl) ?_
  refine lv_iload_n S.1 S.2.1 dX11_within_1 rfl (lv_at hl 1 rfl) ?_
  refine lv_icmp_lt (tgt := 14) S.1 S.2.1 dX11_within_2 (by decide) (fun hc => ?_) (fun hc => ?_)
  · have hf := itt hf hc
    refine lv_iconst (v := 0) S.1 S.2.1 dX11_within_14 (by decide) ?_
    exact g_zret (XWd_ok D ad cs ts adK adV) S hr hlk hw rfl dX11_within_15 hf rfl
  · have hf := itf hf hc
    refine lv_iload_n S.1 S.2.1 dX11_within_5 rfl (lv_at hl 0 rfl) ?_
    refine lv_iload_n S.1 S.2.1 dX11_within_6 rfl (lv_at hl 2 rfl) ?_
    refine lv_icmp_gt (tgt := 14) S.1 S.2.1 dX11_within_7 (by decide) (fun hc => ?_) (fun hc => ?_)
    · have hf := itt hf hc
      refine lv_iconst (v := 0) S.1 S.2.1 dX11_within_14 (by decide) ?_
      exact g_zret (XWd_ok D ad cs ts adK adV) S hr hlk hw rfl dX11_within_15 hf rfl
    · have hf := itf hf hc
      refine lv_iconst (v := 1) S.1 S.2.1 dX11_within_10 (by decide) ?_
      refine lv_goto (tgt := 15) S.1 S.2.1 dX11_within_11 (by decide) ?_
      exact g_zret (XWd_ok D ad cs ts adK adV) S hr hlk hw rfl dX11_within_15 hf rfl
theorem zzX11_within (x0 : Int32) (x1 : Int32) (x2 : Int32) : narrow .boolean (.int (fX11_within x0 x1 x2)) = .int (fX11_within x0 x1 x2) := by
  unfold fX11_within
  repeat' split
  all_goals rfl
def fX0_truth (x0 : Int32) : Int32 :=
  if x0 = 0 then ((0 : Int32)) else ((1 : Int32))
set_option maxHeartbeats 2000000 in
set_option maxRecDepth 20000 in
theorem tX0_truth {r : Int32} {σ : St} {x0 : Int32} (hf : fX0_truth x0 = r) : CI l (XWd D ad cs ts adK adV) yX0_truth cX0_truth 1 (some .int) 0 0 [.int x0] σ r σ := by
  refine CI.of (by decide) (Nat.le_of_ble_eq_true rfl) ?_
  intro p e s m below meth c ls S hr hlk hw hl
  have hl : lv_has ls 1 [(0, .int x0)] := hl
  unfold fX0_truth at hf
  refine lv_iload_n S.1 S.2.1 dX0_truth_0 rfl (lv_at hl 0 rfl) ?_
  refine lv_if_eq (tgt := 8) S.1 S.2.1 dX0_truth_1 (by decide) (fun hc => ?_) (fun hc => ?_)
  · have hf := itt hf hc
    refine lv_iconst (v := 0) S.1 S.2.1 dX0_truth_8 (by decide) ?_
    exact g_iret (XWd_ok D ad cs ts adK adV) S hr hlk hw dX0_truth_9 hf rfl
  · have hf := itf hf hc
    refine lv_iconst (v := 1) S.1 S.2.1 dX0_truth_4 (by decide) ?_
    refine lv_goto (tgt := 9) S.1 S.2.1 dX0_truth_5 (by decide) ?_
    exact g_iret (XWd_ok D ad cs ts adK adV) S hr hlk hw dX0_truth_9 hf rfl
def fX0_joined (x0 : Int32) (x1 : Int32) (x2 : Int32) : Int32 :=
  if x0 = (43 : Int32) then ((x1 + x2)) else (if x0 = (45 : Int32) then ((x1 - x2)) else (if x0 = (60 : Int32) then (if x2 ≤ x1 then ((fX0_truth (0 : Int32))) else ((fX0_truth (1 : Int32)))) else (if x0 = (61 : Int32) then (if x1 = x2 then ((fX0_truth (1 : Int32))) else ((fX0_truth (0 : Int32)))) else (if x0 = (130 : Int32) then (if x1 = 0 then (if x2 = 0 then ((fX0_truth (0 : Int32))) else ((fX0_truth (1 : Int32)))) else ((fX0_truth (1 : Int32)))) else (if x0 = (131 : Int32) then (if x1 = 0 then ((fX0_truth (0 : Int32))) else (if x2 = 0 then ((fX0_truth (0 : Int32))) else ((fX0_truth (1 : Int32))))) else ((x1 * x2)))))))
set_option maxHeartbeats 2000000 in
set_option maxRecDepth 20000 in
theorem tX0_joined {r : Int32} {σ : St} {x0 : Int32} {x1 : Int32} {x2 : Int32} (hf : fX0_joined x0 x1 x2 = r) : CI l (XWd D ad cs ts adK adV) yX0_joined cX0_joined 3 (some .int) 1 20 [.int x0, .int x1, .int x2] σ r σ := by
  refine CI.of (by decide) (Nat.le_of_ble_eq_true rfl) ?_
  intro p e s m below meth c ls S hr hlk hw hl
  have hl : lv_has ls 3 [(0, .int x0), (1, .int x1), (2, .int x2)] := hl
  unfold fX0_joined at hf
  refine lv_iload_n S.1 S.2.1 dX0_joined_0 rfl (lv_at hl 0 rfl) ?_
  by_cases h1 : x0 = (43 : Int32)
  · have hf := itt hf h1
    refine lv_lookup (off := 121) (tgt := 122) S.1 S.2.1 dX0_joined_1 (by decide) (by rw [h1]; rfl) (by decide) ?_
    refine lv_iload_n S.1 S.2.1 dX0_joined_122 rfl (lv_at hl 1 rfl) ?_
    refine lv_iload_n S.1 S.2.1 dX0_joined_123 rfl (lv_at hl 2 rfl) ?_
    refine lv_iadd S.1 S.2.1 dX0_joined_124 ?_
    exact g_iret (XWd_ok D ad cs ts adK adV) S hr hlk hw dX0_joined_125 hf rfl
  have hf := itf hf h1
  by_cases h2 : x0 = (45 : Int32)
  · have hf := itt hf h2
    refine lv_lookup (off := 125) (tgt := 126) S.1 S.2.1 dX0_joined_1 (by decide) (by rw [h2]; rfl) (by decide) ?_
    refine lv_iload_n S.1 S.2.1 dX0_joined_126 rfl (lv_at hl 1 rfl) ?_
    refine lv_iload_n S.1 S.2.1 dX0_joined_127 rfl (lv_at hl 2 rfl) ?_
    refine lv_isub S.1 S.2.1 dX0_joined_128 ?_
    exact g_iret (XWd_ok D ad cs ts adK adV) S hr hlk hw dX0_joined_129 hf rfl
  have hf := itf hf h2
  by_cases h3 : x0 = (60 : Int32)
  · have hf := itt hf h3
    refine lv_lookup (off := 93) (tgt := 94) S.1 S.2.1 dX0_joined_1 (by decide) (by rw [h3]; rfl) (by decide) ?_
    refine lv_iload_n S.1 S.2.1 dX0_joined_94 rfl (lv_at hl 1 rfl) ?_
    refine lv_iload_n S.1 S.2.1 dX0_joined_95 rfl (lv_at hl 2 rfl) ?_
    refine lv_icmp_ge (tgt := 103) S.1 S.2.1 dX0_joined_96 (by decide) (fun hc => ?_) (fun hc => ?_)
    · have hf := itt hf hc
      refine lv_iconst (v := 0) S.1 S.2.1 dX0_joined_103 (by decide) ?_
      refine g_Si (rest := []) (XWd_ok D ad cs ts adK adV) S hw (tX0_truth (ad := ad) (cs := cs) (ts := ts) (adK := adK) (adV := adV) (σ := σ) rfl) kt_X0_77 ⟨Nat.le_of_ble_eq_true rfl, Nat.le_of_ble_eq_true rfl⟩ rfl hl.1 rfl (Nat.le_of_ble_eq_true rfl) ⟨Nat.zero_le _, Nat.zero_le _⟩ dX0_joined_104 (fun H locs hw => ?_)
      exact g_iret (XWd_ok D ad cs ts adK adV) S hr hlk hw dX0_joined_107 hf rfl
    · have hf := itf hf hc
      refine lv_iconst (v := 1) S.1 S.2.1 dX0_joined_99 (by decide) ?_
      refine lv_goto (tgt := 104) S.1 S.2.1 dX0_joined_100 (by decide) ?_
      refine g_Si (rest := []) (XWd_ok D ad cs ts adK adV) S hw (tX0_truth (ad := ad) (cs := cs) (ts := ts) (adK := adK) (adV := adV) (σ := σ) rfl) kt_X0_77 ⟨Nat.le_of_ble_eq_true rfl, Nat.le_of_ble_eq_true rfl⟩ rfl hl.1 rfl (Nat.le_of_ble_eq_true rfl) ⟨Nat.zero_le _, Nat.zero_le _⟩ dX0_joined_104 (fun H locs hw => ?_)
      exact g_iret (XWd_ok D ad cs ts adK adV) S hr hlk hw dX0_joined_107 hf rfl
  have hf := itf hf h3
  by_cases h4 : x0 = (61 : Int32)
  · have hf := itt hf h4
    refine lv_lookup (off := 107) (tgt := 108) S.1 S.2.1 dX0_joined_1 (by decide) (by rw [h4]; rfl) (by decide) ?_
    refine lv_iload_n S.1 S.2.1 dX0_joined_108 rfl (lv_at hl 1 rfl) ?_
    refine lv_iload_n S.1 S.2.1 dX0_joined_109 rfl (lv_at hl 2 rfl) ?_
    refine lv_icmp_ne (tgt := 117) S.1 S.2.1 dX0_joined_110 (by decide) (fun hc => ?_) (fun hc => ?_)
    · have hf := itf hf hc
      refine lv_iconst (v := 0) S.1 S.2.1 dX0_joined_117 (by decide) ?_
      refine g_Si (rest := []) (XWd_ok D ad cs ts adK adV) S hw (tX0_truth (ad := ad) (cs := cs) (ts := ts) (adK := adK) (adV := adV) (σ := σ) rfl) kt_X0_77 ⟨Nat.le_of_ble_eq_true rfl, Nat.le_of_ble_eq_true rfl⟩ rfl hl.1 rfl (Nat.le_of_ble_eq_true rfl) ⟨Nat.zero_le _, Nat.zero_le _⟩ dX0_joined_118 (fun H locs hw => ?_)
      exact g_iret (XWd_ok D ad cs ts adK adV) S hr hlk hw dX0_joined_121 hf rfl
    · have hf := itt hf hc
      refine lv_iconst (v := 1) S.1 S.2.1 dX0_joined_113 (by decide) ?_
      refine lv_goto (tgt := 118) S.1 S.2.1 dX0_joined_114 (by decide) ?_
      refine g_Si (rest := []) (XWd_ok D ad cs ts adK adV) S hw (tX0_truth (ad := ad) (cs := cs) (ts := ts) (adK := adK) (adV := adV) (σ := σ) rfl) kt_X0_77 ⟨Nat.le_of_ble_eq_true rfl, Nat.le_of_ble_eq_true rfl⟩ rfl hl.1 rfl (Nat.le_of_ble_eq_true rfl) ⟨Nat.zero_le _, Nat.zero_le _⟩ dX0_joined_118 (fun H locs hw => ?_)
      exact g_iret (XWd_ok D ad cs ts adK adV) S hr hlk hw dX0_joined_121 hf rfl
  have hf := itf hf h4
  by_cases h5 : x0 = (130 : Int32)
  · have hf := itt hf h5
    refine lv_lookup (off := 59) (tgt := 60) S.1 S.2.1 dX0_joined_1 (by decide) (by rw [h5]; rfl) (by decide) ?_
    refine lv_iload_n S.1 S.2.1 dX0_joined_60 rfl (lv_at hl 1 rfl) ?_
    refine lv_if_ne (tgt := 68) S.1 S.2.1 dX0_joined_61 (by decide) (fun hc => ?_) (fun hc => ?_)
    · have hf := itf hf hc
      refine lv_iconst (v := 1) S.1 S.2.1 dX0_joined_68 (by decide) ?_
      refine lv_goto (tgt := 73) S.1 S.2.1 dX0_joined_69 (by decide) ?_
      refine g_Si (rest := []) (XWd_ok D ad cs ts adK adV) S hw (tX0_truth (ad := ad) (cs := cs) (ts := ts) (adK := adK) (adV := adV) (σ := σ) rfl) kt_X0_77 ⟨Nat.le_of_ble_eq_true rfl, Nat.le_of_ble_eq_true rfl⟩ rfl hl.1 rfl (Nat.le_of_ble_eq_true rfl) ⟨Nat.zero_le _, Nat.zero_le _⟩ dX0_joined_73 (fun H locs hw => ?_)
      exact g_iret (XWd_ok D ad cs ts adK adV) S hr hlk hw dX0_joined_76 hf rfl
    · have hf := itt hf hc
      refine lv_iload_n S.1 S.2.1 dX0_joined_64 rfl (lv_at hl 2 rfl) ?_
      refine lv_if_eq (tgt := 72) S.1 S.2.1 dX0_joined_65 (by decide) (fun hc => ?_) (fun hc => ?_)
      · have hf := itt hf hc
        refine lv_iconst (v := 0) S.1 S.2.1 dX0_joined_72 (by decide) ?_
        refine g_Si (rest := []) (XWd_ok D ad cs ts adK adV) S hw (tX0_truth (ad := ad) (cs := cs) (ts := ts) (adK := adK) (adV := adV) (σ := σ) rfl) kt_X0_77 ⟨Nat.le_of_ble_eq_true rfl, Nat.le_of_ble_eq_true rfl⟩ rfl hl.1 rfl (Nat.le_of_ble_eq_true rfl) ⟨Nat.zero_le _, Nat.zero_le _⟩ dX0_joined_73 (fun H locs hw => ?_)
        exact g_iret (XWd_ok D ad cs ts adK adV) S hr hlk hw dX0_joined_76 hf rfl
      · have hf := itf hf hc
        refine lv_iconst (v := 1) S.1 S.2.1 dX0_joined_68 (by decide) ?_
        refine lv_goto (tgt := 73) S.1 S.2.1 dX0_joined_69 (by decide) ?_
        refine g_Si (rest := []) (XWd_ok D ad cs ts adK adV) S hw (tX0_truth (ad := ad) (cs := cs) (ts := ts) (adK := adK) (adV := adV) (σ := σ) rfl) kt_X0_77 ⟨Nat.le_of_ble_eq_true rfl, Nat.le_of_ble_eq_true rfl⟩ rfl hl.1 rfl (Nat.le_of_ble_eq_true rfl) ⟨Nat.zero_le _, Nat.zero_le _⟩ dX0_joined_73 (fun H locs hw => ?_)
        exact g_iret (XWd_ok D ad cs ts adK adV) S hr hlk hw dX0_joined_76 hf rfl
  have hf := itf hf h5
  by_cases h6 : x0 = (131 : Int32)
  · have hf := itt hf h6
    refine lv_lookup (off := 76) (tgt := 77) S.1 S.2.1 dX0_joined_1 (by decide) (by rw [h6]; rfl) (by decide) ?_
    refine lv_iload_n S.1 S.2.1 dX0_joined_77 rfl (lv_at hl 1 rfl) ?_
    refine lv_if_eq (tgt := 89) S.1 S.2.1 dX0_joined_78 (by decide) (fun hc => ?_) (fun hc => ?_)
    · have hf := itt hf hc
      refine lv_iconst (v := 0) S.1 S.2.1 dX0_joined_89 (by decide) ?_
      refine g_Si (rest := []) (XWd_ok D ad cs ts adK adV) S hw (tX0_truth (ad := ad) (cs := cs) (ts := ts) (adK := adK) (adV := adV) (σ := σ) rfl) kt_X0_77 ⟨Nat.le_of_ble_eq_true rfl, Nat.le_of_ble_eq_true rfl⟩ rfl hl.1 rfl (Nat.le_of_ble_eq_true rfl) ⟨Nat.zero_le _, Nat.zero_le _⟩ dX0_joined_90 (fun H locs hw => ?_)
      exact g_iret (XWd_ok D ad cs ts adK adV) S hr hlk hw dX0_joined_93 hf rfl
    · have hf := itf hf hc
      refine lv_iload_n S.1 S.2.1 dX0_joined_81 rfl (lv_at hl 2 rfl) ?_
      refine lv_if_eq (tgt := 89) S.1 S.2.1 dX0_joined_82 (by decide) (fun hc => ?_) (fun hc => ?_)
      · have hf := itt hf hc
        refine lv_iconst (v := 0) S.1 S.2.1 dX0_joined_89 (by decide) ?_
        refine g_Si (rest := []) (XWd_ok D ad cs ts adK adV) S hw (tX0_truth (ad := ad) (cs := cs) (ts := ts) (adK := adK) (adV := adV) (σ := σ) rfl) kt_X0_77 ⟨Nat.le_of_ble_eq_true rfl, Nat.le_of_ble_eq_true rfl⟩ rfl hl.1 rfl (Nat.le_of_ble_eq_true rfl) ⟨Nat.zero_le _, Nat.zero_le _⟩ dX0_joined_90 (fun H locs hw => ?_)
        exact g_iret (XWd_ok D ad cs ts adK adV) S hr hlk hw dX0_joined_93 hf rfl
      · have hf := itf hf hc
        refine lv_iconst (v := 1) S.1 S.2.1 dX0_joined_85 (by decide) ?_
        refine lv_goto (tgt := 90) S.1 S.2.1 dX0_joined_86 (by decide) ?_
        refine g_Si (rest := []) (XWd_ok D ad cs ts adK adV) S hw (tX0_truth (ad := ad) (cs := cs) (ts := ts) (adK := adK) (adV := adV) (σ := σ) rfl) kt_X0_77 ⟨Nat.le_of_ble_eq_true rfl, Nat.le_of_ble_eq_true rfl⟩ rfl hl.1 rfl (Nat.le_of_ble_eq_true rfl) ⟨Nat.zero_le _, Nat.zero_le _⟩ dX0_joined_90 (fun H locs hw => ?_)
        exact g_iret (XWd_ok D ad cs ts adK adV) S hr hlk hw dX0_joined_93 hf rfl
  have hf := itf hf h6
  refine lv_lookup (off := 129) (tgt := 130) S.1 S.2.1 dX0_joined_1 (by decide) ((lv_osw h1 (a := 43) (by decide)).trans ((lv_osw h2 (a := 45) (by decide)).trans ((lv_osw h3 (a := 60) (by decide)).trans ((lv_osw h4 (a := 61) (by decide)).trans ((lv_osw h5 (a := 130) (by decide)).trans ((lv_osw h6 (a := 131) (by decide)).trans (rfl))))))) (by decide) ?_
  refine lv_iload_n S.1 S.2.1 dX0_joined_130 rfl (lv_at hl 1 rfl) ?_
  refine lv_iload_n S.1 S.2.1 dX0_joined_131 rfl (lv_at hl 2 rfl) ?_
  refine lv_imul S.1 S.2.1 dX0_joined_132 ?_
  exact g_iret (XWd_ok D ad cs ts adK adV) S hr hlk hw dX0_joined_133 hf rfl
def fX0_pull (N : Nat) (σ : St) : Option (Int32 × St) :=
  if 0 < (σ.1 12) then (nm (sI σ 12 ((σ.1 12) - (1 : Int32))) fun σ1 => if ix (σ1.1 12) 160 = true then some ((aR σ1 65 (σ1.1 12)), σ1) else none) else (some ((0 : Int32), σ))
set_option maxHeartbeats 2000000 in
set_option maxRecDepth 20000 in
theorem tX0_pull {r : Int32} {σ' : St} {N : Nat} {σ : St} (hf : fX0_pull N σ = some (r, σ')) : CI l (XWd D ad cs ts adK adV) yX0_pull cX0_pull 1 (some .int) 0 0 [.ref (ad 6)] σ r σ' := by
  refine CI.of (by decide) (Nat.le_of_ble_eq_true rfl) ?_
  intro p e s m below meth c ls S hr hlk hw hl
  have hl : lv_has ls 1 [(0, .ref (ad 6))] := hl
  unfold fX0_pull at hf
  refine lv_aload_n S.1 S.2.1 dX0_pull_0 rfl (lv_at hl 0 rfl) ?_
  refine xg_Acts_top S hw kf_X0_58 dX0_pull_1 ?_
  refine lv_if_gt (tgt := 9) S.1 S.2.1 dX0_pull_4 (by decide) (fun hc => ?_) (fun hc => ?_)
  · have hf := itt hf hc
    refine lv_aload_n S.1 S.2.1 dX0_pull_9 rfl (lv_at hl 0 rfl) ?_
    refine lv_dup S.1 S.2.1 dX0_pull_10 rfl ?_
    refine xg_Acts_top S hw kf_X0_58 dX0_pull_11 ?_
    refine lv_iconst (v := 1) S.1 S.2.1 dX0_pull_14 (by decide) ?_
    refine lv_isub S.1 S.2.1 dX0_pull_15 ?_
    obtain ⟨σ1, e2⟩ : ∃ z : St, z = sI σ 12 ((σ.1 12) - (1 : Int32)) := ⟨_, rfl⟩
    have hf := nm_s e2 hf
    refine xp_Acts_top S hw e2 kf_X0_58 dX0_pull_16 (fun H locs hw => ?_)
    refine lv_aload_n S.1 S.2.1 dX0_pull_19 rfl (lv_at hl 0 rfl) ?_
    refine xg_Acts_stack S hw kf_X0_23 dX0_pull_20 ?_
    refine lv_aload_n S.1 S.2.1 dX0_pull_23 rfl (lv_at hl 0 rfl) ?_
    refine xg_Acts_top S hw kf_X0_58 dX0_pull_24 ?_
    obtain ⟨h3, hf⟩ := gd_ix hf
    refine g_iald S hw 65 0 xe_65 rfl h3 dX0_pull_27 ?_
    exact g_iret (XWd_ok D ad cs ts adK adV) S hr hlk hw dX0_pull_28 (Prod.mk.inj (Option.some.inj hf)).1 (Prod.mk.inj (Option.some.inj hf)).2
  · have hf := itf hf hc
    refine lv_iconst (v := 0) S.1 S.2.1 dX0_pull_7 (by decide) ?_
    exact g_iret (XWd_ok D ad cs ts adK adV) S hr hlk hw dX0_pull_8 (Prod.mk.inj (Option.some.inj hf)).1 (Prod.mk.inj (Option.some.inj hf)).2
def fX0_push (N : Nat) (σ : St) (x1 : Int32) : Option St :=
  if (σ.1 12) < (160 : Int32) then (if ix (σ.1 12) 160 = true then nm (aW σ 65 (σ.1 12) x1) fun σ2 => nm (sI σ2 12 ((σ2.1 12) + (1 : Int32))) fun σ4 => some σ4 else none) else (some σ)
set_option maxHeartbeats 2000000 in
set_option maxRecDepth 20000 in
theorem tX0_push {σ' : St} {N : Nat} {σ : St} {x1 : Int32} (hf : fX0_push N σ x1 = some σ') : CV l (XWd D ad cs ts adK adV) yX0_push cX0_push 2 0 0 [.ref (ad 6), .int x1] σ σ' := by
  refine CV.of (by decide) (Nat.le_of_ble_eq_true rfl) ?_
  intro p e s m below meth c ls S hr hlk hw hl
  have hl : lv_has ls 2 [(0, .ref (ad 6)), (1, .int x1)] := hl
  unfold fX0_push at hf
  refine lv_aload_n S.1 S.2.1 dX0_push_0 rfl (lv_at hl 0 rfl) ?_
  refine xg_Acts_top S hw kf_X0_58 dX0_push_1 ?_
  refine lv_sipush (v := 160) S.1 S.2.1 dX0_push_4 (by decide) ?_
  refine lv_icmp_lt (tgt := 11) S.1 S.2.1 dX0_push_7 (by decide) (fun hc => ?_) (fun hc => ?_)
  · have hf := itt hf hc
    refine lv_aload_n S.1 S.2.1 dX0_push_11 rfl (lv_at hl 0 rfl) ?_
    refine xg_Acts_stack S hw kf_X0_23 dX0_push_12 ?_
    refine lv_aload_n S.1 S.2.1 dX0_push_15 rfl (lv_at hl 0 rfl) ?_
    refine xg_Acts_top S hw kf_X0_58 dX0_push_16 ?_
    refine lv_iload_n S.1 S.2.1 dX0_push_19 rfl (lv_at hl 1 rfl) ?_
    obtain ⟨h1, hf⟩ := gd_ix hf
    obtain ⟨σ2, e3⟩ : ∃ z : St, z = aW σ 65 (σ.1 12) x1 := ⟨_, rfl⟩
    have hf := nm_s e3 hf
    refine g_iast (σ' := σ2) S hw 65 0 xe_65 rfl (by rw [e3]; exact xs_65 _) h1 dX0_push_20 (fun H locs hw => ?_)
    refine lv_aload_n S.1 S.2.1 dX0_push_21 rfl (lv_at hl 0 rfl) ?_
    refine lv_dup S.1 S.2.1 dX0_push_22 rfl ?_
    refine xg_Acts_top S hw kf_X0_58 dX0_push_23 ?_
    refine lv_iconst (v := 1) S.1 S.2.1 dX0_push_26 (by decide) ?_
    refine lv_iadd S.1 S.2.1 dX0_push_27 ?_
    obtain ⟨σ4, e5⟩ : ∃ z : St, z = sI σ2 12 ((σ2.1 12) + (1 : Int32)) := ⟨_, rfl⟩
    have hf := nm_s e5 hf
    refine xp_Acts_top S hw e5 kf_X0_58 dX0_push_28 (fun H locs hw => ?_)
    exact g_vret (XWd_ok D ad cs ts adK adV) S hr hlk hw dX0_push_31 (Option.some.inj hf)
  · have hf := itf hf hc
    exact g_vret (XWd_ok D ad cs ts adK adV) S hr hlk hw dX0_push_10 (Option.some.inj hf)
def fX0_join (N : Nat) (σ : St) (x1 : Int32) : Option St :=
  bd2 (fX0_pull N σ) fun r3 σ1 => bd2 (fX0_pull N σ1) fun r6 σ4 => bd (fX0_push N σ4 (fX0_joined x1 r6 r3)) fun σ7 => some σ7
set_option maxHeartbeats 2000000 in
set_option maxRecDepth 20000 in
theorem tX0_join {σ' : St} {N : Nat} {σ : St} {x1 : Int32} (hf : fX0_join N σ x1 = some σ') : CV l (XWd D ad cs ts adK adV) yX0_join cX0_join 4 2 42 [.ref (ad 6), .int x1] σ σ' := by
  refine CV.of (by decide) (Nat.le_of_ble_eq_true rfl) ?_
  intro p e s m below meth c ls S hr hlk hw hl
  have hl : lv_has ls 4 [(0, .ref (ad 6)), (1, .int x1)] := hl
  unfold fX0_join at hf
  refine lv_aload_n S.1 S.2.1 dX0_join_0 rfl (lv_at hl 0 rfl) ?_
  obtain ⟨r3, σ1, g2, hf⟩ := bd2_s hf
  refine g_Vi (rest := []) (XWd_ok D ad cs ts adK adV) S hw (tX0_pull g2) kt_X0_73 6 xe_6 rfl rfl ⟨Nat.le_of_ble_eq_true rfl, Nat.le_of_ble_eq_true rfl⟩ rfl hl.1 rfl (Nat.le_of_ble_eq_true rfl) ⟨Nat.zero_le _, Nat.zero_le _⟩ dX0_join_1 (fun H locs hw => ?_)
  refine lv_istore_n (lv' := [(2, .int r3), (0, .ref (ad 6)), (1, .int x1)]) S.1 S.2.1 dX0_join_4 rfl hl (by decide) rfl (fun ls hl => ?_)
  refine lv_aload_n S.1 S.2.1 dX0_join_5 rfl (lv_at hl 1 rfl) ?_
  obtain ⟨r6, σ4, g5, hf⟩ := bd2_s hf
  refine g_Vi (rest := []) (XWd_ok D ad cs ts adK adV) S hw (tX0_pull g5) kt_X0_73 6 xe_6 rfl rfl ⟨Nat.le_of_ble_eq_true rfl, Nat.le_of_ble_eq_true rfl⟩ rfl hl.1 rfl (Nat.le_of_ble_eq_true rfl) ⟨Nat.zero_le _, Nat.zero_le _⟩ dX0_join_6 (fun H locs hw => ?_)
  refine lv_istore_n (lv' := [(3, .int r6), (2, .int r3), (0, .ref (ad 6)), (1, .int x1)]) S.1 S.2.1 dX0_join_9 rfl hl (by decide) rfl (fun ls hl => ?_)
  refine lv_aload_n S.1 S.2.1 dX0_join_10 rfl (lv_at hl 2 rfl) ?_
  refine lv_iload_n S.1 S.2.1 dX0_join_11 rfl (lv_at hl 3 rfl) ?_
  refine lv_iload_n S.1 S.2.1 dX0_join_12 rfl (lv_at hl 0 rfl) ?_
  refine lv_iload_n S.1 S.2.1 dX0_join_13 rfl (lv_at hl 1 rfl) ?_
  refine g_Si (rest := [.ref (ad 6)]) (XWd_ok D ad cs ts adK adV) S hw (tX0_joined (ad := ad) (cs := cs) (ts := ts) (adK := adK) (adV := adV) (σ := σ4) rfl) kt_X0_84 ⟨Nat.le_of_ble_eq_true rfl, Nat.le_of_ble_eq_true rfl⟩ rfl hl.1 rfl (Nat.le_of_ble_eq_true rfl) ⟨Nat.zero_le _, Nat.zero_le _⟩ dX0_join_14 (fun H locs hw => ?_)
  obtain ⟨σ7, g8, hf⟩ := bd_s hf
  refine g_Vv (rest := []) (XWd_ok D ad cs ts adK adV) S hw (tX0_push g8) kt_X0_61 6 xe_6 rfl rfl ⟨Nat.le_of_ble_eq_true rfl, Nat.le_of_ble_eq_true rfl⟩ rfl hl.1 rfl (Nat.le_of_ble_eq_true rfl) ⟨Nat.zero_le _, Nat.zero_le _⟩ dX0_join_17 (fun H locs hw => ?_)
  exact g_vret (XWd_ok D ad cs ts adK adV) S hr hlk hw dX0_join_20 (Option.some.inj hf)
def fX4_treesNow (N : Nat) (σ : St) (x1 : Int32) : Option Int32 :=
  if ix x1 48 = true then if ix x1 48 = true then if ix x1 48 = true then some ((aR σ 21 x1) + ((aR σ 22 x1) * (((σ.1 0) - (aR σ 23 x1)) / (365 : Int32)))) else none else none else none
set_option maxHeartbeats 2000000 in
set_option maxRecDepth 20000 in
theorem tX4_treesNow {r : Int32} {N : Nat} {σ : St} {x1 : Int32} (hf : fX4_treesNow N σ x1 = some r) : CI l (XWd D ad cs ts adK adV) yX4_treesNow cX4_treesNow 2 (some .int) 0 0 [.ref (ad 1), .int x1] σ r σ := by
  refine CI.of (by decide) (Nat.le_of_ble_eq_true rfl) ?_
  intro p e s m below meth c ls S hr hlk hw hl
  have hl : lv_has ls 2 [(0, .ref (ad 1)), (1, .int x1)] := hl
  unfold fX4_treesNow at hf
  refine lv_aload_n S.1 S.2.1 dX4_treesNow_0 rfl (lv_at hl 0 rfl) ?_
  refine xg_Land_treeHeights S hw kf_X4_29 dX4_treesNow_1 ?_
  refine lv_iload_n S.1 S.2.1 dX4_treesNow_4 rfl (lv_at hl 1 rfl) ?_
  obtain ⟨h1, hf⟩ := gd_ix hf
  refine g_iald S hw 21 0 xe_21 rfl h1 dX4_treesNow_5 ?_
  refine lv_aload_n S.1 S.2.1 dX4_treesNow_6 rfl (lv_at hl 0 rfl) ?_
  refine xg_Land_treeGrowths S hw kf_X4_32 dX4_treesNow_7 ?_
  refine lv_iload_n S.1 S.2.1 dX4_treesNow_10 rfl (lv_at hl 1 rfl) ?_
  obtain ⟨h2, hf⟩ := gd_ix hf
  refine g_iald S hw 22 0 xe_22 rfl h2 dX4_treesNow_11 ?_
  refine lv_aload_n S.1 S.2.1 dX4_treesNow_12 rfl (lv_at hl 0 rfl) ?_
  refine xg_Land_day S hw kf_X4_44 dX4_treesNow_13 ?_
  refine lv_aload_n S.1 S.2.1 dX4_treesNow_16 rfl (lv_at hl 0 rfl) ?_
  refine xg_Land_treeDays S hw kf_X4_35 dX4_treesNow_17 ?_
  refine lv_iload_n S.1 S.2.1 dX4_treesNow_20 rfl (lv_at hl 1 rfl) ?_
  obtain ⟨h3, hf⟩ := gd_ix hf
  refine g_iald S hw 23 0 xe_23 rfl h3 dX4_treesNow_21 ?_
  refine lv_isub S.1 S.2.1 dX4_treesNow_22 ?_
  refine lv_sipush (v := 365) S.1 S.2.1 dX4_treesNow_23 (by decide) ?_
  refine lv_idiv S.1 S.2.1 dX4_treesNow_26 (by decide) ?_
  refine lv_imul S.1 S.2.1 dX4_treesNow_27 ?_
  refine lv_iadd S.1 S.2.1 dX4_treesNow_28 ?_
  exact g_iret (XWd_ok D ad cs ts adK adV) S hr hlk hw dX4_treesNow_29 (Option.some.inj hf) rfl
def fX6_sag (N : Nat) (σ : St) (x1 : Int32) : Option Int32 :=
  if ix x1 16 = true then nm (aR σ 38 x1) fun v2 => if ix x1 16 = true then nm (((v2 * v2) / (10000 : Int32)) + ((v2 * ((aR σ 40 x1) - (20 : Int32))) / (1000 : Int32))) fun v5 => if 0 ≤ v5 then (some v5) else (some (0 : Int32)) else none else none
set_option maxHeartbeats 2000000 in
set_option maxRecDepth 20000 in
theorem tX6_sag {r : Int32} {N : Nat} {σ : St} {x1 : Int32} (hf : fX6_sag N σ x1 = some r) : CI l (XWd D ad cs ts adK adV) yX6_sag cX6_sag 4 (some .int) 0 0 [.ref (ad 3), .int x1] σ r σ := by
  refine CI.of (by decide) (Nat.le_of_ble_eq_true rfl) ?_
  intro p e s m below meth c ls S hr hlk hw hl
  have hl : lv_has ls 4 [(0, .ref (ad 3)), (1, .int x1)] := hl
  unfold fX6_sag at hf
  refine lv_aload_n S.1 S.2.1 dX6_sag_0 rfl (lv_at hl 0 rfl) ?_
  refine xg_Line_lengths S hw kf_X6_18 dX6_sag_1 ?_
  refine lv_iload_n S.1 S.2.1 dX6_sag_4 rfl (lv_at hl 1 rfl) ?_
  obtain ⟨h1, hf⟩ := gd_ix hf
  refine g_iald S hw 38 0 xe_38 rfl h1 dX6_sag_5 ?_
  refine lv_topi (fun v2 e3 => ?_)
  have hf := nm_s e3 hf
  refine lv_istore_n (lv' := [(2, .int v2), (0, .ref (ad 3)), (1, .int x1)]) S.1 S.2.1 dX6_sag_6 rfl hl (by decide) rfl (fun ls hl => ?_)
  refine lv_iload_n S.1 S.2.1 dX6_sag_7 rfl (lv_at hl 0 rfl) ?_
  refine lv_iload_n S.1 S.2.1 dX6_sag_8 rfl (lv_at hl 0 rfl) ?_
  refine lv_imul S.1 S.2.1 dX6_sag_9 ?_
  refine lv_sipush (v := 10000) S.1 S.2.1 dX6_sag_10 (by decide) ?_
  refine lv_idiv S.1 S.2.1 dX6_sag_13 (by decide) ?_
  refine lv_iload_n S.1 S.2.1 dX6_sag_14 rfl (lv_at hl 0 rfl) ?_
  refine lv_aload_n S.1 S.2.1 dX6_sag_15 rfl (lv_at hl 1 rfl) ?_
  refine xg_Line_heats S hw kf_X6_24 dX6_sag_16 ?_
  refine lv_iload_n S.1 S.2.1 dX6_sag_19 rfl (lv_at hl 2 rfl) ?_
  obtain ⟨h4, hf⟩ := gd_ix hf
  refine g_iald S hw 40 0 xe_40 rfl h4 dX6_sag_20 ?_
  refine lv_bipush (v := 20) S.1 S.2.1 dX6_sag_21 (by decide) ?_
  refine lv_isub S.1 S.2.1 dX6_sag_23 ?_
  refine lv_imul S.1 S.2.1 dX6_sag_24 ?_
  refine lv_sipush (v := 1000) S.1 S.2.1 dX6_sag_25 (by decide) ?_
  refine lv_idiv S.1 S.2.1 dX6_sag_28 (by decide) ?_
  refine lv_iadd S.1 S.2.1 dX6_sag_29 ?_
  refine lv_topi (fun v5 e6 => ?_)
  have hf := nm_s e6 hf
  refine lv_istore_n (lv' := [(3, .int v5), (2, .int v2), (0, .ref (ad 3)), (1, .int x1)]) S.1 S.2.1 dX6_sag_30 rfl hl (by decide) rfl (fun ls hl => ?_)
  refine lv_iload_n S.1 S.2.1 dX6_sag_31 rfl (lv_at hl 0 rfl) ?_
  refine lv_if_ge (tgt := 39) S.1 S.2.1 dX6_sag_32 (by decide) (fun hc => ?_) (fun hc => ?_)
  · have hf := itt hf hc
    refine lv_iload_n S.1 S.2.1 dX6_sag_39 rfl (lv_at hl 0 rfl) ?_
    exact g_iret (XWd_ok D ad cs ts adK adV) S hr hlk hw dX6_sag_40 (Option.some.inj hf) rfl
  · have hf := itf hf hc
    refine lv_iconst (v := 0) S.1 S.2.1 dX6_sag_35 (by decide) ?_
    refine lv_goto (tgt := 40) S.1 S.2.1 dX6_sag_36 (by decide) ?_
    exact g_iret (XWd_ok D ad cs ts adK adV) S hr hlk hw dX6_sag_40 (Option.some.inj hf) rfl
def fX6_low (N : Nat) (σ : St) (x1 : Int32) : Option Int32 :=
  if ix x1 16 = true then bd (fX6_sag N σ x1) fun r2 => some ((aR σ 39 x1) - r2) else none
set_option maxHeartbeats 2000000 in
set_option maxRecDepth 20000 in
theorem tX6_low {r : Int32} {N : Nat} {σ : St} {x1 : Int32} (hf : fX6_low N σ x1 = some r) : CI l (XWd D ad cs ts adK adV) yX6_low cX6_low 2 (some .int) 1 23 [.ref (ad 3), .int x1] σ r σ := by
  refine CI.of (by decide) (Nat.le_of_ble_eq_true rfl) ?_
  intro p e s m below meth c ls S hr hlk hw hl
  have hl : lv_has ls 2 [(0, .ref (ad 3)), (1, .int x1)] := hl
  unfold fX6_low at hf
  refine lv_aload_n S.1 S.2.1 dX6_low_0 rfl (lv_at hl 0 rfl) ?_
  refine xg_Line_lesserHeights S hw kf_X6_21 dX6_low_1 ?_
  refine lv_iload_n S.1 S.2.1 dX6_low_4 rfl (lv_at hl 1 rfl) ?_
  obtain ⟨h1, hf⟩ := gd_ix hf
  refine g_iald S hw 39 0 xe_39 rfl h1 dX6_low_5 ?_
  refine lv_aload_n S.1 S.2.1 dX6_low_6 rfl (lv_at hl 0 rfl) ?_
  refine lv_iload_n S.1 S.2.1 dX6_low_7 rfl (lv_at hl 1 rfl) ?_
  obtain ⟨r2, g3, hf⟩ := bd_s hf
  refine g_Vi (rest := [.int (aR σ 39 x1)]) (XWd_ok D ad cs ts adK adV) S hw (tX6_sag g3) kt_X6_51 3 xe_3 rfl rfl ⟨Nat.le_of_ble_eq_true rfl, Nat.le_of_ble_eq_true rfl⟩ rfl hl.1 rfl (Nat.le_of_ble_eq_true rfl) ⟨Nat.zero_le _, Nat.zero_le _⟩ dX6_low_8 (fun H locs hw => ?_)
  refine lv_isub S.1 S.2.1 dX6_low_11 ?_
  exact g_iret (XWd_ok D ad cs ts adK adV) S hr hlk hw dX6_low_12 (Option.some.inj hf) rfl
def fX6_near (N : Nat) (σ : St) (x1 : Int32) : Option Int32 :=
  if ix x1 16 = true then nm (aR σ 37 x1) fun v2 => bd (fX6_low N σ x1) fun r4 => if ix (0 : Int32) 4 = true then if ix v2 48 = true then bd (fX4_treesNow N σ v2) fun r8 => some (r4 - (if (aR σ (17 + ((0 : Int32)).toNatClampNeg) v2) < r8 then r8 else (aR σ (17 + ((0 : Int32)).toNatClampNeg) v2))) else none else none else none
set_option maxHeartbeats 2000000 in
set_option maxRecDepth 20000 in
theorem tX6_near {r : Int32} {N : Nat} {σ : St} {x1 : Int32} (hf : fX6_near N σ x1 = some r) : CI l (XWd D ad cs ts adK adV) yX6_near cX6_near 3 (some .int) 2 44 [.ref (ad 3), .int x1] σ r σ := by
  refine CI.of (by decide) (Nat.le_of_ble_eq_true rfl) ?_
  intro p e s m below meth c ls S hr hlk hw hl
  have hl : lv_has ls 3 [(0, .ref (ad 3)), (1, .int x1)] := hl
  unfold fX6_near at hf
  refine lv_aload_n S.1 S.2.1 dX6_near_0 rfl (lv_at hl 0 rfl) ?_
  refine xg_Line_plots S hw kf_X6_15 dX6_near_1 ?_
  refine lv_iload_n S.1 S.2.1 dX6_near_4 rfl (lv_at hl 1 rfl) ?_
  obtain ⟨h1, hf⟩ := gd_ix hf
  refine g_iald S hw 37 0 xe_37 rfl h1 dX6_near_5 ?_
  refine lv_topi (fun v2 e3 => ?_)
  have hf := nm_s e3 hf
  refine lv_istore_n (lv' := [(2, .int v2), (0, .ref (ad 3)), (1, .int x1)]) S.1 S.2.1 dX6_near_6 rfl hl (by decide) rfl (fun ls hl => ?_)
  refine lv_aload_n S.1 S.2.1 dX6_near_7 rfl (lv_at hl 1 rfl) ?_
  refine lv_iload_n S.1 S.2.1 dX6_near_8 rfl (lv_at hl 2 rfl) ?_
  obtain ⟨r4, g5, hf⟩ := bd_s hf
  refine g_Vi (rest := []) (XWd_ok D ad cs ts adK adV) S hw (tX6_low g5) kt_X6_55 3 xe_3 rfl rfl ⟨Nat.le_of_ble_eq_true rfl, Nat.le_of_ble_eq_true rfl⟩ rfl hl.1 rfl (Nat.le_of_ble_eq_true rfl) ⟨Nat.zero_le _, Nat.zero_le _⟩ dX6_near_9 (fun H locs hw => ?_)
  refine lv_aload_n S.1 S.2.1 dX6_near_12 rfl (lv_at hl 1 rfl) ?_
  refine xg_Line_land S hw kf_X6_30 dX6_near_13 ?_
  refine xg_Land_told S hw kf_X6_58 dX6_near_16 ?_
  refine lv_iconst (v := 0) S.1 S.2.1 dX6_near_19 (by decide) ?_
  obtain ⟨h6, hf⟩ := gd_ix hf
  refine g_aald S hw 16 3 xe_16 rfl h6 dX6_near_20 ?_
  refine lv_iload_n S.1 S.2.1 dX6_near_21 rfl (lv_at hl 0 rfl) ?_
  obtain ⟨h7, hf⟩ := gd_ix hf
  refine g_iald S hw (17 + ((0 : Int32)).toNatClampNeg) 0 (x2_17 (vp_lt h6)) rfl h7 dX6_near_22 ?_
  refine lv_aload_n S.1 S.2.1 dX6_near_23 rfl (lv_at hl 1 rfl) ?_
  refine xg_Line_land S hw kf_X6_30 dX6_near_24 ?_
  refine lv_iload_n S.1 S.2.1 dX6_near_27 rfl (lv_at hl 0 rfl) ?_
  obtain ⟨r8, g9, hf⟩ := bd_s hf
  refine g_Vi (rest := [.int (aR σ (17 + ((0 : Int32)).toNatClampNeg) v2), .int r4]) (XWd_ok D ad cs ts adK adV) S hw (tX4_treesNow g9) kt_X6_64 1 xe_1 rfl rfl ⟨Nat.le_of_ble_eq_true rfl, Nat.le_of_ble_eq_true rfl⟩ rfl hl.1 rfl (Nat.le_of_ble_eq_true rfl) ⟨Nat.zero_le _, Nat.zero_le _⟩ dX6_near_28 (fun H locs hw => ?_)
  refine g_mmax S hl.1 kt_X6_67 (Nat.le_of_ble_eq_true rfl) (Nat.le_of_ble_eq_true rfl) (Nat.zero_le _) (Nat.zero_le _) dX6_near_31 ?_
  refine lv_isub S.1 S.2.1 dX6_near_34 ?_
  exact g_iret (XWd_ok D ad cs ts adK adV) S hr hlk hw dX6_near_35 (Option.some.inj hf) rfl
def fX0_named (N : Nat) (σ : St) (x1 : Int32) (x2 : Int32) : Option Int32 :=
  if ix x2 16 = true then nm (aR σ 37 x2) fun v2 => if x1 = (134 : Int32) then (some (σ.1 0)) else (if x1 = (135 : Int32) then (if ix x2 16 = true then some (aR σ 38 x2) else none) else (if x1 = (136 : Int32) then (bd (fX6_near N σ x2) fun r8 => some r8) else (if x1 = (137 : Int32) then (bd (fX4_treesNow N σ v2) fun r11 => some r11) else (if x1 = (138 : Int32) then (if ix (0 : Int32) 4 = true then if ix v2 48 = true then some (aR σ (17 + ((0 : Int32)).toNatClampNeg) v2) else none else none) else (if ix (1 : Int32) 4 = true then if ix v2 48 = true then some (aR σ (17 + ((1 : Int32)).toNatClampNeg) v2) else none else none))))) else none
set_option maxHeartbeats 2000000 in
set_option maxRecDepth 20000 in
theorem tX0_named {r : Int32} {N : Nat} {σ : St} {x1 : Int32} {x2 : Int32} (hf : fX0_named N σ x1 x2 = some r) : CI l (XWd D ad cs ts adK adV) yX0_named cX0_named 4 (some .int) 3 66 [.ref (ad 6), .int x1, .int x2] σ r σ := by
  refine CI.of (by decide) (Nat.le_of_ble_eq_true rfl) ?_
  intro p e s m below meth c ls S hr hlk hw hl
  have hl : lv_has ls 4 [(0, .ref (ad 6)), (1, .int x1), (2, .int x2)] := hl
  unfold fX0_named at hf
  refine lv_aload_n S.1 S.2.1 dX0_named_0 rfl (lv_at hl 0 rfl) ?_
  refine xg_Acts_line S hw kf_X0_30 dX0_named_1 ?_
  refine xg_Line_plots S hw kf_X0_88 dX0_named_4 ?_
  refine lv_iload_n S.1 S.2.1 dX0_named_7 rfl (lv_at hl 2 rfl) ?_
  obtain ⟨h1, hf⟩ := gd_ix hf
  refine g_iald S hw 37 0 xe_37 rfl h1 dX0_named_8 ?_
  refine lv_topi (fun v2 e3 => ?_)
  have hf := nm_s e3 hf
  refine lv_istore_n (lv' := [(3, .int v2), (0, .ref (ad 6)), (1, .int x1), (2, .int x2)]) S.1 S.2.1 dX0_named_9 rfl hl (by decide) rfl (fun ls hl => ?_)
  refine lv_iload_n S.1 S.2.1 dX0_named_10 rfl (lv_at hl 2 rfl) ?_
  by_cases h4 : x1 = (134 : Int32)
  · have hf := itt hf h4
    refine lv_tableIn (off := 33) (tgt := 44) S.1 S.2.1 dX0_named_11 (by rw [h4]; decide) (by rw [h4]; decide) (by rw [h4]; rfl) (by decide) ?_
    refine lv_aload_n S.1 S.2.1 dX0_named_44 rfl (lv_at hl 1 rfl) ?_
    refine xg_Acts_land S hw kf_X0_26 dX0_named_45 ?_
    refine xg_Land_day S hw kf_X0_93 dX0_named_48 ?_
    exact g_iret (XWd_ok D ad cs ts adK adV) S hr hlk hw dX0_named_51 (Option.some.inj hf) rfl
  have hf := itf hf h4
  by_cases h5 : x1 = (135 : Int32)
  · have hf := itt hf h5
    refine lv_tableIn (off := 41) (tgt := 52) S.1 S.2.1 dX0_named_11 (by rw [h5]; decide) (by rw [h5]; decide) (by rw [h5]; rfl) (by decide) ?_
    refine lv_aload_n S.1 S.2.1 dX0_named_52 rfl (lv_at hl 1 rfl) ?_
    refine xg_Acts_line S hw kf_X0_30 dX0_named_53 ?_
    refine xg_Line_lengths S hw kf_X0_98 dX0_named_56 ?_
    refine lv_iload_n S.1 S.2.1 dX0_named_59 rfl (lv_at hl 3 rfl) ?_
    obtain ⟨h6, hf⟩ := gd_ix hf
    refine g_iald S hw 38 0 xe_38 rfl h6 dX0_named_60 ?_
    exact g_iret (XWd_ok D ad cs ts adK adV) S hr hlk hw dX0_named_61 (Option.some.inj hf) rfl
  have hf := itf hf h5
  by_cases h7 : x1 = (136 : Int32)
  · have hf := itt hf h7
    refine lv_tableIn (off := 51) (tgt := 62) S.1 S.2.1 dX0_named_11 (by rw [h7]; decide) (by rw [h7]; decide) (by rw [h7]; rfl) (by decide) ?_
    refine lv_aload_n S.1 S.2.1 dX0_named_62 rfl (lv_at hl 1 rfl) ?_
    refine xg_Acts_line S hw kf_X0_30 dX0_named_63 ?_
    refine lv_iload_n S.1 S.2.1 dX0_named_66 rfl (lv_at hl 3 rfl) ?_
    obtain ⟨r8, g9, hf⟩ := bd_s hf
    refine g_Vi (rest := []) (XWd_ok D ad cs ts adK adV) S hw (tX6_near g9) kt_X0_99 3 xe_3 rfl rfl ⟨Nat.le_of_ble_eq_true rfl, Nat.le_of_ble_eq_true rfl⟩ rfl hl.1 rfl (Nat.le_of_ble_eq_true rfl) ⟨Nat.zero_le _, Nat.zero_le _⟩ dX0_named_67 (fun H locs hw => ?_)
    exact g_iret (XWd_ok D ad cs ts adK adV) S hr hlk hw dX0_named_70 (Option.some.inj hf) rfl
  have hf := itf hf h7
  by_cases h10 : x1 = (137 : Int32)
  · have hf := itt hf h10
    refine lv_tableIn (off := 60) (tgt := 71) S.1 S.2.1 dX0_named_11 (by rw [h10]; decide) (by rw [h10]; decide) (by rw [h10]; rfl) (by decide) ?_
    refine lv_aload_n S.1 S.2.1 dX0_named_71 rfl (lv_at hl 1 rfl) ?_
    refine xg_Acts_land S hw kf_X0_26 dX0_named_72 ?_
    refine lv_iload_n S.1 S.2.1 dX0_named_75 rfl (lv_at hl 0 rfl) ?_
    obtain ⟨r11, g12, hf⟩ := bd_s hf
    refine g_Vi (rest := []) (XWd_ok D ad cs ts adK adV) S hw (tX4_treesNow g12) kt_X0_103 1 xe_1 rfl rfl ⟨Nat.le_of_ble_eq_true rfl, Nat.le_of_ble_eq_true rfl⟩ rfl hl.1 rfl (Nat.le_of_ble_eq_true rfl) ⟨Nat.zero_le _, Nat.zero_le _⟩ dX0_named_76 (fun H locs hw => ?_)
    exact g_iret (XWd_ok D ad cs ts adK adV) S hr hlk hw dX0_named_79 (Option.some.inj hf) rfl
  have hf := itf hf h10
  by_cases h13 : x1 = (138 : Int32)
  · have hf := itt hf h13
    refine lv_tableIn (off := 69) (tgt := 80) S.1 S.2.1 dX0_named_11 (by rw [h13]; decide) (by rw [h13]; decide) (by rw [h13]; rfl) (by decide) ?_
    refine lv_aload_n S.1 S.2.1 dX0_named_80 rfl (lv_at hl 1 rfl) ?_
    refine xg_Acts_land S hw kf_X0_26 dX0_named_81 ?_
    refine xg_Land_told S hw kf_X0_106 dX0_named_84 ?_
    refine lv_iconst (v := 0) S.1 S.2.1 dX0_named_87 (by decide) ?_
    obtain ⟨h14, hf⟩ := gd_ix hf
    refine g_aald S hw 16 3 xe_16 rfl h14 dX0_named_88 ?_
    refine lv_iload_n S.1 S.2.1 dX0_named_89 rfl (lv_at hl 0 rfl) ?_
    obtain ⟨h15, hf⟩ := gd_ix hf
    refine g_iald S hw (17 + ((0 : Int32)).toNatClampNeg) 0 (x2_17 (vp_lt h14)) rfl h15 dX0_named_90 ?_
    exact g_iret (XWd_ok D ad cs ts adK adV) S hr hlk hw dX0_named_91 (Option.some.inj hf) rfl
  have hf := itf hf h13
  refine lv_tableOut (tgt := 92) S.1 S.2.1 dX0_named_11 (by have h4 := lv_neT h4 (a := 134) (by decide); have h5 := lv_neT h5 (a := 135) (by decide); have h7 := lv_neT h7 (a := 136) (by decide); have h10 := lv_neT h10 (a := 137) (by decide); have h13 := lv_neT h13 (a := 138) (by decide); omega) (by decide) ?_
  refine lv_aload_n S.1 S.2.1 dX0_named_92 rfl (lv_at hl 1 rfl) ?_
  refine xg_Acts_land S hw kf_X0_26 dX0_named_93 ?_
  refine xg_Land_told S hw kf_X0_106 dX0_named_96 ?_
  refine lv_iconst (v := 1) S.1 S.2.1 dX0_named_99 (by decide) ?_
  obtain ⟨h16, hf⟩ := gd_ix hf
  refine g_aald S hw 16 3 xe_16 rfl h16 dX0_named_100 ?_
  refine lv_iload_n S.1 S.2.1 dX0_named_101 rfl (lv_at hl 0 rfl) ?_
  obtain ⟨h17, hf⟩ := gd_ix hf
  refine g_iald S hw (17 + ((1 : Int32)).toNatClampNeg) 0 (x2_17 (vp_lt h16)) rfl h17 dX0_named_102 ?_
  exact g_iret (XWd_ok D ad cs ts adK adV) S hr hlk hw dX0_named_103 (Option.some.inj hf) rfl
def fX0_comesTo_175 (N : Nat) (k53 : St → Int32 → Int32 → Int32 → Option (Int32 × St)) (σ : St) (x1 : Int32) (x4 : Int32) (x5 : Int32) : Option (Int32 × St) :=
  nm (x5 + (1 : Int32)) fun v27 => k53 σ x1 x4 v27
set_option maxHeartbeats 2000000 in
set_option maxRecDepth 20000 in
theorem wX0_comesTo_175 {r : Int32} {σ' : St} {N : Nat} (S : CallFix p m c cX0_comesTo 7 s av BG RX0) (hr : meth.sig.returnType = some .int) (hlk : meth.locks = false) {k53 : St → Int32 → Int32 → Int32 → Option (Int32 × St)} (hk53 : ∀ (σ : St) (x1 : Int32) (x4 : Int32) (x5 : Int32) (ls : Array Slot) (H : Heap) (locs : List Loc), Hw (XWd D ad cs ts adK adV) s σ H locs → lv_has ls 7 [(0, .ref (ad 6)), (1, .int x1), (4, .int x4), (5, .int x5)] → k53 σ x1 x4 x5 = some (r, σ') → W p l e (RM 4 89) s m av below meth c H locs 0 0 (QI below (XWd D ad cs ts adK adV) av s r σ') (F0 m 53 ls []))  {σ : St} {x1 : Int32} {x4 : Int32} {x5 : Int32} {ls : Array Slot} {H : Heap} {locs : List Loc} (hw : Hw (XWd D ad cs ts adK adV) s σ H locs) (hl : lv_has ls 7 [(0, .ref (ad 6)), (1, .int x1), (4, .int x4), (5, .int x5)]) (hf : fX0_comesTo_175 N k53 σ x1 x4 x5 = some (r, σ')) : W p l e (RM 4 89) s m av below meth c H locs 0 0 (QI below (XWd D ad cs ts adK adV) av s r σ') (F0 m 175 ls []) := by
  unfold fX0_comesTo_175 at hf
  obtain ⟨v27, e28⟩ : ∃ z : Int32, z = x5 + (1 : Int32) := ⟨_, rfl⟩
  have hf := nm_s e28 hf
  refine lv_iinc (v := v27) (lv' := [(5, .int v27), (0, .ref (ad 6)), (1, .int x1), (4, .int x4)]) S.1 S.2.1 dX0_comesTo_175 hl (k := 3) rfl (by rw [e28]; rfl) (by decide) rfl (fun ls hl => ?_)
  refine lv_goto (tgt := 53) S.1 S.2.1 dX0_comesTo_178 (by decide) ?_
  exact hk53 σ x1 x4 v27 _ _ _ hw (lv_sub hl [1, 2, 3, 0] rfl) hf
def fX0_comesTo_139 (N : Nat) (k53 : St → Int32 → Int32 → Int32 → Option (Int32 × St)) (σ : St) (x1 : Int32) (x4 : Int32) (x5 : Int32) (y1 : Int32) : Option (Int32 × St) :=
  bd (fX0_push N σ (fX0_truth y1)) fun σ29 => fX0_comesTo_175 N k53 σ29 x1 x4 x5
set_option maxHeartbeats 2000000 in
set_option maxRecDepth 20000 in
theorem wX0_comesTo_139 {r : Int32} {σ' : St} {N : Nat} (S : CallFix p m c cX0_comesTo 7 s av BG RX0) (hr : meth.sig.returnType = some .int) (hlk : meth.locks = false) {k53 : St → Int32 → Int32 → Int32 → Option (Int32 × St)} (hk53 : ∀ (σ : St) (x1 : Int32) (x4 : Int32) (x5 : Int32) (ls : Array Slot) (H : Heap) (locs : List Loc), Hw (XWd D ad cs ts adK adV) s σ H locs → lv_has ls 7 [(0, .ref (ad 6)), (1, .int x1), (4, .int x4), (5, .int x5)] → k53 σ x1 x4 x5 = some (r, σ') → W p l e (RM 4 89) s m av below meth c H locs 0 0 (QI below (XWd D ad cs ts adK adV) av s r σ') (F0 m 53 ls []))  {σ : St} {x1 : Int32} {x4 : Int32} {x5 : Int32} {y1 : Int32} {ls : Array Slot} {H : Heap} {locs : List Loc} (hw : Hw (XWd D ad cs ts adK adV) s σ H locs) (hl : lv_has ls 7 [(0, .ref (ad 6)), (1, .int x1), (4, .int x4), (5, .int x5)]) (hf : fX0_comesTo_139 N k53 σ x1 x4 x5 y1 = some (r, σ')) : W p l e (RM 4 89) s m av below meth c H locs 0 0 (QI below (XWd D ad cs ts adK adV) av s r σ') (F0 m 139 ls [.int y1, .ref (ad 6)]) := by
  unfold fX0_comesTo_139 at hf
  refine g_Si (rest := [.ref (ad 6)]) (XWd_ok D ad cs ts adK adV) S hw (tX0_truth (ad := ad) (cs := cs) (ts := ts) (adK := adK) (adV := adV) (σ := σ) rfl) kt_X0_77 ⟨Nat.le_of_ble_eq_true rfl, Nat.le_of_ble_eq_true rfl⟩ rfl hl.1 rfl (Nat.le_of_ble_eq_true rfl) ⟨Nat.zero_le _, Nat.zero_le _⟩ dX0_comesTo_139 (fun H locs hw => ?_)
  obtain ⟨σ29, g30, hf⟩ := bd_s hf
  refine g_Vv (rest := []) (XWd_ok D ad cs ts adK adV) S hw (tX0_push g30) kt_X0_61 6 xe_6 rfl rfl ⟨Nat.le_of_ble_eq_true rfl, Nat.le_of_ble_eq_true rfl⟩ rfl hl.1 rfl (Nat.le_of_ble_eq_true rfl) ⟨Nat.zero_le _, Nat.zero_le _⟩ dX0_comesTo_142 (fun H locs hw => ?_)
  refine lv_goto (tgt := 175) S.1 S.2.1 dX0_comesTo_145 (by decide) ?_
  exact wX0_comesTo_175 S hr hlk hk53 hw (lv_sub hl [0, 1, 2, 3] rfl) hf
def fX0_comesTo_53b (N : Nat) (k53 : St → Int32 → Int32 → Int32 → Option (Int32 × St)) (σ : St) (x1 : Int32) (x4 : Int32) (x5 : Int32) : Option (Int32 × St) :=
  if x4 ≤ x5 then (if ix (0 : Int32) 160 = true then some ((aR σ 65 (0 : Int32)), σ) else none) else (if ix (σ.1 11) 6 = true then if ix x5 160 = true then nm (aR σ (57 + ((σ.1 11)).toNatClampNeg) x5) fun v9 => if v9 < 0 then (if (fX11_within (-v9) (134 : Int32) (139 : Int32)) = 0 then (if v9 = (-132 : Int32) then (bd2 (fX0_pull N σ) fun r20 σ18 => if r20 = 0 then (fX0_comesTo_139 N k53 σ18 x1 x4 x5 (1 : Int32)) else (fX0_comesTo_139 N k53 σ18 x1 x4 x5 (0 : Int32))) else (if v9 = (-133 : Int32) then (bd2 (fX0_pull N σ) fun r15 σ13 => bd (fX0_push N σ13 (-r15)) fun σ16 => fX0_comesTo_175 N k53 σ16 x1 x4 x5) else (bd (fX0_join N σ (-v9)) fun σ11 => fX0_comesTo_175 N k53 σ11 x1 x4 x5))) else (bd (fX0_named N σ (-v9) x1) fun r21 => bd (fX0_push N σ r21) fun σ23 => fX0_comesTo_175 N k53 σ23 x1 x4 x5)) else (bd (fX0_push N σ v9) fun σ25 => fX0_comesTo_175 N k53 σ25 x1 x4 x5) else none else none)
set_option maxHeartbeats 2000000 in
set_option maxRecDepth 20000 in
theorem wX0_comesTo_53b {r : Int32} {σ' : St} {N : Nat} (S : CallFix p m c cX0_comesTo 7 s av BG RX0) (hr : meth.sig.returnType = some .int) (hlk : meth.locks = false) {k53 : St → Int32 → Int32 → Int32 → Option (Int32 × St)} (hk53 : ∀ (σ : St) (x1 : Int32) (x4 : Int32) (x5 : Int32) (ls : Array Slot) (H : Heap) (locs : List Loc), Hw (XWd D ad cs ts adK adV) s σ H locs → lv_has ls 7 [(0, .ref (ad 6)), (1, .int x1), (4, .int x4), (5, .int x5)] → k53 σ x1 x4 x5 = some (r, σ') → W p l e (RM 4 89) s m av below meth c H locs 0 0 (QI below (XWd D ad cs ts adK adV) av s r σ') (F0 m 53 ls []))  {σ : St} {x1 : Int32} {x4 : Int32} {x5 : Int32} {ls : Array Slot} {H : Heap} {locs : List Loc} (hw : Hw (XWd D ad cs ts adK adV) s σ H locs) (hl : lv_has ls 7 [(0, .ref (ad 6)), (1, .int x1), (4, .int x4), (5, .int x5)]) (hf : fX0_comesTo_53b N k53 σ x1 x4 x5 = some (r, σ')) : W p l e (RM 4 89) s m av below meth c H locs 0 0 (QI below (XWd D ad cs ts adK adV) av s r σ') (F0 m 53 ls []) := by
  unfold fX0_comesTo_53b at hf
  refine lv_iload S.1 S.2.1 dX0_comesTo_53 (lv_at hl 3 rfl) ?_
  refine lv_iload S.1 S.2.1 dX0_comesTo_55 (lv_at hl 2 rfl) ?_
  refine lv_icmp_ge (tgt := 181) S.1 S.2.1 dX0_comesTo_57 (by decide) (fun hc => ?_) (fun hc => ?_)
  · have hf := itt hf hc
    refine lv_aload_n S.1 S.2.1 dX0_comesTo_181 rfl (lv_at hl 0 rfl) ?_
    refine xg_Acts_stack S hw kf_X0_23 dX0_comesTo_182 ?_
    refine lv_iconst (v := 0) S.1 S.2.1 dX0_comesTo_185 (by decide) ?_
    obtain ⟨h6, hf⟩ := gd_ix hf
    refine g_iald S hw 65 0 xe_65 rfl h6 dX0_comesTo_186 ?_
    exact g_iret (XWd_ok D ad cs ts adK adV) S hr hlk hw dX0_comesTo_187 (Prod.mk.inj (Option.some.inj hf)).1 (Prod.mk.inj (Option.some.inj hf)).2
  · have hf := itf hf hc
    refine lv_aload_n S.1 S.2.1 dX0_comesTo_60 rfl (lv_at hl 0 rfl) ?_
    refine xg_Acts_codes S hw kf_X0_11 dX0_comesTo_61 ?_
    refine lv_aload_n S.1 S.2.1 dX0_comesTo_64 rfl (lv_at hl 0 rfl) ?_
    refine xg_Acts_inForce S hw kf_X0_55 dX0_comesTo_65 ?_
    obtain ⟨h7, hf⟩ := gd_ix hf
    refine g_aald S hw 56 3 xe_56 rfl h7 dX0_comesTo_68 ?_
    refine lv_iload S.1 S.2.1 dX0_comesTo_69 (lv_at hl 3 rfl) ?_
    obtain ⟨h8, hf⟩ := gd_ix hf
    refine g_iald S hw (57 + ((σ.1 11)).toNatClampNeg) 0 (x2_57 (vp_lt h7)) rfl h8 dX0_comesTo_71 ?_
    refine lv_topi (fun v9 e10 => ?_)
    have hf := nm_s e10 hf
    refine lv_istore (lv' := [(6, .int v9), (0, .ref (ad 6)), (1, .int x1), (4, .int x4), (5, .int x5)]) S.1 S.2.1 dX0_comesTo_72 hl (by decide) rfl (fun ls hl => ?_)
    refine lv_iload S.1 S.2.1 dX0_comesTo_74 (lv_at hl 0 rfl) ?_
    refine lv_if_lt (tgt := 88) S.1 S.2.1 dX0_comesTo_76 (by decide) (fun hc => ?_) (fun hc => ?_)
    · have hf := itt hf hc
      refine lv_iload S.1 S.2.1 dX0_comesTo_88 (lv_at hl 0 rfl) ?_
      refine lv_ineg S.1 S.2.1 dX0_comesTo_90 ?_
      refine lv_sipush (v := 134) S.1 S.2.1 dX0_comesTo_91 (by decide) ?_
      refine lv_sipush (v := 139) S.1 S.2.1 dX0_comesTo_94 (by decide) ?_
      refine g_Ni (rest := []) (XWd_ok D ad cs ts adK adV) S hw (tX11_within (ad := ad) (cs := cs) (ts := ts) (adK := adK) (adV := adV) (σ := σ) rfl) kn_X11_within (x_nw hw 4 rfl) ⟨Nat.le_of_ble_eq_true rfl, Nat.le_of_ble_eq_true rfl⟩ rfl hl.1 rfl (Nat.le_of_ble_eq_true rfl) ⟨Nat.zero_le _, Nat.zero_le _⟩ dX0_comesTo_97 (fun H locs hw => ?_)
      refine lv_if_eq (tgt := 118) S.1 S.2.1 dX0_comesTo_100 (by decide) (fun hc => ?_) (fun hc => ?_)
      · have hf := itt hf hc
        refine lv_iload S.1 S.2.1 dX0_comesTo_118 (lv_at hl 0 rfl) ?_
        refine lv_sipush (v := -132) S.1 S.2.1 dX0_comesTo_120 (by decide) ?_
        refine lv_icmp_ne (tgt := 148) S.1 S.2.1 dX0_comesTo_123 (by decide) (fun hc => ?_) (fun hc => ?_)
        · have hf := itf hf hc
          refine lv_iload S.1 S.2.1 dX0_comesTo_148 (lv_at hl 0 rfl) ?_
          refine lv_sipush (v := -133) S.1 S.2.1 dX0_comesTo_150 (by decide) ?_
          refine lv_icmp_ne (tgt := 168) S.1 S.2.1 dX0_comesTo_153 (by decide) (fun hc => ?_) (fun hc => ?_)
          · have hf := itf hf hc
            refine lv_aload_n S.1 S.2.1 dX0_comesTo_168 rfl (lv_at hl 1 rfl) ?_
            refine lv_iload S.1 S.2.1 dX0_comesTo_169 (lv_at hl 0 rfl) ?_
            refine lv_ineg S.1 S.2.1 dX0_comesTo_171 ?_
            obtain ⟨σ11, g12, hf⟩ := bd_s hf
            refine g_Vv (rest := []) (XWd_ok D ad cs ts adK adV) S hw (tX0_join g12) kt_X0_81 6 xe_6 rfl rfl ⟨Nat.le_of_ble_eq_true rfl, Nat.le_of_ble_eq_true rfl⟩ rfl hl.1 rfl (Nat.le_of_ble_eq_true rfl) ⟨Nat.zero_le _, Nat.zero_le _⟩ dX0_comesTo_172 (fun H locs hw => ?_)
            exact wX0_comesTo_175 S hr hlk hk53 hw (lv_sub hl [1, 2, 3, 4] rfl) hf
          · have hf := itt hf hc
            refine lv_aload_n S.1 S.2.1 dX0_comesTo_156 rfl (lv_at hl 1 rfl) ?_
            refine lv_aload_n S.1 S.2.1 dX0_comesTo_157 rfl (lv_at hl 1 rfl) ?_
            obtain ⟨r15, σ13, g14, hf⟩ := bd2_s hf
            refine g_Vi (rest := [.ref (ad 6)]) (XWd_ok D ad cs ts adK adV) S hw (tX0_pull g14) kt_X0_73 6 xe_6 rfl rfl ⟨Nat.le_of_ble_eq_true rfl, Nat.le_of_ble_eq_true rfl⟩ rfl hl.1 rfl (Nat.le_of_ble_eq_true rfl) ⟨Nat.zero_le _, Nat.zero_le _⟩ dX0_comesTo_158 (fun H locs hw => ?_)
            refine lv_ineg S.1 S.2.1 dX0_comesTo_161 ?_
            obtain ⟨σ16, g17, hf⟩ := bd_s hf
            refine g_Vv (rest := []) (XWd_ok D ad cs ts adK adV) S hw (tX0_push g17) kt_X0_61 6 xe_6 rfl rfl ⟨Nat.le_of_ble_eq_true rfl, Nat.le_of_ble_eq_true rfl⟩ rfl hl.1 rfl (Nat.le_of_ble_eq_true rfl) ⟨Nat.zero_le _, Nat.zero_le _⟩ dX0_comesTo_162 (fun H locs hw => ?_)
            refine lv_goto (tgt := 175) S.1 S.2.1 dX0_comesTo_165 (by decide) ?_
            exact wX0_comesTo_175 S hr hlk hk53 hw (lv_sub hl [1, 2, 3, 4] rfl) hf
        · have hf := itt hf hc
          refine lv_aload_n S.1 S.2.1 dX0_comesTo_126 rfl (lv_at hl 1 rfl) ?_
          refine lv_aload_n S.1 S.2.1 dX0_comesTo_127 rfl (lv_at hl 1 rfl) ?_
          obtain ⟨r20, σ18, g19, hf⟩ := bd2_s hf
          refine g_Vi (rest := [.ref (ad 6)]) (XWd_ok D ad cs ts adK adV) S hw (tX0_pull g19) kt_X0_73 6 xe_6 rfl rfl ⟨Nat.le_of_ble_eq_true rfl, Nat.le_of_ble_eq_true rfl⟩ rfl hl.1 rfl (Nat.le_of_ble_eq_true rfl) ⟨Nat.zero_le _, Nat.zero_le _⟩ dX0_comesTo_128 (fun H locs hw => ?_)
          refine lv_if_ne (tgt := 138) S.1 S.2.1 dX0_comesTo_131 (by decide) (fun hc => ?_) (fun hc => ?_)
          · have hf := itf hf hc
            refine lv_iconst (v := 0) S.1 S.2.1 dX0_comesTo_138 (by decide) ?_
            exact wX0_comesTo_139 S hr hlk hk53 hw (lv_sub hl [1, 2, 3, 4] rfl) hf
          · have hf := itt hf hc
            refine lv_iconst (v := 1) S.1 S.2.1 dX0_comesTo_134 (by decide) ?_
            refine lv_goto (tgt := 139) S.1 S.2.1 dX0_comesTo_135 (by decide) ?_
            exact wX0_comesTo_139 S hr hlk hk53 hw (lv_sub hl [1, 2, 3, 4] rfl) hf
      · have hf := itf hf hc
        refine lv_aload_n S.1 S.2.1 dX0_comesTo_103 rfl (lv_at hl 1 rfl) ?_
        refine lv_aload_n S.1 S.2.1 dX0_comesTo_104 rfl (lv_at hl 1 rfl) ?_
        refine lv_iload S.1 S.2.1 dX0_comesTo_105 (lv_at hl 0 rfl) ?_
        refine lv_ineg S.1 S.2.1 dX0_comesTo_107 ?_
        refine lv_iload_n S.1 S.2.1 dX0_comesTo_108 rfl (lv_at hl 2 rfl) ?_
        obtain ⟨r21, g22, hf⟩ := bd_s hf
        refine g_Vi (rest := [.ref (ad 6)]) (XWd_ok D ad cs ts adK adV) S hw (tX0_named g22) kt_X0_69 6 xe_6 rfl rfl ⟨Nat.le_of_ble_eq_true rfl, Nat.le_of_ble_eq_true rfl⟩ rfl hl.1 rfl (Nat.le_of_ble_eq_true rfl) ⟨Nat.zero_le _, Nat.zero_le _⟩ dX0_comesTo_109 (fun H locs hw => ?_)
        obtain ⟨σ23, g24, hf⟩ := bd_s hf
        refine g_Vv (rest := []) (XWd_ok D ad cs ts adK adV) S hw (tX0_push g24) kt_X0_61 6 xe_6 rfl rfl ⟨Nat.le_of_ble_eq_true rfl, Nat.le_of_ble_eq_true rfl⟩ rfl hl.1 rfl (Nat.le_of_ble_eq_true rfl) ⟨Nat.zero_le _, Nat.zero_le _⟩ dX0_comesTo_112 (fun H locs hw => ?_)
        refine lv_goto (tgt := 175) S.1 S.2.1 dX0_comesTo_115 (by decide) ?_
        exact wX0_comesTo_175 S hr hlk hk53 hw (lv_sub hl [1, 2, 3, 4] rfl) hf
    · have hf := itf hf hc
      refine lv_aload_n S.1 S.2.1 dX0_comesTo_79 rfl (lv_at hl 1 rfl) ?_
      refine lv_iload S.1 S.2.1 dX0_comesTo_80 (lv_at hl 0 rfl) ?_
      obtain ⟨σ25, g26, hf⟩ := bd_s hf
      refine g_Vv (rest := []) (XWd_ok D ad cs ts adK adV) S hw (tX0_push g26) kt_X0_61 6 xe_6 rfl rfl ⟨Nat.le_of_ble_eq_true rfl, Nat.le_of_ble_eq_true rfl⟩ rfl hl.1 rfl (Nat.le_of_ble_eq_true rfl) ⟨Nat.zero_le _, Nat.zero_le _⟩ dX0_comesTo_82 (fun H locs hw => ?_)
      refine lv_goto (tgt := 175) S.1 S.2.1 dX0_comesTo_85 (by decide) ?_
      exact wX0_comesTo_175 S hr hlk hk53 hw (lv_sub hl [1, 2, 3, 4] rfl) hf
def fX0_comesTo_53 (N : Nat) : Nat → St → Int32 → Int32 → Int32 → Option (Int32 × St)
  | 0 => fun _ _ _ _ => none
  | n + 1 => fX0_comesTo_53b N (fX0_comesTo_53 N n)
theorem wX0_comesTo_53 {r : Int32} {σ' : St} {N : Nat} (S : CallFix p m c cX0_comesTo 7 s av BG RX0) (hr : meth.sig.returnType = some .int) (hlk : meth.locks = false) : ∀ (n : Nat), ∀ (σ : St) (x1 : Int32) (x4 : Int32) (x5 : Int32) (ls : Array Slot) (H : Heap) (locs : List Loc), Hw (XWd D ad cs ts adK adV) s σ H locs → lv_has ls 7 [(0, .ref (ad 6)), (1, .int x1), (4, .int x4), (5, .int x5)] → fX0_comesTo_53 N n σ x1 x4 x5 = some (r, σ') → W p l e (RM 4 89) s m av below meth c H locs 0 0 (QI below (XWd D ad cs ts adK adV) av s r σ') (F0 m 53 ls []) := by
  intro n
  induction n with
  | zero => intro _ _ _ _ ls H locs hw hl hf; cases hf
  | succ n ih => intro _ _ _ _ ls H locs hw hl hf; exact wX0_comesTo_53b S hr hlk ih hw hl hf
def fX0_comesTo_43 (N : Nat) (σ : St) (x1 : Int32) (x3 : Int32) (y0 : Int32) : Option (Int32 × St) :=
  nm (sI σ 12 (0 : Int32)) fun σ4 => fX0_comesTo_53 N N σ4 x1 y0 x3
set_option maxHeartbeats 2000000 in
set_option maxRecDepth 20000 in
theorem wX0_comesTo_43 {r : Int32} {σ' : St} {N : Nat} (S : CallFix p m c cX0_comesTo 7 s av BG RX0) (hr : meth.sig.returnType = some .int) (hlk : meth.locks = false)  {σ : St} {x1 : Int32} {x3 : Int32} {y0 : Int32} {ls : Array Slot} {H : Heap} {locs : List Loc} (hw : Hw (XWd D ad cs ts adK adV) s σ H locs) (hl : lv_has ls 7 [(0, .ref (ad 6)), (1, .int x1), (3, .int x3)]) (hf : fX0_comesTo_43 N σ x1 x3 y0 = some (r, σ')) : W p l e (RM 4 89) s m av below meth c H locs 0 0 (QI below (XWd D ad cs ts adK adV) av s r σ') (F0 m 43 ls [.int y0]) := by
  unfold fX0_comesTo_43 at hf
  refine lv_istore (lv' := [(4, .int y0), (0, .ref (ad 6)), (1, .int x1), (3, .int x3)]) S.1 S.2.1 dX0_comesTo_43 hl (by decide) rfl (fun ls hl => ?_)
  refine lv_aload_n S.1 S.2.1 dX0_comesTo_45 rfl (lv_at hl 1 rfl) ?_
  refine lv_iconst (v := 0) S.1 S.2.1 dX0_comesTo_46 (by decide) ?_
  obtain ⟨σ4, e5⟩ : ∃ z : St, z = sI σ 12 (0 : Int32) := ⟨_, rfl⟩
  have hf := nm_s e5 hf
  refine xp_Acts_top S hw e5 kf_X0_58 dX0_comesTo_47 (fun H locs hw => ?_)
  refine lv_iload_n S.1 S.2.1 dX0_comesTo_50 rfl (lv_at hl 3 rfl) ?_
  refine lv_istore (lv' := [(5, .int x3), (4, .int y0), (0, .ref (ad 6)), (1, .int x1), (3, .int x3)]) S.1 S.2.1 dX0_comesTo_51 hl (by decide) rfl (fun ls hl => ?_)
  exact wX0_comesTo_53 S hr hlk N σ4 x1 y0 x3 _ _ _ hw (lv_sub hl [2, 3, 1, 0] rfl) hf
def fX0_comesTo_17 (N : Nat) (σ : St) (x1 : Int32) (x2 : Int32) (y0 : Int32) : Option (Int32 × St) :=
  if x2 = 0 then (if ix (σ.1 11) 6 = true then fX0_comesTo_43 N σ x1 y0 (aR σ 63 (σ.1 11)) else none) else (if ix (σ.1 11) 6 = true then fX0_comesTo_43 N σ x1 y0 (aR σ 64 (σ.1 11)) else none)
set_option maxHeartbeats 2000000 in
set_option maxRecDepth 20000 in
theorem wX0_comesTo_17 {r : Int32} {σ' : St} {N : Nat} (S : CallFix p m c cX0_comesTo 7 s av BG RX0) (hr : meth.sig.returnType = some .int) (hlk : meth.locks = false)  {σ : St} {x1 : Int32} {x2 : Int32} {y0 : Int32} {ls : Array Slot} {H : Heap} {locs : List Loc} (hw : Hw (XWd D ad cs ts adK adV) s σ H locs) (hl : lv_has ls 7 [(0, .ref (ad 6)), (1, .int x1), (2, .int x2)]) (hf : fX0_comesTo_17 N σ x1 x2 y0 = some (r, σ')) : W p l e (RM 4 89) s m av below meth c H locs 0 0 (QI below (XWd D ad cs ts adK adV) av s r σ') (F0 m 17 ls [.int y0]) := by
  unfold fX0_comesTo_17 at hf
  refine lv_istore_n (lv' := [(3, .int y0), (0, .ref (ad 6)), (1, .int x1), (2, .int x2)]) S.1 S.2.1 dX0_comesTo_17 rfl hl (by decide) rfl (fun ls hl => ?_)
  refine lv_iload_n S.1 S.2.1 dX0_comesTo_18 rfl (lv_at hl 3 rfl) ?_
  refine lv_if_ne (tgt := 34) S.1 S.2.1 dX0_comesTo_19 (by decide) (fun hc => ?_) (fun hc => ?_)
  · have hf := itf hf hc
    refine lv_aload_n S.1 S.2.1 dX0_comesTo_34 rfl (lv_at hl 1 rfl) ?_
    refine xg_Acts_lengths S hw kf_X0_20 dX0_comesTo_35 ?_
    refine lv_aload_n S.1 S.2.1 dX0_comesTo_38 rfl (lv_at hl 1 rfl) ?_
    refine xg_Acts_inForce S hw kf_X0_55 dX0_comesTo_39 ?_
    obtain ⟨h2, hf⟩ := gd_ix hf
    refine g_iald S hw 64 0 xe_64 rfl h2 dX0_comesTo_42 ?_
    exact wX0_comesTo_43 S hr hlk hw (lv_sub hl [1, 2, 0] rfl) hf
  · have hf := itt hf hc
    refine lv_aload_n S.1 S.2.1 dX0_comesTo_22 rfl (lv_at hl 1 rfl) ?_
    refine xg_Acts_middles S hw kf_X0_16 dX0_comesTo_23 ?_
    refine lv_aload_n S.1 S.2.1 dX0_comesTo_26 rfl (lv_at hl 1 rfl) ?_
    refine xg_Acts_inForce S hw kf_X0_55 dX0_comesTo_27 ?_
    obtain ⟨h3, hf⟩ := gd_ix hf
    refine g_iald S hw 63 0 xe_63 rfl h3 dX0_comesTo_30 ?_
    refine lv_goto (tgt := 43) S.1 S.2.1 dX0_comesTo_31 (by decide) ?_
    exact wX0_comesTo_43 S hr hlk hw (lv_sub hl [1, 2, 0] rfl) hf
def fX0_comesTo (N : Nat) (σ : St) (x1 : Int32) (x2 : Int32) : Option (Int32 × St) :=
  if x2 = 0 then (fX0_comesTo_17 N σ x1 x2 (0 : Int32)) else (if ix (σ.1 11) 6 = true then fX0_comesTo_17 N σ x1 x2 (aR σ 63 (σ.1 11)) else none)
set_option maxHeartbeats 2000000 in
set_option maxRecDepth 20000 in
theorem tX0_comesTo {r : Int32} {σ' : St} {N : Nat} {σ : St} {x1 : Int32} {x2 : Int32} (hf : fX0_comesTo N σ x1 x2 = some (r, σ')) : CI l (XWd D ad cs ts adK adV) yX0_comesTo cX0_comesTo 7 (some .int) 4 89 [.ref (ad 6), .int x1, .int x2] σ r σ' := by
  refine CI.of (by decide) (Nat.le_of_ble_eq_true rfl) ?_
  intro p e s m below meth c ls S hr hlk hw hl
  have hl : lv_has ls 7 [(0, .ref (ad 6)), (1, .int x1), (2, .int x2)] := hl
  unfold fX0_comesTo at hf
  refine lv_iload_n S.1 S.2.1 dX0_comesTo_0 rfl (lv_at hl 2 rfl) ?_
  refine lv_if_ne (tgt := 8) S.1 S.2.1 dX0_comesTo_1 (by decide) (fun hc => ?_) (fun hc => ?_)
  · have hf := itf hf hc
    refine lv_aload_n S.1 S.2.1 dX0_comesTo_8 rfl (lv_at hl 0 rfl) ?_
    refine xg_Acts_middles S hw kf_X0_16 dX0_comesTo_9 ?_
    refine lv_aload_n S.1 S.2.1 dX0_comesTo_12 rfl (lv_at hl 0 rfl) ?_
    refine xg_Acts_inForce S hw kf_X0_55 dX0_comesTo_13 ?_
    obtain ⟨h1, hf⟩ := gd_ix hf
    refine g_iald S hw 63 0 xe_63 rfl h1 dX0_comesTo_16 ?_
    exact wX0_comesTo_17 S hr hlk hw (lv_sub hl [0, 1, 2] rfl) hf
  · have hf := itt hf hc
    refine lv_iconst (v := 0) S.1 S.2.1 dX0_comesTo_4 (by decide) ?_
    refine lv_goto (tgt := 17) S.1 S.2.1 dX0_comesTo_5 (by decide) ?_
    exact wX0_comesTo_17 S hr hlk hw (lv_sub hl [0, 1, 2] rfl) hf
def fX4_ownerOn_68 (N : Nat) (σ : St) (k8 : Int32 → Int32 → Int32 → Int32 → Int32 → Option Int32) (x1 : Int32) (x2 : Int32) (x3 : Int32) (x4 : Int32) (x5 : Int32) : Option Int32 :=
  nm (x5 + (1 : Int32)) fun v10 => k8 x1 x2 x3 x4 v10
set_option maxHeartbeats 2000000 in
set_option maxRecDepth 20000 in
theorem wX4_ownerOn_68 {r : Int32} {N : Nat} {σ : St} (S : CallFix p m c cX4_ownerOn 6 s av BG RX4) (hr : meth.sig.returnType = some .int) (hlk : meth.locks = false) {k8 : Int32 → Int32 → Int32 → Int32 → Int32 → Option Int32} (hk8 : ∀ (x1 : Int32) (x2 : Int32) (x3 : Int32) (x4 : Int32) (x5 : Int32) (ls : Array Slot) (H : Heap) (locs : List Loc), Hw (XWd D ad cs ts adK adV) s σ H locs → lv_has ls 6 [(0, .ref (ad 1)), (1, .int x1), (2, .int x2), (3, .int x3), (4, .int x4), (5, .int x5)] → k8 x1 x2 x3 x4 x5 = some r → W p l e (RM 0 0) s m av below meth c H locs 0 0 (QI below (XWd D ad cs ts adK adV) av s r σ) (F0 m 8 ls []))  {x1 : Int32} {x2 : Int32} {x3 : Int32} {x4 : Int32} {x5 : Int32} {ls : Array Slot} {H : Heap} {locs : List Loc} (hw : Hw (XWd D ad cs ts adK adV) s σ H locs) (hl : lv_has ls 6 [(0, .ref (ad 1)), (1, .int x1), (2, .int x2), (3, .int x3), (4, .int x4), (5, .int x5)]) (hf : fX4_ownerOn_68 N σ k8 x1 x2 x3 x4 x5 = some r) : W p l e (RM 0 0) s m av below meth c H locs 0 0 (QI below (XWd D ad cs ts adK adV) av s r σ) (F0 m 68 ls []) := by
  unfold fX4_ownerOn_68 at hf
  obtain ⟨v10, e11⟩ : ∃ z : Int32, z = x5 + (1 : Int32) := ⟨_, rfl⟩
  have hf := nm_s e11 hf
  refine lv_iinc (v := v10) (lv' := [(5, .int v10), (0, .ref (ad 1)), (1, .int x1), (2, .int x2), (3, .int x3), (4, .int x4)]) S.1 S.2.1 dX4_ownerOn_68 hl (k := 5) rfl (by rw [e11]; rfl) (by decide) rfl (fun ls hl => ?_)
  refine lv_goto (tgt := 8) S.1 S.2.1 dX4_ownerOn_71 (by decide) ?_
  exact hk8 x1 x2 x3 x4 v10 _ _ _ hw (lv_sub hl [1, 2, 3, 4, 5, 0] rfl) hf
def fX4_ownerOn_8b (N : Nat) (σ : St) (k8 : Int32 → Int32 → Int32 → Int32 → Int32 → Option Int32) (x1 : Int32) (x2 : Int32) (x3 : Int32) (x4 : Int32) (x5 : Int32) : Option Int32 :=
  if (σ.1 1) ≤ x5 then (some x3) else (if ix x5 40 = true then if (aR σ 12 x5) = x1 then (if ix x5 40 = true then if (aR σ 14 x5) < x4 then (fX4_ownerOn_68 N σ k8 x1 x2 x3 x4 x5) else (if ix x5 40 = true then if x2 < (aR σ 14 x5) then (fX4_ownerOn_68 N σ k8 x1 x2 x3 x4 x5) else (if ix x5 40 = true then nm (aR σ 14 x5) fun v5 => if ix x5 40 = true then nm (aR σ 13 x5) fun v8 => fX4_ownerOn_68 N σ k8 x1 x2 v8 v5 x5 else none else none) else none) else none) else (fX4_ownerOn_68 N σ k8 x1 x2 x3 x4 x5) else none)
set_option maxHeartbeats 2000000 in
set_option maxRecDepth 20000 in
theorem wX4_ownerOn_8b {r : Int32} {N : Nat} {σ : St} (S : CallFix p m c cX4_ownerOn 6 s av BG RX4) (hr : meth.sig.returnType = some .int) (hlk : meth.locks = false) {k8 : Int32 → Int32 → Int32 → Int32 → Int32 → Option Int32} (hk8 : ∀ (x1 : Int32) (x2 : Int32) (x3 : Int32) (x4 : Int32) (x5 : Int32) (ls : Array Slot) (H : Heap) (locs : List Loc), Hw (XWd D ad cs ts adK adV) s σ H locs → lv_has ls 6 [(0, .ref (ad 1)), (1, .int x1), (2, .int x2), (3, .int x3), (4, .int x4), (5, .int x5)] → k8 x1 x2 x3 x4 x5 = some r → W p l e (RM 0 0) s m av below meth c H locs 0 0 (QI below (XWd D ad cs ts adK adV) av s r σ) (F0 m 8 ls []))  {x1 : Int32} {x2 : Int32} {x3 : Int32} {x4 : Int32} {x5 : Int32} {ls : Array Slot} {H : Heap} {locs : List Loc} (hw : Hw (XWd D ad cs ts adK adV) s σ H locs) (hl : lv_has ls 6 [(0, .ref (ad 1)), (1, .int x1), (2, .int x2), (3, .int x3), (4, .int x4), (5, .int x5)]) (hf : fX4_ownerOn_8b N σ k8 x1 x2 x3 x4 x5 = some r) : W p l e (RM 0 0) s m av below meth c H locs 0 0 (QI below (XWd D ad cs ts adK adV) av s r σ) (F0 m 8 ls []) := by
  unfold fX4_ownerOn_8b at hf
  refine lv_iload S.1 S.2.1 dX4_ownerOn_8 (lv_at hl 5 rfl) ?_
  refine lv_aload_n S.1 S.2.1 dX4_ownerOn_10 rfl (lv_at hl 0 rfl) ?_
  refine xg_Land_sales S hw kf_X4_52 dX4_ownerOn_11 ?_
  refine lv_icmp_ge (tgt := 74) S.1 S.2.1 dX4_ownerOn_14 (by decide) (fun hc => ?_) (fun hc => ?_)
  · have hf := itt hf hc
    refine lv_iload_n S.1 S.2.1 dX4_ownerOn_74 rfl (lv_at hl 3 rfl) ?_
    exact g_iret (XWd_ok D ad cs ts adK adV) S hr hlk hw dX4_ownerOn_75 (Option.some.inj hf) rfl
  · have hf := itf hf hc
    refine lv_aload_n S.1 S.2.1 dX4_ownerOn_17 rfl (lv_at hl 0 rfl) ?_
    refine xg_Land_salePlots S hw kf_X4_9 dX4_ownerOn_18 ?_
    refine lv_iload S.1 S.2.1 dX4_ownerOn_21 (lv_at hl 5 rfl) ?_
    obtain ⟨h1, hf⟩ := gd_ix hf
    refine g_iald S hw 12 0 xe_12 rfl h1 dX4_ownerOn_23 ?_
    refine lv_iload_n S.1 S.2.1 dX4_ownerOn_24 rfl (lv_at hl 1 rfl) ?_
    refine lv_icmp_ne (tgt := 68) S.1 S.2.1 dX4_ownerOn_25 (by decide) (fun hc => ?_) (fun hc => ?_)
    · have hf := itf hf hc
      exact wX4_ownerOn_68 S hr hlk hk8 hw (lv_sub hl [0, 1, 2, 3, 4, 5] rfl) hf
    · have hf := itt hf hc
      refine lv_aload_n S.1 S.2.1 dX4_ownerOn_28 rfl (lv_at hl 0 rfl) ?_
      refine xg_Land_saleDays S hw kf_X4_18 dX4_ownerOn_29 ?_
      refine lv_iload S.1 S.2.1 dX4_ownerOn_32 (lv_at hl 5 rfl) ?_
      obtain ⟨h2, hf⟩ := gd_ix hf
      refine g_iald S hw 14 0 xe_14 rfl h2 dX4_ownerOn_34 ?_
      refine lv_iload S.1 S.2.1 dX4_ownerOn_35 (lv_at hl 4 rfl) ?_
      refine lv_icmp_lt (tgt := 68) S.1 S.2.1 dX4_ownerOn_37 (by decide) (fun hc => ?_) (fun hc => ?_)
      · have hf := itt hf hc
        exact wX4_ownerOn_68 S hr hlk hk8 hw (lv_sub hl [0, 1, 2, 3, 4, 5] rfl) hf
      · have hf := itf hf hc
        refine lv_aload_n S.1 S.2.1 dX4_ownerOn_40 rfl (lv_at hl 0 rfl) ?_
        refine xg_Land_saleDays S hw kf_X4_18 dX4_ownerOn_41 ?_
        refine lv_iload S.1 S.2.1 dX4_ownerOn_44 (lv_at hl 5 rfl) ?_
        obtain ⟨h3, hf⟩ := gd_ix hf
        refine g_iald S hw 14 0 xe_14 rfl h3 dX4_ownerOn_46 ?_
        refine lv_iload_n S.1 S.2.1 dX4_ownerOn_47 rfl (lv_at hl 2 rfl) ?_
        refine lv_icmp_gt (tgt := 68) S.1 S.2.1 dX4_ownerOn_48 (by decide) (fun hc => ?_) (fun hc => ?_)
        · have hf := itt hf hc
          exact wX4_ownerOn_68 S hr hlk hk8 hw (lv_sub hl [0, 1, 2, 3, 4, 5] rfl) hf
        · have hf := itf hf hc
          refine lv_aload_n S.1 S.2.1 dX4_ownerOn_51 rfl (lv_at hl 0 rfl) ?_
          refine xg_Land_saleDays S hw kf_X4_18 dX4_ownerOn_52 ?_
          refine lv_iload S.1 S.2.1 dX4_ownerOn_55 (lv_at hl 5 rfl) ?_
          obtain ⟨h4, hf⟩ := gd_ix hf
          refine g_iald S hw 14 0 xe_14 rfl h4 dX4_ownerOn_57 ?_
          refine lv_topi (fun v5 e6 => ?_)
          have hf := nm_s e6 hf
          refine lv_istore (lv' := [(4, .int v5), (0, .ref (ad 1)), (1, .int x1), (2, .int x2), (3, .int x3), (5, .int x5)]) S.1 S.2.1 dX4_ownerOn_58 hl (by decide) rfl (fun ls hl => ?_)
          refine lv_aload_n S.1 S.2.1 dX4_ownerOn_60 rfl (lv_at hl 1 rfl) ?_
          refine xg_Land_saleOwners S hw kf_X4_15 dX4_ownerOn_61 ?_
          refine lv_iload S.1 S.2.1 dX4_ownerOn_64 (lv_at hl 5 rfl) ?_
          obtain ⟨h7, hf⟩ := gd_ix hf
          refine g_iald S hw 13 0 xe_13 rfl h7 dX4_ownerOn_66 ?_
          refine lv_topi (fun v8 e9 => ?_)
          have hf := nm_s e9 hf
          refine lv_istore_n (lv' := [(3, .int v8), (4, .int v5), (0, .ref (ad 1)), (1, .int x1), (2, .int x2), (5, .int x5)]) S.1 S.2.1 dX4_ownerOn_67 rfl hl (by decide) rfl (fun ls hl => ?_)
          exact wX4_ownerOn_68 S hr hlk hk8 hw (lv_sub hl [2, 3, 4, 0, 1, 5] rfl) hf
def fX4_ownerOn_8 (N : Nat) (σ : St) : Nat → Int32 → Int32 → Int32 → Int32 → Int32 → Option Int32
  | 0 => fun _ _ _ _ _ => none
  | n + 1 => fX4_ownerOn_8b N σ (fX4_ownerOn_8 N σ n)
theorem wX4_ownerOn_8 {r : Int32} {N : Nat} {σ : St} (S : CallFix p m c cX4_ownerOn 6 s av BG RX4) (hr : meth.sig.returnType = some .int) (hlk : meth.locks = false) : ∀ (n : Nat), ∀ (x1 : Int32) (x2 : Int32) (x3 : Int32) (x4 : Int32) (x5 : Int32) (ls : Array Slot) (H : Heap) (locs : List Loc), Hw (XWd D ad cs ts adK adV) s σ H locs → lv_has ls 6 [(0, .ref (ad 1)), (1, .int x1), (2, .int x2), (3, .int x3), (4, .int x4), (5, .int x5)] → fX4_ownerOn_8 N σ n x1 x2 x3 x4 x5 = some r → W p l e (RM 0 0) s m av below meth c H locs 0 0 (QI below (XWd D ad cs ts adK adV) av s r σ) (F0 m 8 ls []) := by
  intro n
  induction n with
  | zero => intro _ _ _ _ _ ls H locs hw hl hf; cases hf
  | succ n ih => intro _ _ _ _ _ ls H locs hw hl hf; exact wX4_ownerOn_8b S hr hlk ih hw hl hf
def fX4_ownerOn (N : Nat) (σ : St) (x1 : Int32) (x2 : Int32) : Option Int32 :=
  fX4_ownerOn_8 N σ N x1 x2 (0 : Int32) (0 : Int32) (0 : Int32)
set_option maxHeartbeats 2000000 in
set_option maxRecDepth 20000 in
theorem tX4_ownerOn {r : Int32} {N : Nat} {σ : St} {x1 : Int32} {x2 : Int32} (hf : fX4_ownerOn N σ x1 x2 = some r) : CI l (XWd D ad cs ts adK adV) yX4_ownerOn cX4_ownerOn 6 (some .int) 0 0 [.ref (ad 1), .int x1, .int x2] σ r σ := by
  refine CI.of (by decide) (Nat.le_of_ble_eq_true rfl) ?_
  intro p e s m below meth c ls S hr hlk hw hl
  have hl : lv_has ls 6 [(0, .ref (ad 1)), (1, .int x1), (2, .int x2)] := hl
  unfold fX4_ownerOn at hf
  refine lv_iconst (v := 0) S.1 S.2.1 dX4_ownerOn_0 (by decide) ?_
  refine lv_istore_n (lv' := [(3, .int (0 : Int32)), (0, .ref (ad 1)), (1, .int x1), (2, .int x2)]) S.1 S.2.1 dX4_ownerOn_1 rfl hl (by decide) rfl (fun ls hl => ?_)
  refine lv_iconst (v := 0) S.1 S.2.1 dX4_ownerOn_2 (by decide) ?_
  refine lv_istore (lv' := [(4, .int (0 : Int32)), (3, .int (0 : Int32)), (0, .ref (ad 1)), (1, .int x1), (2, .int x2)]) S.1 S.2.1 dX4_ownerOn_3 hl (by decide) rfl (fun ls hl => ?_)
  refine lv_iconst (v := 0) S.1 S.2.1 dX4_ownerOn_5 (by decide) ?_
  refine lv_istore (lv' := [(5, .int (0 : Int32)), (4, .int (0 : Int32)), (3, .int (0 : Int32)), (0, .ref (ad 1)), (1, .int x1), (2, .int x2)]) S.1 S.2.1 dX4_ownerOn_6 hl (by decide) rfl (fun ls hl => ?_)
  exact wX4_ownerOn_8 S hr hlk N x1 x2 (0 : Int32) (0 : Int32) (0 : Int32) _ _ _ hw (lv_sub hl [3, 4, 5, 2, 1, 0] rfl) hf
def fX5_lasts (N : Nat) (σ : St) (x1 : Int32) : Option Int32 :=
  if ix x1 24 = true then if ix (aR σ 42 x1) 6 = true then if ix x1 24 = true then some ((stT 2 ((aR σ 42 x1)).toNatClampNeg) * ((1 : Int32) + (aR σ 47 x1))) else none else none else none
set_option maxHeartbeats 2000000 in
set_option maxRecDepth 20000 in
theorem tX5_lasts {r : Int32} {N : Nat} {σ : St} {x1 : Int32} (hf : fX5_lasts N σ x1 = some r) : CI l (XWd D ad cs ts adK adV) yX5_lasts cX5_lasts 2 (some .int) 0 0 [.ref (ad 4), .int x1] σ r σ := by
  refine CI.of (by decide) (Nat.le_of_ble_eq_true rfl) ?_
  intro p e s m below meth c ls S hr hlk hw hl
  have hl : lv_has ls 2 [(0, .ref (ad 4)), (1, .int x1)] := hl
  unfold fX5_lasts at hf
  refine x_gn S hw 2 (by decide) 0 rfl dX5_lasts_0 ?_
  refine lv_aload_n S.1 S.2.1 dX5_lasts_3 rfl (lv_at hl 0 rfl) ?_
  refine xg_Leaves_kinds S hw kf_X5_9 dX5_lasts_4 ?_
  refine lv_iload_n S.1 S.2.1 dX5_lasts_7 rfl (lv_at hl 1 rfl) ?_
  obtain ⟨h1, hf⟩ := gd_ix hf
  refine g_iald S hw 42 0 xe_42 rfl h1 dX5_lasts_8 ?_
  obtain ⟨h2, hf⟩ := gd_ix hf
  refine x_ti S hw 2 (by decide) h2 dX5_lasts_9 ?_
  refine lv_iconst (v := 1) S.1 S.2.1 dX5_lasts_10 (by decide) ?_
  refine lv_aload_n S.1 S.2.1 dX5_lasts_11 rfl (lv_at hl 0 rfl) ?_
  refine xg_Leaves_renewals S hw kf_X5_27 dX5_lasts_12 ?_
  refine lv_iload_n S.1 S.2.1 dX5_lasts_15 rfl (lv_at hl 1 rfl) ?_
  obtain ⟨h3, hf⟩ := gd_ix hf
  refine g_iald S hw 47 0 xe_47 rfl h3 dX5_lasts_16 ?_
  refine lv_iadd S.1 S.2.1 dX5_lasts_17 ?_
  refine lv_imul S.1 S.2.1 dX5_lasts_18 ?_
  exact g_iret (XWd_ok D ad cs ts adK adV) S hr hlk hw dX5_lasts_19 (Option.some.inj hf) rfl
def fX5_standsAlone_47 (N : Nat) (σ : St) (x1 : Int32) (x2 : Int32) (x3 : Int32) : Option Int32 :=
  if ix x1 24 = true then if ix (aR σ 42 x1) 6 = true then if (stT 3 ((aR σ 42 x1)).toNatClampNeg) = (1 : Int32) then (some (1 : Int32)) else (if ix x1 24 = true then if ix (aR σ 43 x1) 16 = true then nm (aR σ 37 (aR σ 43 x1)) fun v12 => bd (fX4_ownerOn N σ v12 x2) fun r14 => bd (fX4_ownerOn N σ v12 x3) fun r16 => if r14 = r16 then (some (1 : Int32)) else (some (0 : Int32)) else none else none) else none else none
set_option maxHeartbeats 2000000 in
set_option maxRecDepth 20000 in
theorem wX5_standsAlone_47 {r : Int32} {N : Nat} {σ : St} (S : CallFix p m c cX5_standsAlone 5 s av BG RX5) (hr : meth.sig.returnType = some .boolean) (hlk : meth.locks = false)  {x1 : Int32} {x2 : Int32} {x3 : Int32} {ls : Array Slot} {H : Heap} {locs : List Loc} (hw : Hw (XWd D ad cs ts adK adV) s σ H locs) (hl : lv_has ls 5 [(0, .ref (ad 4)), (1, .int x1), (2, .int x2), (3, .int x3)]) (hf : fX5_standsAlone_47 N σ x1 x2 x3 = some r) : W p l e (RM 1 25) s m av below meth c H locs 0 0 (QI below (XWd D ad cs ts adK adV) av s r σ) (F0 m 47 ls []) := by
  unfold fX5_standsAlone_47 at hf
  refine x_gn S hw 3 (by decide) 1 rfl dX5_standsAlone_47 ?_
  refine lv_aload_n S.1 S.2.1 dX5_standsAlone_50 rfl (lv_at hl 0 rfl) ?_
  refine xg_Leaves_kinds S hw kf_X5_9 dX5_standsAlone_51 ?_
  refine lv_iload_n S.1 S.2.1 dX5_standsAlone_54 rfl (lv_at hl 1 rfl) ?_
  obtain ⟨h8, hf⟩ := gd_ix hf
  refine g_iald S hw 42 0 xe_42 rfl h8 dX5_standsAlone_55 ?_
  obtain ⟨h9, hf⟩ := gd_ix hf
  refine x_ti S hw 3 (by decide) h9 dX5_standsAlone_56 ?_
  refine lv_iconst (v := 1) S.1 S.2.1 dX5_standsAlone_57 (by decide) ?_
  refine lv_icmp_ne (tgt := 63) S.1 S.2.1 dX5_standsAlone_58 (by decide) (fun hc => ?_) (fun hc => ?_)
  · have hf := itf hf hc
    refine lv_aload_n S.1 S.2.1 dX5_standsAlone_63 rfl (lv_at hl 0 rfl) ?_
    refine xg_Leaves_line S hw kf_X5_44 dX5_standsAlone_64 ?_
    refine xg_Line_plots S hw kf_X5_73 dX5_standsAlone_67 ?_
    refine lv_aload_n S.1 S.2.1 dX5_standsAlone_70 rfl (lv_at hl 0 rfl) ?_
    refine xg_Leaves_spans S hw kf_X5_15 dX5_standsAlone_71 ?_
    refine lv_iload_n S.1 S.2.1 dX5_standsAlone_74 rfl (lv_at hl 1 rfl) ?_
    obtain ⟨h10, hf⟩ := gd_ix hf
    refine g_iald S hw 43 0 xe_43 rfl h10 dX5_standsAlone_75 ?_
    obtain ⟨h11, hf⟩ := gd_ix hf
    refine g_iald S hw 37 0 xe_37 rfl h11 dX5_standsAlone_76 ?_
    refine lv_topi (fun v12 e13 => ?_)
    have hf := nm_s e13 hf
    refine lv_istore (lv' := [(4, .int v12), (0, .ref (ad 4)), (1, .int x1), (2, .int x2), (3, .int x3)]) S.1 S.2.1 dX5_standsAlone_77 hl (by decide) rfl (fun ls hl => ?_)
    refine lv_aload_n S.1 S.2.1 dX5_standsAlone_79 rfl (lv_at hl 1 rfl) ?_
    refine xg_Leaves_land S hw kf_X5_40 dX5_standsAlone_80 ?_
    refine lv_iload S.1 S.2.1 dX5_standsAlone_83 (lv_at hl 0 rfl) ?_
    refine lv_iload_n S.1 S.2.1 dX5_standsAlone_85 rfl (lv_at hl 3 rfl) ?_
    obtain ⟨r14, g15, hf⟩ := bd_s hf
    refine g_Vi (rest := []) (XWd_ok D ad cs ts adK adV) S hw (tX4_ownerOn g15) kt_X5_78 1 xe_1 rfl rfl ⟨Nat.le_of_ble_eq_true rfl, Nat.le_of_ble_eq_true rfl⟩ rfl hl.1 rfl (Nat.le_of_ble_eq_true rfl) ⟨Nat.zero_le _, Nat.zero_le _⟩ dX5_standsAlone_86 (fun H locs hw => ?_)
    refine lv_aload_n S.1 S.2.1 dX5_standsAlone_89 rfl (lv_at hl 1 rfl) ?_
    refine xg_Leaves_land S hw kf_X5_40 dX5_standsAlone_90 ?_
    refine lv_iload S.1 S.2.1 dX5_standsAlone_93 (lv_at hl 0 rfl) ?_
    refine lv_iload_n S.1 S.2.1 dX5_standsAlone_95 rfl (lv_at hl 4 rfl) ?_
    obtain ⟨r16, g17, hf⟩ := bd_s hf
    refine g_Vi (rest := [.int r14]) (XWd_ok D ad cs ts adK adV) S hw (tX4_ownerOn g17) kt_X5_78 1 xe_1 rfl rfl ⟨Nat.le_of_ble_eq_true rfl, Nat.le_of_ble_eq_true rfl⟩ rfl hl.1 rfl (Nat.le_of_ble_eq_true rfl) ⟨Nat.zero_le _, Nat.zero_le _⟩ dX5_standsAlone_96 (fun H locs hw => ?_)
    refine lv_icmp_ne (tgt := 106) S.1 S.2.1 dX5_standsAlone_99 (by decide) (fun hc => ?_) (fun hc => ?_)
    · have hf := itf hf hc
      refine lv_iconst (v := 0) S.1 S.2.1 dX5_standsAlone_106 (by decide) ?_
      exact g_zret (XWd_ok D ad cs ts adK adV) S hr hlk hw rfl dX5_standsAlone_107 (Option.some.inj hf) rfl
    · have hf := itt hf hc
      refine lv_iconst (v := 1) S.1 S.2.1 dX5_standsAlone_102 (by decide) ?_
      refine lv_goto (tgt := 107) S.1 S.2.1 dX5_standsAlone_103 (by decide) ?_
      exact g_zret (XWd_ok D ad cs ts adK adV) S hr hlk hw rfl dX5_standsAlone_107 (Option.some.inj hf) rfl
  · have hf := itt hf hc
    refine lv_iconst (v := 1) S.1 S.2.1 dX5_standsAlone_61 (by decide) ?_
    exact g_zret (XWd_ok D ad cs ts adK adV) S hr hlk hw rfl dX5_standsAlone_62 (Option.some.inj hf) rfl
def fX5_standsAlone (N : Nat) (σ : St) (x1 : Int32) (x2 : Int32) : Option Int32 :=
  if ix x1 24 = true then nm (aR σ 45 x1) fun v2 => if x2 < v2 then (some (0 : Int32)) else (bd (fX5_lasts N σ x1) fun r4 => if x2 < (v2 + r4) then (if ix x1 24 = true then if (aR σ 48 x1) = (-1 : Int32) then (fX5_standsAlone_47 N σ x1 x2 v2) else (if ix x1 24 = true then if x2 < (aR σ 48 x1) then (fX5_standsAlone_47 N σ x1 x2 v2) else (some (0 : Int32)) else none) else none) else (some (0 : Int32))) else none
set_option maxHeartbeats 2000000 in
set_option maxRecDepth 20000 in
theorem tX5_standsAlone {r : Int32} {N : Nat} {σ : St} {x1 : Int32} {x2 : Int32} (hf : fX5_standsAlone N σ x1 x2 = some r) : CI l (XWd D ad cs ts adK adV) yX5_standsAlone cX5_standsAlone 5 (some .boolean) 1 25 [.ref (ad 4), .int x1, .int x2] σ r σ := by
  refine CI.of (by decide) (Nat.le_of_ble_eq_true rfl) ?_
  intro p e s m below meth c ls S hr hlk hw hl
  have hl : lv_has ls 5 [(0, .ref (ad 4)), (1, .int x1), (2, .int x2)] := hl
  unfold fX5_standsAlone at hf
  refine lv_aload_n S.1 S.2.1 dX5_standsAlone_0 rfl (lv_at hl 0 rfl) ?_
  refine xg_Leaves_begins S hw kf_X5_21 dX5_standsAlone_1 ?_
  refine lv_iload_n S.1 S.2.1 dX5_standsAlone_4 rfl (lv_at hl 1 rfl) ?_
  obtain ⟨h1, hf⟩ := gd_ix hf
  refine g_iald S hw 45 0 xe_45 rfl h1 dX5_standsAlone_5 ?_
  refine lv_topi (fun v2 e3 => ?_)
  have hf := nm_s e3 hf
  refine lv_istore_n (lv' := [(3, .int v2), (0, .ref (ad 4)), (1, .int x1), (2, .int x2)]) S.1 S.2.1 dX5_standsAlone_6 rfl hl (by decide) rfl (fun ls hl => ?_)
  refine lv_iload_n S.1 S.2.1 dX5_standsAlone_7 rfl (lv_at hl 3 rfl) ?_
  refine lv_iload_n S.1 S.2.1 dX5_standsAlone_8 rfl (lv_at hl 0 rfl) ?_
  refine lv_icmp_lt (tgt := 23) S.1 S.2.1 dX5_standsAlone_9 (by decide) (fun hc => ?_) (fun hc => ?_)
  · have hf := itt hf hc
    refine lv_iconst (v := 0) S.1 S.2.1 dX5_standsAlone_23 (by decide) ?_
    exact g_zret (XWd_ok D ad cs ts adK adV) S hr hlk hw rfl dX5_standsAlone_24 (Option.some.inj hf) rfl
  · have hf := itf hf hc
    refine lv_iload_n S.1 S.2.1 dX5_standsAlone_12 rfl (lv_at hl 3 rfl) ?_
    refine lv_iload_n S.1 S.2.1 dX5_standsAlone_13 rfl (lv_at hl 0 rfl) ?_
    refine lv_aload_n S.1 S.2.1 dX5_standsAlone_14 rfl (lv_at hl 1 rfl) ?_
    refine lv_iload_n S.1 S.2.1 dX5_standsAlone_15 rfl (lv_at hl 2 rfl) ?_
    obtain ⟨r4, g5, hf⟩ := bd_s hf
    refine g_Vi (rest := [.int v2, .int x2]) (XWd_ok D ad cs ts adK adV) S hw (tX5_lasts g5) kt_X5_66 4 xe_4 rfl rfl ⟨Nat.le_of_ble_eq_true rfl, Nat.le_of_ble_eq_true rfl⟩ rfl hl.1 rfl (Nat.le_of_ble_eq_true rfl) ⟨Nat.zero_le _, Nat.zero_le _⟩ dX5_standsAlone_16 (fun H locs hw => ?_)
    refine lv_iadd S.1 S.2.1 dX5_standsAlone_19 ?_
    refine lv_icmp_lt (tgt := 25) S.1 S.2.1 dX5_standsAlone_20 (by decide) (fun hc => ?_) (fun hc => ?_)
    · have hf := itt hf hc
      refine lv_aload_n S.1 S.2.1 dX5_standsAlone_25 rfl (lv_at hl 1 rfl) ?_
      refine xg_Leaves_undone S hw kf_X5_30 dX5_standsAlone_26 ?_
      refine lv_iload_n S.1 S.2.1 dX5_standsAlone_29 rfl (lv_at hl 2 rfl) ?_
      obtain ⟨h6, hf⟩ := gd_ix hf
      refine g_iald S hw 48 0 xe_48 rfl h6 dX5_standsAlone_30 ?_
      refine lv_iconst (v := -1) S.1 S.2.1 dX5_standsAlone_31 (by decide) ?_
      refine lv_icmp_eq (tgt := 47) S.1 S.2.1 dX5_standsAlone_32 (by decide) (fun hc => ?_) (fun hc => ?_)
      · have hf := itt hf hc
        exact wX5_standsAlone_47 S hr hlk hw (lv_sub hl [1, 2, 3, 0] rfl) hf
      · have hf := itf hf hc
        refine lv_iload_n S.1 S.2.1 dX5_standsAlone_35 rfl (lv_at hl 3 rfl) ?_
        refine lv_aload_n S.1 S.2.1 dX5_standsAlone_36 rfl (lv_at hl 1 rfl) ?_
        refine xg_Leaves_undone S hw kf_X5_30 dX5_standsAlone_37 ?_
        refine lv_iload_n S.1 S.2.1 dX5_standsAlone_40 rfl (lv_at hl 2 rfl) ?_
        obtain ⟨h7, hf⟩ := gd_ix hf
        refine g_iald S hw 48 0 xe_48 rfl h7 dX5_standsAlone_41 ?_
        refine lv_icmp_lt (tgt := 47) S.1 S.2.1 dX5_standsAlone_42 (by decide) (fun hc => ?_) (fun hc => ?_)
        · have hf := itt hf hc
          exact wX5_standsAlone_47 S hr hlk hw (lv_sub hl [1, 2, 3, 0] rfl) hf
        · have hf := itf hf hc
          refine lv_iconst (v := 0) S.1 S.2.1 dX5_standsAlone_45 (by decide) ?_
          exact g_zret (XWd_ok D ad cs ts adK adV) S hr hlk hw rfl dX5_standsAlone_46 (Option.some.inj hf) rfl
    · have hf := itf hf hc
      refine lv_iconst (v := 0) S.1 S.2.1 dX5_standsAlone_23 (by decide) ?_
      exact g_zret (XWd_ok D ad cs ts adK adV) S hr hlk hw rfl dX5_standsAlone_24 (Option.some.inj hf) rfl
def fX5_markInForce_92 (N : Nat) (k2 : St → Int32 → Int32 → Int32 → Option St) (σ : St) (x1 : Int32) (x2 : Int32) (x3 : Int32) (y1 : Int32) (y2 : Int32) : Option St :=
  if ix y1 24 = true then nm (aW σ 50 y1 (vp_nar .boolean y2)) fun σ8 => nm (x3 + (1 : Int32)) fun v10 => k2 σ8 x1 x2 v10 else none
set_option maxHeartbeats 2000000 in
set_option maxRecDepth 20000 in
theorem wX5_markInForce_92 {σ' : St} {N : Nat} (S : CallFix p m c cX5_markInForce 6 s av BG RX5) (hr : meth.sig.returnType = none) (hlk : meth.locks = false) {k2 : St → Int32 → Int32 → Int32 → Option St} (hk2 : ∀ (σ : St) (x1 : Int32) (x2 : Int32) (x3 : Int32) (ls : Array Slot) (H : Heap) (locs : List Loc), Hw (XWd D ad cs ts adK adV) s σ H locs → lv_has ls 6 [(0, .ref (ad 4)), (1, .int x1), (2, .int x2), (3, .int x3)] → k2 σ x1 x2 x3 = some σ' → W p l e (RM 2 49) s m av below meth c H locs 0 0 (QV below (XWd D ad cs ts adK adV) av s σ') (F0 m 2 ls []))  {σ : St} {x1 : Int32} {x2 : Int32} {x3 : Int32} {y1 : Int32} {y2 : Int32} {ls : Array Slot} {H : Heap} {locs : List Loc} (hw : Hw (XWd D ad cs ts adK adV) s σ H locs) (hl : lv_has ls 6 [(0, .ref (ad 4)), (1, .int x1), (2, .int x2), (3, .int x3)]) (hf : fX5_markInForce_92 N k2 σ x1 x2 x3 y1 y2 = some σ') : W p l e (RM 2 49) s m av below meth c H locs 0 0 (QV below (XWd D ad cs ts adK adV) av s σ') (F0 m 92 ls [.int y2, .int y1, .ref (ad 50)]) := by
  unfold fX5_markInForce_92 at hf
  obtain ⟨h7, hf⟩ := gd_ix hf
  obtain ⟨σ8, e9⟩ : ∃ z : St, z = aW σ 50 y1 (vp_nar .boolean y2) := ⟨_, rfl⟩
  have hf := nm_s e9 hf
  refine g_zast (σ' := σ8) S hw 50 2 xe_50 rfl (by rw [e9]; exact xs_50 _) h7 dX5_markInForce_92 (fun H locs hw => ?_)
  obtain ⟨v10, e11⟩ : ∃ z : Int32, z = x3 + (1 : Int32) := ⟨_, rfl⟩
  have hf := nm_s e11 hf
  refine lv_iinc (v := v10) (lv' := [(3, .int v10), (0, .ref (ad 4)), (1, .int x1), (2, .int x2)]) S.1 S.2.1 dX5_markInForce_93 hl (k := 3) rfl (by rw [e11]; rfl) (by decide) rfl (fun ls hl => ?_)
  refine lv_goto (tgt := 2) S.1 S.2.1 dX5_markInForce_96 (by decide) ?_
  exact hk2 σ8 x1 x2 v10 _ _ _ hw (lv_sub hl [1, 2, 3, 0] rfl) hf
def fX5_markInForce_91 (N : Nat) (k2 : St → Int32 → Int32 → Int32 → Option St) (σ : St) (x1 : Int32) (x2 : Int32) (x3 : Int32) (y1 : Int32) : Option St :=
  fX5_markInForce_92 N k2 σ x1 x2 x3 y1 (0 : Int32)
set_option maxHeartbeats 2000000 in
set_option maxRecDepth 20000 in
theorem wX5_markInForce_91 {σ' : St} {N : Nat} (S : CallFix p m c cX5_markInForce 6 s av BG RX5) (hr : meth.sig.returnType = none) (hlk : meth.locks = false) {k2 : St → Int32 → Int32 → Int32 → Option St} (hk2 : ∀ (σ : St) (x1 : Int32) (x2 : Int32) (x3 : Int32) (ls : Array Slot) (H : Heap) (locs : List Loc), Hw (XWd D ad cs ts adK adV) s σ H locs → lv_has ls 6 [(0, .ref (ad 4)), (1, .int x1), (2, .int x2), (3, .int x3)] → k2 σ x1 x2 x3 = some σ' → W p l e (RM 2 49) s m av below meth c H locs 0 0 (QV below (XWd D ad cs ts adK adV) av s σ') (F0 m 2 ls []))  {σ : St} {x1 : Int32} {x2 : Int32} {x3 : Int32} {y1 : Int32} {ls : Array Slot} {H : Heap} {locs : List Loc} (hw : Hw (XWd D ad cs ts adK adV) s σ H locs) (hl : lv_has ls 6 [(0, .ref (ad 4)), (1, .int x1), (2, .int x2), (3, .int x3)]) (hf : fX5_markInForce_91 N k2 σ x1 x2 x3 y1 = some σ') : W p l e (RM 2 49) s m av below meth c H locs 0 0 (QV below (XWd D ad cs ts adK adV) av s σ') (F0 m 91 ls [.int y1, .ref (ad 50)]) := by
  unfold fX5_markInForce_91 at hf
  refine lv_iconst (v := 0) S.1 S.2.1 dX5_markInForce_91 (by decide) ?_
  exact wX5_markInForce_92 S hr hlk hk2 hw (lv_sub hl [0, 1, 2, 3] rfl) hf
def fX5_markInForce_61 (N : Nat) (k2 : St → Int32 → Int32 → Int32 → Option St) (σ : St) (x1 : Int32) (x2 : Int32) (x3 : Int32) (x4 : Int32) (y0 : Int32) : Option St :=
  if x4 = 0 then (fX5_markInForce_91 N k2 σ x1 x2 x3 x3) else (if y0 = 0 then (fX5_markInForce_91 N k2 σ x1 x2 x3 x3) else (bd (fX5_standsAlone N σ x3 x2) fun r5 => if r5 = 0 then (fX5_markInForce_91 N k2 σ x1 x2 x3 x3) else (fX5_markInForce_92 N k2 σ x1 x2 x3 x3 (1 : Int32))))
set_option maxHeartbeats 2000000 in
set_option maxRecDepth 20000 in
theorem wX5_markInForce_61 {σ' : St} {N : Nat} (S : CallFix p m c cX5_markInForce 6 s av BG RX5) (hr : meth.sig.returnType = none) (hlk : meth.locks = false) {k2 : St → Int32 → Int32 → Int32 → Option St} (hk2 : ∀ (σ : St) (x1 : Int32) (x2 : Int32) (x3 : Int32) (ls : Array Slot) (H : Heap) (locs : List Loc), Hw (XWd D ad cs ts adK adV) s σ H locs → lv_has ls 6 [(0, .ref (ad 4)), (1, .int x1), (2, .int x2), (3, .int x3)] → k2 σ x1 x2 x3 = some σ' → W p l e (RM 2 49) s m av below meth c H locs 0 0 (QV below (XWd D ad cs ts adK adV) av s σ') (F0 m 2 ls []))  {σ : St} {x1 : Int32} {x2 : Int32} {x3 : Int32} {x4 : Int32} {y0 : Int32} {ls : Array Slot} {H : Heap} {locs : List Loc} (hw : Hw (XWd D ad cs ts adK adV) s σ H locs) (hl : lv_has ls 6 [(0, .ref (ad 4)), (1, .int x1), (2, .int x2), (3, .int x3), (4, .int x4)]) (hf : fX5_markInForce_61 N k2 σ x1 x2 x3 x4 y0 = some σ') : W p l e (RM 2 49) s m av below meth c H locs 0 0 (QV below (XWd D ad cs ts adK adV) av s σ') (F0 m 61 ls [.int y0]) := by
  unfold fX5_markInForce_61 at hf
  refine lv_istore (lv' := [(5, .int y0), (0, .ref (ad 4)), (1, .int x1), (2, .int x2), (3, .int x3), (4, .int x4)]) S.1 S.2.1 dX5_markInForce_61 hl (by decide) rfl (fun ls hl => ?_)
  refine lv_aload_n S.1 S.2.1 dX5_markInForce_63 rfl (lv_at hl 1 rfl) ?_
  refine xg_Leaves_marks S hw kf_X5_37 dX5_markInForce_64 ?_
  refine lv_iload_n S.1 S.2.1 dX5_markInForce_67 rfl (lv_at hl 4 rfl) ?_
  refine lv_iload S.1 S.2.1 dX5_markInForce_68 (lv_at hl 5 rfl) ?_
  refine lv_if_eq (tgt := 91) S.1 S.2.1 dX5_markInForce_70 (by decide) (fun hc => ?_) (fun hc => ?_)
  · have hf := itt hf hc
    exact wX5_markInForce_91 S hr hlk hk2 hw (lv_sub hl [1, 2, 3, 4] rfl) hf
  · have hf := itf hf hc
    refine lv_iload S.1 S.2.1 dX5_markInForce_73 (lv_at hl 0 rfl) ?_
    refine lv_if_eq (tgt := 91) S.1 S.2.1 dX5_markInForce_75 (by decide) (fun hc => ?_) (fun hc => ?_)
    · have hf := itt hf hc
      exact wX5_markInForce_91 S hr hlk hk2 hw (lv_sub hl [1, 2, 3, 4] rfl) hf
    · have hf := itf hf hc
      refine lv_aload_n S.1 S.2.1 dX5_markInForce_78 rfl (lv_at hl 1 rfl) ?_
      refine lv_iload_n S.1 S.2.1 dX5_markInForce_79 rfl (lv_at hl 4 rfl) ?_
      refine lv_iload_n S.1 S.2.1 dX5_markInForce_80 rfl (lv_at hl 3 rfl) ?_
      obtain ⟨r5, g6, hf⟩ := bd_s hf
      refine g_Vi (rest := [.int x3, .ref (ad 50)]) (XWd_ok D ad cs ts adK adV) S hw (tX5_standsAlone g6) kt_X5_84 4 xe_4 rfl rfl ⟨Nat.le_of_ble_eq_true rfl, Nat.le_of_ble_eq_true rfl⟩ rfl hl.1 rfl (Nat.le_of_ble_eq_true rfl) ⟨Nat.zero_le _, Nat.zero_le _⟩ dX5_markInForce_81 (fun H locs hw => ?_)
      refine lv_if_eq (tgt := 91) S.1 S.2.1 dX5_markInForce_84 (by decide) (fun hc => ?_) (fun hc => ?_)
      · have hf := itt hf hc
        exact wX5_markInForce_91 S hr hlk hk2 hw (lv_sub hl [1, 2, 3, 4] rfl) hf
      · have hf := itf hf hc
        refine lv_iconst (v := 1) S.1 S.2.1 dX5_markInForce_87 (by decide) ?_
        refine lv_goto (tgt := 92) S.1 S.2.1 dX5_markInForce_88 (by decide) ?_
        exact wX5_markInForce_92 S hr hlk hk2 hw (lv_sub hl [1, 2, 3, 4] rfl) hf
def fX5_markInForce_56 (N : Nat) (k2 : St → Int32 → Int32 → Int32 → Option St) (σ : St) (x1 : Int32) (x2 : Int32) (x3 : Int32) (x4 : Int32) : Option St :=
  fX5_markInForce_61 N k2 σ x1 x2 x3 x4 (1 : Int32)
set_option maxHeartbeats 2000000 in
set_option maxRecDepth 20000 in
theorem wX5_markInForce_56 {σ' : St} {N : Nat} (S : CallFix p m c cX5_markInForce 6 s av BG RX5) (hr : meth.sig.returnType = none) (hlk : meth.locks = false) {k2 : St → Int32 → Int32 → Int32 → Option St} (hk2 : ∀ (σ : St) (x1 : Int32) (x2 : Int32) (x3 : Int32) (ls : Array Slot) (H : Heap) (locs : List Loc), Hw (XWd D ad cs ts adK adV) s σ H locs → lv_has ls 6 [(0, .ref (ad 4)), (1, .int x1), (2, .int x2), (3, .int x3)] → k2 σ x1 x2 x3 = some σ' → W p l e (RM 2 49) s m av below meth c H locs 0 0 (QV below (XWd D ad cs ts adK adV) av s σ') (F0 m 2 ls []))  {σ : St} {x1 : Int32} {x2 : Int32} {x3 : Int32} {x4 : Int32} {ls : Array Slot} {H : Heap} {locs : List Loc} (hw : Hw (XWd D ad cs ts adK adV) s σ H locs) (hl : lv_has ls 6 [(0, .ref (ad 4)), (1, .int x1), (2, .int x2), (3, .int x3), (4, .int x4)]) (hf : fX5_markInForce_56 N k2 σ x1 x2 x3 x4 = some σ') : W p l e (RM 2 49) s m av below meth c H locs 0 0 (QV below (XWd D ad cs ts adK adV) av s σ') (F0 m 56 ls []) := by
  unfold fX5_markInForce_56 at hf
  refine lv_iconst (v := 1) S.1 S.2.1 dX5_markInForce_56 (by decide) ?_
  refine lv_goto (tgt := 61) S.1 S.2.1 dX5_markInForce_57 (by decide) ?_
  exact wX5_markInForce_61 S hr hlk hk2 hw (lv_sub hl [0, 1, 2, 3, 4] rfl) hf
def fX5_markInForce_30 (N : Nat) (k2 : St → Int32 → Int32 → Int32 → Option St) (σ : St) (x1 : Int32) (x2 : Int32) (x3 : Int32) (y0 : Int32) : Option St :=
  if ix x3 24 = true then if (aR σ 46 x3) = (-1 : Int32) then (fX5_markInForce_56 N k2 σ x1 x2 x3 y0) else (if ix x3 24 = true then if ix (aR σ 46 x3) 24 = true then if (aR σ 50 (aR σ 46 x3)) = 0 then (fX5_markInForce_61 N k2 σ x1 x2 x3 y0 (0 : Int32)) else (fX5_markInForce_56 N k2 σ x1 x2 x3 y0) else none else none) else none
set_option maxHeartbeats 2000000 in
set_option maxRecDepth 20000 in
theorem wX5_markInForce_30 {σ' : St} {N : Nat} (S : CallFix p m c cX5_markInForce 6 s av BG RX5) (hr : meth.sig.returnType = none) (hlk : meth.locks = false) {k2 : St → Int32 → Int32 → Int32 → Option St} (hk2 : ∀ (σ : St) (x1 : Int32) (x2 : Int32) (x3 : Int32) (ls : Array Slot) (H : Heap) (locs : List Loc), Hw (XWd D ad cs ts adK adV) s σ H locs → lv_has ls 6 [(0, .ref (ad 4)), (1, .int x1), (2, .int x2), (3, .int x3)] → k2 σ x1 x2 x3 = some σ' → W p l e (RM 2 49) s m av below meth c H locs 0 0 (QV below (XWd D ad cs ts adK adV) av s σ') (F0 m 2 ls []))  {σ : St} {x1 : Int32} {x2 : Int32} {x3 : Int32} {y0 : Int32} {ls : Array Slot} {H : Heap} {locs : List Loc} (hw : Hw (XWd D ad cs ts adK adV) s σ H locs) (hl : lv_has ls 6 [(0, .ref (ad 4)), (1, .int x1), (2, .int x2), (3, .int x3)]) (hf : fX5_markInForce_30 N k2 σ x1 x2 x3 y0 = some σ') : W p l e (RM 2 49) s m av below meth c H locs 0 0 (QV below (XWd D ad cs ts adK adV) av s σ') (F0 m 30 ls [.int y0]) := by
  unfold fX5_markInForce_30 at hf
  refine lv_istore (lv' := [(4, .int y0), (0, .ref (ad 4)), (1, .int x1), (2, .int x2), (3, .int x3)]) S.1 S.2.1 dX5_markInForce_30 hl (by decide) rfl (fun ls hl => ?_)
  refine lv_aload_n S.1 S.2.1 dX5_markInForce_32 rfl (lv_at hl 1 rfl) ?_
  refine xg_Leaves_ons S hw kf_X5_24 dX5_markInForce_33 ?_
  refine lv_iload_n S.1 S.2.1 dX5_markInForce_36 rfl (lv_at hl 4 rfl) ?_
  obtain ⟨h2, hf⟩ := gd_ix hf
  refine g_iald S hw 46 0 xe_46 rfl h2 dX5_markInForce_37 ?_
  refine lv_iconst (v := -1) S.1 S.2.1 dX5_markInForce_38 (by decide) ?_
  refine lv_icmp_eq (tgt := 56) S.1 S.2.1 dX5_markInForce_39 (by decide) (fun hc => ?_) (fun hc => ?_)
  · have hf := itt hf hc
    exact wX5_markInForce_56 S hr hlk hk2 hw (lv_sub hl [1, 2, 3, 4, 0] rfl) hf
  · have hf := itf hf hc
    refine lv_aload_n S.1 S.2.1 dX5_markInForce_42 rfl (lv_at hl 1 rfl) ?_
    refine xg_Leaves_marks S hw kf_X5_37 dX5_markInForce_43 ?_
    refine lv_aload_n S.1 S.2.1 dX5_markInForce_46 rfl (lv_at hl 1 rfl) ?_
    refine xg_Leaves_ons S hw kf_X5_24 dX5_markInForce_47 ?_
    refine lv_iload_n S.1 S.2.1 dX5_markInForce_50 rfl (lv_at hl 4 rfl) ?_
    obtain ⟨h3, hf⟩ := gd_ix hf
    refine g_iald S hw 46 0 xe_46 rfl h3 dX5_markInForce_51 ?_
    obtain ⟨h4, hf⟩ := gd_ix hf
    refine g_zald S hw 50 2 xe_50 rfl h4 dX5_markInForce_52 ?_
    refine lv_if_eq (tgt := 60) S.1 S.2.1 dX5_markInForce_53 (by decide) (fun hc => ?_) (fun hc => ?_)
    · have hf := itt hf hc
      refine lv_iconst (v := 0) S.1 S.2.1 dX5_markInForce_60 (by decide) ?_
      exact wX5_markInForce_61 S hr hlk hk2 hw (lv_sub hl [1, 2, 3, 4, 0] rfl) hf
    · have hf := itf hf hc
      exact wX5_markInForce_56 S hr hlk hk2 hw (lv_sub hl [1, 2, 3, 4, 0] rfl) hf
def fX5_markInForce_25 (N : Nat) (k2 : St → Int32 → Int32 → Int32 → Option St) (σ : St) (x1 : Int32) (x2 : Int32) (x3 : Int32) : Option St :=
  fX5_markInForce_30 N k2 σ x1 x2 x3 (1 : Int32)
set_option maxHeartbeats 2000000 in
set_option maxRecDepth 20000 in
theorem wX5_markInForce_25 {σ' : St} {N : Nat} (S : CallFix p m c cX5_markInForce 6 s av BG RX5) (hr : meth.sig.returnType = none) (hlk : meth.locks = false) {k2 : St → Int32 → Int32 → Int32 → Option St} (hk2 : ∀ (σ : St) (x1 : Int32) (x2 : Int32) (x3 : Int32) (ls : Array Slot) (H : Heap) (locs : List Loc), Hw (XWd D ad cs ts adK adV) s σ H locs → lv_has ls 6 [(0, .ref (ad 4)), (1, .int x1), (2, .int x2), (3, .int x3)] → k2 σ x1 x2 x3 = some σ' → W p l e (RM 2 49) s m av below meth c H locs 0 0 (QV below (XWd D ad cs ts adK adV) av s σ') (F0 m 2 ls []))  {σ : St} {x1 : Int32} {x2 : Int32} {x3 : Int32} {ls : Array Slot} {H : Heap} {locs : List Loc} (hw : Hw (XWd D ad cs ts adK adV) s σ H locs) (hl : lv_has ls 6 [(0, .ref (ad 4)), (1, .int x1), (2, .int x2), (3, .int x3)]) (hf : fX5_markInForce_25 N k2 σ x1 x2 x3 = some σ') : W p l e (RM 2 49) s m av below meth c H locs 0 0 (QV below (XWd D ad cs ts adK adV) av s σ') (F0 m 25 ls []) := by
  unfold fX5_markInForce_25 at hf
  refine lv_iconst (v := 1) S.1 S.2.1 dX5_markInForce_25 (by decide) ?_
  refine lv_goto (tgt := 30) S.1 S.2.1 dX5_markInForce_26 (by decide) ?_
  exact wX5_markInForce_30 S hr hlk hk2 hw (lv_sub hl [0, 1, 2, 3] rfl) hf
def fX5_markInForce_2b (N : Nat) (k2 : St → Int32 → Int32 → Int32 → Option St) (σ : St) (x1 : Int32) (x2 : Int32) (x3 : Int32) : Option St :=
  if (σ.1 4) ≤ x3 then (some σ) else (if x1 = (-1 : Int32) then (fX5_markInForce_25 N k2 σ x1 x2 x3) else (if ix x3 24 = true then if (aR σ 43 x3) = x1 then (fX5_markInForce_25 N k2 σ x1 x2 x3) else (fX5_markInForce_30 N k2 σ x1 x2 x3 (0 : Int32)) else none))
set_option maxHeartbeats 2000000 in
set_option maxRecDepth 20000 in
theorem wX5_markInForce_2b {σ' : St} {N : Nat} (S : CallFix p m c cX5_markInForce 6 s av BG RX5) (hr : meth.sig.returnType = none) (hlk : meth.locks = false) {k2 : St → Int32 → Int32 → Int32 → Option St} (hk2 : ∀ (σ : St) (x1 : Int32) (x2 : Int32) (x3 : Int32) (ls : Array Slot) (H : Heap) (locs : List Loc), Hw (XWd D ad cs ts adK adV) s σ H locs → lv_has ls 6 [(0, .ref (ad 4)), (1, .int x1), (2, .int x2), (3, .int x3)] → k2 σ x1 x2 x3 = some σ' → W p l e (RM 2 49) s m av below meth c H locs 0 0 (QV below (XWd D ad cs ts adK adV) av s σ') (F0 m 2 ls []))  {σ : St} {x1 : Int32} {x2 : Int32} {x3 : Int32} {ls : Array Slot} {H : Heap} {locs : List Loc} (hw : Hw (XWd D ad cs ts adK adV) s σ H locs) (hl : lv_has ls 6 [(0, .ref (ad 4)), (1, .int x1), (2, .int x2), (3, .int x3)]) (hf : fX5_markInForce_2b N k2 σ x1 x2 x3 = some σ') : W p l e (RM 2 49) s m av below meth c H locs 0 0 (QV below (XWd D ad cs ts adK adV) av s σ') (F0 m 2 ls []) := by
  unfold fX5_markInForce_2b at hf
  refine lv_iload_n S.1 S.2.1 dX5_markInForce_2 rfl (lv_at hl 3 rfl) ?_
  refine lv_aload_n S.1 S.2.1 dX5_markInForce_3 rfl (lv_at hl 0 rfl) ?_
  refine xg_Leaves_count S hw kf_X5_52 dX5_markInForce_4 ?_
  refine lv_icmp_ge (tgt := 99) S.1 S.2.1 dX5_markInForce_7 (by decide) (fun hc => ?_) (fun hc => ?_)
  · have hf := itt hf hc
    exact g_vret (XWd_ok D ad cs ts adK adV) S hr hlk hw dX5_markInForce_99 (Option.some.inj hf)
  · have hf := itf hf hc
    refine lv_iload_n S.1 S.2.1 dX5_markInForce_10 rfl (lv_at hl 1 rfl) ?_
    refine lv_iconst (v := -1) S.1 S.2.1 dX5_markInForce_11 (by decide) ?_
    refine lv_icmp_eq (tgt := 25) S.1 S.2.1 dX5_markInForce_12 (by decide) (fun hc => ?_) (fun hc => ?_)
    · have hf := itt hf hc
      exact wX5_markInForce_25 S hr hlk hk2 hw (lv_sub hl [0, 1, 2, 3] rfl) hf
    · have hf := itf hf hc
      refine lv_aload_n S.1 S.2.1 dX5_markInForce_15 rfl (lv_at hl 0 rfl) ?_
      refine xg_Leaves_spans S hw kf_X5_15 dX5_markInForce_16 ?_
      refine lv_iload_n S.1 S.2.1 dX5_markInForce_19 rfl (lv_at hl 3 rfl) ?_
      obtain ⟨h1, hf⟩ := gd_ix hf
      refine g_iald S hw 43 0 xe_43 rfl h1 dX5_markInForce_20 ?_
      refine lv_iload_n S.1 S.2.1 dX5_markInForce_21 rfl (lv_at hl 1 rfl) ?_
      refine lv_icmp_ne (tgt := 29) S.1 S.2.1 dX5_markInForce_22 (by decide) (fun hc => ?_) (fun hc => ?_)
      · have hf := itf hf hc
        refine lv_iconst (v := 0) S.1 S.2.1 dX5_markInForce_29 (by decide) ?_
        exact wX5_markInForce_30 S hr hlk hk2 hw (lv_sub hl [0, 1, 2, 3] rfl) hf
      · have hf := itt hf hc
        exact wX5_markInForce_25 S hr hlk hk2 hw (lv_sub hl [0, 1, 2, 3] rfl) hf
def fX5_markInForce_2 (N : Nat) : Nat → St → Int32 → Int32 → Int32 → Option St
  | 0 => fun _ _ _ _ => none
  | n + 1 => fX5_markInForce_2b N (fX5_markInForce_2 N n)
theorem wX5_markInForce_2 {σ' : St} {N : Nat} (S : CallFix p m c cX5_markInForce 6 s av BG RX5) (hr : meth.sig.returnType = none) (hlk : meth.locks = false) : ∀ (n : Nat), ∀ (σ : St) (x1 : Int32) (x2 : Int32) (x3 : Int32) (ls : Array Slot) (H : Heap) (locs : List Loc), Hw (XWd D ad cs ts adK adV) s σ H locs → lv_has ls 6 [(0, .ref (ad 4)), (1, .int x1), (2, .int x2), (3, .int x3)] → fX5_markInForce_2 N n σ x1 x2 x3 = some σ' → W p l e (RM 2 49) s m av below meth c H locs 0 0 (QV below (XWd D ad cs ts adK adV) av s σ') (F0 m 2 ls []) := by
  intro n
  induction n with
  | zero => intro _ _ _ _ ls H locs hw hl hf; cases hf
  | succ n ih => intro _ _ _ _ ls H locs hw hl hf; exact wX5_markInForce_2b S hr hlk ih hw hl hf
def fX5_markInForce (N : Nat) (σ : St) (x1 : Int32) (x2 : Int32) : Option St :=
  fX5_markInForce_2 N N σ x1 x2 (0 : Int32)
set_option maxHeartbeats 2000000 in
set_option maxRecDepth 20000 in
theorem tX5_markInForce {σ' : St} {N : Nat} {σ : St} {x1 : Int32} {x2 : Int32} (hf : fX5_markInForce N σ x1 x2 = some σ') : CV l (XWd D ad cs ts adK adV) yX5_markInForce cX5_markInForce 6 2 49 [.ref (ad 4), .int x1, .int x2] σ σ' := by
  refine CV.of (by decide) (Nat.le_of_ble_eq_true rfl) ?_
  intro p e s m below meth c ls S hr hlk hw hl
  have hl : lv_has ls 6 [(0, .ref (ad 4)), (1, .int x1), (2, .int x2)] := hl
  unfold fX5_markInForce at hf
  refine lv_iconst (v := 0) S.1 S.2.1 dX5_markInForce_0 (by decide) ?_
  refine lv_istore_n (lv' := [(3, .int (0 : Int32)), (0, .ref (ad 4)), (1, .int x1), (2, .int x2)]) S.1 S.2.1 dX5_markInForce_1 rfl hl (by decide) rfl (fun ls hl => ?_)
  exact wX5_markInForce_2 S hr hlk N σ x1 x2 (0 : Int32) _ _ _ hw (lv_sub hl [1, 2, 3, 0] rfl) hf
def fX5_hasOn_55 (N : Nat) (k11 : St → Int32 → Int32 → Option (Int32 × St)) (σ : St) (x3 : Int32) (x4 : Int32) : Option (Int32 × St) :=
  nm (x4 + (1 : Int32)) fun v6 => k11 σ x3 v6
set_option maxHeartbeats 2000000 in
set_option maxRecDepth 20000 in
theorem wX5_hasOn_55 {r : Int32} {σ' : St} {N : Nat} (S : CallFix p m c cX5_hasOn 5 s av BG RX5) (hr : meth.sig.returnType = some .int) (hlk : meth.locks = false) {k11 : St → Int32 → Int32 → Option (Int32 × St)} (hk11 : ∀ (σ : St) (x3 : Int32) (x4 : Int32) (ls : Array Slot) (H : Heap) (locs : List Loc), Hw (XWd D ad cs ts adK adV) s σ H locs → lv_has ls 5 [(0, .ref (ad 4)), (3, .int x3), (4, .int x4)] → k11 σ x3 x4 = some (r, σ') → W p l e (RM 3 74) s m av below meth c H locs 0 0 (QI below (XWd D ad cs ts adK adV) av s r σ') (F0 m 11 ls []))  {σ : St} {x3 : Int32} {x4 : Int32} {ls : Array Slot} {H : Heap} {locs : List Loc} (hw : Hw (XWd D ad cs ts adK adV) s σ H locs) (hl : lv_has ls 5 [(0, .ref (ad 4)), (3, .int x3), (4, .int x4)]) (hf : fX5_hasOn_55 N k11 σ x3 x4 = some (r, σ')) : W p l e (RM 3 74) s m av below meth c H locs 0 0 (QI below (XWd D ad cs ts adK adV) av s r σ') (F0 m 55 ls []) := by
  unfold fX5_hasOn_55 at hf
  obtain ⟨v6, e7⟩ : ∃ z : Int32, z = x4 + (1 : Int32) := ⟨_, rfl⟩
  have hf := nm_s e7 hf
  refine lv_iinc (v := v6) (lv' := [(4, .int v6), (0, .ref (ad 4)), (3, .int x3)]) S.1 S.2.1 dX5_hasOn_55 hl (k := 2) rfl (by rw [e7]; rfl) (by decide) rfl (fun ls hl => ?_)
  refine lv_goto (tgt := 11) S.1 S.2.1 dX5_hasOn_58 (by decide) ?_
  exact hk11 σ x3 v6 _ _ _ hw (lv_sub hl [1, 2, 0] rfl) hf
def fX5_hasOn_43 (N : Nat) (k11 : St → Int32 → Int32 → Option (Int32 × St)) (σ : St) (x3 : Int32) (x4 : Int32) : Option (Int32 × St) :=
  if ix x4 24 = true then if (aR σ 50 x4) = 0 then (fX5_hasOn_55 N k11 σ x3 x4) else (fX5_hasOn_55 N k11 σ (2 : Int32) x4) else none
set_option maxHeartbeats 2000000 in
set_option maxRecDepth 20000 in
theorem wX5_hasOn_43 {r : Int32} {σ' : St} {N : Nat} (S : CallFix p m c cX5_hasOn 5 s av BG RX5) (hr : meth.sig.returnType = some .int) (hlk : meth.locks = false) {k11 : St → Int32 → Int32 → Option (Int32 × St)} (hk11 : ∀ (σ : St) (x3 : Int32) (x4 : Int32) (ls : Array Slot) (H : Heap) (locs : List Loc), Hw (XWd D ad cs ts adK adV) s σ H locs → lv_has ls 5 [(0, .ref (ad 4)), (3, .int x3), (4, .int x4)] → k11 σ x3 x4 = some (r, σ') → W p l e (RM 3 74) s m av below meth c H locs 0 0 (QI below (XWd D ad cs ts adK adV) av s r σ') (F0 m 11 ls []))  {σ : St} {x3 : Int32} {x4 : Int32} {ls : Array Slot} {H : Heap} {locs : List Loc} (hw : Hw (XWd D ad cs ts adK adV) s σ H locs) (hl : lv_has ls 5 [(0, .ref (ad 4)), (3, .int x3), (4, .int x4)]) (hf : fX5_hasOn_43 N k11 σ x3 x4 = some (r, σ')) : W p l e (RM 3 74) s m av below meth c H locs 0 0 (QI below (XWd D ad cs ts adK adV) av s r σ') (F0 m 43 ls []) := by
  unfold fX5_hasOn_43 at hf
  refine lv_aload_n S.1 S.2.1 dX5_hasOn_43 rfl (lv_at hl 0 rfl) ?_
  refine xg_Leaves_marks S hw kf_X5_37 dX5_hasOn_44 ?_
  refine lv_iload S.1 S.2.1 dX5_hasOn_47 (lv_at hl 2 rfl) ?_
  obtain ⟨h5, hf⟩ := gd_ix hf
  refine g_zald S hw 50 2 xe_50 rfl h5 dX5_hasOn_49 ?_
  refine lv_if_eq (tgt := 55) S.1 S.2.1 dX5_hasOn_50 (by decide) (fun hc => ?_) (fun hc => ?_)
  · have hf := itt hf hc
    exact wX5_hasOn_55 S hr hlk hk11 hw (lv_sub hl [0, 1, 2] rfl) hf
  · have hf := itf hf hc
    refine lv_iconst (v := 2) S.1 S.2.1 dX5_hasOn_53 (by decide) ?_
    refine lv_istore_n (lv' := [(3, .int (2 : Int32)), (0, .ref (ad 4)), (4, .int x4)]) S.1 S.2.1 dX5_hasOn_54 rfl hl (by decide) rfl (fun ls hl => ?_)
    exact wX5_hasOn_55 S hr hlk hk11 hw (lv_sub hl [1, 0, 2] rfl) hf
def fX5_hasOn_11b (N : Nat) (k11 : St → Int32 → Int32 → Option (Int32 × St)) (σ : St) (x3 : Int32) (x4 : Int32) : Option (Int32 × St) :=
  if (σ.1 4) ≤ x4 then (some (x3, σ)) else (if ix x4 24 = true then if (aR σ 50 x4) = 0 then (fX5_hasOn_43 N k11 σ x3 x4) else (if ix x4 24 = true then if (aR σ 42 x4) = (4 : Int32) then (fX5_hasOn_43 N k11 σ x3 x4) else (some ((1 : Int32), σ)) else none) else none)
set_option maxHeartbeats 2000000 in
set_option maxRecDepth 20000 in
theorem wX5_hasOn_11b {r : Int32} {σ' : St} {N : Nat} (S : CallFix p m c cX5_hasOn 5 s av BG RX5) (hr : meth.sig.returnType = some .int) (hlk : meth.locks = false) {k11 : St → Int32 → Int32 → Option (Int32 × St)} (hk11 : ∀ (σ : St) (x3 : Int32) (x4 : Int32) (ls : Array Slot) (H : Heap) (locs : List Loc), Hw (XWd D ad cs ts adK adV) s σ H locs → lv_has ls 5 [(0, .ref (ad 4)), (3, .int x3), (4, .int x4)] → k11 σ x3 x4 = some (r, σ') → W p l e (RM 3 74) s m av below meth c H locs 0 0 (QI below (XWd D ad cs ts adK adV) av s r σ') (F0 m 11 ls []))  {σ : St} {x3 : Int32} {x4 : Int32} {ls : Array Slot} {H : Heap} {locs : List Loc} (hw : Hw (XWd D ad cs ts adK adV) s σ H locs) (hl : lv_has ls 5 [(0, .ref (ad 4)), (3, .int x3), (4, .int x4)]) (hf : fX5_hasOn_11b N k11 σ x3 x4 = some (r, σ')) : W p l e (RM 3 74) s m av below meth c H locs 0 0 (QI below (XWd D ad cs ts adK adV) av s r σ') (F0 m 11 ls []) := by
  unfold fX5_hasOn_11b at hf
  refine lv_iload S.1 S.2.1 dX5_hasOn_11 (lv_at hl 2 rfl) ?_
  refine lv_aload_n S.1 S.2.1 dX5_hasOn_13 rfl (lv_at hl 0 rfl) ?_
  refine xg_Leaves_count S hw kf_X5_52 dX5_hasOn_14 ?_
  refine lv_icmp_ge (tgt := 61) S.1 S.2.1 dX5_hasOn_17 (by decide) (fun hc => ?_) (fun hc => ?_)
  · have hf := itt hf hc
    refine lv_iload_n S.1 S.2.1 dX5_hasOn_61 rfl (lv_at hl 1 rfl) ?_
    exact g_iret (XWd_ok D ad cs ts adK adV) S hr hlk hw dX5_hasOn_62 (Prod.mk.inj (Option.some.inj hf)).1 (Prod.mk.inj (Option.some.inj hf)).2
  · have hf := itf hf hc
    refine lv_aload_n S.1 S.2.1 dX5_hasOn_20 rfl (lv_at hl 0 rfl) ?_
    refine xg_Leaves_marks S hw kf_X5_37 dX5_hasOn_21 ?_
    refine lv_iload S.1 S.2.1 dX5_hasOn_24 (lv_at hl 2 rfl) ?_
    obtain ⟨h3, hf⟩ := gd_ix hf
    refine g_zald S hw 50 2 xe_50 rfl h3 dX5_hasOn_26 ?_
    refine lv_if_eq (tgt := 43) S.1 S.2.1 dX5_hasOn_27 (by decide) (fun hc => ?_) (fun hc => ?_)
    · have hf := itt hf hc
      exact wX5_hasOn_43 S hr hlk hk11 hw (lv_sub hl [0, 1, 2] rfl) hf
    · have hf := itf hf hc
      refine lv_aload_n S.1 S.2.1 dX5_hasOn_30 rfl (lv_at hl 0 rfl) ?_
      refine xg_Leaves_kinds S hw kf_X5_9 dX5_hasOn_31 ?_
      refine lv_iload S.1 S.2.1 dX5_hasOn_34 (lv_at hl 2 rfl) ?_
      obtain ⟨h4, hf⟩ := gd_ix hf
      refine g_iald S hw 42 0 xe_42 rfl h4 dX5_hasOn_36 ?_
      refine lv_iconst (v := 4) S.1 S.2.1 dX5_hasOn_37 (by decide) ?_
      refine lv_icmp_eq (tgt := 43) S.1 S.2.1 dX5_hasOn_38 (by decide) (fun hc => ?_) (fun hc => ?_)
      · have hf := itt hf hc
        exact wX5_hasOn_43 S hr hlk hk11 hw (lv_sub hl [0, 1, 2] rfl) hf
      · have hf := itf hf hc
        refine lv_iconst (v := 1) S.1 S.2.1 dX5_hasOn_41 (by decide) ?_
        exact g_iret (XWd_ok D ad cs ts adK adV) S hr hlk hw dX5_hasOn_42 (Prod.mk.inj (Option.some.inj hf)).1 (Prod.mk.inj (Option.some.inj hf)).2
def fX5_hasOn_11 (N : Nat) : Nat → St → Int32 → Int32 → Option (Int32 × St)
  | 0 => fun _ _ _ => none
  | n + 1 => fX5_hasOn_11b N (fX5_hasOn_11 N n)
theorem wX5_hasOn_11 {r : Int32} {σ' : St} {N : Nat} (S : CallFix p m c cX5_hasOn 5 s av BG RX5) (hr : meth.sig.returnType = some .int) (hlk : meth.locks = false) : ∀ (n : Nat), ∀ (σ : St) (x3 : Int32) (x4 : Int32) (ls : Array Slot) (H : Heap) (locs : List Loc), Hw (XWd D ad cs ts adK adV) s σ H locs → lv_has ls 5 [(0, .ref (ad 4)), (3, .int x3), (4, .int x4)] → fX5_hasOn_11 N n σ x3 x4 = some (r, σ') → W p l e (RM 3 74) s m av below meth c H locs 0 0 (QI below (XWd D ad cs ts adK adV) av s r σ') (F0 m 11 ls []) := by
  intro n
  induction n with
  | zero => intro _ _ _ ls H locs hw hl hf; cases hf
  | succ n ih => intro _ _ _ ls H locs hw hl hf; exact wX5_hasOn_11b S hr hlk ih hw hl hf
def fX5_hasOn (N : Nat) (σ : St) (x1 : Int32) (x2 : Int32) : Option (Int32 × St) :=
  bd (fX5_markInForce N σ x1 x2) fun σ1 => fX5_hasOn_11 N N σ1 (0 : Int32) (0 : Int32)
set_option maxHeartbeats 2000000 in
set_option maxRecDepth 20000 in
theorem tX5_hasOn {r : Int32} {σ' : St} {N : Nat} {σ : St} {x1 : Int32} {x2 : Int32} (hf : fX5_hasOn N σ x1 x2 = some (r, σ')) : CI l (XWd D ad cs ts adK adV) yX5_hasOn cX5_hasOn 5 (some .int) 3 74 [.ref (ad 4), .int x1, .int x2] σ r σ' := by
  refine CI.of (by decide) (Nat.le_of_ble_eq_true rfl) ?_
  intro p e s m below meth c ls S hr hlk hw hl
  have hl : lv_has ls 5 [(0, .ref (ad 4)), (1, .int x1), (2, .int x2)] := hl
  unfold fX5_hasOn at hf
  refine lv_aload_n S.1 S.2.1 dX5_hasOn_0 rfl (lv_at hl 0 rfl) ?_
  refine lv_iload_n S.1 S.2.1 dX5_hasOn_1 rfl (lv_at hl 1 rfl) ?_
  refine lv_iload_n S.1 S.2.1 dX5_hasOn_2 rfl (lv_at hl 2 rfl) ?_
  obtain ⟨σ1, g2, hf⟩ := bd_s hf
  refine g_Vv (rest := []) (XWd_ok D ad cs ts adK adV) S hw (tX5_markInForce g2) kt_X5_88 4 xe_4 rfl rfl ⟨Nat.le_of_ble_eq_true rfl, Nat.le_of_ble_eq_true rfl⟩ rfl hl.1 rfl (Nat.le_of_ble_eq_true rfl) ⟨Nat.zero_le _, Nat.zero_le _⟩ dX5_hasOn_3 (fun H locs hw => ?_)
  refine lv_iconst (v := 0) S.1 S.2.1 dX5_hasOn_6 (by decide) ?_
  refine lv_istore_n (lv' := [(3, .int (0 : Int32)), (0, .ref (ad 4)), (1, .int x1), (2, .int x2)]) S.1 S.2.1 dX5_hasOn_7 rfl hl (by decide) rfl (fun ls hl => ?_)
  refine lv_iconst (v := 0) S.1 S.2.1 dX5_hasOn_8 (by decide) ?_
  refine lv_istore (lv' := [(4, .int (0 : Int32)), (3, .int (0 : Int32)), (0, .ref (ad 4)), (1, .int x1), (2, .int x2)]) S.1 S.2.1 dX5_hasOn_9 hl (by decide) rfl (fun ls hl => ?_)
  exact wX5_hasOn_11 S hr hlk N σ1 (0 : Int32) (0 : Int32) _ _ _ hw (lv_sub hl [2, 1, 0] rfl) hf
def fX4_nextSale_50 (N : Nat) (σ : St) (k7 : Int32 → Int32 → Int32 → Int32 → Option Int32) (x1 : Int32) (x2 : Int32) (x3 : Int32) (x4 : Int32) : Option Int32 :=
  nm (x4 + (1 : Int32)) fun v6 => k7 x1 x2 x3 v6
set_option maxHeartbeats 2000000 in
set_option maxRecDepth 20000 in
theorem wX4_nextSale_50 {r : Int32} {N : Nat} {σ : St} (S : CallFix p m c cX4_nextSale 5 s av BG RX4) (hr : meth.sig.returnType = some .int) (hlk : meth.locks = false) {k7 : Int32 → Int32 → Int32 → Int32 → Option Int32} (hk7 : ∀ (x1 : Int32) (x2 : Int32) (x3 : Int32) (x4 : Int32) (ls : Array Slot) (H : Heap) (locs : List Loc), Hw (XWd D ad cs ts adK adV) s σ H locs → lv_has ls 5 [(0, .ref (ad 1)), (1, .int x1), (2, .int x2), (3, .int x3), (4, .int x4)] → k7 x1 x2 x3 x4 = some r → W p l e (RM 1 21) s m av below meth c H locs 0 0 (QI below (XWd D ad cs ts adK adV) av s r σ) (F0 m 7 ls []))  {x1 : Int32} {x2 : Int32} {x3 : Int32} {x4 : Int32} {ls : Array Slot} {H : Heap} {locs : List Loc} (hw : Hw (XWd D ad cs ts adK adV) s σ H locs) (hl : lv_has ls 5 [(0, .ref (ad 1)), (1, .int x1), (2, .int x2), (3, .int x3), (4, .int x4)]) (hf : fX4_nextSale_50 N σ k7 x1 x2 x3 x4 = some r) : W p l e (RM 1 21) s m av below meth c H locs 0 0 (QI below (XWd D ad cs ts adK adV) av s r σ) (F0 m 50 ls []) := by
  unfold fX4_nextSale_50 at hf
  obtain ⟨v6, e7⟩ : ∃ z : Int32, z = x4 + (1 : Int32) := ⟨_, rfl⟩
  have hf := nm_s e7 hf
  refine lv_iinc (v := v6) (lv' := [(4, .int v6), (0, .ref (ad 1)), (1, .int x1), (2, .int x2), (3, .int x3)]) S.1 S.2.1 dX4_nextSale_50 hl (k := 4) rfl (by rw [e7]; rfl) (by decide) rfl (fun ls hl => ?_)
  refine lv_goto (tgt := 7) S.1 S.2.1 dX4_nextSale_53 (by decide) ?_
  exact hk7 x1 x2 x3 v6 _ _ _ hw (lv_sub hl [1, 2, 3, 4, 0] rfl) hf
def fX4_nextSale_7b (N : Nat) (σ : St) (k7 : Int32 → Int32 → Int32 → Int32 → Option Int32) (x1 : Int32) (x2 : Int32) (x3 : Int32) (x4 : Int32) : Option Int32 :=
  if (σ.1 1) ≤ x4 then (some x3) else (if ix x4 40 = true then if (aR σ 12 x4) = x1 then (if ix x4 40 = true then if (aR σ 14 x4) ≤ x2 then (fX4_nextSale_50 N σ k7 x1 x2 x3 x4) else (if ix x4 40 = true then nm (if (aR σ 14 x4) < x3 then (aR σ 14 x4) else x3) fun v4 => fX4_nextSale_50 N σ k7 x1 x2 v4 x4 else none) else none) else (fX4_nextSale_50 N σ k7 x1 x2 x3 x4) else none)
set_option maxHeartbeats 2000000 in
set_option maxRecDepth 20000 in
theorem wX4_nextSale_7b {r : Int32} {N : Nat} {σ : St} (S : CallFix p m c cX4_nextSale 5 s av BG RX4) (hr : meth.sig.returnType = some .int) (hlk : meth.locks = false) {k7 : Int32 → Int32 → Int32 → Int32 → Option Int32} (hk7 : ∀ (x1 : Int32) (x2 : Int32) (x3 : Int32) (x4 : Int32) (ls : Array Slot) (H : Heap) (locs : List Loc), Hw (XWd D ad cs ts adK adV) s σ H locs → lv_has ls 5 [(0, .ref (ad 1)), (1, .int x1), (2, .int x2), (3, .int x3), (4, .int x4)] → k7 x1 x2 x3 x4 = some r → W p l e (RM 1 21) s m av below meth c H locs 0 0 (QI below (XWd D ad cs ts adK adV) av s r σ) (F0 m 7 ls []))  {x1 : Int32} {x2 : Int32} {x3 : Int32} {x4 : Int32} {ls : Array Slot} {H : Heap} {locs : List Loc} (hw : Hw (XWd D ad cs ts adK adV) s σ H locs) (hl : lv_has ls 5 [(0, .ref (ad 1)), (1, .int x1), (2, .int x2), (3, .int x3), (4, .int x4)]) (hf : fX4_nextSale_7b N σ k7 x1 x2 x3 x4 = some r) : W p l e (RM 1 21) s m av below meth c H locs 0 0 (QI below (XWd D ad cs ts adK adV) av s r σ) (F0 m 7 ls []) := by
  unfold fX4_nextSale_7b at hf
  refine lv_iload S.1 S.2.1 dX4_nextSale_7 (lv_at hl 4 rfl) ?_
  refine lv_aload_n S.1 S.2.1 dX4_nextSale_9 rfl (lv_at hl 0 rfl) ?_
  refine xg_Land_sales S hw kf_X4_52 dX4_nextSale_10 ?_
  refine lv_icmp_ge (tgt := 56) S.1 S.2.1 dX4_nextSale_13 (by decide) (fun hc => ?_) (fun hc => ?_)
  · have hf := itt hf hc
    refine lv_iload_n S.1 S.2.1 dX4_nextSale_56 rfl (lv_at hl 3 rfl) ?_
    exact g_iret (XWd_ok D ad cs ts adK adV) S hr hlk hw dX4_nextSale_57 (Option.some.inj hf) rfl
  · have hf := itf hf hc
    refine lv_aload_n S.1 S.2.1 dX4_nextSale_16 rfl (lv_at hl 0 rfl) ?_
    refine xg_Land_salePlots S hw kf_X4_9 dX4_nextSale_17 ?_
    refine lv_iload S.1 S.2.1 dX4_nextSale_20 (lv_at hl 4 rfl) ?_
    obtain ⟨h1, hf⟩ := gd_ix hf
    refine g_iald S hw 12 0 xe_12 rfl h1 dX4_nextSale_22 ?_
    refine lv_iload_n S.1 S.2.1 dX4_nextSale_23 rfl (lv_at hl 1 rfl) ?_
    refine lv_icmp_ne (tgt := 50) S.1 S.2.1 dX4_nextSale_24 (by decide) (fun hc => ?_) (fun hc => ?_)
    · have hf := itf hf hc
      exact wX4_nextSale_50 S hr hlk hk7 hw (lv_sub hl [0, 1, 2, 3, 4] rfl) hf
    · have hf := itt hf hc
      refine lv_aload_n S.1 S.2.1 dX4_nextSale_27 rfl (lv_at hl 0 rfl) ?_
      refine xg_Land_saleDays S hw kf_X4_18 dX4_nextSale_28 ?_
      refine lv_iload S.1 S.2.1 dX4_nextSale_31 (lv_at hl 4 rfl) ?_
      obtain ⟨h2, hf⟩ := gd_ix hf
      refine g_iald S hw 14 0 xe_14 rfl h2 dX4_nextSale_33 ?_
      refine lv_iload_n S.1 S.2.1 dX4_nextSale_34 rfl (lv_at hl 2 rfl) ?_
      refine lv_icmp_le (tgt := 50) S.1 S.2.1 dX4_nextSale_35 (by decide) (fun hc => ?_) (fun hc => ?_)
      · have hf := itt hf hc
        exact wX4_nextSale_50 S hr hlk hk7 hw (lv_sub hl [0, 1, 2, 3, 4] rfl) hf
      · have hf := itf hf hc
        refine lv_iload_n S.1 S.2.1 dX4_nextSale_38 rfl (lv_at hl 3 rfl) ?_
        refine lv_aload_n S.1 S.2.1 dX4_nextSale_39 rfl (lv_at hl 0 rfl) ?_
        refine xg_Land_saleDays S hw kf_X4_18 dX4_nextSale_40 ?_
        refine lv_iload S.1 S.2.1 dX4_nextSale_43 (lv_at hl 4 rfl) ?_
        obtain ⟨h3, hf⟩ := gd_ix hf
        refine g_iald S hw 14 0 xe_14 rfl h3 dX4_nextSale_45 ?_
        refine g_mmin S hl.1 kt_X4_55 (Nat.le_of_ble_eq_true rfl) (Nat.le_of_ble_eq_true rfl) (Nat.zero_le _) (Nat.zero_le _) dX4_nextSale_46 ?_
        refine lv_topi (fun v4 e5 => ?_)
        have hf := nm_s e5 hf
        refine lv_istore_n (lv' := [(3, .int v4), (0, .ref (ad 1)), (1, .int x1), (2, .int x2), (4, .int x4)]) S.1 S.2.1 dX4_nextSale_49 rfl hl (by decide) rfl (fun ls hl => ?_)
        exact wX4_nextSale_50 S hr hlk hk7 hw (lv_sub hl [1, 2, 3, 0, 4] rfl) hf
def fX4_nextSale_7 (N : Nat) (σ : St) : Nat → Int32 → Int32 → Int32 → Int32 → Option Int32
  | 0 => fun _ _ _ _ => none
  | n + 1 => fX4_nextSale_7b N σ (fX4_nextSale_7 N σ n)
theorem wX4_nextSale_7 {r : Int32} {N : Nat} {σ : St} (S : CallFix p m c cX4_nextSale 5 s av BG RX4) (hr : meth.sig.returnType = some .int) (hlk : meth.locks = false) : ∀ (n : Nat), ∀ (x1 : Int32) (x2 : Int32) (x3 : Int32) (x4 : Int32) (ls : Array Slot) (H : Heap) (locs : List Loc), Hw (XWd D ad cs ts adK adV) s σ H locs → lv_has ls 5 [(0, .ref (ad 1)), (1, .int x1), (2, .int x2), (3, .int x3), (4, .int x4)] → fX4_nextSale_7 N σ n x1 x2 x3 x4 = some r → W p l e (RM 1 21) s m av below meth c H locs 0 0 (QI below (XWd D ad cs ts adK adV) av s r σ) (F0 m 7 ls []) := by
  intro n
  induction n with
  | zero => intro _ _ _ _ ls H locs hw hl hf; cases hf
  | succ n ih => intro _ _ _ _ ls H locs hw hl hf; exact wX4_nextSale_7b S hr hlk ih hw hl hf
def fX4_nextSale (N : Nat) (σ : St) (x1 : Int32) (x2 : Int32) : Option Int32 :=
  fX4_nextSale_7 N σ N x1 x2 (10000 : Int32) (0 : Int32)
set_option maxHeartbeats 2000000 in
set_option maxRecDepth 20000 in
theorem tX4_nextSale {r : Int32} {N : Nat} {σ : St} {x1 : Int32} {x2 : Int32} (hf : fX4_nextSale N σ x1 x2 = some r) : CI l (XWd D ad cs ts adK adV) yX4_nextSale cX4_nextSale 5 (some .int) 1 21 [.ref (ad 1), .int x1, .int x2] σ r σ := by
  refine CI.of (by decide) (Nat.le_of_ble_eq_true rfl) ?_
  intro p e s m below meth c ls S hr hlk hw hl
  have hl : lv_has ls 5 [(0, .ref (ad 1)), (1, .int x1), (2, .int x2)] := hl
  unfold fX4_nextSale at hf
  refine lv_sipush (v := 10000) S.1 S.2.1 dX4_nextSale_0 (by decide) ?_
  refine lv_istore_n (lv' := [(3, .int (10000 : Int32)), (0, .ref (ad 1)), (1, .int x1), (2, .int x2)]) S.1 S.2.1 dX4_nextSale_3 rfl hl (by decide) rfl (fun ls hl => ?_)
  refine lv_iconst (v := 0) S.1 S.2.1 dX4_nextSale_4 (by decide) ?_
  refine lv_istore (lv' := [(4, .int (0 : Int32)), (3, .int (10000 : Int32)), (0, .ref (ad 1)), (1, .int x1), (2, .int x2)]) S.1 S.2.1 dX4_nextSale_5 hl (by decide) rfl (fun ls hl => ?_)
  exact wX4_nextSale_7 S hr hlk N x1 x2 (10000 : Int32) (0 : Int32) _ _ _ hw (lv_sub hl [2, 3, 4, 1, 0] rfl) hf
def fX5_nextChange_93 (N : Nat) (σ : St) (k21 : Int32 → Int32 → Int32 → Int32 → Option Int32) (x1 : Int32) (x2 : Int32) (x3 : Int32) (x4 : Int32) : Option Int32 :=
  nm (x4 + (1 : Int32)) fun v12 => k21 x1 x2 x3 v12
set_option maxHeartbeats 2000000 in
set_option maxRecDepth 20000 in
theorem wX5_nextChange_93 {r : Int32} {N : Nat} {σ : St} (S : CallFix p m c cX5_nextChange 6 s av BG RX5) (hr : meth.sig.returnType = some .int) (hlk : meth.locks = false) {k21 : Int32 → Int32 → Int32 → Int32 → Option Int32} (hk21 : ∀ (x1 : Int32) (x2 : Int32) (x3 : Int32) (x4 : Int32) (ls : Array Slot) (H : Heap) (locs : List Loc), Hw (XWd D ad cs ts adK adV) s σ H locs → lv_has ls 6 [(0, .ref (ad 4)), (1, .int x1), (2, .int x2), (3, .int x3), (4, .int x4)] → k21 x1 x2 x3 x4 = some r → W p l e (RM 2 45) s m av below meth c H locs 0 0 (QI below (XWd D ad cs ts adK adV) av s r σ) (F0 m 21 ls []))  {x1 : Int32} {x2 : Int32} {x3 : Int32} {x4 : Int32} {ls : Array Slot} {H : Heap} {locs : List Loc} (hw : Hw (XWd D ad cs ts adK adV) s σ H locs) (hl : lv_has ls 6 [(0, .ref (ad 4)), (1, .int x1), (2, .int x2), (3, .int x3), (4, .int x4)]) (hf : fX5_nextChange_93 N σ k21 x1 x2 x3 x4 = some r) : W p l e (RM 2 45) s m av below meth c H locs 0 0 (QI below (XWd D ad cs ts adK adV) av s r σ) (F0 m 93 ls []) := by
  unfold fX5_nextChange_93 at hf
  obtain ⟨v12, e13⟩ : ∃ z : Int32, z = x4 + (1 : Int32) := ⟨_, rfl⟩
  have hf := nm_s e13 hf
  refine lv_iinc (v := v12) (lv' := [(4, .int v12), (0, .ref (ad 4)), (1, .int x1), (2, .int x2), (3, .int x3)]) S.1 S.2.1 dX5_nextChange_93 hl (k := 4) rfl (by rw [e13]; rfl) (by decide) rfl (fun ls hl => ?_)
  refine lv_goto (tgt := 21) S.1 S.2.1 dX5_nextChange_96 (by decide) ?_
  exact hk21 x1 x2 x3 v12 _ _ _ hw (lv_sub hl [1, 2, 3, 4, 0] rfl) hf
def fX5_nextChange_70 (N : Nat) (σ : St) (k21 : Int32 → Int32 → Int32 → Int32 → Option Int32) (x1 : Int32) (x2 : Int32) (x3 : Int32) (x4 : Int32) : Option Int32 :=
  if ix x4 24 = true then if (aR σ 48 x4) ≤ x2 then (fX5_nextChange_93 N σ k21 x1 x2 x3 x4) else (if ix x4 24 = true then nm (if (aR σ 48 x4) < x3 then (aR σ 48 x4) else x3) fun v16 => fX5_nextChange_93 N σ k21 x1 x2 v16 x4 else none) else none
set_option maxHeartbeats 2000000 in
set_option maxRecDepth 20000 in
theorem wX5_nextChange_70 {r : Int32} {N : Nat} {σ : St} (S : CallFix p m c cX5_nextChange 6 s av BG RX5) (hr : meth.sig.returnType = some .int) (hlk : meth.locks = false) {k21 : Int32 → Int32 → Int32 → Int32 → Option Int32} (hk21 : ∀ (x1 : Int32) (x2 : Int32) (x3 : Int32) (x4 : Int32) (ls : Array Slot) (H : Heap) (locs : List Loc), Hw (XWd D ad cs ts adK adV) s σ H locs → lv_has ls 6 [(0, .ref (ad 4)), (1, .int x1), (2, .int x2), (3, .int x3), (4, .int x4)] → k21 x1 x2 x3 x4 = some r → W p l e (RM 2 45) s m av below meth c H locs 0 0 (QI below (XWd D ad cs ts adK adV) av s r σ) (F0 m 21 ls []))  {x1 : Int32} {x2 : Int32} {x3 : Int32} {x4 : Int32} {ls : Array Slot} {H : Heap} {locs : List Loc} (hw : Hw (XWd D ad cs ts adK adV) s σ H locs) (hl : lv_has ls 6 [(0, .ref (ad 4)), (1, .int x1), (2, .int x2), (3, .int x3), (4, .int x4)]) (hf : fX5_nextChange_70 N σ k21 x1 x2 x3 x4 = some r) : W p l e (RM 2 45) s m av below meth c H locs 0 0 (QI below (XWd D ad cs ts adK adV) av s r σ) (F0 m 70 ls []) := by
  unfold fX5_nextChange_70 at hf
  refine lv_aload_n S.1 S.2.1 dX5_nextChange_70 rfl (lv_at hl 0 rfl) ?_
  refine xg_Leaves_undone S hw kf_X5_30 dX5_nextChange_71 ?_
  refine lv_iload S.1 S.2.1 dX5_nextChange_74 (lv_at hl 4 rfl) ?_
  obtain ⟨h14, hf⟩ := gd_ix hf
  refine g_iald S hw 48 0 xe_48 rfl h14 dX5_nextChange_76 ?_
  refine lv_iload_n S.1 S.2.1 dX5_nextChange_77 rfl (lv_at hl 2 rfl) ?_
  refine lv_icmp_le (tgt := 93) S.1 S.2.1 dX5_nextChange_78 (by decide) (fun hc => ?_) (fun hc => ?_)
  · have hf := itt hf hc
    exact wX5_nextChange_93 S hr hlk hk21 hw (lv_sub hl [0, 1, 2, 3, 4] rfl) hf
  · have hf := itf hf hc
    refine lv_iload_n S.1 S.2.1 dX5_nextChange_81 rfl (lv_at hl 3 rfl) ?_
    refine lv_aload_n S.1 S.2.1 dX5_nextChange_82 rfl (lv_at hl 0 rfl) ?_
    refine xg_Leaves_undone S hw kf_X5_30 dX5_nextChange_83 ?_
    refine lv_iload S.1 S.2.1 dX5_nextChange_86 (lv_at hl 4 rfl) ?_
    obtain ⟨h15, hf⟩ := gd_ix hf
    refine g_iald S hw 48 0 xe_48 rfl h15 dX5_nextChange_88 ?_
    refine g_mmin S hl.1 kt_X5_104 (Nat.le_of_ble_eq_true rfl) (Nat.le_of_ble_eq_true rfl) (Nat.zero_le _) (Nat.zero_le _) dX5_nextChange_89 ?_
    refine lv_topi (fun v16 e17 => ?_)
    have hf := nm_s e17 hf
    refine lv_istore_n (lv' := [(3, .int v16), (0, .ref (ad 4)), (1, .int x1), (2, .int x2), (4, .int x4)]) S.1 S.2.1 dX5_nextChange_92 rfl hl (by decide) rfl (fun ls hl => ?_)
    exact wX5_nextChange_93 S hr hlk hk21 hw (lv_sub hl [1, 2, 3, 0, 4] rfl) hf
def fX5_nextChange_21b (N : Nat) (σ : St) (k21 : Int32 → Int32 → Int32 → Int32 → Option Int32) (x1 : Int32) (x2 : Int32) (x3 : Int32) (x4 : Int32) : Option Int32 :=
  if (σ.1 4) ≤ x4 then (some x3) else (if ix x4 24 = true then if (aR σ 43 x4) = x1 then (if ix x4 24 = true then bd (fX5_lasts N σ x4) fun r6 => nm ((aR σ 45 x4) + r6) fun v8 => if v8 ≤ x2 then (fX5_nextChange_70 N σ k21 x1 x2 x3 x4) else (nm (if v8 < x3 then v8 else x3) fun v10 => fX5_nextChange_70 N σ k21 x1 x2 v10 x4) else none) else (fX5_nextChange_93 N σ k21 x1 x2 x3 x4) else none)
set_option maxHeartbeats 2000000 in
set_option maxRecDepth 20000 in
theorem wX5_nextChange_21b {r : Int32} {N : Nat} {σ : St} (S : CallFix p m c cX5_nextChange 6 s av BG RX5) (hr : meth.sig.returnType = some .int) (hlk : meth.locks = false) {k21 : Int32 → Int32 → Int32 → Int32 → Option Int32} (hk21 : ∀ (x1 : Int32) (x2 : Int32) (x3 : Int32) (x4 : Int32) (ls : Array Slot) (H : Heap) (locs : List Loc), Hw (XWd D ad cs ts adK adV) s σ H locs → lv_has ls 6 [(0, .ref (ad 4)), (1, .int x1), (2, .int x2), (3, .int x3), (4, .int x4)] → k21 x1 x2 x3 x4 = some r → W p l e (RM 2 45) s m av below meth c H locs 0 0 (QI below (XWd D ad cs ts adK adV) av s r σ) (F0 m 21 ls []))  {x1 : Int32} {x2 : Int32} {x3 : Int32} {x4 : Int32} {ls : Array Slot} {H : Heap} {locs : List Loc} (hw : Hw (XWd D ad cs ts adK adV) s σ H locs) (hl : lv_has ls 6 [(0, .ref (ad 4)), (1, .int x1), (2, .int x2), (3, .int x3), (4, .int x4)]) (hf : fX5_nextChange_21b N σ k21 x1 x2 x3 x4 = some r) : W p l e (RM 2 45) s m av below meth c H locs 0 0 (QI below (XWd D ad cs ts adK adV) av s r σ) (F0 m 21 ls []) := by
  unfold fX5_nextChange_21b at hf
  refine lv_iload S.1 S.2.1 dX5_nextChange_21 (lv_at hl 4 rfl) ?_
  refine lv_aload_n S.1 S.2.1 dX5_nextChange_23 rfl (lv_at hl 0 rfl) ?_
  refine xg_Leaves_count S hw kf_X5_52 dX5_nextChange_24 ?_
  refine lv_icmp_ge (tgt := 99) S.1 S.2.1 dX5_nextChange_27 (by decide) (fun hc => ?_) (fun hc => ?_)
  · have hf := itt hf hc
    refine lv_iload_n S.1 S.2.1 dX5_nextChange_99 rfl (lv_at hl 3 rfl) ?_
    exact g_iret (XWd_ok D ad cs ts adK adV) S hr hlk hw dX5_nextChange_100 (Option.some.inj hf) rfl
  · have hf := itf hf hc
    refine lv_aload_n S.1 S.2.1 dX5_nextChange_30 rfl (lv_at hl 0 rfl) ?_
    refine xg_Leaves_spans S hw kf_X5_15 dX5_nextChange_31 ?_
    refine lv_iload S.1 S.2.1 dX5_nextChange_34 (lv_at hl 4 rfl) ?_
    obtain ⟨h4, hf⟩ := gd_ix hf
    refine g_iald S hw 43 0 xe_43 rfl h4 dX5_nextChange_36 ?_
    refine lv_iload_n S.1 S.2.1 dX5_nextChange_37 rfl (lv_at hl 1 rfl) ?_
    refine lv_icmp_ne (tgt := 93) S.1 S.2.1 dX5_nextChange_38 (by decide) (fun hc => ?_) (fun hc => ?_)
    · have hf := itf hf hc
      exact wX5_nextChange_93 S hr hlk hk21 hw (lv_sub hl [0, 1, 2, 3, 4] rfl) hf
    · have hf := itt hf hc
      refine lv_aload_n S.1 S.2.1 dX5_nextChange_41 rfl (lv_at hl 0 rfl) ?_
      refine xg_Leaves_begins S hw kf_X5_21 dX5_nextChange_42 ?_
      refine lv_iload S.1 S.2.1 dX5_nextChange_45 (lv_at hl 4 rfl) ?_
      obtain ⟨h5, hf⟩ := gd_ix hf
      refine g_iald S hw 45 0 xe_45 rfl h5 dX5_nextChange_47 ?_
      refine lv_aload_n S.1 S.2.1 dX5_nextChange_48 rfl (lv_at hl 0 rfl) ?_
      refine lv_iload S.1 S.2.1 dX5_nextChange_49 (lv_at hl 4 rfl) ?_
      obtain ⟨r6, g7, hf⟩ := bd_s hf
      refine g_Vi (rest := [.int (aR σ 45 x4)]) (XWd_ok D ad cs ts adK adV) S hw (tX5_lasts g7) kt_X5_66 4 xe_4 rfl rfl ⟨Nat.le_of_ble_eq_true rfl, Nat.le_of_ble_eq_true rfl⟩ rfl hl.1 rfl (Nat.le_of_ble_eq_true rfl) ⟨Nat.zero_le _, Nat.zero_le _⟩ dX5_nextChange_51 (fun H locs hw => ?_)
      refine lv_iadd S.1 S.2.1 dX5_nextChange_54 ?_
      refine lv_topi (fun v8 e9 => ?_)
      have hf := nm_s e9 hf
      refine lv_istore (lv' := [(5, .int v8), (0, .ref (ad 4)), (1, .int x1), (2, .int x2), (3, .int x3), (4, .int x4)]) S.1 S.2.1 dX5_nextChange_55 hl (by decide) rfl (fun ls hl => ?_)
      refine lv_iload S.1 S.2.1 dX5_nextChange_57 (lv_at hl 0 rfl) ?_
      refine lv_iload_n S.1 S.2.1 dX5_nextChange_59 rfl (lv_at hl 3 rfl) ?_
      refine lv_icmp_le (tgt := 70) S.1 S.2.1 dX5_nextChange_60 (by decide) (fun hc => ?_) (fun hc => ?_)
      · have hf := itt hf hc
        exact wX5_nextChange_70 S hr hlk hk21 hw (lv_sub hl [1, 2, 3, 4, 5] rfl) hf
      · have hf := itf hf hc
        refine lv_iload_n S.1 S.2.1 dX5_nextChange_63 rfl (lv_at hl 4 rfl) ?_
        refine lv_iload S.1 S.2.1 dX5_nextChange_64 (lv_at hl 0 rfl) ?_
        refine g_mmin S hl.1 kt_X5_104 (Nat.le_of_ble_eq_true rfl) (Nat.le_of_ble_eq_true rfl) (Nat.zero_le _) (Nat.zero_le _) dX5_nextChange_66 ?_
        refine lv_topi (fun v10 e11 => ?_)
        have hf := nm_s e11 hf
        refine lv_istore_n (lv' := [(3, .int v10), (5, .int v8), (0, .ref (ad 4)), (1, .int x1), (2, .int x2), (4, .int x4)]) S.1 S.2.1 dX5_nextChange_69 rfl hl (by decide) rfl (fun ls hl => ?_)
        exact wX5_nextChange_70 S hr hlk hk21 hw (lv_sub hl [2, 3, 4, 0, 5] rfl) hf
def fX5_nextChange_21 (N : Nat) (σ : St) : Nat → Int32 → Int32 → Int32 → Int32 → Option Int32
  | 0 => fun _ _ _ _ => none
  | n + 1 => fX5_nextChange_21b N σ (fX5_nextChange_21 N σ n)
theorem wX5_nextChange_21 {r : Int32} {N : Nat} {σ : St} (S : CallFix p m c cX5_nextChange 6 s av BG RX5) (hr : meth.sig.returnType = some .int) (hlk : meth.locks = false) : ∀ (n : Nat), ∀ (x1 : Int32) (x2 : Int32) (x3 : Int32) (x4 : Int32) (ls : Array Slot) (H : Heap) (locs : List Loc), Hw (XWd D ad cs ts adK adV) s σ H locs → lv_has ls 6 [(0, .ref (ad 4)), (1, .int x1), (2, .int x2), (3, .int x3), (4, .int x4)] → fX5_nextChange_21 N σ n x1 x2 x3 x4 = some r → W p l e (RM 2 45) s m av below meth c H locs 0 0 (QI below (XWd D ad cs ts adK adV) av s r σ) (F0 m 21 ls []) := by
  intro n
  induction n with
  | zero => intro _ _ _ _ ls H locs hw hl hf; cases hf
  | succ n ih => intro _ _ _ _ ls H locs hw hl hf; exact wX5_nextChange_21b S hr hlk ih hw hl hf
def fX5_nextChange (N : Nat) (σ : St) (x1 : Int32) (x2 : Int32) : Option Int32 :=
  if ix x1 16 = true then bd (fX4_nextSale N σ (aR σ 37 x1) x2) fun r2 => fX5_nextChange_21 N σ N x1 x2 r2 (0 : Int32) else none
set_option maxHeartbeats 2000000 in
set_option maxRecDepth 20000 in
theorem tX5_nextChange {r : Int32} {N : Nat} {σ : St} {x1 : Int32} {x2 : Int32} (hf : fX5_nextChange N σ x1 x2 = some r) : CI l (XWd D ad cs ts adK adV) yX5_nextChange cX5_nextChange 6 (some .int) 2 45 [.ref (ad 4), .int x1, .int x2] σ r σ := by
  refine CI.of (by decide) (Nat.le_of_ble_eq_true rfl) ?_
  intro p e s m below meth c ls S hr hlk hw hl
  have hl : lv_has ls 6 [(0, .ref (ad 4)), (1, .int x1), (2, .int x2)] := hl
  unfold fX5_nextChange at hf
  refine lv_aload_n S.1 S.2.1 dX5_nextChange_0 rfl (lv_at hl 0 rfl) ?_
  refine xg_Leaves_land S hw kf_X5_40 dX5_nextChange_1 ?_
  refine lv_aload_n S.1 S.2.1 dX5_nextChange_4 rfl (lv_at hl 0 rfl) ?_
  refine xg_Leaves_line S hw kf_X5_44 dX5_nextChange_5 ?_
  refine xg_Line_plots S hw kf_X5_73 dX5_nextChange_8 ?_
  refine lv_iload_n S.1 S.2.1 dX5_nextChange_11 rfl (lv_at hl 1 rfl) ?_
  obtain ⟨h1, hf⟩ := gd_ix hf
  refine g_iald S hw 37 0 xe_37 rfl h1 dX5_nextChange_12 ?_
  refine lv_iload_n S.1 S.2.1 dX5_nextChange_13 rfl (lv_at hl 2 rfl) ?_
  obtain ⟨r2, g3, hf⟩ := bd_s hf
  refine g_Vi (rest := []) (XWd_ok D ad cs ts adK adV) S hw (tX4_nextSale g3) kt_X5_101 1 xe_1 rfl rfl ⟨Nat.le_of_ble_eq_true rfl, Nat.le_of_ble_eq_true rfl⟩ rfl hl.1 rfl (Nat.le_of_ble_eq_true rfl) ⟨Nat.zero_le _, Nat.zero_le _⟩ dX5_nextChange_14 (fun H locs hw => ?_)
  refine lv_istore_n (lv' := [(3, .int r2), (0, .ref (ad 4)), (1, .int x1), (2, .int x2)]) S.1 S.2.1 dX5_nextChange_17 rfl hl (by decide) rfl (fun ls hl => ?_)
  refine lv_iconst (v := 0) S.1 S.2.1 dX5_nextChange_18 (by decide) ?_
  refine lv_istore (lv' := [(4, .int (0 : Int32)), (3, .int r2), (0, .ref (ad 4)), (1, .int x1), (2, .int x2)]) S.1 S.2.1 dX5_nextChange_19 hl (by decide) rfl (fun ls hl => ?_)
  exact wX5_nextChange_21 S hr hlk N x1 x2 r2 (0 : Int32) _ _ _ hw (lv_sub hl [2, 3, 4, 1, 0] rfl) hf
def fX5_ends_10b (N : Nat) (k10 : St → Int32 → Int32 → Int32 → Option (Int32 × St)) (σ : St) (x1 : Int32) (x2 : Int32) (x3 : Int32) : Option (Int32 × St) :=
  if (88 : Int32) < x3 then (some ((-1 : Int32), σ)) else (if (9999 : Int32) < x2 then (some ((-1 : Int32), σ)) else (bd2 (fX5_hasOn N σ x1 x2) fun r3 σ1 => if r3 = 0 then (some (x2, σ1)) else (bd (fX5_nextChange N σ1 x1 x2) fun r4 => nm (x3 + (1 : Int32)) fun v6 => k10 σ1 x1 r4 v6)))
set_option maxHeartbeats 2000000 in
set_option maxRecDepth 20000 in
theorem wX5_ends_10b {r : Int32} {σ' : St} {N : Nat} (S : CallFix p m c cX5_ends 4 s av BG RX5) (hr : meth.sig.returnType = some .int) (hlk : meth.locks = false) {k10 : St → Int32 → Int32 → Int32 → Option (Int32 × St)} (hk10 : ∀ (σ : St) (x1 : Int32) (x2 : Int32) (x3 : Int32) (ls : Array Slot) (H : Heap) (locs : List Loc), Hw (XWd D ad cs ts adK adV) s σ H locs → lv_has ls 4 [(0, .ref (ad 4)), (1, .int x1), (2, .int x2), (3, .int x3)] → k10 σ x1 x2 x3 = some (r, σ') → W p l e (RM 4 98) s m av below meth c H locs 0 0 (QI below (XWd D ad cs ts adK adV) av s r σ') (F0 m 10 ls []))  {σ : St} {x1 : Int32} {x2 : Int32} {x3 : Int32} {ls : Array Slot} {H : Heap} {locs : List Loc} (hw : Hw (XWd D ad cs ts adK adV) s σ H locs) (hl : lv_has ls 4 [(0, .ref (ad 4)), (1, .int x1), (2, .int x2), (3, .int x3)]) (hf : fX5_ends_10b N k10 σ x1 x2 x3 = some (r, σ')) : W p l e (RM 4 98) s m av below meth c H locs 0 0 (QI below (XWd D ad cs ts adK adV) av s r σ') (F0 m 10 ls []) := by
  unfold fX5_ends_10b at hf
  refine lv_iload_n S.1 S.2.1 dX5_ends_10 rfl (lv_at hl 3 rfl) ?_
  refine lv_bipush (v := 88) S.1 S.2.1 dX5_ends_11 (by decide) ?_
  refine lv_icmp_gt (tgt := 47) S.1 S.2.1 dX5_ends_13 (by decide) (fun hc => ?_) (fun hc => ?_)
  · have hf := itt hf hc
    refine lv_iconst (v := -1) S.1 S.2.1 dX5_ends_47 (by decide) ?_
    exact g_iret (XWd_ok D ad cs ts adK adV) S hr hlk hw dX5_ends_48 (Prod.mk.inj (Option.some.inj hf)).1 (Prod.mk.inj (Option.some.inj hf)).2
  · have hf := itf hf hc
    refine lv_iload_n S.1 S.2.1 dX5_ends_16 rfl (lv_at hl 2 rfl) ?_
    refine lv_sipush (v := 9999) S.1 S.2.1 dX5_ends_17 (by decide) ?_
    refine lv_icmp_gt (tgt := 47) S.1 S.2.1 dX5_ends_20 (by decide) (fun hc => ?_) (fun hc => ?_)
    · have hf := itt hf hc
      refine lv_iconst (v := -1) S.1 S.2.1 dX5_ends_47 (by decide) ?_
      exact g_iret (XWd_ok D ad cs ts adK adV) S hr hlk hw dX5_ends_48 (Prod.mk.inj (Option.some.inj hf)).1 (Prod.mk.inj (Option.some.inj hf)).2
    · have hf := itf hf hc
      refine lv_aload_n S.1 S.2.1 dX5_ends_23 rfl (lv_at hl 0 rfl) ?_
      refine lv_iload_n S.1 S.2.1 dX5_ends_24 rfl (lv_at hl 1 rfl) ?_
      refine lv_iload_n S.1 S.2.1 dX5_ends_25 rfl (lv_at hl 2 rfl) ?_
      obtain ⟨r3, σ1, g2, hf⟩ := bd2_s hf
      refine g_Vi (rest := []) (XWd_ok D ad cs ts adK adV) S hw (tX5_hasOn g2) kt_X5_95 4 xe_4 rfl rfl ⟨Nat.le_of_ble_eq_true rfl, Nat.le_of_ble_eq_true rfl⟩ rfl hl.1 rfl (Nat.le_of_ble_eq_true rfl) ⟨Nat.zero_le _, Nat.zero_le _⟩ dX5_ends_26 (fun H locs hw => ?_)
      refine lv_if_ne (tgt := 34) S.1 S.2.1 dX5_ends_29 (by decide) (fun hc => ?_) (fun hc => ?_)
      · have hf := itf hf hc
        refine lv_aload_n S.1 S.2.1 dX5_ends_34 rfl (lv_at hl 0 rfl) ?_
        refine lv_iload_n S.1 S.2.1 dX5_ends_35 rfl (lv_at hl 1 rfl) ?_
        refine lv_iload_n S.1 S.2.1 dX5_ends_36 rfl (lv_at hl 2 rfl) ?_
        obtain ⟨r4, g5, hf⟩ := bd_s hf
        refine g_Vi (rest := []) (XWd_ok D ad cs ts adK adV) S hw (tX5_nextChange g5) kt_X5_98 4 xe_4 rfl rfl ⟨Nat.le_of_ble_eq_true rfl, Nat.le_of_ble_eq_true rfl⟩ rfl hl.1 rfl (Nat.le_of_ble_eq_true rfl) ⟨Nat.zero_le _, Nat.zero_le _⟩ dX5_ends_37 (fun H locs hw => ?_)
        refine lv_istore_n (lv' := [(2, .int r4), (0, .ref (ad 4)), (1, .int x1), (3, .int x3)]) S.1 S.2.1 dX5_ends_40 rfl hl (by decide) rfl (fun ls hl => ?_)
        obtain ⟨v6, e7⟩ : ∃ z : Int32, z = x3 + (1 : Int32) := ⟨_, rfl⟩
        have hf := nm_s e7 hf
        refine lv_iinc (v := v6) (lv' := [(3, .int v6), (2, .int r4), (0, .ref (ad 4)), (1, .int x1)]) S.1 S.2.1 dX5_ends_41 hl (k := 3) rfl (by rw [e7]; rfl) (by decide) rfl (fun ls hl => ?_)
        refine lv_goto (tgt := 10) S.1 S.2.1 dX5_ends_44 (by decide) ?_
        exact hk10 σ1 x1 r4 v6 _ _ _ hw (lv_sub hl [2, 3, 1, 0] rfl) hf
      · have hf := itt hf hc
        refine lv_iload_n S.1 S.2.1 dX5_ends_32 rfl (lv_at hl 2 rfl) ?_
        exact g_iret (XWd_ok D ad cs ts adK adV) S hr hlk hw dX5_ends_33 (Prod.mk.inj (Option.some.inj hf)).1 (Prod.mk.inj (Option.some.inj hf)).2
def fX5_ends_10 (N : Nat) : Nat → St → Int32 → Int32 → Int32 → Option (Int32 × St)
  | 0 => fun _ _ _ _ => none
  | n + 1 => fX5_ends_10b N (fX5_ends_10 N n)
theorem wX5_ends_10 {r : Int32} {σ' : St} {N : Nat} (S : CallFix p m c cX5_ends 4 s av BG RX5) (hr : meth.sig.returnType = some .int) (hlk : meth.locks = false) : ∀ (n : Nat), ∀ (σ : St) (x1 : Int32) (x2 : Int32) (x3 : Int32) (ls : Array Slot) (H : Heap) (locs : List Loc), Hw (XWd D ad cs ts adK adV) s σ H locs → lv_has ls 4 [(0, .ref (ad 4)), (1, .int x1), (2, .int x2), (3, .int x3)] → fX5_ends_10 N n σ x1 x2 x3 = some (r, σ') → W p l e (RM 4 98) s m av below meth c H locs 0 0 (QI below (XWd D ad cs ts adK adV) av s r σ') (F0 m 10 ls []) := by
  intro n
  induction n with
  | zero => intro _ _ _ _ ls H locs hw hl hf; cases hf
  | succ n ih => intro _ _ _ _ ls H locs hw hl hf; exact wX5_ends_10b S hr hlk ih hw hl hf
def fX5_ends (N : Nat) (σ : St) (x1 : Int32) : Option (Int32 × St) :=
  fX5_ends_10 N N σ x1 (σ.1 0) (0 : Int32)
set_option maxHeartbeats 2000000 in
set_option maxRecDepth 20000 in
theorem tX5_ends {r : Int32} {σ' : St} {N : Nat} {σ : St} {x1 : Int32} (hf : fX5_ends N σ x1 = some (r, σ')) : CI l (XWd D ad cs ts adK adV) yX5_ends cX5_ends 4 (some .int) 4 98 [.ref (ad 4), .int x1] σ r σ' := by
  refine CI.of (by decide) (Nat.le_of_ble_eq_true rfl) ?_
  intro p e s m below meth c ls S hr hlk hw hl
  have hl : lv_has ls 4 [(0, .ref (ad 4)), (1, .int x1)] := hl
  unfold fX5_ends at hf
  refine lv_aload_n S.1 S.2.1 dX5_ends_0 rfl (lv_at hl 0 rfl) ?_
  refine xg_Leaves_land S hw kf_X5_40 dX5_ends_1 ?_
  refine xg_Land_day S hw kf_X5_92 dX5_ends_4 ?_
  refine lv_istore_n (lv' := [(2, .int (σ.1 0)), (0, .ref (ad 4)), (1, .int x1)]) S.1 S.2.1 dX5_ends_7 rfl hl (by decide) rfl (fun ls hl => ?_)
  refine lv_iconst (v := 0) S.1 S.2.1 dX5_ends_8 (by decide) ?_
  refine lv_istore_n (lv' := [(3, .int (0 : Int32)), (2, .int (σ.1 0)), (0, .ref (ad 4)), (1, .int x1)]) S.1 S.2.1 dX5_ends_9 rfl hl (by decide) rfl (fun ls hl => ?_)
  exact wX5_ends_10 S hr hlk N σ x1 (σ.1 0) (0 : Int32) _ _ _ hw (lv_sub hl [2, 3, 1, 0] rfl) hf
def fX1_choose_131 (N : Nat) (k20 : St → Int32 → Int32 → Option St) (σ : St) (x1 : Int32) (x2 : Int32) : Option St :=
  nm (x2 + (1 : Int32)) fun v26 => k20 σ x1 v26
set_option maxHeartbeats 2000000 in
set_option maxRecDepth 20000 in
theorem wX1_choose_131 {σ' : St} {N : Nat} (S : CallFix p m c cX1_choose 5 s av BG RX1) (hr : meth.sig.returnType = none) (hlk : meth.locks = false) {k20 : St → Int32 → Int32 → Option St} (hk20 : ∀ (σ : St) (x1 : Int32) (x2 : Int32) (ls : Array Slot) (H : Heap) (locs : List Loc), Hw (XWd D ad cs ts adK adV) s σ H locs → lv_has ls 5 [(0, .ref (ad 10)), (1, .int x1), (2, .int x2)] → k20 σ x1 x2 = some σ' → W p l e (RM 5 121) s m av below meth c H locs 0 0 (QV below (XWd D ad cs ts adK adV) av s σ') (F0 m 20 ls []))  {σ : St} {x1 : Int32} {x2 : Int32} {ls : Array Slot} {H : Heap} {locs : List Loc} (hw : Hw (XWd D ad cs ts adK adV) s σ H locs) (hl : lv_has ls 5 [(0, .ref (ad 10)), (1, .int x1), (2, .int x2)]) (hf : fX1_choose_131 N k20 σ x1 x2 = some σ') : W p l e (RM 5 121) s m av below meth c H locs 0 0 (QV below (XWd D ad cs ts adK adV) av s σ') (F0 m 131 ls []) := by
  unfold fX1_choose_131 at hf
  obtain ⟨v26, e27⟩ : ∃ z : Int32, z = x2 + (1 : Int32) := ⟨_, rfl⟩
  have hf := nm_s e27 hf
  refine lv_iinc (v := v26) (lv' := [(2, .int v26), (0, .ref (ad 10)), (1, .int x1)]) S.1 S.2.1 dX1_choose_131 hl (k := 2) rfl (by rw [e27]; rfl) (by decide) rfl (fun ls hl => ?_)
  refine lv_goto (tgt := 20) S.1 S.2.1 dX1_choose_134 (by decide) ?_
  exact hk20 σ x1 v26 _ _ _ hw (lv_sub hl [1, 2, 0] rfl) hf
def fX1_choose_56b (N : Nat) (k20 : St → Int32 → Int32 → Option St) (k56 : St → Int32 → Int32 → Int32 → Int32 → Option St) (σ : St) (x1 : Int32) (x2 : Int32) (x3 : Int32) (x4 : Int32) : Option St :=
  if x3 ≤ x4 then (if ix (σ.1 16) 6 = true then nm (aW σ 74 (σ.1 16) x2) fun σ9 => bd2 (fX5_ends N σ9 x2) fun r13 σ11 => if ix (σ9.1 16) 6 = true then nm (aW σ11 75 (σ9.1 16) r13) fun σ15 => nm (sI σ15 16 ((σ15.1 16) + (1 : Int32))) fun σ17 => fX1_choose_131 N k20 σ17 x1 x2 else none else none) else (if ix x4 64 = true then if ix x2 16 = true then if ix (x4 + x3) 64 = true then nm (aW σ 76 (x4 + x3) ((aR σ 76 x4) + (aR σ 41 x2))) fun σ22 => nm (x4 + (1 : Int32)) fun v24 => k56 σ22 x1 x2 x3 v24 else none else none else none)
set_option maxHeartbeats 2000000 in
set_option maxRecDepth 20000 in
theorem wX1_choose_56b {σ' : St} {N : Nat} (S : CallFix p m c cX1_choose 5 s av BG RX1) (hr : meth.sig.returnType = none) (hlk : meth.locks = false) {k20 : St → Int32 → Int32 → Option St} {k56 : St → Int32 → Int32 → Int32 → Int32 → Option St} (hk20 : ∀ (σ : St) (x1 : Int32) (x2 : Int32) (ls : Array Slot) (H : Heap) (locs : List Loc), Hw (XWd D ad cs ts adK adV) s σ H locs → lv_has ls 5 [(0, .ref (ad 10)), (1, .int x1), (2, .int x2)] → k20 σ x1 x2 = some σ' → W p l e (RM 5 121) s m av below meth c H locs 0 0 (QV below (XWd D ad cs ts adK adV) av s σ') (F0 m 20 ls [])) (hk56 : ∀ (σ : St) (x1 : Int32) (x2 : Int32) (x3 : Int32) (x4 : Int32) (ls : Array Slot) (H : Heap) (locs : List Loc), Hw (XWd D ad cs ts adK adV) s σ H locs → lv_has ls 5 [(0, .ref (ad 10)), (1, .int x1), (2, .int x2), (3, .int x3), (4, .int x4)] → k56 σ x1 x2 x3 x4 = some σ' → W p l e (RM 5 121) s m av below meth c H locs 0 0 (QV below (XWd D ad cs ts adK adV) av s σ') (F0 m 56 ls []))  {σ : St} {x1 : Int32} {x2 : Int32} {x3 : Int32} {x4 : Int32} {ls : Array Slot} {H : Heap} {locs : List Loc} (hw : Hw (XWd D ad cs ts adK adV) s σ H locs) (hl : lv_has ls 5 [(0, .ref (ad 10)), (1, .int x1), (2, .int x2), (3, .int x3), (4, .int x4)]) (hf : fX1_choose_56b N k20 k56 σ x1 x2 x3 x4 = some σ') : W p l e (RM 5 121) s m av below meth c H locs 0 0 (QV below (XWd D ad cs ts adK adV) av s σ') (F0 m 56 ls []) := by
  unfold fX1_choose_56b at hf
  refine lv_iload S.1 S.2.1 dX1_choose_56 (lv_at hl 4 rfl) ?_
  refine lv_iload_n S.1 S.2.1 dX1_choose_58 rfl (lv_at hl 3 rfl) ?_
  refine lv_icmp_ge (tgt := 94) S.1 S.2.1 dX1_choose_59 (by decide) (fun hc => ?_) (fun hc => ?_)
  · have hf := itt hf hc
    refine lv_aload_n S.1 S.2.1 dX1_choose_94 rfl (lv_at hl 0 rfl) ?_
    refine xg_Asks_spans S hw kf_X1_9 dX1_choose_95 ?_
    refine lv_aload_n S.1 S.2.1 dX1_choose_98 rfl (lv_at hl 0 rfl) ?_
    refine xg_Asks_count S hw kf_X1_36 dX1_choose_99 ?_
    refine lv_iload_n S.1 S.2.1 dX1_choose_102 rfl (lv_at hl 2 rfl) ?_
    obtain ⟨h8, hf⟩ := gd_ix hf
    obtain ⟨σ9, e10⟩ : ∃ z : St, z = aW σ 74 (σ.1 16) x2 := ⟨_, rfl⟩
    have hf := nm_s e10 hf
    refine g_iast (σ' := σ9) S hw 74 0 xe_74 rfl (by rw [e10]; exact xs_74 _) h8 dX1_choose_103 (fun H locs hw => ?_)
    refine lv_aload_n S.1 S.2.1 dX1_choose_104 rfl (lv_at hl 0 rfl) ?_
    refine xg_Asks_ends S hw kf_X1_15 dX1_choose_105 ?_
    refine lv_aload_n S.1 S.2.1 dX1_choose_108 rfl (lv_at hl 0 rfl) ?_
    refine xg_Asks_count S hw kf_X1_36 dX1_choose_109 ?_
    refine lv_aload_n S.1 S.2.1 dX1_choose_112 rfl (lv_at hl 0 rfl) ?_
    refine xg_Asks_leaves S hw kf_X1_32 dX1_choose_113 ?_
    refine lv_iload_n S.1 S.2.1 dX1_choose_116 rfl (lv_at hl 2 rfl) ?_
    obtain ⟨r13, σ11, g12, hf⟩ := bd2_s hf
    refine g_Vi (rest := [.int (σ9.1 16), .ref (ad 75)]) (XWd_ok D ad cs ts adK adV) S hw (tX5_ends g12) kt_X1_50 4 xe_4 rfl rfl ⟨Nat.le_of_ble_eq_true rfl, Nat.le_of_ble_eq_true rfl⟩ rfl hl.1 rfl (Nat.le_of_ble_eq_true rfl) ⟨Nat.zero_le _, Nat.zero_le _⟩ dX1_choose_117 (fun H locs hw => ?_)
    obtain ⟨h14, hf⟩ := gd_ix hf
    obtain ⟨σ15, e16⟩ : ∃ z : St, z = aW σ11 75 (σ9.1 16) r13 := ⟨_, rfl⟩
    have hf := nm_s e16 hf
    refine g_iast (σ' := σ15) S hw 75 0 xe_75 rfl (by rw [e16]; exact xs_75 _) h14 dX1_choose_120 (fun H locs hw => ?_)
    refine lv_aload_n S.1 S.2.1 dX1_choose_121 rfl (lv_at hl 0 rfl) ?_
    refine lv_dup S.1 S.2.1 dX1_choose_122 rfl ?_
    refine xg_Asks_count S hw kf_X1_36 dX1_choose_123 ?_
    refine lv_iconst (v := 1) S.1 S.2.1 dX1_choose_126 (by decide) ?_
    refine lv_iadd S.1 S.2.1 dX1_choose_127 ?_
    obtain ⟨σ17, e18⟩ : ∃ z : St, z = sI σ15 16 ((σ15.1 16) + (1 : Int32)) := ⟨_, rfl⟩
    have hf := nm_s e18 hf
    refine xp_Asks_count S hw e18 kf_X1_36 dX1_choose_128 (fun H locs hw => ?_)
    exact wX1_choose_131 S hr hlk hk20 hw (lv_sub hl [0, 1, 2] rfl) hf
  · have hf := itf hf hc
    refine lv_aload_n S.1 S.2.1 dX1_choose_62 rfl (lv_at hl 0 rfl) ?_
    refine xg_Asks_doneDays S hw kf_X1_18 dX1_choose_63 ?_
    refine lv_iload S.1 S.2.1 dX1_choose_66 (lv_at hl 4 rfl) ?_
    refine lv_iload_n S.1 S.2.1 dX1_choose_68 rfl (lv_at hl 3 rfl) ?_
    refine lv_iadd S.1 S.2.1 dX1_choose_69 ?_
    refine lv_aload_n S.1 S.2.1 dX1_choose_70 rfl (lv_at hl 0 rfl) ?_
    refine xg_Asks_doneDays S hw kf_X1_18 dX1_choose_71 ?_
    refine lv_iload S.1 S.2.1 dX1_choose_74 (lv_at hl 4 rfl) ?_
    obtain ⟨h19, hf⟩ := gd_ix hf
    refine g_iald S hw 76 0 xe_76 rfl h19 dX1_choose_76 ?_
    refine lv_aload_n S.1 S.2.1 dX1_choose_77 rfl (lv_at hl 0 rfl) ?_
    refine xg_Asks_line S hw kf_X1_28 dX1_choose_78 ?_
    refine xg_Line_askDays S hw kf_X1_45 dX1_choose_81 ?_
    refine lv_iload_n S.1 S.2.1 dX1_choose_84 rfl (lv_at hl 2 rfl) ?_
    obtain ⟨h20, hf⟩ := gd_ix hf
    refine g_iald S hw 41 0 xe_41 rfl h20 dX1_choose_85 ?_
    refine lv_iadd S.1 S.2.1 dX1_choose_86 ?_
    obtain ⟨h21, hf⟩ := gd_ix hf
    obtain ⟨σ22, e23⟩ : ∃ z : St, z = aW σ 76 (x4 + x3) ((aR σ 76 x4) + (aR σ 41 x2)) := ⟨_, rfl⟩
    have hf := nm_s e23 hf
    refine g_iast (σ' := σ22) S hw 76 0 xe_76 rfl (by rw [e23]; exact xs_76 _) h21 dX1_choose_87 (fun H locs hw => ?_)
    obtain ⟨v24, e25⟩ : ∃ z : Int32, z = x4 + (1 : Int32) := ⟨_, rfl⟩
    have hf := nm_s e25 hf
    refine lv_iinc (v := v24) (lv' := [(4, .int v24), (0, .ref (ad 10)), (1, .int x1), (2, .int x2), (3, .int x3)]) S.1 S.2.1 dX1_choose_88 hl (k := 4) rfl (by rw [e25]; rfl) (by decide) rfl (fun ls hl => ?_)
    refine lv_goto (tgt := 56) S.1 S.2.1 dX1_choose_91 (by decide) ?_
    exact hk56 σ22 x1 x2 x3 v24 _ _ _ hw (lv_sub hl [1, 2, 3, 4, 0] rfl) hf
def fX1_choose_56 (N : Nat) (k20 : St → Int32 → Int32 → Option St) : Nat → St → Int32 → Int32 → Int32 → Int32 → Option St
  | 0 => fun _ _ _ _ _ => none
  | n + 1 => fX1_choose_56b N k20 (fX1_choose_56 N k20 n)
theorem wX1_choose_56 {σ' : St} {N : Nat} (S : CallFix p m c cX1_choose 5 s av BG RX1) (hr : meth.sig.returnType = none) (hlk : meth.locks = false) {k20 : St → Int32 → Int32 → Option St} (hk20 : ∀ (σ : St) (x1 : Int32) (x2 : Int32) (ls : Array Slot) (H : Heap) (locs : List Loc), Hw (XWd D ad cs ts adK adV) s σ H locs → lv_has ls 5 [(0, .ref (ad 10)), (1, .int x1), (2, .int x2)] → k20 σ x1 x2 = some σ' → W p l e (RM 5 121) s m av below meth c H locs 0 0 (QV below (XWd D ad cs ts adK adV) av s σ') (F0 m 20 ls [])) : ∀ (n : Nat), ∀ (σ : St) (x1 : Int32) (x2 : Int32) (x3 : Int32) (x4 : Int32) (ls : Array Slot) (H : Heap) (locs : List Loc), Hw (XWd D ad cs ts adK adV) s σ H locs → lv_has ls 5 [(0, .ref (ad 10)), (1, .int x1), (2, .int x2), (3, .int x3), (4, .int x4)] → fX1_choose_56 N k20 n σ x1 x2 x3 x4 = some σ' → W p l e (RM 5 121) s m av below meth c H locs 0 0 (QV below (XWd D ad cs ts adK adV) av s σ') (F0 m 56 ls []) := by
  intro n
  induction n with
  | zero => intro _ _ _ _ _ ls H locs hw hl hf; cases hf
  | succ n ih => intro _ _ _ _ _ ls H locs hw hl hf; exact wX1_choose_56b S hr hlk hk20 ih hw hl hf
def fX1_choose_20b (N : Nat) (k20 : St → Int32 → Int32 → Option St) (σ : St) (x1 : Int32) (x2 : Int32) : Option St :=
  if (16 : Int32) ≤ x2 then (some σ) else (if (6 : Int32) ≤ (σ.1 16) then (some σ) else (if ((x1 >>> (x2 &&& 31)) &&& (1 : Int32)) = 0 then (fX1_choose_131 N k20 σ x1 x2) else (nm ((1 : Int32) <<< ((σ.1 16) &&& 31)) fun v6 => fX1_choose_56 N k20 N σ x1 x2 v6 (0 : Int32))))
set_option maxHeartbeats 2000000 in
set_option maxRecDepth 20000 in
theorem wX1_choose_20b {σ' : St} {N : Nat} (S : CallFix p m c cX1_choose 5 s av BG RX1) (hr : meth.sig.returnType = none) (hlk : meth.locks = false) {k20 : St → Int32 → Int32 → Option St} (hk20 : ∀ (σ : St) (x1 : Int32) (x2 : Int32) (ls : Array Slot) (H : Heap) (locs : List Loc), Hw (XWd D ad cs ts adK adV) s σ H locs → lv_has ls 5 [(0, .ref (ad 10)), (1, .int x1), (2, .int x2)] → k20 σ x1 x2 = some σ' → W p l e (RM 5 121) s m av below meth c H locs 0 0 (QV below (XWd D ad cs ts adK adV) av s σ') (F0 m 20 ls []))  {σ : St} {x1 : Int32} {x2 : Int32} {ls : Array Slot} {H : Heap} {locs : List Loc} (hw : Hw (XWd D ad cs ts adK adV) s σ H locs) (hl : lv_has ls 5 [(0, .ref (ad 10)), (1, .int x1), (2, .int x2)]) (hf : fX1_choose_20b N k20 σ x1 x2 = some σ') : W p l e (RM 5 121) s m av below meth c H locs 0 0 (QV below (XWd D ad cs ts adK adV) av s σ') (F0 m 20 ls []) := by
  unfold fX1_choose_20b at hf
  refine lv_iload_n S.1 S.2.1 dX1_choose_20 rfl (lv_at hl 2 rfl) ?_
  refine lv_bipush (v := 16) S.1 S.2.1 dX1_choose_21 (by decide) ?_
  refine lv_icmp_ge (tgt := 137) S.1 S.2.1 dX1_choose_23 (by decide) (fun hc => ?_) (fun hc => ?_)
  · have hf := itt hf hc
    exact g_vret (XWd_ok D ad cs ts adK adV) S hr hlk hw dX1_choose_137 (Option.some.inj hf)
  · have hf := itf hf hc
    refine lv_aload_n S.1 S.2.1 dX1_choose_26 rfl (lv_at hl 0 rfl) ?_
    refine xg_Asks_count S hw kf_X1_36 dX1_choose_27 ?_
    refine lv_bipush (v := 6) S.1 S.2.1 dX1_choose_30 (by decide) ?_
    refine lv_icmp_ge (tgt := 137) S.1 S.2.1 dX1_choose_32 (by decide) (fun hc => ?_) (fun hc => ?_)
    · have hf := itt hf hc
      exact g_vret (XWd_ok D ad cs ts adK adV) S hr hlk hw dX1_choose_137 (Option.some.inj hf)
    · have hf := itf hf hc
      refine lv_iload_n S.1 S.2.1 dX1_choose_35 rfl (lv_at hl 1 rfl) ?_
      refine lv_iload_n S.1 S.2.1 dX1_choose_36 rfl (lv_at hl 2 rfl) ?_
      refine lv_ishr S.1 S.2.1 dX1_choose_37 ?_
      refine lv_iconst (v := 1) S.1 S.2.1 dX1_choose_38 (by decide) ?_
      refine lv_iand S.1 S.2.1 dX1_choose_39 ?_
      refine lv_if_ne (tgt := 46) S.1 S.2.1 dX1_choose_40 (by decide) (fun hc => ?_) (fun hc => ?_)
      · have hf := itf hf hc
        refine lv_iconst (v := 1) S.1 S.2.1 dX1_choose_46 (by decide) ?_
        refine lv_aload_n S.1 S.2.1 dX1_choose_47 rfl (lv_at hl 0 rfl) ?_
        refine xg_Asks_count S hw kf_X1_36 dX1_choose_48 ?_
        refine lv_ishl S.1 S.2.1 dX1_choose_51 ?_
        refine lv_topi (fun v6 e7 => ?_)
        have hf := nm_s e7 hf
        refine lv_istore_n (lv' := [(3, .int v6), (0, .ref (ad 10)), (1, .int x1), (2, .int x2)]) S.1 S.2.1 dX1_choose_52 rfl hl (by decide) rfl (fun ls hl => ?_)
        refine lv_iconst (v := 0) S.1 S.2.1 dX1_choose_53 (by decide) ?_
        refine lv_istore (lv' := [(4, .int (0 : Int32)), (3, .int v6), (0, .ref (ad 10)), (1, .int x1), (2, .int x2)]) S.1 S.2.1 dX1_choose_54 hl (by decide) rfl (fun ls hl => ?_)
        exact wX1_choose_56 S hr hlk hk20 N σ x1 x2 v6 (0 : Int32) _ _ _ hw (lv_sub hl [2, 3, 4, 1, 0] rfl) hf
      · have hf := itt hf hc
        refine lv_goto (tgt := 131) S.1 S.2.1 dX1_choose_43 (by decide) ?_
        exact wX1_choose_131 S hr hlk hk20 hw (lv_sub hl [0, 1, 2] rfl) hf
def fX1_choose_20 (N : Nat) : Nat → St → Int32 → Int32 → Option St
  | 0 => fun _ _ _ => none
  | n + 1 => fX1_choose_20b N (fX1_choose_20 N n)
theorem wX1_choose_20 {σ' : St} {N : Nat} (S : CallFix p m c cX1_choose 5 s av BG RX1) (hr : meth.sig.returnType = none) (hlk : meth.locks = false) : ∀ (n : Nat), ∀ (σ : St) (x1 : Int32) (x2 : Int32) (ls : Array Slot) (H : Heap) (locs : List Loc), Hw (XWd D ad cs ts adK adV) s σ H locs → lv_has ls 5 [(0, .ref (ad 10)), (1, .int x1), (2, .int x2)] → fX1_choose_20 N n σ x1 x2 = some σ' → W p l e (RM 5 121) s m av below meth c H locs 0 0 (QV below (XWd D ad cs ts adK adV) av s σ') (F0 m 20 ls []) := by
  intro n
  induction n with
  | zero => intro _ _ _ ls H locs hw hl hf; cases hf
  | succ n ih => intro _ _ _ ls H locs hw hl hf; exact wX1_choose_20b S hr hlk ih hw hl hf
def fX1_choose (N : Nat) (σ : St) (x1 : Int32) : Option St :=
  nm (sI σ 16 (0 : Int32)) fun σ1 => if ix (0 : Int32) 64 = true then nm (aW σ1 76 (0 : Int32) (σ1.1 0)) fun σ4 => fX1_choose_20 N N σ4 x1 (0 : Int32) else none
set_option maxHeartbeats 2000000 in
set_option maxRecDepth 20000 in
theorem tX1_choose {σ' : St} {N : Nat} {σ : St} {x1 : Int32} (hf : fX1_choose N σ x1 = some σ') : CV l (XWd D ad cs ts adK adV) yX1_choose cX1_choose 5 5 121 [.ref (ad 10), .int x1] σ σ' := by
  refine CV.of (by decide) (Nat.le_of_ble_eq_true rfl) ?_
  intro p e s m below meth c ls S hr hlk hw hl
  have hl : lv_has ls 5 [(0, .ref (ad 10)), (1, .int x1)] := hl
  unfold fX1_choose at hf
  refine lv_aload_n S.1 S.2.1 dX1_choose_0 rfl (lv_at hl 0 rfl) ?_
  refine lv_iconst (v := 0) S.1 S.2.1 dX1_choose_1 (by decide) ?_
  obtain ⟨σ1, e2⟩ : ∃ z : St, z = sI σ 16 (0 : Int32) := ⟨_, rfl⟩
  have hf := nm_s e2 hf
  refine xp_Asks_count S hw e2 kf_X1_36 dX1_choose_2 (fun H locs hw => ?_)
  refine lv_aload_n S.1 S.2.1 dX1_choose_5 rfl (lv_at hl 0 rfl) ?_
  refine xg_Asks_doneDays S hw kf_X1_18 dX1_choose_6 ?_
  refine lv_iconst (v := 0) S.1 S.2.1 dX1_choose_9 (by decide) ?_
  refine lv_aload_n S.1 S.2.1 dX1_choose_10 rfl (lv_at hl 0 rfl) ?_
  refine xg_Asks_land S hw kf_X1_24 dX1_choose_11 ?_
  refine xg_Land_day S hw kf_X1_40 dX1_choose_14 ?_
  obtain ⟨h3, hf⟩ := gd_ix hf
  obtain ⟨σ4, e5⟩ : ∃ z : St, z = aW σ1 76 (0 : Int32) (σ1.1 0) := ⟨_, rfl⟩
  have hf := nm_s e5 hf
  refine g_iast (σ' := σ4) S hw 76 0 xe_76 rfl (by rw [e5]; exact xs_76 _) h3 dX1_choose_17 (fun H locs hw => ?_)
  refine lv_iconst (v := 0) S.1 S.2.1 dX1_choose_18 (by decide) ?_
  refine lv_istore_n (lv' := [(2, .int (0 : Int32)), (0, .ref (ad 10)), (1, .int x1)]) S.1 S.2.1 dX1_choose_19 rfl hl (by decide) rfl (fun ls hl => ?_)
  exact wX1_choose_20 S hr hlk N σ4 x1 (0 : Int32) _ _ _ hw (lv_sub hl [1, 2, 0] rfl) hf
def fX1_weightBehind_43 (N : Nat) (σ : St) (x3 : Int32) (y0 : Int32) : Option Int32 :=
  if ix x3 64 = true then if ix x3 64 = true then if y0 = 0 then (some (((aR σ 77 x3) + (aR σ 76 x3)) + (0 : Int32))) else (some (((aR σ 77 x3) + (aR σ 76 x3)) + (1048576 : Int32))) else none else none
set_option maxHeartbeats 2000000 in
set_option maxRecDepth 20000 in
theorem wX1_weightBehind_43 {r : Int32} {N : Nat} {σ : St} (S : CallFix p m c cX1_weightBehind 5 s av BG RX1) (hr : meth.sig.returnType = some .int) (hlk : meth.locks = false)  {x3 : Int32} {y0 : Int32} {ls : Array Slot} {H : Heap} {locs : List Loc} (hw : Hw (XWd D ad cs ts adK adV) s σ H locs) (hl : lv_has ls 5 [(0, .ref (ad 10)), (3, .int x3)]) (hf : fX1_weightBehind_43 N σ x3 y0 = some r) : W p l e (RM 0 0) s m av below meth c H locs 0 0 (QI below (XWd D ad cs ts adK adV) av s r σ) (F0 m 43 ls [.int y0]) := by
  unfold fX1_weightBehind_43 at hf
  refine lv_istore (lv' := [(4, .int y0), (0, .ref (ad 10)), (3, .int x3)]) S.1 S.2.1 dX1_weightBehind_43 hl (by decide) rfl (fun ls hl => ?_)
  refine lv_aload_n S.1 S.2.1 dX1_weightBehind_45 rfl (lv_at hl 1 rfl) ?_
  refine xg_Asks_best S hw kf_X1_21 dX1_weightBehind_46 ?_
  refine lv_iload_n S.1 S.2.1 dX1_weightBehind_49 rfl (lv_at hl 2 rfl) ?_
  obtain ⟨h6, hf⟩ := gd_ix hf
  refine g_iald S hw 77 0 xe_77 rfl h6 dX1_weightBehind_50 ?_
  refine lv_aload_n S.1 S.2.1 dX1_weightBehind_51 rfl (lv_at hl 1 rfl) ?_
  refine xg_Asks_doneDays S hw kf_X1_18 dX1_weightBehind_52 ?_
  refine lv_iload_n S.1 S.2.1 dX1_weightBehind_55 rfl (lv_at hl 2 rfl) ?_
  obtain ⟨h7, hf⟩ := gd_ix hf
  refine g_iald S hw 76 0 xe_76 rfl h7 dX1_weightBehind_56 ?_
  refine lv_iadd S.1 S.2.1 dX1_weightBehind_57 ?_
  refine lv_iload S.1 S.2.1 dX1_weightBehind_58 (lv_at hl 0 rfl) ?_
  refine lv_if_eq (tgt := 68) S.1 S.2.1 dX1_weightBehind_60 (by decide) (fun hc => ?_) (fun hc => ?_)
  · have hf := itt hf hc
    refine lv_iconst (v := 0) S.1 S.2.1 dX1_weightBehind_68 (by decide) ?_
    refine lv_iadd S.1 S.2.1 dX1_weightBehind_69 ?_
    exact g_iret (XWd_ok D ad cs ts adK adV) S hr hlk hw dX1_weightBehind_70 (Option.some.inj hf) rfl
  · have hf := itf hf hc
    refine lv_ldc S.1 S.2.1 S.2.2.2.1 (S.2.2.2.2 _ kc_X1_62) dX1_weightBehind_63 ?_
    refine lv_goto (tgt := 69) S.1 S.2.1 dX1_weightBehind_65 (by decide) ?_
    refine lv_iadd S.1 S.2.1 dX1_weightBehind_69 ?_
    exact g_iret (XWd_ok D ad cs ts adK adV) S hr hlk hw dX1_weightBehind_70 (Option.some.inj hf) rfl
def fX1_weightBehind_42 (N : Nat) (σ : St) (x3 : Int32) : Option Int32 :=
  fX1_weightBehind_43 N σ x3 (0 : Int32)
set_option maxHeartbeats 2000000 in
set_option maxRecDepth 20000 in
theorem wX1_weightBehind_42 {r : Int32} {N : Nat} {σ : St} (S : CallFix p m c cX1_weightBehind 5 s av BG RX1) (hr : meth.sig.returnType = some .int) (hlk : meth.locks = false)  {x3 : Int32} {ls : Array Slot} {H : Heap} {locs : List Loc} (hw : Hw (XWd D ad cs ts adK adV) s σ H locs) (hl : lv_has ls 5 [(0, .ref (ad 10)), (3, .int x3)]) (hf : fX1_weightBehind_42 N σ x3 = some r) : W p l e (RM 0 0) s m av below meth c H locs 0 0 (QI below (XWd D ad cs ts adK adV) av s r σ) (F0 m 42 ls []) := by
  unfold fX1_weightBehind_42 at hf
  refine lv_iconst (v := 0) S.1 S.2.1 dX1_weightBehind_42 (by decide) ?_
  exact wX1_weightBehind_43 S hr hlk hw (lv_sub hl [0, 1] rfl) hf
def fX1_weightBehind (N : Nat) (σ : St) (x1 : Int32) (x2 : Int32) : Option Int32 :=
  if x2 = (-1 : Int32) then (some (0 : Int32)) else (nm (x1 ||| ((1 : Int32) <<< (x2 &&& 31))) fun v1 => if ix x2 6 = true then if (aR σ 75 x2) = (-1 : Int32) then (fX1_weightBehind_42 N σ v1) else (if ix v1 64 = true then if ix x2 6 = true then if (aR σ 76 v1) ≤ (aR σ 75 x2) then (fX1_weightBehind_42 N σ v1) else (fX1_weightBehind_43 N σ v1 (1 : Int32)) else none else none) else none)
set_option maxHeartbeats 2000000 in
set_option maxRecDepth 20000 in
theorem tX1_weightBehind {r : Int32} {N : Nat} {σ : St} {x1 : Int32} {x2 : Int32} (hf : fX1_weightBehind N σ x1 x2 = some r) : CI l (XWd D ad cs ts adK adV) yX1_weightBehind cX1_weightBehind 5 (some .int) 0 0 [.ref (ad 10), .int x1, .int x2] σ r σ := by
  refine CI.of (by decide) (Nat.le_of_ble_eq_true rfl) ?_
  intro p e s m below meth c ls S hr hlk hw hl
  have hl : lv_has ls 5 [(0, .ref (ad 10)), (1, .int x1), (2, .int x2)] := hl
  unfold fX1_weightBehind at hf
  refine lv_iload_n S.1 S.2.1 dX1_weightBehind_0 rfl (lv_at hl 2 rfl) ?_
  refine lv_iconst (v := -1) S.1 S.2.1 dX1_weightBehind_1 (by decide) ?_
  refine lv_icmp_ne (tgt := 7) S.1 S.2.1 dX1_weightBehind_2 (by decide) (fun hc => ?_) (fun hc => ?_)
  · have hf := itf hf hc
    refine lv_iload_n S.1 S.2.1 dX1_weightBehind_7 rfl (lv_at hl 1 rfl) ?_
    refine lv_iconst (v := 1) S.1 S.2.1 dX1_weightBehind_8 (by decide) ?_
    refine lv_iload_n S.1 S.2.1 dX1_weightBehind_9 rfl (lv_at hl 2 rfl) ?_
    refine lv_ishl S.1 S.2.1 dX1_weightBehind_10 ?_
    refine lv_ior S.1 S.2.1 dX1_weightBehind_11 ?_
    refine lv_topi (fun v1 e2 => ?_)
    have hf := nm_s e2 hf
    refine lv_istore_n (lv' := [(3, .int v1), (0, .ref (ad 10)), (1, .int x1), (2, .int x2)]) S.1 S.2.1 dX1_weightBehind_12 rfl hl (by decide) rfl (fun ls hl => ?_)
    refine lv_aload_n S.1 S.2.1 dX1_weightBehind_13 rfl (lv_at hl 1 rfl) ?_
    refine xg_Asks_ends S hw kf_X1_15 dX1_weightBehind_14 ?_
    refine lv_iload_n S.1 S.2.1 dX1_weightBehind_17 rfl (lv_at hl 3 rfl) ?_
    obtain ⟨h3, hf⟩ := gd_ix hf
    refine g_iald S hw 75 0 xe_75 rfl h3 dX1_weightBehind_18 ?_
    refine lv_iconst (v := -1) S.1 S.2.1 dX1_weightBehind_19 (by decide) ?_
    refine lv_icmp_eq (tgt := 42) S.1 S.2.1 dX1_weightBehind_20 (by decide) (fun hc => ?_) (fun hc => ?_)
    · have hf := itt hf hc
      exact wX1_weightBehind_42 S hr hlk hw (lv_sub hl [1, 0] rfl) hf
    · have hf := itf hf hc
      refine lv_aload_n S.1 S.2.1 dX1_weightBehind_23 rfl (lv_at hl 1 rfl) ?_
      refine xg_Asks_doneDays S hw kf_X1_18 dX1_weightBehind_24 ?_
      refine lv_iload_n S.1 S.2.1 dX1_weightBehind_27 rfl (lv_at hl 0 rfl) ?_
      obtain ⟨h4, hf⟩ := gd_ix hf
      refine g_iald S hw 76 0 xe_76 rfl h4 dX1_weightBehind_28 ?_
      refine lv_aload_n S.1 S.2.1 dX1_weightBehind_29 rfl (lv_at hl 1 rfl) ?_
      refine xg_Asks_ends S hw kf_X1_15 dX1_weightBehind_30 ?_
      refine lv_iload_n S.1 S.2.1 dX1_weightBehind_33 rfl (lv_at hl 3 rfl) ?_
      obtain ⟨h5, hf⟩ := gd_ix hf
      refine g_iald S hw 75 0 xe_75 rfl h5 dX1_weightBehind_34 ?_
      refine lv_icmp_le (tgt := 42) S.1 S.2.1 dX1_weightBehind_35 (by decide) (fun hc => ?_) (fun hc => ?_)
      · have hf := itt hf hc
        exact wX1_weightBehind_42 S hr hlk hw (lv_sub hl [1, 0] rfl) hf
      · have hf := itf hf hc
        refine lv_iconst (v := 1) S.1 S.2.1 dX1_weightBehind_38 (by decide) ?_
        refine lv_goto (tgt := 43) S.1 S.2.1 dX1_weightBehind_39 (by decide) ?_
        exact wX1_weightBehind_43 S hr hlk hw (lv_sub hl [1, 0] rfl) hf
  · have hf := itt hf hc
    refine lv_iconst (v := 0) S.1 S.2.1 dX1_weightBehind_5 (by decide) ?_
    exact g_iret (XWd_ok D ad cs ts adK adV) S hr hlk hw dX1_weightBehind_6 (Option.some.inj hf) rfl
def fX1_leastNext_54 (N : Nat) (σ : St) (k4 : Int32 → Int32 → Int32 → Option Int32) (x1 : Int32) (x2 : Int32) (x3 : Int32) : Option Int32 :=
  nm (x3 + (1 : Int32)) fun v5 => k4 x1 x2 v5
set_option maxHeartbeats 2000000 in
set_option maxRecDepth 20000 in
theorem wX1_leastNext_54 {r : Int32} {N : Nat} {σ : St} (S : CallFix p m c cX1_leastNext 5 s av BG RX1) (hr : meth.sig.returnType = some .int) (hlk : meth.locks = false) {k4 : Int32 → Int32 → Int32 → Option Int32} (hk4 : ∀ (x1 : Int32) (x2 : Int32) (x3 : Int32) (ls : Array Slot) (H : Heap) (locs : List Loc), Hw (XWd D ad cs ts adK adV) s σ H locs → lv_has ls 5 [(0, .ref (ad 10)), (1, .int x1), (2, .int x2), (3, .int x3)] → k4 x1 x2 x3 = some r → W p l e (RM 1 24) s m av below meth c H locs 0 0 (QI below (XWd D ad cs ts adK adV) av s r σ) (F0 m 4 ls []))  {x1 : Int32} {x2 : Int32} {x3 : Int32} {ls : Array Slot} {H : Heap} {locs : List Loc} (hw : Hw (XWd D ad cs ts adK adV) s σ H locs) (hl : lv_has ls 5 [(0, .ref (ad 10)), (1, .int x1), (2, .int x2), (3, .int x3)]) (hf : fX1_leastNext_54 N σ k4 x1 x2 x3 = some r) : W p l e (RM 1 24) s m av below meth c H locs 0 0 (QI below (XWd D ad cs ts adK adV) av s r σ) (F0 m 54 ls []) := by
  unfold fX1_leastNext_54 at hf
  obtain ⟨v5, e6⟩ : ∃ z : Int32, z = x3 + (1 : Int32) := ⟨_, rfl⟩
  have hf := nm_s e6 hf
  refine lv_iinc (v := v5) (lv' := [(3, .int v5), (0, .ref (ad 10)), (1, .int x1), (2, .int x2)]) S.1 S.2.1 dX1_leastNext_54 hl (k := 3) rfl (by rw [e6]; rfl) (by decide) rfl (fun ls hl => ?_)
  refine lv_goto (tgt := 4) S.1 S.2.1 dX1_leastNext_57 (by decide) ?_
  exact hk4 x1 x2 v5 _ _ _ hw (lv_sub hl [1, 2, 3, 0] rfl) hf
def fX1_leastNext_52 (N : Nat) (σ : St) (k4 : Int32 → Int32 → Int32 → Option Int32) (x1 : Int32) (x3 : Int32) : Option Int32 :=
  fX1_leastNext_54 N σ k4 x1 x3 x3
set_option maxHeartbeats 2000000 in
set_option maxRecDepth 20000 in
theorem wX1_leastNext_52 {r : Int32} {N : Nat} {σ : St} (S : CallFix p m c cX1_leastNext 5 s av BG RX1) (hr : meth.sig.returnType = some .int) (hlk : meth.locks = false) {k4 : Int32 → Int32 → Int32 → Option Int32} (hk4 : ∀ (x1 : Int32) (x2 : Int32) (x3 : Int32) (ls : Array Slot) (H : Heap) (locs : List Loc), Hw (XWd D ad cs ts adK adV) s σ H locs → lv_has ls 5 [(0, .ref (ad 10)), (1, .int x1), (2, .int x2), (3, .int x3)] → k4 x1 x2 x3 = some r → W p l e (RM 1 24) s m av below meth c H locs 0 0 (QI below (XWd D ad cs ts adK adV) av s r σ) (F0 m 4 ls []))  {x1 : Int32} {x3 : Int32} {ls : Array Slot} {H : Heap} {locs : List Loc} (hw : Hw (XWd D ad cs ts adK adV) s σ H locs) (hl : lv_has ls 5 [(0, .ref (ad 10)), (1, .int x1), (3, .int x3)]) (hf : fX1_leastNext_52 N σ k4 x1 x3 = some r) : W p l e (RM 1 24) s m av below meth c H locs 0 0 (QI below (XWd D ad cs ts adK adV) av s r σ) (F0 m 52 ls []) := by
  unfold fX1_leastNext_52 at hf
  refine lv_iload_n S.1 S.2.1 dX1_leastNext_52 rfl (lv_at hl 2 rfl) ?_
  refine lv_istore_n (lv' := [(2, .int x3), (0, .ref (ad 10)), (1, .int x1), (3, .int x3)]) S.1 S.2.1 dX1_leastNext_53 rfl hl (by decide) rfl (fun ls hl => ?_)
  exact wX1_leastNext_54 S hr hlk hk4 hw (lv_sub hl [1, 2, 0, 3] rfl) hf
def fX1_leastNext_25 (N : Nat) (σ : St) (k4 : Int32 → Int32 → Int32 → Option Int32) (x1 : Int32) (x2 : Int32) (x3 : Int32) (y0 : Int32) : Option Int32 :=
  if y0 = 0 then (fX1_leastNext_54 N σ k4 x1 x2 x3) else (if x2 = (-1 : Int32) then (fX1_leastNext_52 N σ k4 x1 x3) else (bd (fX1_weightBehind N σ x1 x3) fun r1 => bd (fX1_weightBehind N σ x1 x2) fun r3 => if r3 ≤ r1 then (fX1_leastNext_54 N σ k4 x1 x2 x3) else (fX1_leastNext_52 N σ k4 x1 x3)))
set_option maxHeartbeats 2000000 in
set_option maxRecDepth 20000 in
theorem wX1_leastNext_25 {r : Int32} {N : Nat} {σ : St} (S : CallFix p m c cX1_leastNext 5 s av BG RX1) (hr : meth.sig.returnType = some .int) (hlk : meth.locks = false) {k4 : Int32 → Int32 → Int32 → Option Int32} (hk4 : ∀ (x1 : Int32) (x2 : Int32) (x3 : Int32) (ls : Array Slot) (H : Heap) (locs : List Loc), Hw (XWd D ad cs ts adK adV) s σ H locs → lv_has ls 5 [(0, .ref (ad 10)), (1, .int x1), (2, .int x2), (3, .int x3)] → k4 x1 x2 x3 = some r → W p l e (RM 1 24) s m av below meth c H locs 0 0 (QI below (XWd D ad cs ts adK adV) av s r σ) (F0 m 4 ls []))  {x1 : Int32} {x2 : Int32} {x3 : Int32} {y0 : Int32} {ls : Array Slot} {H : Heap} {locs : List Loc} (hw : Hw (XWd D ad cs ts adK adV) s σ H locs) (hl : lv_has ls 5 [(0, .ref (ad 10)), (1, .int x1), (2, .int x2), (3, .int x3)]) (hf : fX1_leastNext_25 N σ k4 x1 x2 x3 y0 = some r) : W p l e (RM 1 24) s m av below meth c H locs 0 0 (QI below (XWd D ad cs ts adK adV) av s r σ) (F0 m 25 ls [.int y0]) := by
  unfold fX1_leastNext_25 at hf
  refine lv_istore (lv' := [(4, .int y0), (0, .ref (ad 10)), (1, .int x1), (2, .int x2), (3, .int x3)]) S.1 S.2.1 dX1_leastNext_25 hl (by decide) rfl (fun ls hl => ?_)
  refine lv_iload S.1 S.2.1 dX1_leastNext_27 (lv_at hl 0 rfl) ?_
  refine lv_if_eq (tgt := 54) S.1 S.2.1 dX1_leastNext_29 (by decide) (fun hc => ?_) (fun hc => ?_)
  · have hf := itt hf hc
    exact wX1_leastNext_54 S hr hlk hk4 hw (lv_sub hl [1, 2, 3, 4] rfl) hf
  · have hf := itf hf hc
    refine lv_iload_n S.1 S.2.1 dX1_leastNext_32 rfl (lv_at hl 3 rfl) ?_
    refine lv_iconst (v := -1) S.1 S.2.1 dX1_leastNext_33 (by decide) ?_
    refine lv_icmp_eq (tgt := 52) S.1 S.2.1 dX1_leastNext_34 (by decide) (fun hc => ?_) (fun hc => ?_)
    · have hf := itt hf hc
      exact wX1_leastNext_52 S hr hlk hk4 hw (lv_sub hl [1, 2, 4] rfl) hf
    · have hf := itf hf hc
      refine lv_aload_n S.1 S.2.1 dX1_leastNext_37 rfl (lv_at hl 1 rfl) ?_
      refine lv_iload_n S.1 S.2.1 dX1_leastNext_38 rfl (lv_at hl 2 rfl) ?_
      refine lv_iload_n S.1 S.2.1 dX1_leastNext_39 rfl (lv_at hl 4 rfl) ?_
      obtain ⟨r1, g2, hf⟩ := bd_s hf
      refine g_Vi (rest := []) (XWd_ok D ad cs ts adK adV) S hw (tX1_weightBehind g2) kt_X1_58 10 xe_10 rfl rfl ⟨Nat.le_of_ble_eq_true rfl, Nat.le_of_ble_eq_true rfl⟩ rfl hl.1 rfl (Nat.le_of_ble_eq_true rfl) ⟨Nat.zero_le _, Nat.zero_le _⟩ dX1_leastNext_40 (fun H locs hw => ?_)
      refine lv_aload_n S.1 S.2.1 dX1_leastNext_43 rfl (lv_at hl 1 rfl) ?_
      refine lv_iload_n S.1 S.2.1 dX1_leastNext_44 rfl (lv_at hl 2 rfl) ?_
      refine lv_iload_n S.1 S.2.1 dX1_leastNext_45 rfl (lv_at hl 3 rfl) ?_
      obtain ⟨r3, g4, hf⟩ := bd_s hf
      refine g_Vi (rest := [.int r1]) (XWd_ok D ad cs ts adK adV) S hw (tX1_weightBehind g4) kt_X1_58 10 xe_10 rfl rfl ⟨Nat.le_of_ble_eq_true rfl, Nat.le_of_ble_eq_true rfl⟩ rfl hl.1 rfl (Nat.le_of_ble_eq_true rfl) ⟨Nat.zero_le _, Nat.zero_le _⟩ dX1_leastNext_46 (fun H locs hw => ?_)
      refine lv_icmp_ge (tgt := 54) S.1 S.2.1 dX1_leastNext_49 (by decide) (fun hc => ?_) (fun hc => ?_)
      · have hf := itt hf hc
        exact wX1_leastNext_54 S hr hlk hk4 hw (lv_sub hl [1, 2, 3, 4] rfl) hf
      · have hf := itf hf hc
        exact wX1_leastNext_52 S hr hlk hk4 hw (lv_sub hl [1, 2, 4] rfl) hf
def fX1_leastNext_4b (N : Nat) (σ : St) (k4 : Int32 → Int32 → Int32 → Option Int32) (x1 : Int32) (x2 : Int32) (x3 : Int32) : Option Int32 :=
  if (σ.1 16) ≤ x3 then (some x2) else (if ((x1 >>> (x3 &&& 31)) &&& (1 : Int32)) = 0 then (fX1_leastNext_25 N σ k4 x1 x2 x3 (1 : Int32)) else (fX1_leastNext_25 N σ k4 x1 x2 x3 (0 : Int32)))
set_option maxHeartbeats 2000000 in
set_option maxRecDepth 20000 in
theorem wX1_leastNext_4b {r : Int32} {N : Nat} {σ : St} (S : CallFix p m c cX1_leastNext 5 s av BG RX1) (hr : meth.sig.returnType = some .int) (hlk : meth.locks = false) {k4 : Int32 → Int32 → Int32 → Option Int32} (hk4 : ∀ (x1 : Int32) (x2 : Int32) (x3 : Int32) (ls : Array Slot) (H : Heap) (locs : List Loc), Hw (XWd D ad cs ts adK adV) s σ H locs → lv_has ls 5 [(0, .ref (ad 10)), (1, .int x1), (2, .int x2), (3, .int x3)] → k4 x1 x2 x3 = some r → W p l e (RM 1 24) s m av below meth c H locs 0 0 (QI below (XWd D ad cs ts adK adV) av s r σ) (F0 m 4 ls []))  {x1 : Int32} {x2 : Int32} {x3 : Int32} {ls : Array Slot} {H : Heap} {locs : List Loc} (hw : Hw (XWd D ad cs ts adK adV) s σ H locs) (hl : lv_has ls 5 [(0, .ref (ad 10)), (1, .int x1), (2, .int x2), (3, .int x3)]) (hf : fX1_leastNext_4b N σ k4 x1 x2 x3 = some r) : W p l e (RM 1 24) s m av below meth c H locs 0 0 (QI below (XWd D ad cs ts adK adV) av s r σ) (F0 m 4 ls []) := by
  unfold fX1_leastNext_4b at hf
  refine lv_iload_n S.1 S.2.1 dX1_leastNext_4 rfl (lv_at hl 3 rfl) ?_
  refine lv_aload_n S.1 S.2.1 dX1_leastNext_5 rfl (lv_at hl 0 rfl) ?_
  refine xg_Asks_count S hw kf_X1_36 dX1_leastNext_6 ?_
  refine lv_icmp_ge (tgt := 60) S.1 S.2.1 dX1_leastNext_9 (by decide) (fun hc => ?_) (fun hc => ?_)
  · have hf := itt hf hc
    refine lv_iload_n S.1 S.2.1 dX1_leastNext_60 rfl (lv_at hl 2 rfl) ?_
    exact g_iret (XWd_ok D ad cs ts adK adV) S hr hlk hw dX1_leastNext_61 (Option.some.inj hf) rfl
  · have hf := itf hf hc
    refine lv_iload_n S.1 S.2.1 dX1_leastNext_12 rfl (lv_at hl 1 rfl) ?_
    refine lv_iload_n S.1 S.2.1 dX1_leastNext_13 rfl (lv_at hl 3 rfl) ?_
    refine lv_ishr S.1 S.2.1 dX1_leastNext_14 ?_
    refine lv_iconst (v := 1) S.1 S.2.1 dX1_leastNext_15 (by decide) ?_
    refine lv_iand S.1 S.2.1 dX1_leastNext_16 ?_
    refine lv_if_ne (tgt := 24) S.1 S.2.1 dX1_leastNext_17 (by decide) (fun hc => ?_) (fun hc => ?_)
    · have hf := itf hf hc
      refine lv_iconst (v := 0) S.1 S.2.1 dX1_leastNext_24 (by decide) ?_
      exact wX1_leastNext_25 S hr hlk hk4 hw (lv_sub hl [0, 1, 2, 3] rfl) hf
    · have hf := itt hf hc
      refine lv_iconst (v := 1) S.1 S.2.1 dX1_leastNext_20 (by decide) ?_
      refine lv_goto (tgt := 25) S.1 S.2.1 dX1_leastNext_21 (by decide) ?_
      exact wX1_leastNext_25 S hr hlk hk4 hw (lv_sub hl [0, 1, 2, 3] rfl) hf
def fX1_leastNext_4 (N : Nat) (σ : St) : Nat → Int32 → Int32 → Int32 → Option Int32
  | 0 => fun _ _ _ => none
  | n + 1 => fX1_leastNext_4b N σ (fX1_leastNext_4 N σ n)
theorem wX1_leastNext_4 {r : Int32} {N : Nat} {σ : St} (S : CallFix p m c cX1_leastNext 5 s av BG RX1) (hr : meth.sig.returnType = some .int) (hlk : meth.locks = false) : ∀ (n : Nat), ∀ (x1 : Int32) (x2 : Int32) (x3 : Int32) (ls : Array Slot) (H : Heap) (locs : List Loc), Hw (XWd D ad cs ts adK adV) s σ H locs → lv_has ls 5 [(0, .ref (ad 10)), (1, .int x1), (2, .int x2), (3, .int x3)] → fX1_leastNext_4 N σ n x1 x2 x3 = some r → W p l e (RM 1 24) s m av below meth c H locs 0 0 (QI below (XWd D ad cs ts adK adV) av s r σ) (F0 m 4 ls []) := by
  intro n
  induction n with
  | zero => intro _ _ _ ls H locs hw hl hf; cases hf
  | succ n ih => intro _ _ _ ls H locs hw hl hf; exact wX1_leastNext_4b S hr hlk ih hw hl hf
def fX1_leastNext (N : Nat) (σ : St) (x1 : Int32) : Option Int32 :=
  fX1_leastNext_4 N σ N x1 (-1 : Int32) (0 : Int32)
set_option maxHeartbeats 2000000 in
set_option maxRecDepth 20000 in
theorem tX1_leastNext {r : Int32} {N : Nat} {σ : St} {x1 : Int32} (hf : fX1_leastNext N σ x1 = some r) : CI l (XWd D ad cs ts adK adV) yX1_leastNext cX1_leastNext 5 (some .int) 1 24 [.ref (ad 10), .int x1] σ r σ := by
  refine CI.of (by decide) (Nat.le_of_ble_eq_true rfl) ?_
  intro p e s m below meth c ls S hr hlk hw hl
  have hl : lv_has ls 5 [(0, .ref (ad 10)), (1, .int x1)] := hl
  unfold fX1_leastNext at hf
  refine lv_iconst (v := -1) S.1 S.2.1 dX1_leastNext_0 (by decide) ?_
  refine lv_istore_n (lv' := [(2, .int (-1 : Int32)), (0, .ref (ad 10)), (1, .int x1)]) S.1 S.2.1 dX1_leastNext_1 rfl hl (by decide) rfl (fun ls hl => ?_)
  refine lv_iconst (v := 0) S.1 S.2.1 dX1_leastNext_2 (by decide) ?_
  refine lv_istore_n (lv' := [(3, .int (0 : Int32)), (2, .int (-1 : Int32)), (0, .ref (ad 10)), (1, .int x1)]) S.1 S.2.1 dX1_leastNext_3 rfl hl (by decide) rfl (fun ls hl => ?_)
  exact wX1_leastNext_4 S hr hlk N x1 (-1 : Int32) (0 : Int32) _ _ _ hw (lv_sub hl [2, 3, 1, 0] rfl) hf
def fX1_arrange_20b (N : Nat) (k20 : St → Int32 → Option St) (σ : St) (x2 : Int32) : Option St :=
  if x2 < 0 then (some σ) else (bd (fX1_leastNext N σ x2) fun r8 => bd (fX1_weightBehind N σ x2 r8) fun r10 => if ix x2 64 = true then nm (aW σ 77 x2 r10) fun σ13 => nm (x2 + (-1 : Int32)) fun v15 => k20 σ13 v15 else none)
set_option maxHeartbeats 2000000 in
set_option maxRecDepth 20000 in
theorem wX1_arrange_20b {σ' : St} {N : Nat} (S : CallFix p m c cX1_arrange 3 s av BG RX1) (hr : meth.sig.returnType = none) (hlk : meth.locks = false) {k20 : St → Int32 → Option St} (hk20 : ∀ (σ : St) (x2 : Int32) (ls : Array Slot) (H : Heap) (locs : List Loc), Hw (XWd D ad cs ts adK adV) s σ H locs → lv_has ls 3 [(0, .ref (ad 10)), (2, .int x2)] → k20 σ x2 = some σ' → W p l e (RM 2 48) s m av below meth c H locs 0 0 (QV below (XWd D ad cs ts adK adV) av s σ') (F0 m 20 ls []))  {σ : St} {x2 : Int32} {ls : Array Slot} {H : Heap} {locs : List Loc} (hw : Hw (XWd D ad cs ts adK adV) s σ H locs) (hl : lv_has ls 3 [(0, .ref (ad 10)), (2, .int x2)]) (hf : fX1_arrange_20b N k20 σ x2 = some σ') : W p l e (RM 2 48) s m av below meth c H locs 0 0 (QV below (XWd D ad cs ts adK adV) av s σ') (F0 m 20 ls []) := by
  unfold fX1_arrange_20b at hf
  refine lv_iload_n S.1 S.2.1 dX1_arrange_20 rfl (lv_at hl 1 rfl) ?_
  refine lv_if_lt (tgt := 46) S.1 S.2.1 dX1_arrange_21 (by decide) (fun hc => ?_) (fun hc => ?_)
  · have hf := itt hf hc
    exact g_vret (XWd_ok D ad cs ts adK adV) S hr hlk hw dX1_arrange_46 (Option.some.inj hf)
  · have hf := itf hf hc
    refine lv_aload_n S.1 S.2.1 dX1_arrange_24 rfl (lv_at hl 0 rfl) ?_
    refine xg_Asks_best S hw kf_X1_21 dX1_arrange_25 ?_
    refine lv_iload_n S.1 S.2.1 dX1_arrange_28 rfl (lv_at hl 1 rfl) ?_
    refine lv_aload_n S.1 S.2.1 dX1_arrange_29 rfl (lv_at hl 0 rfl) ?_
    refine lv_iload_n S.1 S.2.1 dX1_arrange_30 rfl (lv_at hl 1 rfl) ?_
    refine lv_aload_n S.1 S.2.1 dX1_arrange_31 rfl (lv_at hl 0 rfl) ?_
    refine lv_iload_n S.1 S.2.1 dX1_arrange_32 rfl (lv_at hl 1 rfl) ?_
    obtain ⟨r8, g9, hf⟩ := bd_s hf
    refine g_Vi (rest := [.int x2, .ref (ad 10), .int x2, .ref (ad 77)]) (XWd_ok D ad cs ts adK adV) S hw (tX1_leastNext g9) kt_X1_55 10 xe_10 rfl rfl ⟨Nat.le_of_ble_eq_true rfl, Nat.le_of_ble_eq_true rfl⟩ rfl hl.1 rfl (Nat.le_of_ble_eq_true rfl) ⟨Nat.zero_le _, Nat.zero_le _⟩ dX1_arrange_33 (fun H locs hw => ?_)
    obtain ⟨r10, g11, hf⟩ := bd_s hf
    refine g_Vi (rest := [.int x2, .ref (ad 77)]) (XWd_ok D ad cs ts adK adV) S hw (tX1_weightBehind g11) kt_X1_58 10 xe_10 rfl rfl ⟨Nat.le_of_ble_eq_true rfl, Nat.le_of_ble_eq_true rfl⟩ rfl hl.1 rfl (Nat.le_of_ble_eq_true rfl) ⟨Nat.zero_le _, Nat.zero_le _⟩ dX1_arrange_36 (fun H locs hw => ?_)
    obtain ⟨h12, hf⟩ := gd_ix hf
    obtain ⟨σ13, e14⟩ : ∃ z : St, z = aW σ 77 x2 r10 := ⟨_, rfl⟩
    have hf := nm_s e14 hf
    refine g_iast (σ' := σ13) S hw 77 0 xe_77 rfl (by rw [e14]; exact xs_77 _) h12 dX1_arrange_39 (fun H locs hw => ?_)
    obtain ⟨v15, e16⟩ : ∃ z : Int32, z = x2 + (-1 : Int32) := ⟨_, rfl⟩
    have hf := nm_s e16 hf
    refine lv_iinc (v := v15) (lv' := [(2, .int v15), (0, .ref (ad 10))]) S.1 S.2.1 dX1_arrange_40 hl (k := 1) rfl (by rw [e16]; rfl) (by decide) rfl (fun ls hl => ?_)
    refine lv_goto (tgt := 20) S.1 S.2.1 dX1_arrange_43 (by decide) ?_
    exact hk20 σ13 v15 _ _ _ hw (lv_sub hl [1, 0] rfl) hf
def fX1_arrange_20 (N : Nat) : Nat → St → Int32 → Option St
  | 0 => fun _ _ => none
  | n + 1 => fX1_arrange_20b N (fX1_arrange_20 N n)
theorem wX1_arrange_20 {σ' : St} {N : Nat} (S : CallFix p m c cX1_arrange 3 s av BG RX1) (hr : meth.sig.returnType = none) (hlk : meth.locks = false) : ∀ (n : Nat), ∀ (σ : St) (x2 : Int32) (ls : Array Slot) (H : Heap) (locs : List Loc), Hw (XWd D ad cs ts adK adV) s σ H locs → lv_has ls 3 [(0, .ref (ad 10)), (2, .int x2)] → fX1_arrange_20 N n σ x2 = some σ' → W p l e (RM 2 48) s m av below meth c H locs 0 0 (QV below (XWd D ad cs ts adK adV) av s σ') (F0 m 20 ls []) := by
  intro n
  induction n with
  | zero => intro _ _ ls H locs hw hl hf; cases hf
  | succ n ih => intro _ _ ls H locs hw hl hf; exact wX1_arrange_20b S hr hlk ih hw hl hf
def fX1_arrange (N : Nat) (σ : St) : Option St :=
  nm (((1 : Int32) <<< ((σ.1 16) &&& 31)) - (1 : Int32)) fun v1 => if ix v1 64 = true then nm (aW σ 77 v1 (0 : Int32)) fun σ4 => nm (v1 - (1 : Int32)) fun v6 => fX1_arrange_20 N N σ4 v6 else none
set_option maxHeartbeats 2000000 in
set_option maxRecDepth 20000 in
theorem tX1_arrange {σ' : St} {N : Nat} {σ : St} (hf : fX1_arrange N σ = some σ') : CV l (XWd D ad cs ts adK adV) yX1_arrange cX1_arrange 3 2 48 [.ref (ad 10)] σ σ' := by
  refine CV.of (by decide) (Nat.le_of_ble_eq_true rfl) ?_
  intro p e s m below meth c ls S hr hlk hw hl
  have hl : lv_has ls 3 [(0, .ref (ad 10))] := hl
  unfold fX1_arrange at hf
  refine lv_iconst (v := 1) S.1 S.2.1 dX1_arrange_0 (by decide) ?_
  refine lv_aload_n S.1 S.2.1 dX1_arrange_1 rfl (lv_at hl 0 rfl) ?_
  refine xg_Asks_count S hw kf_X1_36 dX1_arrange_2 ?_
  refine lv_ishl S.1 S.2.1 dX1_arrange_5 ?_
  refine lv_iconst (v := 1) S.1 S.2.1 dX1_arrange_6 (by decide) ?_
  refine lv_isub S.1 S.2.1 dX1_arrange_7 ?_
  refine lv_topi (fun v1 e2 => ?_)
  have hf := nm_s e2 hf
  refine lv_istore_n (lv' := [(1, .int v1), (0, .ref (ad 10))]) S.1 S.2.1 dX1_arrange_8 rfl hl (by decide) rfl (fun ls hl => ?_)
  refine lv_aload_n S.1 S.2.1 dX1_arrange_9 rfl (lv_at hl 1 rfl) ?_
  refine xg_Asks_best S hw kf_X1_21 dX1_arrange_10 ?_
  refine lv_iload_n S.1 S.2.1 dX1_arrange_13 rfl (lv_at hl 0 rfl) ?_
  refine lv_iconst (v := 0) S.1 S.2.1 dX1_arrange_14 (by decide) ?_
  obtain ⟨h3, hf⟩ := gd_ix hf
  obtain ⟨σ4, e5⟩ : ∃ z : St, z = aW σ 77 v1 (0 : Int32) := ⟨_, rfl⟩
  have hf := nm_s e5 hf
  refine g_iast (σ' := σ4) S hw 77 0 xe_77 rfl (by rw [e5]; exact xs_77 _) h3 dX1_arrange_15 (fun H locs hw => ?_)
  refine lv_iload_n S.1 S.2.1 dX1_arrange_16 rfl (lv_at hl 0 rfl) ?_
  refine lv_iconst (v := 1) S.1 S.2.1 dX1_arrange_17 (by decide) ?_
  refine lv_isub S.1 S.2.1 dX1_arrange_18 ?_
  refine lv_topi (fun v6 e7 => ?_)
  have hf := nm_s e7 hf
  refine lv_istore_n (lv' := [(2, .int v6), (1, .int v1), (0, .ref (ad 10))]) S.1 S.2.1 dX1_arrange_19 rfl hl (by decide) rfl (fun ls hl => ?_)
  exact wX1_arrange_20 S hr hlk N σ4 v6 _ _ _ hw (lv_sub hl [2, 0] rfl) hf
def fX1_late (N : Nat) (σ : St) : Option Int32 :=
  if ix (0 : Int32) 64 = true then if ¬ (1048576 : Int32) = 0 then some ((aR σ 77 (0 : Int32)) / (1048576 : Int32)) else none else none
set_option maxHeartbeats 2000000 in
set_option maxRecDepth 20000 in
theorem tX1_late {r : Int32} {N : Nat} {σ : St} (hf : fX1_late N σ = some r) : CI l (XWd D ad cs ts adK adV) yX1_late cX1_late 1 (some .int) 0 0 [.ref (ad 10)] σ r σ := by
  refine CI.of (by decide) (Nat.le_of_ble_eq_true rfl) ?_
  intro p e s m below meth c ls S hr hlk hw hl
  have hl : lv_has ls 1 [(0, .ref (ad 10))] := hl
  unfold fX1_late at hf
  refine lv_aload_n S.1 S.2.1 dX1_late_0 rfl (lv_at hl 0 rfl) ?_
  refine xg_Asks_best S hw kf_X1_21 dX1_late_1 ?_
  refine lv_iconst (v := 0) S.1 S.2.1 dX1_late_4 (by decide) ?_
  obtain ⟨h1, hf⟩ := gd_ix hf
  refine g_iald S hw 77 0 xe_77 rfl h1 dX1_late_5 ?_
  refine lv_ldc S.1 S.2.1 S.2.2.2.1 (S.2.2.2.2 _ kc_X1_62) dX1_late_6 ?_
  obtain ⟨h2, hf⟩ := gd_t hf
  refine lv_idiv S.1 S.2.1 dX1_late_8 h2 ?_
  exact g_iret (XWd_ok D ad cs ts adK adV) S hr hlk hw dX1_late_9 (Option.some.inj hf) rfl
def fX1_spanAt_56 (N : Nat) (σ : St) (x3 : Int32) : Option Int32 :=
  if x3 = (-1 : Int32) then (some (-1 : Int32)) else (if ix x3 6 = true then some (aR σ 74 x3) else none)
set_option maxHeartbeats 2000000 in
set_option maxRecDepth 20000 in
theorem wX1_spanAt_56 {r : Int32} {N : Nat} {σ : St} (S : CallFix p m c cX1_spanAt 5 s av BG RX1) (hr : meth.sig.returnType = some .int) (hlk : meth.locks = false)  {x3 : Int32} {ls : Array Slot} {H : Heap} {locs : List Loc} (hw : Hw (XWd D ad cs ts adK adV) s σ H locs) (hl : lv_has ls 5 [(0, .ref (ad 10)), (3, .int x3)]) (hf : fX1_spanAt_56 N σ x3 = some r) : W p l e (RM 2 48) s m av below meth c H locs 0 0 (QI below (XWd D ad cs ts adK adV) av s r σ) (F0 m 56 ls []) := by
  unfold fX1_spanAt_56 at hf
  refine lv_iload_n S.1 S.2.1 dX1_spanAt_56 rfl (lv_at hl 1 rfl) ?_
  refine lv_iconst (v := -1) S.1 S.2.1 dX1_spanAt_57 (by decide) ?_
  refine lv_icmp_ne (tgt := 65) S.1 S.2.1 dX1_spanAt_58 (by decide) (fun hc => ?_) (fun hc => ?_)
  · have hf := itf hf hc
    refine lv_aload_n S.1 S.2.1 dX1_spanAt_65 rfl (lv_at hl 0 rfl) ?_
    refine xg_Asks_spans S hw kf_X1_9 dX1_spanAt_66 ?_
    refine lv_iload_n S.1 S.2.1 dX1_spanAt_69 rfl (lv_at hl 1 rfl) ?_
    obtain ⟨h9, hf⟩ := gd_ix hf
    refine g_iald S hw 74 0 xe_74 rfl h9 dX1_spanAt_70 ?_
    exact g_iret (XWd_ok D ad cs ts adK adV) S hr hlk hw dX1_spanAt_71 (Option.some.inj hf) rfl
  · have hf := itt hf hc
    refine lv_iconst (v := -1) S.1 S.2.1 dX1_spanAt_61 (by decide) ?_
    refine lv_goto (tgt := 71) S.1 S.2.1 dX1_spanAt_62 (by decide) ?_
    exact g_iret (XWd_ok D ad cs ts adK adV) S hr hlk hw dX1_spanAt_71 (Option.some.inj hf) rfl
def fX1_spanAt_27b (N : Nat) (σ : St) (k27 : Int32 → Int32 → Int32 → Int32 → Option Int32) (x1 : Int32) (x2 : Int32) (x3 : Int32) (x4 : Int32) : Option Int32 :=
  if x1 ≤ x4 then (fX1_spanAt_56 N σ x3) else (if x3 = (-1 : Int32) then (fX1_spanAt_56 N σ x3) else (nm (x2 ||| ((1 : Int32) <<< (x3 &&& 31))) fun v3 => bd (fX1_leastNext N σ v3) fun r5 => nm (x4 + (1 : Int32)) fun v7 => k27 x1 v3 r5 v7))
set_option maxHeartbeats 2000000 in
set_option maxRecDepth 20000 in
theorem wX1_spanAt_27b {r : Int32} {N : Nat} {σ : St} (S : CallFix p m c cX1_spanAt 5 s av BG RX1) (hr : meth.sig.returnType = some .int) (hlk : meth.locks = false) {k27 : Int32 → Int32 → Int32 → Int32 → Option Int32} (hk27 : ∀ (x1 : Int32) (x2 : Int32) (x3 : Int32) (x4 : Int32) (ls : Array Slot) (H : Heap) (locs : List Loc), Hw (XWd D ad cs ts adK adV) s σ H locs → lv_has ls 5 [(0, .ref (ad 10)), (1, .int x1), (2, .int x2), (3, .int x3), (4, .int x4)] → k27 x1 x2 x3 x4 = some r → W p l e (RM 2 48) s m av below meth c H locs 0 0 (QI below (XWd D ad cs ts adK adV) av s r σ) (F0 m 27 ls []))  {x1 : Int32} {x2 : Int32} {x3 : Int32} {x4 : Int32} {ls : Array Slot} {H : Heap} {locs : List Loc} (hw : Hw (XWd D ad cs ts adK adV) s σ H locs) (hl : lv_has ls 5 [(0, .ref (ad 10)), (1, .int x1), (2, .int x2), (3, .int x3), (4, .int x4)]) (hf : fX1_spanAt_27b N σ k27 x1 x2 x3 x4 = some r) : W p l e (RM 2 48) s m av below meth c H locs 0 0 (QI below (XWd D ad cs ts adK adV) av s r σ) (F0 m 27 ls []) := by
  unfold fX1_spanAt_27b at hf
  refine lv_iload S.1 S.2.1 dX1_spanAt_27 (lv_at hl 4 rfl) ?_
  refine lv_iload_n S.1 S.2.1 dX1_spanAt_29 rfl (lv_at hl 1 rfl) ?_
  refine lv_icmp_ge (tgt := 56) S.1 S.2.1 dX1_spanAt_30 (by decide) (fun hc => ?_) (fun hc => ?_)
  · have hf := itt hf hc
    exact wX1_spanAt_56 S hr hlk hw (lv_sub hl [0, 3] rfl) hf
  · have hf := itf hf hc
    refine lv_iload_n S.1 S.2.1 dX1_spanAt_33 rfl (lv_at hl 3 rfl) ?_
    refine lv_iconst (v := -1) S.1 S.2.1 dX1_spanAt_34 (by decide) ?_
    refine lv_icmp_eq (tgt := 56) S.1 S.2.1 dX1_spanAt_35 (by decide) (fun hc => ?_) (fun hc => ?_)
    · have hf := itt hf hc
      exact wX1_spanAt_56 S hr hlk hw (lv_sub hl [0, 3] rfl) hf
    · have hf := itf hf hc
      refine lv_iload_n S.1 S.2.1 dX1_spanAt_38 rfl (lv_at hl 2 rfl) ?_
      refine lv_iconst (v := 1) S.1 S.2.1 dX1_spanAt_39 (by decide) ?_
      refine lv_iload_n S.1 S.2.1 dX1_spanAt_40 rfl (lv_at hl 3 rfl) ?_
      refine lv_ishl S.1 S.2.1 dX1_spanAt_41 ?_
      refine lv_ior S.1 S.2.1 dX1_spanAt_42 ?_
      refine lv_topi (fun v3 e4 => ?_)
      have hf := nm_s e4 hf
      refine lv_istore_n (lv' := [(2, .int v3), (0, .ref (ad 10)), (1, .int x1), (3, .int x3), (4, .int x4)]) S.1 S.2.1 dX1_spanAt_43 rfl hl (by decide) rfl (fun ls hl => ?_)
      refine lv_aload_n S.1 S.2.1 dX1_spanAt_44 rfl (lv_at hl 1 rfl) ?_
      refine lv_iload_n S.1 S.2.1 dX1_spanAt_45 rfl (lv_at hl 0 rfl) ?_
      obtain ⟨r5, g6, hf⟩ := bd_s hf
      refine g_Vi (rest := []) (XWd_ok D ad cs ts adK adV) S hw (tX1_leastNext g6) kt_X1_55 10 xe_10 rfl rfl ⟨Nat.le_of_ble_eq_true rfl, Nat.le_of_ble_eq_true rfl⟩ rfl hl.1 rfl (Nat.le_of_ble_eq_true rfl) ⟨Nat.zero_le _, Nat.zero_le _⟩ dX1_spanAt_46 (fun H locs hw => ?_)
      refine lv_istore_n (lv' := [(3, .int r5), (2, .int v3), (0, .ref (ad 10)), (1, .int x1), (4, .int x4)]) S.1 S.2.1 dX1_spanAt_49 rfl hl (by decide) rfl (fun ls hl => ?_)
      obtain ⟨v7, e8⟩ : ∃ z : Int32, z = x4 + (1 : Int32) := ⟨_, rfl⟩
      have hf := nm_s e8 hf
      refine lv_iinc (v := v7) (lv' := [(4, .int v7), (3, .int r5), (2, .int v3), (0, .ref (ad 10)), (1, .int x1)]) S.1 S.2.1 dX1_spanAt_50 hl (k := 4) rfl (by rw [e8]; rfl) (by decide) rfl (fun ls hl => ?_)
      refine lv_goto (tgt := 27) S.1 S.2.1 dX1_spanAt_53 (by decide) ?_
      exact hk27 x1 v3 r5 v7 _ _ _ hw (lv_sub hl [3, 4, 2, 1, 0] rfl) hf
def fX1_spanAt_27 (N : Nat) (σ : St) : Nat → Int32 → Int32 → Int32 → Int32 → Option Int32
  | 0 => fun _ _ _ _ => none
  | n + 1 => fX1_spanAt_27b N σ (fX1_spanAt_27 N σ n)
theorem wX1_spanAt_27 {r : Int32} {N : Nat} {σ : St} (S : CallFix p m c cX1_spanAt 5 s av BG RX1) (hr : meth.sig.returnType = some .int) (hlk : meth.locks = false) : ∀ (n : Nat), ∀ (x1 : Int32) (x2 : Int32) (x3 : Int32) (x4 : Int32) (ls : Array Slot) (H : Heap) (locs : List Loc), Hw (XWd D ad cs ts adK adV) s σ H locs → lv_has ls 5 [(0, .ref (ad 10)), (1, .int x1), (2, .int x2), (3, .int x3), (4, .int x4)] → fX1_spanAt_27 N σ n x1 x2 x3 x4 = some r → W p l e (RM 2 48) s m av below meth c H locs 0 0 (QI below (XWd D ad cs ts adK adV) av s r σ) (F0 m 27 ls []) := by
  intro n
  induction n with
  | zero => intro _ _ _ _ ls H locs hw hl hf; cases hf
  | succ n ih => intro _ _ _ _ ls H locs hw hl hf; exact wX1_spanAt_27b S hr hlk ih hw hl hf
def fX1_spanAt (N : Nat) (σ : St) (x1 : Int32) : Option Int32 :=
  if (fX11_within x1 (0 : Int32) ((σ.1 16) - (1 : Int32))) = 0 then (some (-1 : Int32)) else (bd (fX1_leastNext N σ (0 : Int32)) fun r1 => fX1_spanAt_27 N σ N x1 (0 : Int32) r1 (0 : Int32))
set_option maxHeartbeats 2000000 in
set_option maxRecDepth 20000 in
theorem tX1_spanAt {r : Int32} {N : Nat} {σ : St} {x1 : Int32} (hf : fX1_spanAt N σ x1 = some r) : CI l (XWd D ad cs ts adK adV) yX1_spanAt cX1_spanAt 5 (some .int) 2 48 [.ref (ad 10), .int x1] σ r σ := by
  refine CI.of (by decide) (Nat.le_of_ble_eq_true rfl) ?_
  intro p e s m below meth c ls S hr hlk hw hl
  have hl : lv_has ls 5 [(0, .ref (ad 10)), (1, .int x1)] := hl
  unfold fX1_spanAt at hf
  refine lv_iload_n S.1 S.2.1 dX1_spanAt_0 rfl (lv_at hl 1 rfl) ?_
  refine lv_iconst (v := 0) S.1 S.2.1 dX1_spanAt_1 (by decide) ?_
  refine lv_aload_n S.1 S.2.1 dX1_spanAt_2 rfl (lv_at hl 0 rfl) ?_
  refine xg_Asks_count S hw kf_X1_36 dX1_spanAt_3 ?_
  refine lv_iconst (v := 1) S.1 S.2.1 dX1_spanAt_6 (by decide) ?_
  refine lv_isub S.1 S.2.1 dX1_spanAt_7 ?_
  refine g_Ni (rest := []) (XWd_ok D ad cs ts adK adV) S hw (tX11_within (ad := ad) (cs := cs) (ts := ts) (adK := adK) (adV := adV) (σ := σ) rfl) kn_X11_within (x_nw hw 6 rfl) ⟨Nat.le_of_ble_eq_true rfl, Nat.le_of_ble_eq_true rfl⟩ rfl hl.1 rfl (Nat.le_of_ble_eq_true rfl) ⟨Nat.zero_le _, Nat.zero_le _⟩ dX1_spanAt_8 (fun H locs hw => ?_)
  refine lv_if_ne (tgt := 16) S.1 S.2.1 dX1_spanAt_11 (by decide) (fun hc => ?_) (fun hc => ?_)
  · have hf := itf hf hc
    refine lv_iconst (v := 0) S.1 S.2.1 dX1_spanAt_16 (by decide) ?_
    refine lv_istore_n (lv' := [(2, .int (0 : Int32)), (0, .ref (ad 10)), (1, .int x1)]) S.1 S.2.1 dX1_spanAt_17 rfl hl (by decide) rfl (fun ls hl => ?_)
    refine lv_aload_n S.1 S.2.1 dX1_spanAt_18 rfl (lv_at hl 1 rfl) ?_
    refine lv_iload_n S.1 S.2.1 dX1_spanAt_19 rfl (lv_at hl 0 rfl) ?_
    obtain ⟨r1, g2, hf⟩ := bd_s hf
    refine g_Vi (rest := []) (XWd_ok D ad cs ts adK adV) S hw (tX1_leastNext g2) kt_X1_55 10 xe_10 rfl rfl ⟨Nat.le_of_ble_eq_true rfl, Nat.le_of_ble_eq_true rfl⟩ rfl hl.1 rfl (Nat.le_of_ble_eq_true rfl) ⟨Nat.zero_le _, Nat.zero_le _⟩ dX1_spanAt_20 (fun H locs hw => ?_)
    refine lv_istore_n (lv' := [(3, .int r1), (2, .int (0 : Int32)), (0, .ref (ad 10)), (1, .int x1)]) S.1 S.2.1 dX1_spanAt_23 rfl hl (by decide) rfl (fun ls hl => ?_)
    refine lv_iconst (v := 0) S.1 S.2.1 dX1_spanAt_24 (by decide) ?_
    refine lv_istore (lv' := [(4, .int (0 : Int32)), (3, .int r1), (2, .int (0 : Int32)), (0, .ref (ad 10)), (1, .int x1)]) S.1 S.2.1 dX1_spanAt_25 hl (by decide) rfl (fun ls hl => ?_)
    exact wX1_spanAt_27 S hr hlk N x1 (0 : Int32) r1 (0 : Int32) _ _ _ hw (lv_sub hl [3, 4, 2, 1, 0] rfl) hf
  · have hf := itt hf hc
    refine lv_iconst (v := -1) S.1 S.2.1 dX1_spanAt_14 (by decide) ?_
    exact g_iret (XWd_ok D ad cs ts adK adV) S hr hlk hw dX1_spanAt_15 (Option.some.inj hf) rfl
def fX2_wasMade_32 (N : Nat) (σ : St) (k2 : Int32 → Int32 → Int32 → Option Int32) (x1 : Int32) (x2 : Int32) (x3 : Int32) : Option Int32 :=
  nm (x3 + (1 : Int32)) fun v3 => k2 x1 x2 v3
set_option maxHeartbeats 2000000 in
set_option maxRecDepth 20000 in
theorem wX2_wasMade_32 {r : Int32} {N : Nat} {σ : St} (S : CallFix p m c cX2_wasMade 4 s av BG RX2) (hr : meth.sig.returnType = some .boolean) (hlk : meth.locks = false) {k2 : Int32 → Int32 → Int32 → Option Int32} (hk2 : ∀ (x1 : Int32) (x2 : Int32) (x3 : Int32) (ls : Array Slot) (H : Heap) (locs : List Loc), Hw (XWd D ad cs ts adK adV) s σ H locs → lv_has ls 4 [(0, .ref (ad 7)), (1, .int x1), (2, .int x2), (3, .int x3)] → k2 x1 x2 x3 = some r → W p l e (RM 0 0) s m av below meth c H locs 0 0 (QI below (XWd D ad cs ts adK adV) av s r σ) (F0 m 2 ls []))  {x1 : Int32} {x2 : Int32} {x3 : Int32} {ls : Array Slot} {H : Heap} {locs : List Loc} (hw : Hw (XWd D ad cs ts adK adV) s σ H locs) (hl : lv_has ls 4 [(0, .ref (ad 7)), (1, .int x1), (2, .int x2), (3, .int x3)]) (hf : fX2_wasMade_32 N σ k2 x1 x2 x3 = some r) : W p l e (RM 0 0) s m av below meth c H locs 0 0 (QI below (XWd D ad cs ts adK adV) av s r σ) (F0 m 32 ls []) := by
  unfold fX2_wasMade_32 at hf
  obtain ⟨v3, e4⟩ : ∃ z : Int32, z = x3 + (1 : Int32) := ⟨_, rfl⟩
  have hf := nm_s e4 hf
  refine lv_iinc (v := v3) (lv' := [(3, .int v3), (0, .ref (ad 7)), (1, .int x1), (2, .int x2)]) S.1 S.2.1 dX2_wasMade_32 hl (k := 3) rfl (by rw [e4]; rfl) (by decide) rfl (fun ls hl => ?_)
  refine lv_goto (tgt := 2) S.1 S.2.1 dX2_wasMade_35 (by decide) ?_
  exact hk2 x1 x2 v3 _ _ _ hw (lv_sub hl [1, 2, 3, 0] rfl) hf
def fX2_wasMade_2b (N : Nat) (σ : St) (k2 : Int32 → Int32 → Int32 → Option Int32) (x1 : Int32) (x2 : Int32) (x3 : Int32) : Option Int32 :=
  if (σ.1 13) ≤ x3 then (some (0 : Int32)) else (if ix x3 30 = true then if (aR σ 66 x3) = x1 then (if ix x3 30 = true then if (aR σ 67 x3) = x2 then (some (1 : Int32)) else (fX2_wasMade_32 N σ k2 x1 x2 x3) else none) else (fX2_wasMade_32 N σ k2 x1 x2 x3) else none)
set_option maxHeartbeats 2000000 in
set_option maxRecDepth 20000 in
theorem wX2_wasMade_2b {r : Int32} {N : Nat} {σ : St} (S : CallFix p m c cX2_wasMade 4 s av BG RX2) (hr : meth.sig.returnType = some .boolean) (hlk : meth.locks = false) {k2 : Int32 → Int32 → Int32 → Option Int32} (hk2 : ∀ (x1 : Int32) (x2 : Int32) (x3 : Int32) (ls : Array Slot) (H : Heap) (locs : List Loc), Hw (XWd D ad cs ts adK adV) s σ H locs → lv_has ls 4 [(0, .ref (ad 7)), (1, .int x1), (2, .int x2), (3, .int x3)] → k2 x1 x2 x3 = some r → W p l e (RM 0 0) s m av below meth c H locs 0 0 (QI below (XWd D ad cs ts adK adV) av s r σ) (F0 m 2 ls []))  {x1 : Int32} {x2 : Int32} {x3 : Int32} {ls : Array Slot} {H : Heap} {locs : List Loc} (hw : Hw (XWd D ad cs ts adK adV) s σ H locs) (hl : lv_has ls 4 [(0, .ref (ad 7)), (1, .int x1), (2, .int x2), (3, .int x3)]) (hf : fX2_wasMade_2b N σ k2 x1 x2 x3 = some r) : W p l e (RM 0 0) s m av below meth c H locs 0 0 (QI below (XWd D ad cs ts adK adV) av s r σ) (F0 m 2 ls []) := by
  unfold fX2_wasMade_2b at hf
  refine lv_iload_n S.1 S.2.1 dX2_wasMade_2 rfl (lv_at hl 3 rfl) ?_
  refine lv_aload_n S.1 S.2.1 dX2_wasMade_3 rfl (lv_at hl 0 rfl) ?_
  refine xg_Claims_count S hw kf_X2_45 dX2_wasMade_4 ?_
  refine lv_icmp_ge (tgt := 38) S.1 S.2.1 dX2_wasMade_7 (by decide) (fun hc => ?_) (fun hc => ?_)
  · have hf := itt hf hc
    refine lv_iconst (v := 0) S.1 S.2.1 dX2_wasMade_38 (by decide) ?_
    exact g_zret (XWd_ok D ad cs ts adK adV) S hr hlk hw rfl dX2_wasMade_39 (Option.some.inj hf) rfl
  · have hf := itf hf hc
    refine lv_aload_n S.1 S.2.1 dX2_wasMade_10 rfl (lv_at hl 0 rfl) ?_
    refine xg_Claims_owners S hw kf_X2_9 dX2_wasMade_11 ?_
    refine lv_iload_n S.1 S.2.1 dX2_wasMade_14 rfl (lv_at hl 3 rfl) ?_
    obtain ⟨h1, hf⟩ := gd_ix hf
    refine g_iald S hw 66 0 xe_66 rfl h1 dX2_wasMade_15 ?_
    refine lv_iload_n S.1 S.2.1 dX2_wasMade_16 rfl (lv_at hl 1 rfl) ?_
    refine lv_icmp_ne (tgt := 32) S.1 S.2.1 dX2_wasMade_17 (by decide) (fun hc => ?_) (fun hc => ?_)
    · have hf := itf hf hc
      exact wX2_wasMade_32 S hr hlk hk2 hw (lv_sub hl [0, 1, 2, 3] rfl) hf
    · have hf := itt hf hc
      refine lv_aload_n S.1 S.2.1 dX2_wasMade_20 rfl (lv_at hl 0 rfl) ?_
      refine xg_Claims_spans S hw kf_X2_15 dX2_wasMade_21 ?_
      refine lv_iload_n S.1 S.2.1 dX2_wasMade_24 rfl (lv_at hl 3 rfl) ?_
      obtain ⟨h2, hf⟩ := gd_ix hf
      refine g_iald S hw 67 0 xe_67 rfl h2 dX2_wasMade_25 ?_
      refine lv_iload_n S.1 S.2.1 dX2_wasMade_26 rfl (lv_at hl 2 rfl) ?_
      refine lv_icmp_ne (tgt := 32) S.1 S.2.1 dX2_wasMade_27 (by decide) (fun hc => ?_) (fun hc => ?_)
      · have hf := itf hf hc
        exact wX2_wasMade_32 S hr hlk hk2 hw (lv_sub hl [0, 1, 2, 3] rfl) hf
      · have hf := itt hf hc
        refine lv_iconst (v := 1) S.1 S.2.1 dX2_wasMade_30 (by decide) ?_
        exact g_zret (XWd_ok D ad cs ts adK adV) S hr hlk hw rfl dX2_wasMade_31 (Option.some.inj hf) rfl
def fX2_wasMade_2 (N : Nat) (σ : St) : Nat → Int32 → Int32 → Int32 → Option Int32
  | 0 => fun _ _ _ => none
  | n + 1 => fX2_wasMade_2b N σ (fX2_wasMade_2 N σ n)
theorem wX2_wasMade_2 {r : Int32} {N : Nat} {σ : St} (S : CallFix p m c cX2_wasMade 4 s av BG RX2) (hr : meth.sig.returnType = some .boolean) (hlk : meth.locks = false) : ∀ (n : Nat), ∀ (x1 : Int32) (x2 : Int32) (x3 : Int32) (ls : Array Slot) (H : Heap) (locs : List Loc), Hw (XWd D ad cs ts adK adV) s σ H locs → lv_has ls 4 [(0, .ref (ad 7)), (1, .int x1), (2, .int x2), (3, .int x3)] → fX2_wasMade_2 N σ n x1 x2 x3 = some r → W p l e (RM 0 0) s m av below meth c H locs 0 0 (QI below (XWd D ad cs ts adK adV) av s r σ) (F0 m 2 ls []) := by
  intro n
  induction n with
  | zero => intro _ _ _ ls H locs hw hl hf; cases hf
  | succ n ih => intro _ _ _ ls H locs hw hl hf; exact wX2_wasMade_2b S hr hlk ih hw hl hf
def fX2_wasMade (N : Nat) (σ : St) (x1 : Int32) (x2 : Int32) : Option Int32 :=
  fX2_wasMade_2 N σ N x1 x2 (0 : Int32)
set_option maxHeartbeats 2000000 in
set_option maxRecDepth 20000 in
theorem tX2_wasMade {r : Int32} {N : Nat} {σ : St} {x1 : Int32} {x2 : Int32} (hf : fX2_wasMade N σ x1 x2 = some r) : CI l (XWd D ad cs ts adK adV) yX2_wasMade cX2_wasMade 4 (some .boolean) 0 0 [.ref (ad 7), .int x1, .int x2] σ r σ := by
  refine CI.of (by decide) (Nat.le_of_ble_eq_true rfl) ?_
  intro p e s m below meth c ls S hr hlk hw hl
  have hl : lv_has ls 4 [(0, .ref (ad 7)), (1, .int x1), (2, .int x2)] := hl
  unfold fX2_wasMade at hf
  refine lv_iconst (v := 0) S.1 S.2.1 dX2_wasMade_0 (by decide) ?_
  refine lv_istore_n (lv' := [(3, .int (0 : Int32)), (0, .ref (ad 7)), (1, .int x1), (2, .int x2)]) S.1 S.2.1 dX2_wasMade_1 rfl hl (by decide) rfl (fun ls hl => ?_)
  exact wX2_wasMade_2 S hr hlk N x1 x2 (0 : Int32) _ _ _ hw (lv_sub hl [1, 2, 3, 0] rfl) hf
def fX2_add_24 (N : Nat) (σ : St) (x1 : Int32) (x2 : Int32) (x3 : Int32) : Option (Int32 × St) :=
  if ix (σ.1 13) 30 = true then nm (aW σ 66 (σ.1 13) x1) fun σ6 => if ix (σ6.1 13) 30 = true then nm (aW σ6 67 (σ6.1 13) x2) fun σ9 => if ix (σ9.1 13) 30 = true then nm (aW σ9 68 (σ9.1 13) x3) fun σ12 => nm (sI σ12 13 ((σ12.1 13) + (1 : Int32))) fun σ14 => some (((σ14.1 13) - (1 : Int32)), σ14) else none else none else none
set_option maxHeartbeats 2000000 in
set_option maxRecDepth 20000 in
theorem wX2_add_24 {r : Int32} {σ' : St} {N : Nat} (S : CallFix p m c cX2_add 4 s av BG RX2) (hr : meth.sig.returnType = some .int) (hlk : meth.locks = false)  {σ : St} {x1 : Int32} {x2 : Int32} {x3 : Int32} {ls : Array Slot} {H : Heap} {locs : List Loc} (hw : Hw (XWd D ad cs ts adK adV) s σ H locs) (hl : lv_has ls 4 [(0, .ref (ad 7)), (1, .int x1), (2, .int x2), (3, .int x3)]) (hf : fX2_add_24 N σ x1 x2 x3 = some (r, σ')) : W p l e (RM 1 23) s m av below meth c H locs 0 0 (QI below (XWd D ad cs ts adK adV) av s r σ') (F0 m 24 ls []) := by
  unfold fX2_add_24 at hf
  refine lv_aload_n S.1 S.2.1 dX2_add_24 rfl (lv_at hl 0 rfl) ?_
  refine xg_Claims_owners S hw kf_X2_9 dX2_add_25 ?_
  refine lv_aload_n S.1 S.2.1 dX2_add_28 rfl (lv_at hl 0 rfl) ?_
  refine xg_Claims_count S hw kf_X2_45 dX2_add_29 ?_
  refine lv_iload_n S.1 S.2.1 dX2_add_32 rfl (lv_at hl 1 rfl) ?_
  obtain ⟨h5, hf⟩ := gd_ix hf
  obtain ⟨σ6, e7⟩ : ∃ z : St, z = aW σ 66 (σ.1 13) x1 := ⟨_, rfl⟩
  have hf := nm_s e7 hf
  refine g_iast (σ' := σ6) S hw 66 0 xe_66 rfl (by rw [e7]; exact xs_66 _) h5 dX2_add_33 (fun H locs hw => ?_)
  refine lv_aload_n S.1 S.2.1 dX2_add_34 rfl (lv_at hl 0 rfl) ?_
  refine xg_Claims_spans S hw kf_X2_15 dX2_add_35 ?_
  refine lv_aload_n S.1 S.2.1 dX2_add_38 rfl (lv_at hl 0 rfl) ?_
  refine xg_Claims_count S hw kf_X2_45 dX2_add_39 ?_
  refine lv_iload_n S.1 S.2.1 dX2_add_42 rfl (lv_at hl 2 rfl) ?_
  obtain ⟨h8, hf⟩ := gd_ix hf
  obtain ⟨σ9, e10⟩ : ∃ z : St, z = aW σ6 67 (σ6.1 13) x2 := ⟨_, rfl⟩
  have hf := nm_s e10 hf
  refine g_iast (σ' := σ9) S hw 67 0 xe_67 rfl (by rw [e10]; exact xs_67 _) h8 dX2_add_43 (fun H locs hw => ?_)
  refine lv_aload_n S.1 S.2.1 dX2_add_44 rfl (lv_at hl 0 rfl) ?_
  refine xg_Claims_sums S hw kf_X2_18 dX2_add_45 ?_
  refine lv_aload_n S.1 S.2.1 dX2_add_48 rfl (lv_at hl 0 rfl) ?_
  refine xg_Claims_count S hw kf_X2_45 dX2_add_49 ?_
  refine lv_iload_n S.1 S.2.1 dX2_add_52 rfl (lv_at hl 3 rfl) ?_
  obtain ⟨h11, hf⟩ := gd_ix hf
  obtain ⟨σ12, e13⟩ : ∃ z : St, z = aW σ9 68 (σ9.1 13) x3 := ⟨_, rfl⟩
  have hf := nm_s e13 hf
  refine g_iast (σ' := σ12) S hw 68 0 xe_68 rfl (by rw [e13]; exact xs_68 _) h11 dX2_add_53 (fun H locs hw => ?_)
  refine lv_aload_n S.1 S.2.1 dX2_add_54 rfl (lv_at hl 0 rfl) ?_
  refine lv_dup S.1 S.2.1 dX2_add_55 rfl ?_
  refine xg_Claims_count S hw kf_X2_45 dX2_add_56 ?_
  refine lv_iconst (v := 1) S.1 S.2.1 dX2_add_59 (by decide) ?_
  refine lv_iadd S.1 S.2.1 dX2_add_60 ?_
  obtain ⟨σ14, e15⟩ : ∃ z : St, z = sI σ12 13 ((σ12.1 13) + (1 : Int32)) := ⟨_, rfl⟩
  have hf := nm_s e15 hf
  refine xp_Claims_count S hw e15 kf_X2_45 dX2_add_61 (fun H locs hw => ?_)
  refine lv_aload_n S.1 S.2.1 dX2_add_64 rfl (lv_at hl 0 rfl) ?_
  refine xg_Claims_count S hw kf_X2_45 dX2_add_65 ?_
  refine lv_iconst (v := 1) S.1 S.2.1 dX2_add_68 (by decide) ?_
  refine lv_isub S.1 S.2.1 dX2_add_69 ?_
  exact g_iret (XWd_ok D ad cs ts adK adV) S hr hlk hw dX2_add_70 (Prod.mk.inj (Option.some.inj hf)).1 (Prod.mk.inj (Option.some.inj hf)).2
def fX2_add (N : Nat) (σ : St) (x1 : Int32) (x2 : Int32) (x3 : Int32) : Option (Int32 × St) :=
  bd (fX2_wasMade N σ x1 x2) fun r1 => if r1 = 0 then (fX2_add_24 N σ x1 x2 x3) else (nm (sI σ 14 ((σ.1 14) ||| ((1 : Int32) <<< ((σ.1 13) &&& 31)))) fun σ3 => fX2_add_24 N σ3 x1 x2 x3)
set_option maxHeartbeats 2000000 in
set_option maxRecDepth 20000 in
theorem tX2_add {r : Int32} {σ' : St} {N : Nat} {σ : St} {x1 : Int32} {x2 : Int32} {x3 : Int32} (hf : fX2_add N σ x1 x2 x3 = some (r, σ')) : CI l (XWd D ad cs ts adK adV) yX2_add cX2_add 4 (some .int) 1 23 [.ref (ad 7), .int x1, .int x2, .int x3] σ r σ' := by
  refine CI.of (by decide) (Nat.le_of_ble_eq_true rfl) ?_
  intro p e s m below meth c ls S hr hlk hw hl
  have hl : lv_has ls 4 [(0, .ref (ad 7)), (1, .int x1), (2, .int x2), (3, .int x3)] := hl
  unfold fX2_add at hf
  refine lv_aload_n S.1 S.2.1 dX2_add_0 rfl (lv_at hl 0 rfl) ?_
  refine lv_iload_n S.1 S.2.1 dX2_add_1 rfl (lv_at hl 1 rfl) ?_
  refine lv_iload_n S.1 S.2.1 dX2_add_2 rfl (lv_at hl 2 rfl) ?_
  obtain ⟨r1, g2, hf⟩ := bd_s hf
  refine g_Vi (rest := []) (XWd_ok D ad cs ts adK adV) S hw (tX2_wasMade g2) kt_X2_37 7 xe_7 rfl rfl ⟨Nat.le_of_ble_eq_true rfl, Nat.le_of_ble_eq_true rfl⟩ rfl hl.1 rfl (Nat.le_of_ble_eq_true rfl) ⟨Nat.zero_le _, Nat.zero_le _⟩ dX2_add_3 (fun H locs hw => ?_)
  refine lv_if_eq (tgt := 24) S.1 S.2.1 dX2_add_6 (by decide) (fun hc => ?_) (fun hc => ?_)
  · have hf := itt hf hc
    exact wX2_add_24 S hr hlk hw (lv_sub hl [0, 1, 2, 3] rfl) hf
  · have hf := itf hf hc
    refine lv_aload_n S.1 S.2.1 dX2_add_9 rfl (lv_at hl 0 rfl) ?_
    refine lv_dup S.1 S.2.1 dX2_add_10 rfl ?_
    refine xg_Claims_doubles S hw kf_X2_41 dX2_add_11 ?_
    refine lv_iconst (v := 1) S.1 S.2.1 dX2_add_14 (by decide) ?_
    refine lv_aload_n S.1 S.2.1 dX2_add_15 rfl (lv_at hl 0 rfl) ?_
    refine xg_Claims_count S hw kf_X2_45 dX2_add_16 ?_
    refine lv_ishl S.1 S.2.1 dX2_add_19 ?_
    refine lv_ior S.1 S.2.1 dX2_add_20 ?_
    obtain ⟨σ3, e4⟩ : ∃ z : St, z = sI σ 14 ((σ.1 14) ||| ((1 : Int32) <<< ((σ.1 13) &&& 31))) := ⟨_, rfl⟩
    have hf := nm_s e4 hf
    refine xp_Claims_doubles S hw e4 kf_X2_41 dX2_add_21 (fun H locs hw => ?_)
    exact wX2_add_24 S hr hlk hw (lv_sub hl [0, 1, 2, 3] rfl) hf
def fX3_part_88 (N : Nat) (σ : St) (k59 : Int32 → Int32 → Int32 → Int64 → Int32 → Int32 → Option Int64) (x1 : Int32) (x2 : Int32) (x3 : Int32) (x4 : Int64) (x6 : Int32) (x7 : Int32) : Option Int64 :=
  if ix x1 10 = true then if ix x1 10 = true then if ix x7 10 = true then if ¬ (x3).toInt64 = 0 then nm (x4 + (((jR σ 35 x1) * ((aR σ (25 + (x1).toNatClampNeg) x7)).toInt64) / (x3).toInt64)) fun v21 => nm (x7 + (1 : Int32)) fun v23 => k59 x1 x2 x3 v21 x6 v23 else none else none else none else none
set_option maxHeartbeats 2000000 in
set_option maxRecDepth 20000 in
theorem wX3_part_88 {r : Int64} {N : Nat} {σ : St} (S : CallFix p m c cX3_part 9 s av BG RX3) (hr : meth.sig.returnType = some .long) (hlk : meth.locks = false) {k59 : Int32 → Int32 → Int32 → Int64 → Int32 → Int32 → Option Int64} (hk59 : ∀ (x1 : Int32) (x2 : Int32) (x3 : Int32) (x4 : Int64) (x6 : Int32) (x7 : Int32) (ls : Array Slot) (H : Heap) (locs : List Loc), Hw (XWd D ad cs ts adK adV) s σ H locs → lv_has ls 9 [(0, .ref (ad 2)), (1, .int x1), (2, .int x2), (3, .int x3), (4, .long x4), (6, .int x6), (7, .int x7)] → k59 x1 x2 x3 x4 x6 x7 = some r → W p l e (RM 0 0) s m av below meth c H locs 0 0 (QJ below (XWd D ad cs ts adK adV) av s r σ) (F0 m 59 ls []))  {x1 : Int32} {x2 : Int32} {x3 : Int32} {x4 : Int64} {x6 : Int32} {x7 : Int32} {ls : Array Slot} {H : Heap} {locs : List Loc} (hw : Hw (XWd D ad cs ts adK adV) s σ H locs) (hl : lv_has ls 9 [(0, .ref (ad 2)), (1, .int x1), (2, .int x2), (3, .int x3), (4, .long x4), (6, .int x6), (7, .int x7)]) (hf : fX3_part_88 N σ k59 x1 x2 x3 x4 x6 x7 = some r) : W p l e (RM 0 0) s m av below meth c H locs 0 0 (QJ below (XWd D ad cs ts adK adV) av s r σ) (F0 m 88 ls []) := by
  unfold fX3_part_88 at hf
  refine lv_lload S.1 S.2.1 dX3_part_88 (lv_at hl 4 rfl) ?_
  refine lv_aload_n S.1 S.2.1 dX3_part_90 rfl (lv_at hl 0 rfl) ?_
  refine xg_Heirs_till S hw kf_X3_16 dX3_part_91 ?_
  refine lv_iload_n S.1 S.2.1 dX3_part_94 rfl (lv_at hl 1 rfl) ?_
  obtain ⟨h17, hf⟩ := gd_ix hf
  refine g_lald S hw 35 1 xe_35 rfl h17 dX3_part_95 ?_
  refine lv_aload_n S.1 S.2.1 dX3_part_96 rfl (lv_at hl 0 rfl) ?_
  refine xg_Heirs_shares S hw kf_X3_11 dX3_part_97 ?_
  refine lv_iload_n S.1 S.2.1 dX3_part_100 rfl (lv_at hl 1 rfl) ?_
  obtain ⟨h18, hf⟩ := gd_ix hf
  refine g_aald S hw 24 3 xe_24 rfl h18 dX3_part_101 ?_
  refine lv_iload S.1 S.2.1 dX3_part_102 (lv_at hl 6 rfl) ?_
  obtain ⟨h19, hf⟩ := gd_ix hf
  refine g_iald S hw (25 + (x1).toNatClampNeg) 0 (x2_25 (vp_lt h18)) rfl h19 dX3_part_104 ?_
  refine lv_i2l S.1 S.2.1 dX3_part_105 rfl ?_
  refine lv_lmul S.1 S.2.1 dX3_part_106 ?_
  refine lv_iload_n S.1 S.2.1 dX3_part_107 rfl (lv_at hl 3 rfl) ?_
  refine lv_i2l S.1 S.2.1 dX3_part_108 rfl ?_
  obtain ⟨h20, hf⟩ := gd_t hf
  refine lv_ldiv S.1 S.2.1 dX3_part_109 h20 ?_
  refine lv_ladd S.1 S.2.1 dX3_part_110 ?_
  refine lv_topl (fun v21 e22 => ?_)
  have hf := nm_s e22 hf
  refine lv_lstore (lv' := [(4, .long v21), (0, .ref (ad 2)), (1, .int x1), (2, .int x2), (3, .int x3), (6, .int x6), (7, .int x7)]) S.1 S.2.1 dX3_part_111 hl (by decide) rfl (fun ls hl => ?_)
  obtain ⟨v23, e24⟩ : ∃ z : Int32, z = x7 + (1 : Int32) := ⟨_, rfl⟩
  have hf := nm_s e24 hf
  refine lv_iinc (v := v23) (lv' := [(7, .int v23), (4, .long v21), (0, .ref (ad 2)), (1, .int x1), (2, .int x2), (3, .int x3), (6, .int x6)]) S.1 S.2.1 dX3_part_113 hl (k := 6) rfl (by rw [e24]; rfl) (by decide) rfl (fun ls hl => ?_)
  refine lv_goto (tgt := 59) S.1 S.2.1 dX3_part_116 (by decide) ?_
  exact hk59 x1 x2 x3 v21 x6 v23 _ _ _ hw (lv_sub hl [2, 3, 4, 5, 1, 6, 0] rfl) hf
def fX3_part_59b (N : Nat) (σ : St) (k59 : Int32 → Int32 → Int32 → Int64 → Int32 → Int32 → Option Int64) (x1 : Int32) (x2 : Int32) (x3 : Int32) (x4 : Int64) (x6 : Int32) (x7 : Int32) : Option Int64 :=
  if (10 : Int32) ≤ x7 then (if ix x1 10 = true then if ix x1 10 = true then if ix x2 10 = true then if ¬ (x3).toInt64 = 0 then nm (((jR σ 35 x1) * ((aR σ (25 + (x1).toNatClampNeg) x2)).toInt64) / (x3).toInt64) fun v12 => if x2 = x6 then (if ix x1 10 = true then some ((v12 + (jR σ 35 x1)) - x4) else none) else (some v12) else none else none else none else none) else (if x6 = (-1 : Int32) then (if ix x1 10 = true then if ix x7 10 = true then if (aR σ (25 + (x1).toNatClampNeg) x7) ≤ 0 then (fX3_part_88 N σ k59 x1 x2 x3 x4 x6 x7) else (fX3_part_88 N σ k59 x1 x2 x3 x4 x7 x7) else none else none) else (fX3_part_88 N σ k59 x1 x2 x3 x4 x6 x7))
set_option maxHeartbeats 2000000 in
set_option maxRecDepth 20000 in
theorem wX3_part_59b {r : Int64} {N : Nat} {σ : St} (S : CallFix p m c cX3_part 9 s av BG RX3) (hr : meth.sig.returnType = some .long) (hlk : meth.locks = false) {k59 : Int32 → Int32 → Int32 → Int64 → Int32 → Int32 → Option Int64} (hk59 : ∀ (x1 : Int32) (x2 : Int32) (x3 : Int32) (x4 : Int64) (x6 : Int32) (x7 : Int32) (ls : Array Slot) (H : Heap) (locs : List Loc), Hw (XWd D ad cs ts adK adV) s σ H locs → lv_has ls 9 [(0, .ref (ad 2)), (1, .int x1), (2, .int x2), (3, .int x3), (4, .long x4), (6, .int x6), (7, .int x7)] → k59 x1 x2 x3 x4 x6 x7 = some r → W p l e (RM 0 0) s m av below meth c H locs 0 0 (QJ below (XWd D ad cs ts adK adV) av s r σ) (F0 m 59 ls []))  {x1 : Int32} {x2 : Int32} {x3 : Int32} {x4 : Int64} {x6 : Int32} {x7 : Int32} {ls : Array Slot} {H : Heap} {locs : List Loc} (hw : Hw (XWd D ad cs ts adK adV) s σ H locs) (hl : lv_has ls 9 [(0, .ref (ad 2)), (1, .int x1), (2, .int x2), (3, .int x3), (4, .long x4), (6, .int x6), (7, .int x7)]) (hf : fX3_part_59b N σ k59 x1 x2 x3 x4 x6 x7 = some r) : W p l e (RM 0 0) s m av below meth c H locs 0 0 (QJ below (XWd D ad cs ts adK adV) av s r σ) (F0 m 59 ls []) := by
  unfold fX3_part_59b at hf
  refine lv_iload S.1 S.2.1 dX3_part_59 (lv_at hl 6 rfl) ?_
  refine lv_bipush (v := 10) S.1 S.2.1 dX3_part_61 (by decide) ?_
  refine lv_icmp_ge (tgt := 119) S.1 S.2.1 dX3_part_63 (by decide) (fun hc => ?_) (fun hc => ?_)
  · have hf := itt hf hc
    refine lv_aload_n S.1 S.2.1 dX3_part_119 rfl (lv_at hl 0 rfl) ?_
    refine xg_Heirs_till S hw kf_X3_16 dX3_part_120 ?_
    refine lv_iload_n S.1 S.2.1 dX3_part_123 rfl (lv_at hl 1 rfl) ?_
    obtain ⟨h8, hf⟩ := gd_ix hf
    refine g_lald S hw 35 1 xe_35 rfl h8 dX3_part_124 ?_
    refine lv_aload_n S.1 S.2.1 dX3_part_125 rfl (lv_at hl 0 rfl) ?_
    refine xg_Heirs_shares S hw kf_X3_11 dX3_part_126 ?_
    refine lv_iload_n S.1 S.2.1 dX3_part_129 rfl (lv_at hl 1 rfl) ?_
    obtain ⟨h9, hf⟩ := gd_ix hf
    refine g_aald S hw 24 3 xe_24 rfl h9 dX3_part_130 ?_
    refine lv_iload_n S.1 S.2.1 dX3_part_131 rfl (lv_at hl 2 rfl) ?_
    obtain ⟨h10, hf⟩ := gd_ix hf
    refine g_iald S hw (25 + (x1).toNatClampNeg) 0 (x2_25 (vp_lt h9)) rfl h10 dX3_part_132 ?_
    refine lv_i2l S.1 S.2.1 dX3_part_133 rfl ?_
    refine lv_lmul S.1 S.2.1 dX3_part_134 ?_
    refine lv_iload_n S.1 S.2.1 dX3_part_135 rfl (lv_at hl 3 rfl) ?_
    refine lv_i2l S.1 S.2.1 dX3_part_136 rfl ?_
    obtain ⟨h11, hf⟩ := gd_t hf
    refine lv_ldiv S.1 S.2.1 dX3_part_137 h11 ?_
    refine lv_topl (fun v12 e13 => ?_)
    have hf := nm_s e13 hf
    refine lv_lstore (lv' := [(7, .long v12), (0, .ref (ad 2)), (1, .int x1), (2, .int x2), (3, .int x3), (4, .long x4), (6, .int x6)]) S.1 S.2.1 dX3_part_138 hl (by decide) rfl (fun ls hl => ?_)
    refine lv_iload_n S.1 S.2.1 dX3_part_140 rfl (lv_at hl 3 rfl) ?_
    refine lv_iload S.1 S.2.1 dX3_part_141 (lv_at hl 6 rfl) ?_
    refine lv_icmp_ne (tgt := 161) S.1 S.2.1 dX3_part_143 (by decide) (fun hc => ?_) (fun hc => ?_)
    · have hf := itf hf hc
      refine lv_lload S.1 S.2.1 dX3_part_161 (lv_at hl 0 rfl) ?_
      exact g_jret (XWd_ok D ad cs ts adK adV) S hr hlk hw dX3_part_163 (Option.some.inj hf) rfl
    · have hf := itt hf hc
      refine lv_lload S.1 S.2.1 dX3_part_146 (lv_at hl 0 rfl) ?_
      refine lv_aload_n S.1 S.2.1 dX3_part_148 rfl (lv_at hl 1 rfl) ?_
      refine xg_Heirs_till S hw kf_X3_16 dX3_part_149 ?_
      refine lv_iload_n S.1 S.2.1 dX3_part_152 rfl (lv_at hl 2 rfl) ?_
      obtain ⟨h14, hf⟩ := gd_ix hf
      refine g_lald S hw 35 1 xe_35 rfl h14 dX3_part_153 ?_
      refine lv_ladd S.1 S.2.1 dX3_part_154 ?_
      refine lv_lload S.1 S.2.1 dX3_part_155 (lv_at hl 5 rfl) ?_
      refine lv_lsub S.1 S.2.1 dX3_part_157 ?_
      refine lv_goto (tgt := 163) S.1 S.2.1 dX3_part_158 (by decide) ?_
      exact g_jret (XWd_ok D ad cs ts adK adV) S hr hlk hw dX3_part_163 (Option.some.inj hf) rfl
  · have hf := itf hf hc
    refine lv_iload S.1 S.2.1 dX3_part_66 (lv_at hl 5 rfl) ?_
    refine lv_iconst (v := -1) S.1 S.2.1 dX3_part_68 (by decide) ?_
    refine lv_icmp_ne (tgt := 88) S.1 S.2.1 dX3_part_69 (by decide) (fun hc => ?_) (fun hc => ?_)
    · have hf := itf hf hc
      exact wX3_part_88 S hr hlk hk59 hw (lv_sub hl [0, 1, 2, 3, 4, 5, 6] rfl) hf
    · have hf := itt hf hc
      refine lv_aload_n S.1 S.2.1 dX3_part_72 rfl (lv_at hl 0 rfl) ?_
      refine xg_Heirs_shares S hw kf_X3_11 dX3_part_73 ?_
      refine lv_iload_n S.1 S.2.1 dX3_part_76 rfl (lv_at hl 1 rfl) ?_
      obtain ⟨h15, hf⟩ := gd_ix hf
      refine g_aald S hw 24 3 xe_24 rfl h15 dX3_part_77 ?_
      refine lv_iload S.1 S.2.1 dX3_part_78 (lv_at hl 6 rfl) ?_
      obtain ⟨h16, hf⟩ := gd_ix hf
      refine g_iald S hw (25 + (x1).toNatClampNeg) 0 (x2_25 (vp_lt h15)) rfl h16 dX3_part_80 ?_
      refine lv_if_le (tgt := 88) S.1 S.2.1 dX3_part_81 (by decide) (fun hc => ?_) (fun hc => ?_)
      · have hf := itt hf hc
        exact wX3_part_88 S hr hlk hk59 hw (lv_sub hl [0, 1, 2, 3, 4, 5, 6] rfl) hf
      · have hf := itf hf hc
        refine lv_iload S.1 S.2.1 dX3_part_84 (lv_at hl 6 rfl) ?_
        refine lv_istore (lv' := [(6, .int x7), (0, .ref (ad 2)), (1, .int x1), (2, .int x2), (3, .int x3), (4, .long x4), (7, .int x7)]) S.1 S.2.1 dX3_part_86 hl (by decide) rfl (fun ls hl => ?_)
        exact wX3_part_88 S hr hlk hk59 hw (lv_sub hl [1, 2, 3, 4, 5, 0, 6] rfl) hf
def fX3_part_59 (N : Nat) (σ : St) : Nat → Int32 → Int32 → Int32 → Int64 → Int32 → Int32 → Option Int64
  | 0 => fun _ _ _ _ _ _ => none
  | n + 1 => fX3_part_59b N σ (fX3_part_59 N σ n)
theorem wX3_part_59 {r : Int64} {N : Nat} {σ : St} (S : CallFix p m c cX3_part 9 s av BG RX3) (hr : meth.sig.returnType = some .long) (hlk : meth.locks = false) : ∀ (n : Nat), ∀ (x1 : Int32) (x2 : Int32) (x3 : Int32) (x4 : Int64) (x6 : Int32) (x7 : Int32) (ls : Array Slot) (H : Heap) (locs : List Loc), Hw (XWd D ad cs ts adK adV) s σ H locs → lv_has ls 9 [(0, .ref (ad 2)), (1, .int x1), (2, .int x2), (3, .int x3), (4, .long x4), (6, .int x6), (7, .int x7)] → fX3_part_59 N σ n x1 x2 x3 x4 x6 x7 = some r → W p l e (RM 0 0) s m av below meth c H locs 0 0 (QJ below (XWd D ad cs ts adK adV) av s r σ) (F0 m 59 ls []) := by
  intro n
  induction n with
  | zero => intro _ _ _ _ _ _ ls H locs hw hl hf; cases hf
  | succ n ih => intro _ _ _ _ _ _ ls H locs hw hl hf; exact wX3_part_59b S hr hlk ih hw hl hf
def fX3_part_5b (N : Nat) (σ : St) (k5 : Int32 → Int32 → Int32 → Int32 → Option Int64) (x1 : Int32) (x2 : Int32) (x3 : Int32) (x4 : Int32) : Option Int64 :=
  if (10 : Int32) ≤ x4 then (if 0 < x3 then (fX3_part_59 N σ N x1 x2 x3 (0 : Int64) (-1 : Int32) (0 : Int32)) else (if x1 = x2 then (if ix x1 10 = true then some (jR σ 35 x1) else none) else (some (0 : Int64)))) else (if ix x1 10 = true then if ix x4 10 = true then nm (x3 + (aR σ (25 + (x1).toNatClampNeg) x4)) fun v4 => nm (x4 + (1 : Int32)) fun v6 => k5 x1 x2 v4 v6 else none else none)
set_option maxHeartbeats 2000000 in
set_option maxRecDepth 20000 in
theorem wX3_part_5b {r : Int64} {N : Nat} {σ : St} (S : CallFix p m c cX3_part 9 s av BG RX3) (hr : meth.sig.returnType = some .long) (hlk : meth.locks = false) {k5 : Int32 → Int32 → Int32 → Int32 → Option Int64} (hk5 : ∀ (x1 : Int32) (x2 : Int32) (x3 : Int32) (x4 : Int32) (ls : Array Slot) (H : Heap) (locs : List Loc), Hw (XWd D ad cs ts adK adV) s σ H locs → lv_has ls 9 [(0, .ref (ad 2)), (1, .int x1), (2, .int x2), (3, .int x3), (4, .int x4)] → k5 x1 x2 x3 x4 = some r → W p l e (RM 0 0) s m av below meth c H locs 0 0 (QJ below (XWd D ad cs ts adK adV) av s r σ) (F0 m 5 ls []))  {x1 : Int32} {x2 : Int32} {x3 : Int32} {x4 : Int32} {ls : Array Slot} {H : Heap} {locs : List Loc} (hw : Hw (XWd D ad cs ts adK adV) s σ H locs) (hl : lv_has ls 9 [(0, .ref (ad 2)), (1, .int x1), (2, .int x2), (3, .int x3), (4, .int x4)]) (hf : fX3_part_5b N σ k5 x1 x2 x3 x4 = some r) : W p l e (RM 0 0) s m av below meth c H locs 0 0 (QJ below (XWd D ad cs ts adK adV) av s r σ) (F0 m 5 ls []) := by
  unfold fX3_part_5b at hf
  refine lv_iload S.1 S.2.1 dX3_part_5 (lv_at hl 4 rfl) ?_
  refine lv_bipush (v := 10) S.1 S.2.1 dX3_part_7 (by decide) ?_
  refine lv_icmp_ge (tgt := 30) S.1 S.2.1 dX3_part_9 (by decide) (fun hc => ?_) (fun hc => ?_)
  · have hf := itt hf hc
    refine lv_iload_n S.1 S.2.1 dX3_part_30 rfl (lv_at hl 3 rfl) ?_
    refine lv_if_gt (tgt := 50) S.1 S.2.1 dX3_part_31 (by decide) (fun hc => ?_) (fun hc => ?_)
    · have hf := itt hf hc
      refine lv_lconst (v := 0) S.1 S.2.1 dX3_part_50 (by decide) ?_
      refine lv_lstore (lv' := [(4, .long (0 : Int64)), (0, .ref (ad 2)), (1, .int x1), (2, .int x2), (3, .int x3)]) S.1 S.2.1 dX3_part_51 hl (by decide) rfl (fun ls hl => ?_)
      refine lv_iconst (v := -1) S.1 S.2.1 dX3_part_53 (by decide) ?_
      refine lv_istore (lv' := [(6, .int (-1 : Int32)), (4, .long (0 : Int64)), (0, .ref (ad 2)), (1, .int x1), (2, .int x2), (3, .int x3)]) S.1 S.2.1 dX3_part_54 hl (by decide) rfl (fun ls hl => ?_)
      refine lv_iconst (v := 0) S.1 S.2.1 dX3_part_56 (by decide) ?_
      refine lv_istore (lv' := [(7, .int (0 : Int32)), (6, .int (-1 : Int32)), (4, .long (0 : Int64)), (0, .ref (ad 2)), (1, .int x1), (2, .int x2), (3, .int x3)]) S.1 S.2.1 dX3_part_57 hl (by decide) rfl (fun ls hl => ?_)
      exact wX3_part_59 S hr hlk N x1 x2 x3 (0 : Int64) (-1 : Int32) (0 : Int32) _ _ _ hw (lv_sub hl [3, 4, 5, 6, 2, 1, 0] rfl) hf
    · have hf := itf hf hc
      refine lv_iload_n S.1 S.2.1 dX3_part_34 rfl (lv_at hl 1 rfl) ?_
      refine lv_iload_n S.1 S.2.1 dX3_part_35 rfl (lv_at hl 2 rfl) ?_
      refine lv_icmp_ne (tgt := 48) S.1 S.2.1 dX3_part_36 (by decide) (fun hc => ?_) (fun hc => ?_)
      · have hf := itf hf hc
        refine lv_lconst (v := 0) S.1 S.2.1 dX3_part_48 (by decide) ?_
        exact g_jret (XWd_ok D ad cs ts adK adV) S hr hlk hw dX3_part_49 (Option.some.inj hf) rfl
      · have hf := itt hf hc
        refine lv_aload_n S.1 S.2.1 dX3_part_39 rfl (lv_at hl 0 rfl) ?_
        refine xg_Heirs_till S hw kf_X3_16 dX3_part_40 ?_
        refine lv_iload_n S.1 S.2.1 dX3_part_43 rfl (lv_at hl 1 rfl) ?_
        obtain ⟨h1, hf⟩ := gd_ix hf
        refine g_lald S hw 35 1 xe_35 rfl h1 dX3_part_44 ?_
        refine lv_goto (tgt := 49) S.1 S.2.1 dX3_part_45 (by decide) ?_
        exact g_jret (XWd_ok D ad cs ts adK adV) S hr hlk hw dX3_part_49 (Option.some.inj hf) rfl
  · have hf := itf hf hc
    refine lv_iload_n S.1 S.2.1 dX3_part_12 rfl (lv_at hl 3 rfl) ?_
    refine lv_aload_n S.1 S.2.1 dX3_part_13 rfl (lv_at hl 0 rfl) ?_
    refine xg_Heirs_shares S hw kf_X3_11 dX3_part_14 ?_
    refine lv_iload_n S.1 S.2.1 dX3_part_17 rfl (lv_at hl 1 rfl) ?_
    obtain ⟨h2, hf⟩ := gd_ix hf
    refine g_aald S hw 24 3 xe_24 rfl h2 dX3_part_18 ?_
    refine lv_iload S.1 S.2.1 dX3_part_19 (lv_at hl 4 rfl) ?_
    obtain ⟨h3, hf⟩ := gd_ix hf
    refine g_iald S hw (25 + (x1).toNatClampNeg) 0 (x2_25 (vp_lt h2)) rfl h3 dX3_part_21 ?_
    refine lv_iadd S.1 S.2.1 dX3_part_22 ?_
    refine lv_topi (fun v4 e5 => ?_)
    have hf := nm_s e5 hf
    refine lv_istore_n (lv' := [(3, .int v4), (0, .ref (ad 2)), (1, .int x1), (2, .int x2), (4, .int x4)]) S.1 S.2.1 dX3_part_23 rfl hl (by decide) rfl (fun ls hl => ?_)
    obtain ⟨v6, e7⟩ : ∃ z : Int32, z = x4 + (1 : Int32) := ⟨_, rfl⟩
    have hf := nm_s e7 hf
    refine lv_iinc (v := v6) (lv' := [(4, .int v6), (3, .int v4), (0, .ref (ad 2)), (1, .int x1), (2, .int x2)]) S.1 S.2.1 dX3_part_24 hl (k := 4) rfl (by rw [e7]; rfl) (by decide) rfl (fun ls hl => ?_)
    refine lv_goto (tgt := 5) S.1 S.2.1 dX3_part_27 (by decide) ?_
    exact hk5 x1 x2 v4 v6 _ _ _ hw (lv_sub hl [2, 3, 4, 1, 0] rfl) hf
def fX3_part_5 (N : Nat) (σ : St) : Nat → Int32 → Int32 → Int32 → Int32 → Option Int64
  | 0 => fun _ _ _ _ => none
  | n + 1 => fX3_part_5b N σ (fX3_part_5 N σ n)
theorem wX3_part_5 {r : Int64} {N : Nat} {σ : St} (S : CallFix p m c cX3_part 9 s av BG RX3) (hr : meth.sig.returnType = some .long) (hlk : meth.locks = false) : ∀ (n : Nat), ∀ (x1 : Int32) (x2 : Int32) (x3 : Int32) (x4 : Int32) (ls : Array Slot) (H : Heap) (locs : List Loc), Hw (XWd D ad cs ts adK adV) s σ H locs → lv_has ls 9 [(0, .ref (ad 2)), (1, .int x1), (2, .int x2), (3, .int x3), (4, .int x4)] → fX3_part_5 N σ n x1 x2 x3 x4 = some r → W p l e (RM 0 0) s m av below meth c H locs 0 0 (QJ below (XWd D ad cs ts adK adV) av s r σ) (F0 m 5 ls []) := by
  intro n
  induction n with
  | zero => intro _ _ _ _ ls H locs hw hl hf; cases hf
  | succ n ih => intro _ _ _ _ ls H locs hw hl hf; exact wX3_part_5b S hr hlk ih hw hl hf
def fX3_part (N : Nat) (σ : St) (x1 : Int32) (x2 : Int32) : Option Int64 :=
  fX3_part_5 N σ N x1 x2 (0 : Int32) (0 : Int32)
set_option maxHeartbeats 2000000 in
set_option maxRecDepth 20000 in
theorem tX3_part {r : Int64} {N : Nat} {σ : St} {x1 : Int32} {x2 : Int32} (hf : fX3_part N σ x1 x2 = some r) : CJ l (XWd D ad cs ts adK adV) yX3_part cX3_part 9 (some .long) 0 0 [.ref (ad 2), .int x1, .int x2] σ r σ := by
  refine CJ.of (by decide) (Nat.le_of_ble_eq_true rfl) ?_
  intro p e s m below meth c ls S hr hlk hw hl
  have hl : lv_has ls 9 [(0, .ref (ad 2)), (1, .int x1), (2, .int x2)] := hl
  unfold fX3_part at hf
  refine lv_iconst (v := 0) S.1 S.2.1 dX3_part_0 (by decide) ?_
  refine lv_istore_n (lv' := [(3, .int (0 : Int32)), (0, .ref (ad 2)), (1, .int x1), (2, .int x2)]) S.1 S.2.1 dX3_part_1 rfl hl (by decide) rfl (fun ls hl => ?_)
  refine lv_iconst (v := 0) S.1 S.2.1 dX3_part_2 (by decide) ?_
  refine lv_istore (lv' := [(4, .int (0 : Int32)), (3, .int (0 : Int32)), (0, .ref (ad 2)), (1, .int x1), (2, .int x2)]) S.1 S.2.1 dX3_part_3 hl (by decide) rfl (fun ls hl => ?_)
  exact wX3_part_5 S hr hlk N x1 x2 (0 : Int32) (0 : Int32) _ _ _ hw (lv_sub hl [2, 3, 4, 1, 0] rfl) hf
end METH
