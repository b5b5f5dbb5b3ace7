/-! METHODS (printed by wip/whole/emit.py) -/
section METH
variable {p : Program} {l : Launch} {e : Env} {s : State} {m : MethodId} {av : Array Value} {below : List Frame} {meth : Method} {c : Code} {D : va_G} {ad : Nat → Nat} {cs : Nat → ClassId} {ts adK adV : Nat → Nat}
def fX12_leaveTold (N : Nat) (σ : St) (x1 : Int32) (x2 : Int32) : Option Int32 :=
  if (fX12_isLeave σ x1) = 0 then (some (-2 : Int32)) else (if x2 = (0 : Int32) then (if ix x1 24 = true then some (aR σ 22 x1) else none) else (if x2 = (1 : Int32) then (if ix x1 24 = true then some (aR σ 23 x1) else none) else (if x2 = (2 : Int32) then (if ix x1 24 = true then some (aR σ 25 x1) else none) else (if x2 = (3 : Int32) then (bd (fX12_lastsOf N σ x1) fun r8 => some r8) else (if x2 = (4 : Int32) then (if ix x1 24 = true then if ix (aR σ 22 x1) 6 = true then some (aR σ 21 (aR σ 22 x1)) else none else none) else (if x2 = (5 : Int32) then (bd (fX12_yearlyOf N σ x1) fun r14 => some r14) else (if x2 = (6 : Int32) then (bd (fX12_isInForce N σ x1 (σ.1 0)) fun r17 => if r17 = 0 then (some (0 : Int32)) else (some (1 : Int32))) else (if x2 = (7 : Int32) then (if ix x1 24 = true then some (aR σ 29 x1) else none) else (if x2 = (8 : Int32) then (if ix x1 24 = true then if (aR σ 28 x1) = 0 then (some (0 : Int32)) else (some (1 : Int32)) else none) else (some (-2 : Int32)))))))))))
set_option maxHeartbeats 2000000 in
set_option maxRecDepth 20000 in
theorem tX12_leaveTold {r : Int32} {N : Nat} {σ : St} {x1 : Int32} {x2 : Int32} (hf : fX12_leaveTold N σ x1 x2 = some r) : CI l (MWd D ad cs) yX12_leaveTold cX12_leaveTold 3 (some .int) 3 73 [.ref (ad 0), .int x1, .int x2] σ r σ := by
  refine CI.of (by decide) (Nat.le_of_ble_eq_true rfl) ?_
  intro p e s m below meth c ls S hr hlk hw hl
  have hl : lv_has ls 3 [(0, .ref (ad 0)), (1, .int x1), (2, .int x2)] := hl
  unfold fX12_leaveTold at hf
  refine lv_aload_n S.1 S.2.1 dX12_leaveTold_0 rfl (lv_at hl 0 rfl) ?_
  refine lv_iload_n S.1 S.2.1 dX12_leaveTold_1 rfl (lv_at hl 1 rfl) ?_
  refine g_Vi (rest := []) (MWd_ok D ad cs) S hw (tX12_isLeave (ad := ad) (cs := cs) (σ := σ) rfl) kt_X12_157 0 me_0 rfl rfl ⟨Nat.le_of_ble_eq_true rfl, Nat.le_of_ble_eq_true rfl⟩ rfl hl.1 rfl (Nat.le_of_ble_eq_true rfl) ⟨Nat.zero_le _, Nat.zero_le _⟩ dX12_leaveTold_2 (fun H locs hw => ?_)
  refine lv_if_ne (tgt := 11) S.1 S.2.1 dX12_leaveTold_5 (by decide) (fun hc => ?_) (fun hc => ?_)
  · have hf := itf hf hc
    refine lv_iload_n S.1 S.2.1 dX12_leaveTold_11 rfl (lv_at hl 2 rfl) ?_
    by_cases h1 : x2 = (0 : Int32)
    · have hf := itt hf h1
      refine lv_tableIn (off := 52) (tgt := 64) S.1 S.2.1 dX12_leaveTold_12 (by rw [h1]; decide) (by rw [h1]; decide) (by rw [h1]; rfl) (by decide) ?_
      refine lv_aload_n S.1 S.2.1 dX12_leaveTold_64 rfl (lv_at hl 0 rfl) ?_
      refine mg_WayLeavesModel_kindOf S hw kf_X12_163 dX12_leaveTold_65 ?_
      refine lv_iload_n S.1 S.2.1 dX12_leaveTold_68 rfl (lv_at hl 1 rfl) ?_
      obtain ⟨h2, hf⟩ := gd_ix hf
      refine g_iald S hw 22 0 me_22 rfl h2 dX12_leaveTold_69 ?_
      exact g_iret (MWd_ok D ad cs) S hr hlk hw dX12_leaveTold_70 (Option.some.inj hf) rfl
    have hf := itf hf h1
    by_cases h3 : x2 = (1 : Int32)
    · have hf := itt hf h3
      refine lv_tableIn (off := 59) (tgt := 71) S.1 S.2.1 dX12_leaveTold_12 (by rw [h3]; decide) (by rw [h3]; decide) (by rw [h3]; rfl) (by decide) ?_
      refine lv_aload_n S.1 S.2.1 dX12_leaveTold_71 rfl (lv_at hl 0 rfl) ?_
      refine mg_WayLeavesModel_spanOf S hw kf_X12_160 dX12_leaveTold_72 ?_
      refine lv_iload_n S.1 S.2.1 dX12_leaveTold_75 rfl (lv_at hl 1 rfl) ?_
      obtain ⟨h4, hf⟩ := gd_ix hf
      refine g_iald S hw 23 0 me_23 rfl h4 dX12_leaveTold_76 ?_
      exact g_iret (MWd_ok D ad cs) S hr hlk hw dX12_leaveTold_77 (Option.some.inj hf) rfl
    have hf := itf hf h3
    by_cases h5 : x2 = (2 : Int32)
    · have hf := itt hf h5
      refine lv_tableIn (off := 66) (tgt := 78) S.1 S.2.1 dX12_leaveTold_12 (by rw [h5]; decide) (by rw [h5]; decide) (by rw [h5]; rfl) (by decide) ?_
      refine lv_aload_n S.1 S.2.1 dX12_leaveTold_78 rfl (lv_at hl 0 rfl) ?_
      refine mg_WayLeavesModel_begins2 S hw kf_X12_169 dX12_leaveTold_79 ?_
      refine lv_iload_n S.1 S.2.1 dX12_leaveTold_82 rfl (lv_at hl 1 rfl) ?_
      obtain ⟨h6, hf⟩ := gd_ix hf
      refine g_iald S hw 25 0 me_25 rfl h6 dX12_leaveTold_83 ?_
      exact g_iret (MWd_ok D ad cs) S hr hlk hw dX12_leaveTold_84 (Option.some.inj hf) rfl
    have hf := itf hf h5
    by_cases h7 : x2 = (3 : Int32)
    · have hf := itt hf h7
      refine lv_tableIn (off := 73) (tgt := 85) S.1 S.2.1 dX12_leaveTold_12 (by rw [h7]; decide) (by rw [h7]; decide) (by rw [h7]; rfl) (by decide) ?_
      refine lv_aload_n S.1 S.2.1 dX12_leaveTold_85 rfl (lv_at hl 0 rfl) ?_
      refine lv_iload_n S.1 S.2.1 dX12_leaveTold_86 rfl (lv_at hl 1 rfl) ?_
      obtain ⟨r8, g9, hf⟩ := bd_s hf
      refine g_Vi (rest := []) (MWd_ok D ad cs) S hw (tX12_lastsOf g9) kt_X12_184 0 me_0 rfl rfl ⟨Nat.le_of_ble_eq_true rfl, Nat.le_of_ble_eq_true rfl⟩ rfl hl.1 rfl (Nat.le_of_ble_eq_true rfl) ⟨Nat.zero_le _, Nat.zero_le _⟩ dX12_leaveTold_87 (fun H locs hw => ?_)
      exact g_iret (MWd_ok D ad cs) S hr hlk hw dX12_leaveTold_90 (Option.some.inj hf) rfl
    have hf := itf hf h7
    by_cases h10 : x2 = (4 : Int32)
    · have hf := itt hf h10
      refine lv_tableIn (off := 79) (tgt := 91) S.1 S.2.1 dX12_leaveTold_12 (by rw [h10]; decide) (by rw [h10]; decide) (by rw [h10]; rfl) (by decide) ?_
      refine lv_aload_n S.1 S.2.1 dX12_leaveTold_91 rfl (lv_at hl 0 rfl) ?_
      refine mg_WayLeavesModel_binds S hw kf_X12_187 dX12_leaveTold_92 ?_
      refine lv_aload_n S.1 S.2.1 dX12_leaveTold_95 rfl (lv_at hl 0 rfl) ?_
      refine mg_WayLeavesModel_kindOf S hw kf_X12_163 dX12_leaveTold_96 ?_
      refine lv_iload_n S.1 S.2.1 dX12_leaveTold_99 rfl (lv_at hl 1 rfl) ?_
      obtain ⟨h11, hf⟩ := gd_ix hf
      refine g_iald S hw 22 0 me_22 rfl h11 dX12_leaveTold_100 ?_
      obtain ⟨h12, hf⟩ := gd_ix hf
      refine g_iald S hw 21 0 me_21 rfl h12 dX12_leaveTold_101 ?_
      exact g_iret (MWd_ok D ad cs) S hr hlk hw dX12_leaveTold_102 (Option.some.inj hf) rfl
    have hf := itf hf h10
    by_cases h13 : x2 = (5 : Int32)
    · have hf := itt hf h13
      refine lv_tableIn (off := 91) (tgt := 103) S.1 S.2.1 dX12_leaveTold_12 (by rw [h13]; decide) (by rw [h13]; decide) (by rw [h13]; rfl) (by decide) ?_
      refine lv_aload_n S.1 S.2.1 dX12_leaveTold_103 rfl (lv_at hl 0 rfl) ?_
      refine lv_iload_n S.1 S.2.1 dX12_leaveTold_104 rfl (lv_at hl 1 rfl) ?_
      obtain ⟨r14, g15, hf⟩ := bd_s hf
      refine g_Vi (rest := []) (MWd_ok D ad cs) S hw (tX12_yearlyOf g15) kt_X12_194 0 me_0 rfl rfl ⟨Nat.le_of_ble_eq_true rfl, Nat.le_of_ble_eq_true rfl⟩ rfl hl.1 rfl (Nat.le_of_ble_eq_true rfl) ⟨Nat.zero_le _, Nat.zero_le _⟩ dX12_leaveTold_105 (fun H locs hw => ?_)
      exact g_iret (MWd_ok D ad cs) S hr hlk hw dX12_leaveTold_108 (Option.some.inj hf) rfl
    have hf := itf hf h13
    by_cases h16 : x2 = (6 : Int32)
    · have hf := itt hf h16
      refine lv_tableIn (off := 97) (tgt := 109) S.1 S.2.1 dX12_leaveTold_12 (by rw [h16]; decide) (by rw [h16]; decide) (by rw [h16]; rfl) (by decide) ?_
      refine lv_aload_n S.1 S.2.1 dX12_leaveTold_109 rfl (lv_at hl 0 rfl) ?_
      refine lv_iload_n S.1 S.2.1 dX12_leaveTold_110 rfl (lv_at hl 1 rfl) ?_
      refine lv_aload_n S.1 S.2.1 dX12_leaveTold_111 rfl (lv_at hl 0 rfl) ?_
      refine mg_WayLeavesModel_today S hw kf_X12_15 dX12_leaveTold_112 ?_
      obtain ⟨r17, g18, hf⟩ := bd_s hf
      refine g_Vi (rest := []) (MWd_ok D ad cs) S hw (tX12_isInForce g18) kt_X12_197 0 me_0 rfl rfl ⟨Nat.le_of_ble_eq_true rfl, Nat.le_of_ble_eq_true rfl⟩ rfl hl.1 rfl (Nat.le_of_ble_eq_true rfl) ⟨Nat.zero_le _, Nat.zero_le _⟩ dX12_leaveTold_115 (fun H locs hw => ?_)
      refine lv_if_eq (tgt := 125) S.1 S.2.1 dX12_leaveTold_118 (by decide) (fun hc => ?_) (fun hc => ?_)
      · have hf := itt hf hc
        refine lv_iconst (v := 0) S.1 S.2.1 dX12_leaveTold_125 (by decide) ?_
        exact g_iret (MWd_ok D ad cs) S hr hlk hw dX12_leaveTold_126 (Option.some.inj hf) rfl
      · have hf := itf hf hc
        refine lv_iconst (v := 1) S.1 S.2.1 dX12_leaveTold_121 (by decide) ?_
        refine lv_goto (tgt := 126) S.1 S.2.1 dX12_leaveTold_122 (by decide) ?_
        exact g_iret (MWd_ok D ad cs) S hr hlk hw dX12_leaveTold_126 (Option.some.inj hf) rfl
    have hf := itf hf h16
    by_cases h19 : x2 = (7 : Int32)
    · have hf := itt hf h19
      refine lv_tableIn (off := 115) (tgt := 127) S.1 S.2.1 dX12_leaveTold_12 (by rw [h19]; decide) (by rw [h19]; decide) (by rw [h19]; rfl) (by decide) ?_
      refine lv_aload_n S.1 S.2.1 dX12_leaveTold_127 rfl (lv_at hl 0 rfl) ?_
      refine mg_WayLeavesModel_undone S hw kf_X12_175 dX12_leaveTold_128 ?_
      refine lv_iload_n S.1 S.2.1 dX12_leaveTold_131 rfl (lv_at hl 1 rfl) ?_
      obtain ⟨h20, hf⟩ := gd_ix hf
      refine g_iald S hw 29 0 me_29 rfl h20 dX12_leaveTold_132 ?_
      exact g_iret (MWd_ok D ad cs) S hr hlk hw dX12_leaveTold_133 (Option.some.inj hf) rfl
    have hf := itf hf h19
    by_cases h21 : x2 = (8 : Int32)
    · have hf := itt hf h21
      refine lv_tableIn (off := 122) (tgt := 134) S.1 S.2.1 dX12_leaveTold_12 (by rw [h21]; decide) (by rw [h21]; decide) (by rw [h21]; rfl) (by decide) ?_
      refine lv_aload_n S.1 S.2.1 dX12_leaveTold_134 rfl (lv_at hl 0 rfl) ?_
      refine mg_WayLeavesModel_isAppealed S hw kf_X12_200 dX12_leaveTold_135 ?_
      refine lv_iload_n S.1 S.2.1 dX12_leaveTold_138 rfl (lv_at hl 1 rfl) ?_
      obtain ⟨h22, hf⟩ := gd_ix hf
      refine g_zald S hw 28 2 me_28 rfl h22 dX12_leaveTold_139 ?_
      refine lv_if_eq (tgt := 147) S.1 S.2.1 dX12_leaveTold_140 (by decide) (fun hc => ?_) (fun hc => ?_)
      · have hf := itt hf hc
        refine lv_iconst (v := 0) S.1 S.2.1 dX12_leaveTold_147 (by decide) ?_
        exact g_iret (MWd_ok D ad cs) S hr hlk hw dX12_leaveTold_148 (Option.some.inj hf) rfl
      · have hf := itf hf hc
        refine lv_iconst (v := 1) S.1 S.2.1 dX12_leaveTold_143 (by decide) ?_
        refine lv_goto (tgt := 148) S.1 S.2.1 dX12_leaveTold_144 (by decide) ?_
        exact g_iret (MWd_ok D ad cs) S hr hlk hw dX12_leaveTold_148 (Option.some.inj hf) rfl
    have hf := itf hf h21
    refine lv_tableOut (tgt := 149) S.1 S.2.1 dX12_leaveTold_12 (by have h1 := lv_neT h1 (a := 0) (by decide); have h3 := lv_neT h3 (a := 1) (by decide); have h5 := lv_neT h5 (a := 2) (by decide); have h7 := lv_neT h7 (a := 3) (by decide); have h10 := lv_neT h10 (a := 4) (by decide); have h13 := lv_neT h13 (a := 5) (by decide); have h16 := lv_neT h16 (a := 6) (by decide); have h19 := lv_neT h19 (a := 7) (by decide); have h21 := lv_neT h21 (a := 8) (by decide); omega) (by decide) ?_
    refine lv_bipush (v := -2) S.1 S.2.1 dX12_leaveTold_149 (by decide) ?_
    exact g_iret (MWd_ok D ad cs) S hr hlk hw dX12_leaveTold_151 (Option.some.inj hf) rfl
  · have hf := itt hf hc
    refine lv_bipush (v := -2) S.1 S.2.1 dX12_leaveTold_8 (by decide) ?_
    exact g_iret (MWd_ok D ad cs) S hr hlk hw dX12_leaveTold_10 (Option.some.inj hf) rfl
def fX12_renew (N : Nat) (σ : St) (x1 : Int32) : Option (Int32 × St) :=
  if (fX12_isLeave σ x1) = 0 then (some ((-2 : Int32), σ)) else (if ix x1 24 = true then if (aR σ 22 x1) = (4 : Int32) then (some ((-13 : Int32), σ)) else (if ix x1 24 = true then if (aR σ 27 x1) = (5 : Int32) then (some ((-3 : Int32), σ)) else (if ix x1 24 = true then if ix x1 24 = true then nm (aW σ 27 x1 ((aR σ 27 x1) + (1 : Int32))) fun σ5 => if ix x1 24 = true then some ((aR σ5 27 x1), σ5) else none else none else none) else none) else none)
set_option maxHeartbeats 2000000 in
set_option maxRecDepth 20000 in
theorem tX12_renew {r : Int32} {σ' : St} {N : Nat} {σ : St} {x1 : Int32} (hf : fX12_renew N σ x1 = some (r, σ')) : CI l (MWd D ad cs) yX12_renew cX12_renew 2 (some .int) 1 21 [.ref (ad 0), .int x1] σ r σ' := by
  refine CI.of (by decide) (Nat.le_of_ble_eq_true rfl) ?_
  intro p e s m below meth c ls S hr hlk hw hl
  have hl : lv_has ls 2 [(0, .ref (ad 0)), (1, .int x1)] := hl
  unfold fX12_renew at hf
  refine lv_aload_n S.1 S.2.1 dX12_renew_0 rfl (lv_at hl 0 rfl) ?_
  refine lv_iload_n S.1 S.2.1 dX12_renew_1 rfl (lv_at hl 1 rfl) ?_
  refine g_Vi (rest := []) (MWd_ok D ad cs) S hw (tX12_isLeave (ad := ad) (cs := cs) (σ := σ) rfl) kt_X12_157 0 me_0 rfl rfl ⟨Nat.le_of_ble_eq_true rfl, Nat.le_of_ble_eq_true rfl⟩ rfl hl.1 rfl (Nat.le_of_ble_eq_true rfl) ⟨Nat.zero_le _, Nat.zero_le _⟩ dX12_renew_2 (fun H locs hw => ?_)
  refine lv_if_ne (tgt := 11) S.1 S.2.1 dX12_renew_5 (by decide) (fun hc => ?_) (fun hc => ?_)
  · have hf := itf hf hc
    refine lv_aload_n S.1 S.2.1 dX12_renew_11 rfl (lv_at hl 0 rfl) ?_
    refine mg_WayLeavesModel_kindOf S hw kf_X12_163 dX12_renew_12 ?_
    refine lv_iload_n S.1 S.2.1 dX12_renew_15 rfl (lv_at hl 1 rfl) ?_
    obtain ⟨h1, hf⟩ := gd_ix hf
    refine g_iald S hw 22 0 me_22 rfl h1 dX12_renew_16 ?_
    refine lv_iconst (v := 4) S.1 S.2.1 dX12_renew_17 (by decide) ?_
    refine lv_icmp_ne (tgt := 24) S.1 S.2.1 dX12_renew_18 (by decide) (fun hc => ?_) (fun hc => ?_)
    · have hf := itf hf hc
      refine lv_aload_n S.1 S.2.1 dX12_renew_24 rfl (lv_at hl 0 rfl) ?_
      refine mg_WayLeavesModel_renewed S hw kf_X12_181 dX12_renew_25 ?_
      refine lv_iload_n S.1 S.2.1 dX12_renew_28 rfl (lv_at hl 1 rfl) ?_
      obtain ⟨h2, hf⟩ := gd_ix hf
      refine g_iald S hw 27 0 me_27 rfl h2 dX12_renew_29 ?_
      refine lv_iconst (v := 5) S.1 S.2.1 dX12_renew_30 (by decide) ?_
      refine lv_icmp_ne (tgt := 37) S.1 S.2.1 dX12_renew_31 (by decide) (fun hc => ?_) (fun hc => ?_)
      · have hf := itf hf hc
        refine lv_aload_n S.1 S.2.1 dX12_renew_37 rfl (lv_at hl 0 rfl) ?_
        refine mg_WayLeavesModel_renewed S hw kf_X12_181 dX12_renew_38 ?_
        refine lv_iload_n S.1 S.2.1 dX12_renew_41 rfl (lv_at hl 1 rfl) ?_
        refine lv_dup2_11 S.1 S.2.1 dX12_renew_42 rfl rfl ?_
        obtain ⟨h3, hf⟩ := gd_ix hf
        refine g_iald S hw 27 0 me_27 rfl h3 dX12_renew_43 ?_
        refine lv_iconst (v := 1) S.1 S.2.1 dX12_renew_44 (by decide) ?_
        refine lv_iadd S.1 S.2.1 dX12_renew_45 ?_
        obtain ⟨h4, hf⟩ := gd_ix hf
        obtain ⟨σ5, e6⟩ : ∃ z : St, z = aW σ 27 x1 ((aR σ 27 x1) + (1 : Int32)) := ⟨_, rfl⟩
        have hf := nm_s e6 hf
        refine g_iast (σ' := σ5) S hw 27 0 me_27 rfl (by rw [e6]; exact ms_27 _) h4 dX12_renew_46 (fun H locs hw => ?_)
        refine lv_aload_n S.1 S.2.1 dX12_renew_47 rfl (lv_at hl 0 rfl) ?_
        refine mg_WayLeavesModel_renewed S hw kf_X12_181 dX12_renew_48 ?_
        refine lv_iload_n S.1 S.2.1 dX12_renew_51 rfl (lv_at hl 1 rfl) ?_
        obtain ⟨h7, hf⟩ := gd_ix hf
        refine g_iald S hw 27 0 me_27 rfl h7 dX12_renew_52 ?_
        exact g_iret (MWd_ok D ad cs) S hr hlk hw dX12_renew_53 (Prod.mk.inj (Option.some.inj hf)).1 (Prod.mk.inj (Option.some.inj hf)).2
      · have hf := itt hf hc
        refine lv_bipush (v := -3) S.1 S.2.1 dX12_renew_34 (by decide) ?_
        exact g_iret (MWd_ok D ad cs) S hr hlk hw dX12_renew_36 (Prod.mk.inj (Option.some.inj hf)).1 (Prod.mk.inj (Option.some.inj hf)).2
    · have hf := itt hf hc
      refine lv_bipush (v := -13) S.1 S.2.1 dX12_renew_21 (by decide) ?_
      exact g_iret (MWd_ok D ad cs) S hr hlk hw dX12_renew_23 (Prod.mk.inj (Option.some.inj hf)).1 (Prod.mk.inj (Option.some.inj hf)).2
  · have hf := itt hf hc
    refine lv_bipush (v := -2) S.1 S.2.1 dX12_renew_8 (by decide) ?_
    exact g_iret (MWd_ok D ad cs) S hr hlk hw dX12_renew_10 (Prod.mk.inj (Option.some.inj hf)).1 (Prod.mk.inj (Option.some.inj hf)).2
def fX12_appeal (N : Nat) (σ : St) (x1 : Int32) : Option (Int32 × St) :=
  if (fX12_isLeave σ x1) = 0 then (some ((-2 : Int32), σ)) else (if ix x1 24 = true then if (aR σ 22 x1) = (4 : Int32) then (if ix x1 24 = true then if (aR σ 28 x1) = 0 then (if ix x1 24 = true then if (σ.1 0) < (aR σ 25 x1) then (some ((-3 : Int32), σ)) else (if ix x1 24 = true then if ((σ.1 0) - (aR σ 25 x1)) ≤ (42 : Int32) then (if ix x1 24 = true then nm (aW σ 28 x1 (vp_nar .boolean (1 : Int32))) fun σ6 => some ((1 : Int32), σ6) else none) else (some ((-3 : Int32), σ)) else none) else none) else (some ((-3 : Int32), σ)) else none) else (some ((-13 : Int32), σ)) else none)
set_option maxHeartbeats 2000000 in
set_option maxRecDepth 20000 in
theorem tX12_appeal {r : Int32} {σ' : St} {N : Nat} {σ : St} {x1 : Int32} (hf : fX12_appeal N σ x1 = some (r, σ')) : CI l (MWd D ad cs) yX12_appeal cX12_appeal 2 (some .int) 1 21 [.ref (ad 0), .int x1] σ r σ' := by
  refine CI.of (by decide) (Nat.le_of_ble_eq_true rfl) ?_
  intro p e s m below meth c ls S hr hlk hw hl
  have hl : lv_has ls 2 [(0, .ref (ad 0)), (1, .int x1)] := hl
  unfold fX12_appeal at hf
  refine lv_aload_n S.1 S.2.1 dX12_appeal_0 rfl (lv_at hl 0 rfl) ?_
  refine lv_iload_n S.1 S.2.1 dX12_appeal_1 rfl (lv_at hl 1 rfl) ?_
  refine g_Vi (rest := []) (MWd_ok D ad cs) S hw (tX12_isLeave (ad := ad) (cs := cs) (σ := σ) rfl) kt_X12_157 0 me_0 rfl rfl ⟨Nat.le_of_ble_eq_true rfl, Nat.le_of_ble_eq_true rfl⟩ rfl hl.1 rfl (Nat.le_of_ble_eq_true rfl) ⟨Nat.zero_le _, Nat.zero_le _⟩ dX12_appeal_2 (fun H locs hw => ?_)
  refine lv_if_ne (tgt := 11) S.1 S.2.1 dX12_appeal_5 (by decide) (fun hc => ?_) (fun hc => ?_)
  · have hf := itf hf hc
    refine lv_aload_n S.1 S.2.1 dX12_appeal_11 rfl (lv_at hl 0 rfl) ?_
    refine mg_WayLeavesModel_kindOf S hw kf_X12_163 dX12_appeal_12 ?_
    refine lv_iload_n S.1 S.2.1 dX12_appeal_15 rfl (lv_at hl 1 rfl) ?_
    obtain ⟨h1, hf⟩ := gd_ix hf
    refine g_iald S hw 22 0 me_22 rfl h1 dX12_appeal_16 ?_
    refine lv_iconst (v := 4) S.1 S.2.1 dX12_appeal_17 (by decide) ?_
    refine lv_icmp_eq (tgt := 24) S.1 S.2.1 dX12_appeal_18 (by decide) (fun hc => ?_) (fun hc => ?_)
    · have hf := itt hf hc
      refine lv_aload_n S.1 S.2.1 dX12_appeal_24 rfl (lv_at hl 0 rfl) ?_
      refine mg_WayLeavesModel_isAppealed S hw kf_X12_200 dX12_appeal_25 ?_
      refine lv_iload_n S.1 S.2.1 dX12_appeal_28 rfl (lv_at hl 1 rfl) ?_
      obtain ⟨h2, hf⟩ := gd_ix hf
      refine g_zald S hw 28 2 me_28 rfl h2 dX12_appeal_29 ?_
      refine lv_if_ne (tgt := 62) S.1 S.2.1 dX12_appeal_30 (by decide) (fun hc => ?_) (fun hc => ?_)
      · have hf := itf hf hc
        refine lv_bipush (v := -3) S.1 S.2.1 dX12_appeal_62 (by decide) ?_
        exact g_iret (MWd_ok D ad cs) S hr hlk hw dX12_appeal_64 (Prod.mk.inj (Option.some.inj hf)).1 (Prod.mk.inj (Option.some.inj hf)).2
      · have hf := itt hf hc
        refine lv_aload_n S.1 S.2.1 dX12_appeal_33 rfl (lv_at hl 0 rfl) ?_
        refine mg_WayLeavesModel_today S hw kf_X12_15 dX12_appeal_34 ?_
        refine lv_aload_n S.1 S.2.1 dX12_appeal_37 rfl (lv_at hl 0 rfl) ?_
        refine mg_WayLeavesModel_begins2 S hw kf_X12_169 dX12_appeal_38 ?_
        refine lv_iload_n S.1 S.2.1 dX12_appeal_41 rfl (lv_at hl 1 rfl) ?_
        obtain ⟨h3, hf⟩ := gd_ix hf
        refine g_iald S hw 25 0 me_25 rfl h3 dX12_appeal_42 ?_
        refine lv_icmp_lt (tgt := 62) S.1 S.2.1 dX12_appeal_43 (by decide) (fun hc => ?_) (fun hc => ?_)
        · have hf := itt hf hc
          refine lv_bipush (v := -3) S.1 S.2.1 dX12_appeal_62 (by decide) ?_
          exact g_iret (MWd_ok D ad cs) S hr hlk hw dX12_appeal_64 (Prod.mk.inj (Option.some.inj hf)).1 (Prod.mk.inj (Option.some.inj hf)).2
        · have hf := itf hf hc
          refine lv_aload_n S.1 S.2.1 dX12_appeal_46 rfl (lv_at hl 0 rfl) ?_
          refine mg_WayLeavesModel_today S hw kf_X12_15 dX12_appeal_47 ?_
          refine lv_aload_n S.1 S.2.1 dX12_appeal_50 rfl (lv_at hl 0 rfl) ?_
          refine mg_WayLeavesModel_begins2 S hw kf_X12_169 dX12_appeal_51 ?_
          refine lv_iload_n S.1 S.2.1 dX12_appeal_54 rfl (lv_at hl 1 rfl) ?_
          obtain ⟨h4, hf⟩ := gd_ix hf
          refine g_iald S hw 25 0 me_25 rfl h4 dX12_appeal_55 ?_
          refine lv_isub S.1 S.2.1 dX12_appeal_56 ?_
          refine lv_bipush (v := 42) S.1 S.2.1 dX12_appeal_57 (by decide) ?_
          refine lv_icmp_le (tgt := 65) S.1 S.2.1 dX12_appeal_59 (by decide) (fun hc => ?_) (fun hc => ?_)
          · have hf := itt hf hc
            refine lv_aload_n S.1 S.2.1 dX12_appeal_65 rfl (lv_at hl 0 rfl) ?_
            refine mg_WayLeavesModel_isAppealed S hw kf_X12_200 dX12_appeal_66 ?_
            refine lv_iload_n S.1 S.2.1 dX12_appeal_69 rfl (lv_at hl 1 rfl) ?_
            refine lv_iconst (v := 1) S.1 S.2.1 dX12_appeal_70 (by decide) ?_
            obtain ⟨h5, hf⟩ := gd_ix hf
            obtain ⟨σ6, e7⟩ : ∃ z : St, z = aW σ 28 x1 (vp_nar .boolean (1 : Int32)) := ⟨_, rfl⟩
            have hf := nm_s e7 hf
            refine g_zast (σ' := σ6) S hw 28 2 me_28 rfl (by rw [e7]; exact ms_28 _) h5 dX12_appeal_71 (fun H locs hw => ?_)
            refine lv_iconst (v := 1) S.1 S.2.1 dX12_appeal_72 (by decide) ?_
            exact g_iret (MWd_ok D ad cs) S hr hlk hw dX12_appeal_73 (Prod.mk.inj (Option.some.inj hf)).1 (Prod.mk.inj (Option.some.inj hf)).2
          · have hf := itf hf hc
            refine lv_bipush (v := -3) S.1 S.2.1 dX12_appeal_62 (by decide) ?_
            exact g_iret (MWd_ok D ad cs) S hr hlk hw dX12_appeal_64 (Prod.mk.inj (Option.some.inj hf)).1 (Prod.mk.inj (Option.some.inj hf)).2
    · have hf := itf hf hc
      refine lv_bipush (v := -13) S.1 S.2.1 dX12_appeal_21 (by decide) ?_
      exact g_iret (MWd_ok D ad cs) S hr hlk hw dX12_appeal_23 (Prod.mk.inj (Option.some.inj hf)).1 (Prod.mk.inj (Option.some.inj hf)).2
  · have hf := itt hf hc
    refine lv_bipush (v := -2) S.1 S.2.1 dX12_appeal_8 (by decide) ?_
    exact g_iret (MWd_ok D ad cs) S hr hlk hw dX12_appeal_10 (Prod.mk.inj (Option.some.inj hf)).1 (Prod.mk.inj (Option.some.inj hf)).2
def fX12_hangs_27 (N : Nat) (σ : St) (x2 : Int32) (x3 : Int32) : Option Int32 :=
  if x3 = x2 then (some (1 : Int32)) else (some (0 : Int32))
set_option maxHeartbeats 2000000 in
set_option maxRecDepth 20000 in
theorem wX12_hangs_27 {r : Int32} {N : Nat} {σ : St} (S : CallFix p m c cX12_hangs 4 s av BG RX12) (hr : meth.sig.returnType = some .boolean) (hlk : meth.locks = false)  {x2 : Int32} {x3 : Int32} {ls : Array Slot} {H : Heap} {locs : List Loc} (hw : Hw (MWd D ad cs) s σ H locs) (hl : lv_has ls 4 [(0, .ref (ad 0)), (2, .int x2), (3, .int x3)]) (hf : fX12_hangs_27 N σ x2 x3 = some r) : W p l e (RM 0 0) s m av below meth c H locs 0 0 (QI below (MWd D ad cs) av s r σ) (F0 m 27 ls []) := by
  unfold fX12_hangs_27 at hf
  refine lv_iload_n S.1 S.2.1 dX12_hangs_27 rfl (lv_at hl 2 rfl) ?_
  refine lv_iload_n S.1 S.2.1 dX12_hangs_28 rfl (lv_at hl 1 rfl) ?_
  refine lv_icmp_ne (tgt := 36) S.1 S.2.1 dX12_hangs_29 (by decide) (fun hc => ?_) (fun hc => ?_)
  · have hf := itf hf hc
    refine lv_iconst (v := 0) S.1 S.2.1 dX12_hangs_36 (by decide) ?_
    exact g_zret (MWd_ok D ad cs) S hr hlk hw rfl dX12_hangs_37 (Option.some.inj hf) rfl
  · have hf := itt hf hc
    refine lv_iconst (v := 1) S.1 S.2.1 dX12_hangs_32 (by decide) ?_
    refine lv_goto (tgt := 37) S.1 S.2.1 dX12_hangs_33 (by decide) ?_
    exact g_zret (MWd_ok D ad cs) S hr hlk hw rfl dX12_hangs_37 (Option.some.inj hf) rfl
def fX12_hangs_7b (N : Nat) (σ : St) (k7 : Int32 → Int32 → Option Int32) (x2 : Int32) (x3 : Int32) : Option Int32 :=
  if x3 = (-1 : Int32) then (fX12_hangs_27 N σ x2 x3) else (if x3 = x2 then (fX12_hangs_27 N σ x2 x3) else (if ix x3 24 = true then nm (aR σ 26 x3) fun v5 => k7 x2 v5 else none))
set_option maxHeartbeats 2000000 in
set_option maxRecDepth 20000 in
theorem wX12_hangs_7b {r : Int32} {N : Nat} {σ : St} (S : CallFix p m c cX12_hangs 4 s av BG RX12) (hr : meth.sig.returnType = some .boolean) (hlk : meth.locks = false) {k7 : Int32 → Int32 → Option Int32} (hk7 : ∀ (x2 : Int32) (x3 : Int32) (ls : Array Slot) (H : Heap) (locs : List Loc), Hw (MWd D ad cs) s σ H locs → lv_has ls 4 [(0, .ref (ad 0)), (2, .int x2), (3, .int x3)] → k7 x2 x3 = some r → W p l e (RM 0 0) s m av below meth c H locs 0 0 (QI below (MWd D ad cs) av s r σ) (F0 m 7 ls []))  {x2 : Int32} {x3 : Int32} {ls : Array Slot} {H : Heap} {locs : List Loc} (hw : Hw (MWd D ad cs) s σ H locs) (hl : lv_has ls 4 [(0, .ref (ad 0)), (2, .int x2), (3, .int x3)]) (hf : fX12_hangs_7b N σ k7 x2 x3 = some r) : W p l e (RM 0 0) s m av below meth c H locs 0 0 (QI below (MWd D ad cs) av s r σ) (F0 m 7 ls []) := by
  unfold fX12_hangs_7b at hf
  refine lv_iload_n S.1 S.2.1 dX12_hangs_7 rfl (lv_at hl 2 rfl) ?_
  refine lv_iconst (v := -1) S.1 S.2.1 dX12_hangs_8 (by decide) ?_
  refine lv_icmp_eq (tgt := 27) S.1 S.2.1 dX12_hangs_9 (by decide) (fun hc => ?_) (fun hc => ?_)
  · have hf := itt hf hc
    exact wX12_hangs_27 S hr hlk hw (lv_sub hl [0, 1, 2] rfl) hf
  · have hf := itf hf hc
    refine lv_iload_n S.1 S.2.1 dX12_hangs_12 rfl (lv_at hl 2 rfl) ?_
    refine lv_iload_n S.1 S.2.1 dX12_hangs_13 rfl (lv_at hl 1 rfl) ?_
    refine lv_icmp_eq (tgt := 27) S.1 S.2.1 dX12_hangs_14 (by decide) (fun hc => ?_) (fun hc => ?_)
    · have hf := itt hf hc
      exact wX12_hangs_27 S hr hlk hw (lv_sub hl [0, 1, 2] rfl) hf
    · have hf := itf hf hc
      refine lv_aload_n S.1 S.2.1 dX12_hangs_17 rfl (lv_at hl 0 rfl) ?_
      refine mg_WayLeavesModel_hangsOn S hw kf_X12_172 dX12_hangs_18 ?_
      refine lv_iload_n S.1 S.2.1 dX12_hangs_21 rfl (lv_at hl 2 rfl) ?_
      obtain ⟨h4, hf⟩ := gd_ix hf
      refine g_iald S hw 26 0 me_26 rfl h4 dX12_hangs_22 ?_
      refine lv_topi (fun v5 e6 => ?_)
      have hf := nm_s e6 hf
      refine lv_istore_n (lv' := [(3, .int v5), (0, .ref (ad 0)), (2, .int x2)]) S.1 S.2.1 dX12_hangs_23 rfl hl (by decide) rfl (fun ls hl => ?_)
      refine lv_goto (tgt := 7) S.1 S.2.1 dX12_hangs_24 (by decide) ?_
      exact hk7 x2 v5 _ _ _ hw (lv_sub hl [1, 2, 0] rfl) hf
def fX12_hangs_7 (N : Nat) (σ : St) : Nat → Int32 → Int32 → Option Int32
  | 0 => fun _ _ => none
  | n + 1 => fX12_hangs_7b N σ (fX12_hangs_7 N σ n)
theorem wX12_hangs_7 {r : Int32} {N : Nat} {σ : St} (S : CallFix p m c cX12_hangs 4 s av BG RX12) (hr : meth.sig.returnType = some .boolean) (hlk : meth.locks = false) : ∀ (n : Nat), ∀ (x2 : Int32) (x3 : Int32) (ls : Array Slot) (H : Heap) (locs : List Loc), Hw (MWd D ad cs) s σ H locs → lv_has ls 4 [(0, .ref (ad 0)), (2, .int x2), (3, .int x3)] → fX12_hangs_7 N σ n x2 x3 = some r → W p l e (RM 0 0) s m av below meth c H locs 0 0 (QI below (MWd D ad cs) av s r σ) (F0 m 7 ls []) := by
  intro n
  induction n with
  | zero => intro _ _ ls H locs hw hl hf; cases hf
  | succ n ih => intro _ _ ls H locs hw hl hf; exact wX12_hangs_7b S hr hlk ih hw hl hf
def fX12_hangs (N : Nat) (σ : St) (x1 : Int32) (x2 : Int32) : Option Int32 :=
  if ix x1 24 = true then nm (aR σ 26 x1) fun v2 => fX12_hangs_7 N σ N x2 v2 else none
set_option maxHeartbeats 2000000 in
set_option maxRecDepth 20000 in
theorem tX12_hangs {r : Int32} {N : Nat} {σ : St} {x1 : Int32} {x2 : Int32} (hf : fX12_hangs N σ x1 x2 = some r) : CI l (MWd D ad cs) yX12_hangs cX12_hangs 4 (some .boolean) 0 0 [.ref (ad 0), .int x1, .int x2] σ r σ := by
  refine CI.of (by decide) (Nat.le_of_ble_eq_true rfl) ?_
  intro p e s m below meth c ls S hr hlk hw hl
  have hl : lv_has ls 4 [(0, .ref (ad 0)), (1, .int x1), (2, .int x2)] := hl
  unfold fX12_hangs at hf
  refine lv_aload_n S.1 S.2.1 dX12_hangs_0 rfl (lv_at hl 0 rfl) ?_
  refine mg_WayLeavesModel_hangsOn S hw kf_X12_172 dX12_hangs_1 ?_
  refine lv_iload_n S.1 S.2.1 dX12_hangs_4 rfl (lv_at hl 1 rfl) ?_
  obtain ⟨h1, hf⟩ := gd_ix hf
  refine g_iald S hw 26 0 me_26 rfl h1 dX12_hangs_5 ?_
  refine lv_topi (fun v2 e3 => ?_)
  have hf := nm_s e3 hf
  refine lv_istore_n (lv' := [(3, .int v2), (0, .ref (ad 0)), (1, .int x1), (2, .int x2)]) S.1 S.2.1 dX12_hangs_6 rfl hl (by decide) rfl (fun ls hl => ?_)
  exact wX12_hangs_7 S hr hlk N x2 v2 _ _ _ hw (lv_sub hl [1, 3, 0] rfl) hf
def fX12_undo_100 (N : Nat) (k75 : St → Int32 → Int32 → Int32 → Option (Int32 × St)) (σ : St) (x1 : Int32) (x4 : Int32) (y0 : Int32) (y1 : Int32) : Option (Int32 × St) :=
  nm (y0 + y1) fun v10 => nm (x4 + (1 : Int32)) fun v12 => k75 σ x1 v10 v12
set_option maxHeartbeats 2000000 in
set_option maxRecDepth 20000 in
theorem wX12_undo_100 {r : Int32} {σ' : St} {N : Nat} (S : CallFix p m c cX12_undo 5 s av BG RX12) (hr : meth.sig.returnType = some .int) (hlk : meth.locks = false) {k75 : St → Int32 → Int32 → Int32 → Option (Int32 × St)} (hk75 : ∀ (σ : St) (x1 : Int32) (x3 : Int32) (x4 : Int32) (ls : Array Slot) (H : Heap) (locs : List Loc), Hw (MWd D ad cs) s σ H locs → lv_has ls 5 [(0, .ref (ad 0)), (1, .int x1), (3, .int x3), (4, .int x4)] → k75 σ x1 x3 x4 = some (r, σ') → W p l e (RM 2 45) s m av below meth c H locs 0 0 (QI below (MWd D ad cs) av s r σ') (F0 m 75 ls []))  {σ : St} {x1 : Int32} {x4 : Int32} {y0 : Int32} {y1 : Int32} {ls : Array Slot} {H : Heap} {locs : List Loc} (hw : Hw (MWd D ad cs) s σ H locs) (hl : lv_has ls 5 [(0, .ref (ad 0)), (1, .int x1), (4, .int x4)]) (hf : fX12_undo_100 N k75 σ x1 x4 y0 y1 = some (r, σ')) : W p l e (RM 2 45) s m av below meth c H locs 0 0 (QI below (MWd D ad cs) av s r σ') (F0 m 100 ls [.int y1, .int y0]) := by
  unfold fX12_undo_100 at hf
  refine lv_iadd S.1 S.2.1 dX12_undo_100 ?_
  refine lv_topi (fun v10 e11 => ?_)
  have hf := nm_s e11 hf
  refine lv_istore_n (lv' := [(3, .int v10), (0, .ref (ad 0)), (1, .int x1), (4, .int x4)]) S.1 S.2.1 dX12_undo_101 rfl hl (by decide) rfl (fun ls hl => ?_)
  obtain ⟨v12, e13⟩ : ∃ z : Int32, z = x4 + (1 : Int32) := ⟨_, rfl⟩
  have hf := nm_s e13 hf
  refine lv_iinc (v := v12) (lv' := [(4, .int v12), (3, .int v10), (0, .ref (ad 0)), (1, .int x1)]) S.1 S.2.1 dX12_undo_102 hl (k := 3) rfl (by rw [e13]; rfl) (by decide) rfl (fun ls hl => ?_)
  refine lv_goto (tgt := 75) S.1 S.2.1 dX12_undo_105 (by decide) ?_
  exact hk75 σ x1 v10 v12 _ _ _ hw (lv_sub hl [2, 3, 1, 0] rfl) hf
def fX12_undo_75b (N : Nat) (k75 : St → Int32 → Int32 → Int32 → Option (Int32 × St)) (σ : St) (x1 : Int32) (x3 : Int32) (x4 : Int32) : Option (Int32 × St) :=
  if (σ.1 4) ≤ x4 then (some (x3, σ)) else (bd (fX12_hangs N σ x4 x1) fun r8 => if r8 = 0 then (fX12_undo_100 N k75 σ x1 x4 x3 (0 : Int32)) else (fX12_undo_100 N k75 σ x1 x4 x3 (1 : Int32)))
set_option maxHeartbeats 2000000 in
set_option maxRecDepth 20000 in
theorem wX12_undo_75b {r : Int32} {σ' : St} {N : Nat} (S : CallFix p m c cX12_undo 5 s av BG RX12) (hr : meth.sig.returnType = some .int) (hlk : meth.locks = false) {k75 : St → Int32 → Int32 → Int32 → Option (Int32 × St)} (hk75 : ∀ (σ : St) (x1 : Int32) (x3 : Int32) (x4 : Int32) (ls : Array Slot) (H : Heap) (locs : List Loc), Hw (MWd D ad cs) s σ H locs → lv_has ls 5 [(0, .ref (ad 0)), (1, .int x1), (3, .int x3), (4, .int x4)] → k75 σ x1 x3 x4 = some (r, σ') → W p l e (RM 2 45) s m av below meth c H locs 0 0 (QI below (MWd D ad cs) av s r σ') (F0 m 75 ls []))  {σ : St} {x1 : Int32} {x3 : Int32} {x4 : Int32} {ls : Array Slot} {H : Heap} {locs : List Loc} (hw : Hw (MWd D ad cs) s σ H locs) (hl : lv_has ls 5 [(0, .ref (ad 0)), (1, .int x1), (3, .int x3), (4, .int x4)]) (hf : fX12_undo_75b N k75 σ x1 x3 x4 = some (r, σ')) : W p l e (RM 2 45) s m av below meth c H locs 0 0 (QI below (MWd D ad cs) av s r σ') (F0 m 75 ls []) := by
  unfold fX12_undo_75b at hf
  refine lv_iload S.1 S.2.1 dX12_undo_75 (lv_at hl 3 rfl) ?_
  refine lv_aload_n S.1 S.2.1 dX12_undo_77 rfl (lv_at hl 0 rfl) ?_
  refine mg_WayLeavesModel_leaves S hw kf_X12_150 dX12_undo_78 ?_
  refine lv_icmp_ge (tgt := 108) S.1 S.2.1 dX12_undo_81 (by decide) (fun hc => ?_) (fun hc => ?_)
  · have hf := itt hf hc
    refine lv_iload_n S.1 S.2.1 dX12_undo_108 rfl (lv_at hl 2 rfl) ?_
    exact g_iret (MWd_ok D ad cs) S hr hlk hw dX12_undo_109 (Prod.mk.inj (Option.some.inj hf)).1 (Prod.mk.inj (Option.some.inj hf)).2
  · have hf := itf hf hc
    refine lv_iload_n S.1 S.2.1 dX12_undo_84 rfl (lv_at hl 2 rfl) ?_
    refine lv_aload_n S.1 S.2.1 dX12_undo_85 rfl (lv_at hl 0 rfl) ?_
    refine lv_iload S.1 S.2.1 dX12_undo_86 (lv_at hl 3 rfl) ?_
    refine lv_iload_n S.1 S.2.1 dX12_undo_88 rfl (lv_at hl 1 rfl) ?_
    obtain ⟨r8, g9, hf⟩ := bd_s hf
    refine g_Vi (rest := [.int x3]) (MWd_ok D ad cs) S hw (tX12_hangs g9) kt_X12_204 0 me_0 rfl rfl ⟨Nat.le_of_ble_eq_true rfl, Nat.le_of_ble_eq_true rfl⟩ rfl hl.1 rfl (Nat.le_of_ble_eq_true rfl) ⟨Nat.zero_le _, Nat.zero_le _⟩ dX12_undo_89 (fun H locs hw => ?_)
    refine lv_if_eq (tgt := 99) S.1 S.2.1 dX12_undo_92 (by decide) (fun hc => ?_) (fun hc => ?_)
    · have hf := itt hf hc
      refine lv_iconst (v := 0) S.1 S.2.1 dX12_undo_99 (by decide) ?_
      exact wX12_undo_100 S hr hlk hk75 hw (lv_sub hl [0, 1, 3] rfl) hf
    · have hf := itf hf hc
      refine lv_iconst (v := 1) S.1 S.2.1 dX12_undo_95 (by decide) ?_
      refine lv_goto (tgt := 100) S.1 S.2.1 dX12_undo_96 (by decide) ?_
      exact wX12_undo_100 S hr hlk hk75 hw (lv_sub hl [0, 1, 3] rfl) hf
def fX12_undo_75 (N : Nat) : Nat → St → Int32 → Int32 → Int32 → Option (Int32 × St)
  | 0 => fun _ _ _ _ => none
  | n + 1 => fX12_undo_75b N (fX12_undo_75 N n)
theorem wX12_undo_75 {r : Int32} {σ' : St} {N : Nat} (S : CallFix p m c cX12_undo 5 s av BG RX12) (hr : meth.sig.returnType = some .int) (hlk : meth.locks = false) : ∀ (n : Nat), ∀ (σ : St) (x1 : Int32) (x3 : Int32) (x4 : Int32) (ls : Array Slot) (H : Heap) (locs : List Loc), Hw (MWd D ad cs) s σ H locs → lv_has ls 5 [(0, .ref (ad 0)), (1, .int x1), (3, .int x3), (4, .int x4)] → fX12_undo_75 N n σ x1 x3 x4 = some (r, σ') → W p l e (RM 2 45) s m av below meth c H locs 0 0 (QI below (MWd D ad cs) av s r σ') (F0 m 75 ls []) := by
  intro n
  induction n with
  | zero => intro _ _ _ _ ls H locs hw hl hf; cases hf
  | succ n ih => intro _ _ _ _ ls H locs hw hl hf; exact wX12_undo_75b S hr hlk ih hw hl hf
def fX12_undo (N : Nat) (σ : St) (x1 : Int32) (x2 : Int32) : Option (Int32 × St) :=
  if (fX12_isLeave σ x1) = 0 then (some ((-2 : Int32), σ)) else (if (fX12_isDay x2) = 0 then (some ((-2 : Int32), σ)) else (if ix x1 24 = true then if (aR σ 25 x1) ≤ x2 then (if ix x1 24 = true then if (aR σ 22 x1) = (4 : Int32) then (if ix x1 24 = true then if (aR σ 28 x1) = 0 then (some ((-3 : Int32), σ)) else (if ix x1 24 = true then if (aR σ 29 x1) = (-1 : Int32) then (if ix x1 24 = true then nm (aW σ 29 x1 x2) fun σ6 => fX12_undo_75 N N σ6 x1 (0 : Int32) (0 : Int32) else none) else (some ((-3 : Int32), σ)) else none) else none) else (some ((-13 : Int32), σ)) else none) else (some ((-2 : Int32), σ)) else none))
set_option maxHeartbeats 2000000 in
set_option maxRecDepth 20000 in
theorem tX12_undo {r : Int32} {σ' : St} {N : Nat} {σ : St} {x1 : Int32} {x2 : Int32} (hf : fX12_undo N σ x1 x2 = some (r, σ')) : CI l (MWd D ad cs) yX12_undo cX12_undo 5 (some .int) 2 45 [.ref (ad 0), .int x1, .int x2] σ r σ' := by
  refine CI.of (by decide) (Nat.le_of_ble_eq_true rfl) ?_
  intro p e s m below meth c ls S hr hlk hw hl
  have hl : lv_has ls 5 [(0, .ref (ad 0)), (1, .int x1), (2, .int x2)] := hl
  unfold fX12_undo at hf
  refine lv_aload_n S.1 S.2.1 dX12_undo_0 rfl (lv_at hl 0 rfl) ?_
  refine lv_iload_n S.1 S.2.1 dX12_undo_1 rfl (lv_at hl 1 rfl) ?_
  refine g_Vi (rest := []) (MWd_ok D ad cs) S hw (tX12_isLeave (ad := ad) (cs := cs) (σ := σ) rfl) kt_X12_157 0 me_0 rfl rfl ⟨Nat.le_of_ble_eq_true rfl, Nat.le_of_ble_eq_true rfl⟩ rfl hl.1 rfl (Nat.le_of_ble_eq_true rfl) ⟨Nat.zero_le _, Nat.zero_le _⟩ dX12_undo_2 (fun H locs hw => ?_)
  refine lv_if_eq (tgt := 25) S.1 S.2.1 dX12_undo_5 (by decide) (fun hc => ?_) (fun hc => ?_)
  · have hf := itt hf hc
    refine lv_bipush (v := -2) S.1 S.2.1 dX12_undo_25 (by decide) ?_
    exact g_iret (MWd_ok D ad cs) S hr hlk hw dX12_undo_27 (Prod.mk.inj (Option.some.inj hf)).1 (Prod.mk.inj (Option.some.inj hf)).2
  · have hf := itf hf hc
    refine lv_iload_n S.1 S.2.1 dX12_undo_8 rfl (lv_at hl 2 rfl) ?_
    refine g_Si (rest := []) (MWd_ok D ad cs) S hw (tX12_isDay (ad := ad) (cs := cs) (σ := σ) rfl) kt_X12_39 ⟨Nat.le_of_ble_eq_true rfl, Nat.le_of_ble_eq_true rfl⟩ rfl hl.1 rfl (Nat.le_of_ble_eq_true rfl) ⟨Nat.zero_le _, Nat.zero_le _⟩ dX12_undo_9 (fun H locs hw => ?_)
    refine lv_if_eq (tgt := 25) S.1 S.2.1 dX12_undo_12 (by decide) (fun hc => ?_) (fun hc => ?_)
    · have hf := itt hf hc
      refine lv_bipush (v := -2) S.1 S.2.1 dX12_undo_25 (by decide) ?_
      exact g_iret (MWd_ok D ad cs) S hr hlk hw dX12_undo_27 (Prod.mk.inj (Option.some.inj hf)).1 (Prod.mk.inj (Option.some.inj hf)).2
    · have hf := itf hf hc
      refine lv_iload_n S.1 S.2.1 dX12_undo_15 rfl (lv_at hl 2 rfl) ?_
      refine lv_aload_n S.1 S.2.1 dX12_undo_16 rfl (lv_at hl 0 rfl) ?_
      refine mg_WayLeavesModel_begins2 S hw kf_X12_169 dX12_undo_17 ?_
      refine lv_iload_n S.1 S.2.1 dX12_undo_20 rfl (lv_at hl 1 rfl) ?_
      obtain ⟨h1, hf⟩ := gd_ix hf
      refine g_iald S hw 25 0 me_25 rfl h1 dX12_undo_21 ?_
      refine lv_icmp_ge (tgt := 28) S.1 S.2.1 dX12_undo_22 (by decide) (fun hc => ?_) (fun hc => ?_)
      · have hf := itt hf hc
        refine lv_aload_n S.1 S.2.1 dX12_undo_28 rfl (lv_at hl 0 rfl) ?_
        refine mg_WayLeavesModel_kindOf S hw kf_X12_163 dX12_undo_29 ?_
        refine lv_iload_n S.1 S.2.1 dX12_undo_32 rfl (lv_at hl 1 rfl) ?_
        obtain ⟨h2, hf⟩ := gd_ix hf
        refine g_iald S hw 22 0 me_22 rfl h2 dX12_undo_33 ?_
        refine lv_iconst (v := 4) S.1 S.2.1 dX12_undo_34 (by decide) ?_
        refine lv_icmp_eq (tgt := 41) S.1 S.2.1 dX12_undo_35 (by decide) (fun hc => ?_) (fun hc => ?_)
        · have hf := itt hf hc
          refine lv_aload_n S.1 S.2.1 dX12_undo_41 rfl (lv_at hl 0 rfl) ?_
          refine mg_WayLeavesModel_isAppealed S hw kf_X12_200 dX12_undo_42 ?_
          refine lv_iload_n S.1 S.2.1 dX12_undo_45 rfl (lv_at hl 1 rfl) ?_
          obtain ⟨h3, hf⟩ := gd_ix hf
          refine g_zald S hw 28 2 me_28 rfl h3 dX12_undo_46 ?_
          refine lv_if_eq (tgt := 60) S.1 S.2.1 dX12_undo_47 (by decide) (fun hc => ?_) (fun hc => ?_)
          · have hf := itt hf hc
            refine lv_bipush (v := -3) S.1 S.2.1 dX12_undo_60 (by decide) ?_
            exact g_iret (MWd_ok D ad cs) S hr hlk hw dX12_undo_62 (Prod.mk.inj (Option.some.inj hf)).1 (Prod.mk.inj (Option.some.inj hf)).2
          · have hf := itf hf hc
            refine lv_aload_n S.1 S.2.1 dX12_undo_50 rfl (lv_at hl 0 rfl) ?_
            refine mg_WayLeavesModel_undone S hw kf_X12_175 dX12_undo_51 ?_
            refine lv_iload_n S.1 S.2.1 dX12_undo_54 rfl (lv_at hl 1 rfl) ?_
            obtain ⟨h4, hf⟩ := gd_ix hf
            refine g_iald S hw 29 0 me_29 rfl h4 dX12_undo_55 ?_
            refine lv_iconst (v := -1) S.1 S.2.1 dX12_undo_56 (by decide) ?_
            refine lv_icmp_eq (tgt := 63) S.1 S.2.1 dX12_undo_57 (by decide) (fun hc => ?_) (fun hc => ?_)
            · have hf := itt hf hc
              refine lv_aload_n S.1 S.2.1 dX12_undo_63 rfl (lv_at hl 0 rfl) ?_
              refine mg_WayLeavesModel_undone S hw kf_X12_175 dX12_undo_64 ?_
              refine lv_iload_n S.1 S.2.1 dX12_undo_67 rfl (lv_at hl 1 rfl) ?_
              refine lv_iload_n S.1 S.2.1 dX12_undo_68 rfl (lv_at hl 2 rfl) ?_
              obtain ⟨h5, hf⟩ := gd_ix hf
              obtain ⟨σ6, e7⟩ : ∃ z : St, z = aW σ 29 x1 x2 := ⟨_, rfl⟩
              have hf := nm_s e7 hf
              refine g_iast (σ' := σ6) S hw 29 0 me_29 rfl (by rw [e7]; exact ms_29 _) h5 dX12_undo_69 (fun H locs hw => ?_)
              refine lv_iconst (v := 0) S.1 S.2.1 dX12_undo_70 (by decide) ?_
              refine lv_istore_n (lv' := [(3, .int (0 : Int32)), (0, .ref (ad 0)), (1, .int x1), (2, .int x2)]) S.1 S.2.1 dX12_undo_71 rfl hl (by decide) rfl (fun ls hl => ?_)
              refine lv_iconst (v := 0) S.1 S.2.1 dX12_undo_72 (by decide) ?_
              refine lv_istore (lv' := [(4, .int (0 : Int32)), (3, .int (0 : Int32)), (0, .ref (ad 0)), (1, .int x1), (2, .int x2)]) S.1 S.2.1 dX12_undo_73 hl (by decide) rfl (fun ls hl => ?_)
              exact wX12_undo_75 S hr hlk N σ6 x1 (0 : Int32) (0 : Int32) _ _ _ hw (lv_sub hl [2, 3, 1, 0] rfl) hf
            · have hf := itf hf hc
              refine lv_bipush (v := -3) S.1 S.2.1 dX12_undo_60 (by decide) ?_
              exact g_iret (MWd_ok D ad cs) S hr hlk hw dX12_undo_62 (Prod.mk.inj (Option.some.inj hf)).1 (Prod.mk.inj (Option.some.inj hf)).2
        · have hf := itf hf hc
          refine lv_bipush (v := -13) S.1 S.2.1 dX12_undo_38 (by decide) ?_
          exact g_iret (MWd_ok D ad cs) S hr hlk hw dX12_undo_40 (Prod.mk.inj (Option.some.inj hf)).1 (Prod.mk.inj (Option.some.inj hf)).2
      · have hf := itf hf hc
        refine lv_bipush (v := -2) S.1 S.2.1 dX12_undo_25 (by decide) ?_
        exact g_iret (MWd_ok D ad cs) S hr hlk hw dX12_undo_27 (Prod.mk.inj (Option.some.inj hf)).1 (Prod.mk.inj (Option.some.inj hf)).2
def fX12_has (N : Nat) (σ : St) (x1 : Int32) (x2 : Int32) : Option Int32 :=
  if (fX12_isSpan σ x1) = 0 then (some (-2 : Int32)) else (if (fX12_isDay x2) = 0 then (some (-2 : Int32)) else (bd (fX12_hasIn N σ x1 x2) fun r1 => some r1))
set_option maxHeartbeats 2000000 in
set_option maxRecDepth 20000 in
theorem tX12_has {r : Int32} {N : Nat} {σ : St} {x1 : Int32} {x2 : Int32} (hf : fX12_has N σ x1 x2 = some r) : CI l (MWd D ad cs) yX12_has cX12_has 3 (some .int) 4 97 [.ref (ad 0), .int x1, .int x2] σ r σ := by
  refine CI.of (by decide) (Nat.le_of_ble_eq_true rfl) ?_
  intro p e s m below meth c ls S hr hlk hw hl
  have hl : lv_has ls 3 [(0, .ref (ad 0)), (1, .int x1), (2, .int x2)] := hl
  unfold fX12_has at hf
  refine lv_aload_n S.1 S.2.1 dX12_has_0 rfl (lv_at hl 0 rfl) ?_
  refine lv_iload_n S.1 S.2.1 dX12_has_1 rfl (lv_at hl 1 rfl) ?_
  refine g_Vi (rest := []) (MWd_ok D ad cs) S hw (tX12_isSpan (ad := ad) (cs := cs) (σ := σ) rfl) kt_X12_123 0 me_0 rfl rfl ⟨Nat.le_of_ble_eq_true rfl, Nat.le_of_ble_eq_true rfl⟩ rfl hl.1 rfl (Nat.le_of_ble_eq_true rfl) ⟨Nat.zero_le _, Nat.zero_le _⟩ dX12_has_2 (fun H locs hw => ?_)
  refine lv_if_eq (tgt := 24) S.1 S.2.1 dX12_has_5 (by decide) (fun hc => ?_) (fun hc => ?_)
  · have hf := itt hf hc
    refine lv_bipush (v := -2) S.1 S.2.1 dX12_has_24 (by decide) ?_
    exact g_iret (MWd_ok D ad cs) S hr hlk hw dX12_has_26 (Option.some.inj hf) rfl
  · have hf := itf hf hc
    refine lv_iload_n S.1 S.2.1 dX12_has_8 rfl (lv_at hl 2 rfl) ?_
    refine g_Si (rest := []) (MWd_ok D ad cs) S hw (tX12_isDay (ad := ad) (cs := cs) (σ := σ) rfl) kt_X12_39 ⟨Nat.le_of_ble_eq_true rfl, Nat.le_of_ble_eq_true rfl⟩ rfl hl.1 rfl (Nat.le_of_ble_eq_true rfl) ⟨Nat.zero_le _, Nat.zero_le _⟩ dX12_has_9 (fun H locs hw => ?_)
    refine lv_if_eq (tgt := 24) S.1 S.2.1 dX12_has_12 (by decide) (fun hc => ?_) (fun hc => ?_)
    · have hf := itt hf hc
      refine lv_bipush (v := -2) S.1 S.2.1 dX12_has_24 (by decide) ?_
      exact g_iret (MWd_ok D ad cs) S hr hlk hw dX12_has_26 (Option.some.inj hf) rfl
    · have hf := itf hf hc
      refine lv_aload_n S.1 S.2.1 dX12_has_15 rfl (lv_at hl 0 rfl) ?_
      refine lv_iload_n S.1 S.2.1 dX12_has_16 rfl (lv_at hl 1 rfl) ?_
      refine lv_iload_n S.1 S.2.1 dX12_has_17 rfl (lv_at hl 2 rfl) ?_
      obtain ⟨r1, g2, hf⟩ := bd_s hf
      refine g_Vi (rest := []) (MWd_ok D ad cs) S hw (tX12_hasIn g2) kt_X12_207 0 me_0 rfl rfl ⟨Nat.le_of_ble_eq_true rfl, Nat.le_of_ble_eq_true rfl⟩ rfl hl.1 rfl (Nat.le_of_ble_eq_true rfl) ⟨Nat.zero_le _, Nat.zero_le _⟩ dX12_has_18 (fun H locs hw => ?_)
      refine lv_goto (tgt := 26) S.1 S.2.1 dX12_has_21 (by decide) ?_
      exact g_iret (MWd_ok D ad cs) S hr hlk hw dX12_has_26 (Option.some.inj hf) rfl
def fX12_parted_68 (N : Nat) (σ : St) (k5 : Int32 → Int64 → Int32 → Option Int64) (k22 : Int32 → Int64 → Int32 → Int32 → Int32 → Int32 → Option Int64) (x1 : Int32) (x2 : Int64) (x4 : Int32) (x5 : Int32) (x7 : Int32) (y0 : Int32) : Option Int64 :=
  nm (x7 + (-1 : Int32)) fun v23 => k22 x1 x2 x4 x5 y0 v23
set_option maxHeartbeats 2000000 in
set_option maxRecDepth 20000 in
theorem wX12_parted_68 {r : Int64} {N : Nat} {σ : St} (S : CallFix p m c cX12_parted 10 s av BG RX12) (hr : meth.sig.returnType = some .long) (hlk : meth.locks = false) {k5 : Int32 → Int64 → Int32 → Option Int64} {k22 : Int32 → Int64 → Int32 → Int32 → Int32 → Int32 → Option Int64} (hk5 : ∀ (x1 : Int32) (x2 : Int64) (x4 : Int32) (ls : Array Slot) (H : Heap) (locs : List Loc), Hw (MWd D ad cs) s σ H locs → lv_has ls 10 [(0, .ref (ad 0)), (1, .int x1), (2, .long x2), (4, .int x4)] → k5 x1 x2 x4 = some r → W p l e (RM 0 0) s m av below meth c H locs 0 0 (QJ below (MWd D ad cs) av s r σ) (F0 m 5 ls [])) (hk22 : ∀ (x1 : Int32) (x2 : Int64) (x4 : Int32) (x5 : Int32) (x6 : Int32) (x7 : Int32) (ls : Array Slot) (H : Heap) (locs : List Loc), Hw (MWd D ad cs) s σ H locs → lv_has ls 10 [(0, .ref (ad 0)), (1, .int x1), (2, .long x2), (4, .int x4), (5, .int x5), (6, .int x6), (7, .int x7)] → k22 x1 x2 x4 x5 x6 x7 = some r → W p l e (RM 0 0) s m av below meth c H locs 0 0 (QJ below (MWd D ad cs) av s r σ) (F0 m 22 ls []))  {x1 : Int32} {x2 : Int64} {x4 : Int32} {x5 : Int32} {x7 : Int32} {y0 : Int32} {ls : Array Slot} {H : Heap} {locs : List Loc} (hw : Hw (MWd D ad cs) s σ H locs) (hl : lv_has ls 10 [(0, .ref (ad 0)), (1, .int x1), (2, .long x2), (4, .int x4), (5, .int x5), (7, .int x7)]) (hf : fX12_parted_68 N σ k5 k22 x1 x2 x4 x5 x7 y0 = some r) : W p l e (RM 0 0) s m av below meth c H locs 0 0 (QJ below (MWd D ad cs) av s r σ) (F0 m 68 ls [.int y0]) := by
  unfold fX12_parted_68 at hf
  refine lv_istore (lv' := [(6, .int y0), (0, .ref (ad 0)), (1, .int x1), (2, .long x2), (4, .int x4), (5, .int x5), (7, .int x7)]) S.1 S.2.1 dX12_parted_68 hl (by decide) rfl (fun ls hl => ?_)
  obtain ⟨v23, e24⟩ : ∃ z : Int32, z = x7 + (-1 : Int32) := ⟨_, rfl⟩
  have hf := nm_s e24 hf
  refine lv_iinc (v := v23) (lv' := [(7, .int v23), (6, .int y0), (0, .ref (ad 0)), (1, .int x1), (2, .long x2), (4, .int x4), (5, .int x5)]) S.1 S.2.1 dX12_parted_70 hl (k := 6) rfl (by rw [e24]; rfl) (by decide) rfl (fun ls hl => ?_)
  refine lv_goto (tgt := 22) S.1 S.2.1 dX12_parted_73 (by decide) ?_
  exact hk22 x1 x2 x4 x5 y0 v23 _ _ _ hw (lv_sub hl [2, 3, 4, 5, 6, 1, 0] rfl) hf
def fX12_parted_203 (N : Nat) (σ : St) (k5 : Int32 → Int64 → Int32 → Option Int64) (x1 : Int32) (x2 : Int64) (x4 : Int32) : Option Int64 :=
  nm (x4 + (1 : Int32)) fun v27 => k5 x1 x2 v27
set_option maxHeartbeats 2000000 in
set_option maxRecDepth 20000 in
theorem wX12_parted_203 {r : Int64} {N : Nat} {σ : St} (S : CallFix p m c cX12_parted 10 s av BG RX12) (hr : meth.sig.returnType = some .long) (hlk : meth.locks = false) {k5 : Int32 → Int64 → Int32 → Option Int64} (hk5 : ∀ (x1 : Int32) (x2 : Int64) (x4 : Int32) (ls : Array Slot) (H : Heap) (locs : List Loc), Hw (MWd D ad cs) s σ H locs → lv_has ls 10 [(0, .ref (ad 0)), (1, .int x1), (2, .long x2), (4, .int x4)] → k5 x1 x2 x4 = some r → W p l e (RM 0 0) s m av below meth c H locs 0 0 (QJ below (MWd D ad cs) av s r σ) (F0 m 5 ls []))  {x1 : Int32} {x2 : Int64} {x4 : Int32} {ls : Array Slot} {H : Heap} {locs : List Loc} (hw : Hw (MWd D ad cs) s σ H locs) (hl : lv_has ls 10 [(0, .ref (ad 0)), (1, .int x1), (2, .long x2), (4, .int x4)]) (hf : fX12_parted_203 N σ k5 x1 x2 x4 = some r) : W p l e (RM 0 0) s m av below meth c H locs 0 0 (QJ below (MWd D ad cs) av s r σ) (F0 m 203 ls []) := by
  unfold fX12_parted_203 at hf
  obtain ⟨v27, e28⟩ : ∃ z : Int32, z = x4 + (1 : Int32) := ⟨_, rfl⟩
  have hf := nm_s e28 hf
  refine lv_iinc (v := v27) (lv' := [(4, .int v27), (0, .ref (ad 0)), (1, .int x1), (2, .long x2)]) S.1 S.2.1 dX12_parted_203 hl (k := 3) rfl (by rw [e28]; rfl) (by decide) rfl (fun ls hl => ?_)
  refine lv_goto (tgt := 5) S.1 S.2.1 dX12_parted_206 (by decide) ?_
  exact hk5 x1 x2 v27 _ _ _ hw (lv_sub hl [1, 2, 3, 0] rfl) hf
def fX12_parted_99 (N : Nat) (σ : St) (k5 : Int32 → Int64 → Int32 → Option Int64) (x1 : Int32) (x4 : Int32) (y0 : Int64) (y1 : Int64) : Option Int64 :=
  nm (y0 + y1) fun v21 => fX12_parted_203 N σ k5 x1 v21 x4
set_option maxHeartbeats 2000000 in
set_option maxRecDepth 20000 in
theorem wX12_parted_99 {r : Int64} {N : Nat} {σ : St} (S : CallFix p m c cX12_parted 10 s av BG RX12) (hr : meth.sig.returnType = some .long) (hlk : meth.locks = false) {k5 : Int32 → Int64 → Int32 → Option Int64} (hk5 : ∀ (x1 : Int32) (x2 : Int64) (x4 : Int32) (ls : Array Slot) (H : Heap) (locs : List Loc), Hw (MWd D ad cs) s σ H locs → lv_has ls 10 [(0, .ref (ad 0)), (1, .int x1), (2, .long x2), (4, .int x4)] → k5 x1 x2 x4 = some r → W p l e (RM 0 0) s m av below meth c H locs 0 0 (QJ below (MWd D ad cs) av s r σ) (F0 m 5 ls []))  {x1 : Int32} {x4 : Int32} {y0 : Int64} {y1 : Int64} {ls : Array Slot} {H : Heap} {locs : List Loc} (hw : Hw (MWd D ad cs) s σ H locs) (hl : lv_has ls 10 [(0, .ref (ad 0)), (1, .int x1), (4, .int x4)]) (hf : fX12_parted_99 N σ k5 x1 x4 y0 y1 = some r) : W p l e (RM 0 0) s m av below meth c H locs 0 0 (QJ below (MWd D ad cs) av s r σ) (F0 m 99 ls [.long y1, .long y0]) := by
  unfold fX12_parted_99 at hf
  refine lv_ladd S.1 S.2.1 dX12_parted_99 ?_
  refine lv_topl (fun v21 e22 => ?_)
  have hf := nm_s e22 hf
  refine lv_lstore_n (lv' := [(2, .long v21), (0, .ref (ad 0)), (1, .int x1), (4, .int x4)]) S.1 S.2.1 dX12_parted_100 rfl hl (by decide) rfl (fun ls hl => ?_)
  refine lv_goto (tgt := 203) S.1 S.2.1 dX12_parted_101 (by decide) ?_
  exact wX12_parted_203 S hr hlk hk5 hw (lv_sub hl [1, 2, 0, 3] rfl) hf
def fX12_parted_201 (N : Nat) (σ : St) (k5 : Int32 → Int64 → Int32 → Option Int64) (x1 : Int32) (x4 : Int32) (y0 : Int64) (y1 : Int64) : Option Int64 :=
  nm (y0 + y1) fun v25 => fX12_parted_203 N σ k5 x1 v25 x4
set_option maxHeartbeats 2000000 in
set_option maxRecDepth 20000 in
theorem wX12_parted_201 {r : Int64} {N : Nat} {σ : St} (S : CallFix p m c cX12_parted 10 s av BG RX12) (hr : meth.sig.returnType = some .long) (hlk : meth.locks = false) {k5 : Int32 → Int64 → Int32 → Option Int64} (hk5 : ∀ (x1 : Int32) (x2 : Int64) (x4 : Int32) (ls : Array Slot) (H : Heap) (locs : List Loc), Hw (MWd D ad cs) s σ H locs → lv_has ls 10 [(0, .ref (ad 0)), (1, .int x1), (2, .long x2), (4, .int x4)] → k5 x1 x2 x4 = some r → W p l e (RM 0 0) s m av below meth c H locs 0 0 (QJ below (MWd D ad cs) av s r σ) (F0 m 5 ls []))  {x1 : Int32} {x4 : Int32} {y0 : Int64} {y1 : Int64} {ls : Array Slot} {H : Heap} {locs : List Loc} (hw : Hw (MWd D ad cs) s σ H locs) (hl : lv_has ls 10 [(0, .ref (ad 0)), (1, .int x1), (4, .int x4)]) (hf : fX12_parted_201 N σ k5 x1 x4 y0 y1 = some r) : W p l e (RM 0 0) s m av below meth c H locs 0 0 (QJ below (MWd D ad cs) av s r σ) (F0 m 201 ls [.long y1, .long y0]) := by
  unfold fX12_parted_201 at hf
  refine lv_ladd S.1 S.2.1 dX12_parted_201 ?_
  refine lv_topl (fun v25 e26 => ?_)
  have hf := nm_s e26 hf
  refine lv_lstore_n (lv' := [(2, .long v25), (0, .ref (ad 0)), (1, .int x1), (4, .int x4)]) S.1 S.2.1 dX12_parted_202 rfl hl (by decide) rfl (fun ls hl => ?_)
  exact wX12_parted_203 S hr hlk hk5 hw (lv_sub hl [1, 2, 0, 3] rfl) hf
def fX12_parted_116b (N : Nat) (σ : St) (k5 : Int32 → Int64 → Int32 → Option Int64) (k116 : Int32 → Int64 → Int32 → Int32 → Int32 → Int64 → Int32 → Option Int64) (x1 : Int32) (x2 : Int64) (x4 : Int32) (x5 : Int32) (x6 : Int32) (x7 : Int64) (x9 : Int32) : Option Int64 :=
  if (10 : Int32) ≤ x9 then (if ix x4 10 = true then if ix (((10 : Int32) * x4) + x1) 100 = true then if ¬ (x5).toInt64 = 0 then nm (x2 + (((jR σ 30 x4) * ((aR σ 4 (((10 : Int32) * x4) + x1))).toInt64) / (x5).toInt64)) fun v12 => if x6 = x1 then (fX12_parted_201 N σ k5 x1 x4 v12 x7) else (fX12_parted_201 N σ k5 x1 x4 v12 (0 : Int64)) else none else none else none) else (if ix x4 10 = true then if ix (((10 : Int32) * x4) + x9) 100 = true then if ¬ (x5).toInt64 = 0 then nm (x7 - (((jR σ 30 x4) * ((aR σ 4 (((10 : Int32) * x4) + x9))).toInt64) / (x5).toInt64)) fun v17 => nm (x9 + (1 : Int32)) fun v19 => k116 x1 x2 x4 x5 x6 v17 v19 else none else none else none)
set_option maxHeartbeats 2000000 in
set_option maxRecDepth 20000 in
theorem wX12_parted_116b {r : Int64} {N : Nat} {σ : St} (S : CallFix p m c cX12_parted 10 s av BG RX12) (hr : meth.sig.returnType = some .long) (hlk : meth.locks = false) {k5 : Int32 → Int64 → Int32 → Option Int64} {k116 : Int32 → Int64 → Int32 → Int32 → Int32 → Int64 → Int32 → Option Int64} (hk5 : ∀ (x1 : Int32) (x2 : Int64) (x4 : Int32) (ls : Array Slot) (H : Heap) (locs : List Loc), Hw (MWd D ad cs) s σ H locs → lv_has ls 10 [(0, .ref (ad 0)), (1, .int x1), (2, .long x2), (4, .int x4)] → k5 x1 x2 x4 = some r → W p l e (RM 0 0) s m av below meth c H locs 0 0 (QJ below (MWd D ad cs) av s r σ) (F0 m 5 ls [])) (hk116 : ∀ (x1 : Int32) (x2 : Int64) (x4 : Int32) (x5 : Int32) (x6 : Int32) (x7 : Int64) (x9 : Int32) (ls : Array Slot) (H : Heap) (locs : List Loc), Hw (MWd D ad cs) s σ H locs → lv_has ls 10 [(0, .ref (ad 0)), (1, .int x1), (2, .long x2), (4, .int x4), (5, .int x5), (6, .int x6), (7, .long x7), (9, .int x9)] → k116 x1 x2 x4 x5 x6 x7 x9 = some r → W p l e (RM 0 0) s m av below meth c H locs 0 0 (QJ below (MWd D ad cs) av s r σ) (F0 m 116 ls []))  {x1 : Int32} {x2 : Int64} {x4 : Int32} {x5 : Int32} {x6 : Int32} {x7 : Int64} {x9 : Int32} {ls : Array Slot} {H : Heap} {locs : List Loc} (hw : Hw (MWd D ad cs) s σ H locs) (hl : lv_has ls 10 [(0, .ref (ad 0)), (1, .int x1), (2, .long x2), (4, .int x4), (5, .int x5), (6, .int x6), (7, .long x7), (9, .int x9)]) (hf : fX12_parted_116b N σ k5 k116 x1 x2 x4 x5 x6 x7 x9 = some r) : W p l e (RM 0 0) s m av below meth c H locs 0 0 (QJ below (MWd D ad cs) av s r σ) (F0 m 116 ls []) := by
  unfold fX12_parted_116b at hf
  refine lv_iload S.1 S.2.1 dX12_parted_116 (lv_at hl 7 rfl) ?_
  refine lv_bipush (v := 10) S.1 S.2.1 dX12_parted_118 (by decide) ?_
  refine lv_icmp_ge (tgt := 160) S.1 S.2.1 dX12_parted_120 (by decide) (fun hc => ?_) (fun hc => ?_)
  · have hf := itt hf hc
    refine lv_lload_n S.1 S.2.1 dX12_parted_160 rfl (lv_at hl 2 rfl) ?_
    refine lv_aload_n S.1 S.2.1 dX12_parted_161 rfl (lv_at hl 0 rfl) ?_
    refine mg_WayLeavesModel_comes S hw kf_X12_214 dX12_parted_162 ?_
    refine lv_iload S.1 S.2.1 dX12_parted_165 (lv_at hl 3 rfl) ?_
    obtain ⟨h9, hf⟩ := gd_ix hf
    refine g_lald S hw 30 1 me_30 rfl h9 dX12_parted_167 ?_
    refine lv_aload_n S.1 S.2.1 dX12_parted_168 rfl (lv_at hl 0 rfl) ?_
    refine mg_WayLeavesModel_shares S hw kf_X12_48 dX12_parted_169 ?_
    refine lv_bipush (v := 10) S.1 S.2.1 dX12_parted_172 (by decide) ?_
    refine lv_iload S.1 S.2.1 dX12_parted_174 (lv_at hl 3 rfl) ?_
    refine lv_imul S.1 S.2.1 dX12_parted_176 ?_
    refine lv_iload_n S.1 S.2.1 dX12_parted_177 rfl (lv_at hl 1 rfl) ?_
    refine lv_iadd S.1 S.2.1 dX12_parted_178 ?_
    obtain ⟨h10, hf⟩ := gd_ix hf
    refine g_iald S hw 4 0 me_4 rfl h10 dX12_parted_179 ?_
    refine lv_i2l S.1 S.2.1 dX12_parted_180 rfl ?_
    refine lv_lmul S.1 S.2.1 dX12_parted_181 ?_
    refine lv_iload S.1 S.2.1 dX12_parted_182 (lv_at hl 4 rfl) ?_
    refine lv_i2l S.1 S.2.1 dX12_parted_184 rfl ?_
    obtain ⟨h11, hf⟩ := gd_t hf
    refine lv_ldiv S.1 S.2.1 dX12_parted_185 h11 ?_
    refine lv_ladd S.1 S.2.1 dX12_parted_186 ?_
    refine lv_topl (fun v12 e13 => ?_)
    have hf := nm_s e13 hf
    refine lv_lstore_n (lv' := [(2, .long v12), (0, .ref (ad 0)), (1, .int x1), (4, .int x4), (5, .int x5), (6, .int x6), (7, .long x7), (9, .int x9)]) S.1 S.2.1 dX12_parted_187 rfl hl (by decide) rfl (fun ls hl => ?_)
    refine lv_lload_n S.1 S.2.1 dX12_parted_188 rfl (lv_at hl 0 rfl) ?_
    refine lv_iload S.1 S.2.1 dX12_parted_189 (lv_at hl 5 rfl) ?_
    refine lv_iload_n S.1 S.2.1 dX12_parted_191 rfl (lv_at hl 2 rfl) ?_
    refine lv_icmp_ne (tgt := 200) S.1 S.2.1 dX12_parted_192 (by decide) (fun hc => ?_) (fun hc => ?_)
    · have hf := itf hf hc
      refine lv_lconst (v := 0) S.1 S.2.1 dX12_parted_200 (by decide) ?_
      exact wX12_parted_201 S hr hlk hk5 hw (lv_sub hl [1, 2, 3] rfl) hf
    · have hf := itt hf hc
      refine lv_lload S.1 S.2.1 dX12_parted_195 (lv_at hl 6 rfl) ?_
      refine lv_goto (tgt := 201) S.1 S.2.1 dX12_parted_197 (by decide) ?_
      exact wX12_parted_201 S hr hlk hk5 hw (lv_sub hl [1, 2, 3] rfl) hf
  · have hf := itf hf hc
    refine lv_lload S.1 S.2.1 dX12_parted_123 (lv_at hl 6 rfl) ?_
    refine lv_aload_n S.1 S.2.1 dX12_parted_125 rfl (lv_at hl 0 rfl) ?_
    refine mg_WayLeavesModel_comes S hw kf_X12_214 dX12_parted_126 ?_
    refine lv_iload S.1 S.2.1 dX12_parted_129 (lv_at hl 3 rfl) ?_
    obtain ⟨h14, hf⟩ := gd_ix hf
    refine g_lald S hw 30 1 me_30 rfl h14 dX12_parted_131 ?_
    refine lv_aload_n S.1 S.2.1 dX12_parted_132 rfl (lv_at hl 0 rfl) ?_
    refine mg_WayLeavesModel_shares S hw kf_X12_48 dX12_parted_133 ?_
    refine lv_bipush (v := 10) S.1 S.2.1 dX12_parted_136 (by decide) ?_
    refine lv_iload S.1 S.2.1 dX12_parted_138 (lv_at hl 3 rfl) ?_
    refine lv_imul S.1 S.2.1 dX12_parted_140 ?_
    refine lv_iload S.1 S.2.1 dX12_parted_141 (lv_at hl 7 rfl) ?_
    refine lv_iadd S.1 S.2.1 dX12_parted_143 ?_
    obtain ⟨h15, hf⟩ := gd_ix hf
    refine g_iald S hw 4 0 me_4 rfl h15 dX12_parted_144 ?_
    refine lv_i2l S.1 S.2.1 dX12_parted_145 rfl ?_
    refine lv_lmul S.1 S.2.1 dX12_parted_146 ?_
    refine lv_iload S.1 S.2.1 dX12_parted_147 (lv_at hl 4 rfl) ?_
    refine lv_i2l S.1 S.2.1 dX12_parted_149 rfl ?_
    obtain ⟨h16, hf⟩ := gd_t hf
    refine lv_ldiv S.1 S.2.1 dX12_parted_150 h16 ?_
    refine lv_lsub S.1 S.2.1 dX12_parted_151 ?_
    refine lv_topl (fun v17 e18 => ?_)
    have hf := nm_s e18 hf
    refine lv_lstore (lv' := [(7, .long v17), (0, .ref (ad 0)), (1, .int x1), (2, .long x2), (4, .int x4), (5, .int x5), (6, .int x6), (9, .int x9)]) S.1 S.2.1 dX12_parted_152 hl (by decide) rfl (fun ls hl => ?_)
    obtain ⟨v19, e20⟩ : ∃ z : Int32, z = x9 + (1 : Int32) := ⟨_, rfl⟩
    have hf := nm_s e20 hf
    refine lv_iinc (v := v19) (lv' := [(9, .int v19), (7, .long v17), (0, .ref (ad 0)), (1, .int x1), (2, .long x2), (4, .int x4), (5, .int x5), (6, .int x6)]) S.1 S.2.1 dX12_parted_154 hl (k := 7) rfl (by rw [e20]; rfl) (by decide) rfl (fun ls hl => ?_)
    refine lv_goto (tgt := 116) S.1 S.2.1 dX12_parted_157 (by decide) ?_
    exact hk116 x1 x2 x4 x5 x6 v17 v19 _ _ _ hw (lv_sub hl [2, 3, 4, 5, 6, 7, 1, 0] rfl) hf
def fX12_parted_116 (N : Nat) (σ : St) (k5 : Int32 → Int64 → Int32 → Option Int64) : Nat → Int32 → Int64 → Int32 → Int32 → Int32 → Int64 → Int32 → Option Int64
  | 0 => fun _ _ _ _ _ _ _ => none
  | n + 1 => fX12_parted_116b N σ k5 (fX12_parted_116 N σ k5 n)
theorem wX12_parted_116 {r : Int64} {N : Nat} {σ : St} (S : CallFix p m c cX12_parted 10 s av BG RX12) (hr : meth.sig.returnType = some .long) (hlk : meth.locks = false) {k5 : Int32 → Int64 → Int32 → Option Int64} (hk5 : ∀ (x1 : Int32) (x2 : Int64) (x4 : Int32) (ls : Array Slot) (H : Heap) (locs : List Loc), Hw (MWd D ad cs) s σ H locs → lv_has ls 10 [(0, .ref (ad 0)), (1, .int x1), (2, .long x2), (4, .int x4)] → k5 x1 x2 x4 = some r → W p l e (RM 0 0) s m av below meth c H locs 0 0 (QJ below (MWd D ad cs) av s r σ) (F0 m 5 ls [])) : ∀ (n : Nat), ∀ (x1 : Int32) (x2 : Int64) (x4 : Int32) (x5 : Int32) (x6 : Int32) (x7 : Int64) (x9 : Int32) (ls : Array Slot) (H : Heap) (locs : List Loc), Hw (MWd D ad cs) s σ H locs → lv_has ls 10 [(0, .ref (ad 0)), (1, .int x1), (2, .long x2), (4, .int x4), (5, .int x5), (6, .int x6), (7, .long x7), (9, .int x9)] → fX12_parted_116 N σ k5 n x1 x2 x4 x5 x6 x7 x9 = some r → W p l e (RM 0 0) s m av below meth c H locs 0 0 (QJ below (MWd D ad cs) av s r σ) (F0 m 116 ls []) := by
  intro n
  induction n with
  | zero => intro _ _ _ _ _ _ _ ls H locs hw hl hf; cases hf
  | succ n ih => intro _ _ _ _ _ _ _ ls H locs hw hl hf; exact wX12_parted_116b S hr hlk hk5 ih hw hl hf
def fX12_parted_22b (N : Nat) (σ : St) (k5 : Int32 → Int64 → Int32 → Option Int64) (k22 : Int32 → Int64 → Int32 → Int32 → Int32 → Int32 → Option Int64) (x1 : Int32) (x2 : Int64) (x4 : Int32) (x5 : Int32) (x6 : Int32) (x7 : Int32) : Option Int64 :=
  if x7 < 0 then (if x5 = 0 then (if x4 = x1 then (if ix x4 10 = true then fX12_parted_99 N σ k5 x1 x4 x2 (jR σ 30 x4) else none) else (fX12_parted_99 N σ k5 x1 x4 x2 (0 : Int64))) else (if ix x4 10 = true then nm (jR σ 30 x4) fun v2 => fX12_parted_116 N σ k5 N x1 x2 x4 x5 x6 v2 (0 : Int32) else none)) else (if ix (((10 : Int32) * x4) + x7) 100 = true then nm (x5 + (aR σ 4 (((10 : Int32) * x4) + x7))) fun v6 => if ix (((10 : Int32) * x4) + x7) 100 = true then if (aR σ 4 (((10 : Int32) * x4) + x7)) ≤ 0 then (fX12_parted_68 N σ k5 k22 x1 x2 x4 v6 x7 x6) else (fX12_parted_68 N σ k5 k22 x1 x2 x4 v6 x7 x7) else none else none)
set_option maxHeartbeats 2000000 in
set_option maxRecDepth 20000 in
theorem wX12_parted_22b {r : Int64} {N : Nat} {σ : St} (S : CallFix p m c cX12_parted 10 s av BG RX12) (hr : meth.sig.returnType = some .long) (hlk : meth.locks = false) {k5 : Int32 → Int64 → Int32 → Option Int64} {k22 : Int32 → Int64 → Int32 → Int32 → Int32 → Int32 → Option Int64} (hk5 : ∀ (x1 : Int32) (x2 : Int64) (x4 : Int32) (ls : Array Slot) (H : Heap) (locs : List Loc), Hw (MWd D ad cs) s σ H locs → lv_has ls 10 [(0, .ref (ad 0)), (1, .int x1), (2, .long x2), (4, .int x4)] → k5 x1 x2 x4 = some r → W p l e (RM 0 0) s m av below meth c H locs 0 0 (QJ below (MWd D ad cs) av s r σ) (F0 m 5 ls [])) (hk22 : ∀ (x1 : Int32) (x2 : Int64) (x4 : Int32) (x5 : Int32) (x6 : Int32) (x7 : Int32) (ls : Array Slot) (H : Heap) (locs : List Loc), Hw (MWd D ad cs) s σ H locs → lv_has ls 10 [(0, .ref (ad 0)), (1, .int x1), (2, .long x2), (4, .int x4), (5, .int x5), (6, .int x6), (7, .int x7)] → k22 x1 x2 x4 x5 x6 x7 = some r → W p l e (RM 0 0) s m av below meth c H locs 0 0 (QJ below (MWd D ad cs) av s r σ) (F0 m 22 ls []))  {x1 : Int32} {x2 : Int64} {x4 : Int32} {x5 : Int32} {x6 : Int32} {x7 : Int32} {ls : Array Slot} {H : Heap} {locs : List Loc} (hw : Hw (MWd D ad cs) s σ H locs) (hl : lv_has ls 10 [(0, .ref (ad 0)), (1, .int x1), (2, .long x2), (4, .int x4), (5, .int x5), (6, .int x6), (7, .int x7)]) (hf : fX12_parted_22b N σ k5 k22 x1 x2 x4 x5 x6 x7 = some r) : W p l e (RM 0 0) s m av below meth c H locs 0 0 (QJ below (MWd D ad cs) av s r σ) (F0 m 22 ls []) := by
  unfold fX12_parted_22b at hf
  refine lv_iload S.1 S.2.1 dX12_parted_22 (lv_at hl 6 rfl) ?_
  refine lv_if_lt (tgt := 76) S.1 S.2.1 dX12_parted_24 (by decide) (fun hc => ?_) (fun hc => ?_)
  · have hf := itt hf hc
    refine lv_iload S.1 S.2.1 dX12_parted_76 (lv_at hl 4 rfl) ?_
    refine lv_if_ne (tgt := 104) S.1 S.2.1 dX12_parted_78 (by decide) (fun hc => ?_) (fun hc => ?_)
    · have hf := itf hf hc
      refine lv_aload_n S.1 S.2.1 dX12_parted_104 rfl (lv_at hl 0 rfl) ?_
      refine mg_WayLeavesModel_comes S hw kf_X12_214 dX12_parted_105 ?_
      refine lv_iload S.1 S.2.1 dX12_parted_108 (lv_at hl 3 rfl) ?_
      obtain ⟨h1, hf⟩ := gd_ix hf
      refine g_lald S hw 30 1 me_30 rfl h1 dX12_parted_110 ?_
      refine lv_topl (fun v2 e3 => ?_)
      have hf := nm_s e3 hf
      refine lv_lstore (lv' := [(7, .long v2), (0, .ref (ad 0)), (1, .int x1), (2, .long x2), (4, .int x4), (5, .int x5), (6, .int x6)]) S.1 S.2.1 dX12_parted_111 hl (by decide) rfl (fun ls hl => ?_)
      refine lv_iconst (v := 0) S.1 S.2.1 dX12_parted_113 (by decide) ?_
      refine lv_istore (lv' := [(9, .int (0 : Int32)), (7, .long v2), (0, .ref (ad 0)), (1, .int x1), (2, .long x2), (4, .int x4), (5, .int x5), (6, .int x6)]) S.1 S.2.1 dX12_parted_114 hl (by decide) rfl (fun ls hl => ?_)
      exact wX12_parted_116 S hr hlk hk5 N x1 x2 x4 x5 x6 v2 (0 : Int32) _ _ _ hw (lv_sub hl [2, 3, 4, 5, 6, 7, 1, 0] rfl) hf
    · have hf := itt hf hc
      refine lv_lload_n S.1 S.2.1 dX12_parted_81 rfl (lv_at hl 2 rfl) ?_
      refine lv_iload S.1 S.2.1 dX12_parted_82 (lv_at hl 3 rfl) ?_
      refine lv_iload_n S.1 S.2.1 dX12_parted_84 rfl (lv_at hl 1 rfl) ?_
      refine lv_icmp_ne (tgt := 98) S.1 S.2.1 dX12_parted_85 (by decide) (fun hc => ?_) (fun hc => ?_)
      · have hf := itf hf hc
        refine lv_lconst (v := 0) S.1 S.2.1 dX12_parted_98 (by decide) ?_
        exact wX12_parted_99 S hr hlk hk5 hw (lv_sub hl [0, 1, 3] rfl) hf
      · have hf := itt hf hc
        refine lv_aload_n S.1 S.2.1 dX12_parted_88 rfl (lv_at hl 0 rfl) ?_
        refine mg_WayLeavesModel_comes S hw kf_X12_214 dX12_parted_89 ?_
        refine lv_iload S.1 S.2.1 dX12_parted_92 (lv_at hl 3 rfl) ?_
        obtain ⟨h4, hf⟩ := gd_ix hf
        refine g_lald S hw 30 1 me_30 rfl h4 dX12_parted_94 ?_
        refine lv_goto (tgt := 99) S.1 S.2.1 dX12_parted_95 (by decide) ?_
        exact wX12_parted_99 S hr hlk hk5 hw (lv_sub hl [0, 1, 3] rfl) hf
  · have hf := itf hf hc
    refine lv_iload S.1 S.2.1 dX12_parted_27 (lv_at hl 4 rfl) ?_
    refine lv_aload_n S.1 S.2.1 dX12_parted_29 rfl (lv_at hl 0 rfl) ?_
    refine mg_WayLeavesModel_shares S hw kf_X12_48 dX12_parted_30 ?_
    refine lv_bipush (v := 10) S.1 S.2.1 dX12_parted_33 (by decide) ?_
    refine lv_iload S.1 S.2.1 dX12_parted_35 (lv_at hl 3 rfl) ?_
    refine lv_imul S.1 S.2.1 dX12_parted_37 ?_
    refine lv_iload S.1 S.2.1 dX12_parted_38 (lv_at hl 6 rfl) ?_
    refine lv_iadd S.1 S.2.1 dX12_parted_40 ?_
    obtain ⟨h5, hf⟩ := gd_ix hf
    refine g_iald S hw 4 0 me_4 rfl h5 dX12_parted_41 ?_
    refine lv_iadd S.1 S.2.1 dX12_parted_42 ?_
    refine lv_topi (fun v6 e7 => ?_)
    have hf := nm_s e7 hf
    refine lv_istore (lv' := [(5, .int v6), (0, .ref (ad 0)), (1, .int x1), (2, .long x2), (4, .int x4), (6, .int x6), (7, .int x7)]) S.1 S.2.1 dX12_parted_43 hl (by decide) rfl (fun ls hl => ?_)
    refine lv_aload_n S.1 S.2.1 dX12_parted_45 rfl (lv_at hl 1 rfl) ?_
    refine mg_WayLeavesModel_shares S hw kf_X12_48 dX12_parted_46 ?_
    refine lv_bipush (v := 10) S.1 S.2.1 dX12_parted_49 (by decide) ?_
    refine lv_iload S.1 S.2.1 dX12_parted_51 (lv_at hl 4 rfl) ?_
    refine lv_imul S.1 S.2.1 dX12_parted_53 ?_
    refine lv_iload S.1 S.2.1 dX12_parted_54 (lv_at hl 6 rfl) ?_
    refine lv_iadd S.1 S.2.1 dX12_parted_56 ?_
    obtain ⟨h8, hf⟩ := gd_ix hf
    refine g_iald S hw 4 0 me_4 rfl h8 dX12_parted_57 ?_
    refine lv_if_le (tgt := 66) S.1 S.2.1 dX12_parted_58 (by decide) (fun hc => ?_) (fun hc => ?_)
    · have hf := itt hf hc
      refine lv_iload S.1 S.2.1 dX12_parted_66 (lv_at hl 5 rfl) ?_
      exact wX12_parted_68 S hr hlk hk5 hk22 hw (lv_sub hl [1, 2, 3, 4, 0, 6] rfl) hf
    · have hf := itf hf hc
      refine lv_iload S.1 S.2.1 dX12_parted_61 (lv_at hl 6 rfl) ?_
      refine lv_goto (tgt := 68) S.1 S.2.1 dX12_parted_63 (by decide) ?_
      exact wX12_parted_68 S hr hlk hk5 hk22 hw (lv_sub hl [1, 2, 3, 4, 0, 6] rfl) hf
def fX12_parted_22 (N : Nat) (σ : St) (k5 : Int32 → Int64 → Int32 → Option Int64) : Nat → Int32 → Int64 → Int32 → Int32 → Int32 → Int32 → Option Int64
  | 0 => fun _ _ _ _ _ _ => none
  | n + 1 => fX12_parted_22b N σ k5 (fX12_parted_22 N σ k5 n)
theorem wX12_parted_22 {r : Int64} {N : Nat} {σ : St} (S : CallFix p m c cX12_parted 10 s av BG RX12) (hr : meth.sig.returnType = some .long) (hlk : meth.locks = false) {k5 : Int32 → Int64 → Int32 → Option Int64} (hk5 : ∀ (x1 : Int32) (x2 : Int64) (x4 : Int32) (ls : Array Slot) (H : Heap) (locs : List Loc), Hw (MWd D ad cs) s σ H locs → lv_has ls 10 [(0, .ref (ad 0)), (1, .int x1), (2, .long x2), (4, .int x4)] → k5 x1 x2 x4 = some r → W p l e (RM 0 0) s m av below meth c H locs 0 0 (QJ below (MWd D ad cs) av s r σ) (F0 m 5 ls [])) : ∀ (n : Nat), ∀ (x1 : Int32) (x2 : Int64) (x4 : Int32) (x5 : Int32) (x6 : Int32) (x7 : Int32) (ls : Array Slot) (H : Heap) (locs : List Loc), Hw (MWd D ad cs) s σ H locs → lv_has ls 10 [(0, .ref (ad 0)), (1, .int x1), (2, .long x2), (4, .int x4), (5, .int x5), (6, .int x6), (7, .int x7)] → fX12_parted_22 N σ k5 n x1 x2 x4 x5 x6 x7 = some r → W p l e (RM 0 0) s m av below meth c H locs 0 0 (QJ below (MWd D ad cs) av s r σ) (F0 m 22 ls []) := by
  intro n
  induction n with
  | zero => intro _ _ _ _ _ _ ls H locs hw hl hf; cases hf
  | succ n ih => intro _ _ _ _ _ _ ls H locs hw hl hf; exact wX12_parted_22b S hr hlk hk5 ih hw hl hf
def fX12_parted_5b (N : Nat) (σ : St) (k5 : Int32 → Int64 → Int32 → Option Int64) (x1 : Int32) (x2 : Int64) (x4 : Int32) : Option Int64 :=
  if (10 : Int32) ≤ x4 then (some x2) else (fX12_parted_22 N σ k5 N x1 x2 x4 (0 : Int32) (-1 : Int32) (9 : Int32))
set_option maxHeartbeats 2000000 in
set_option maxRecDepth 20000 in
theorem wX12_parted_5b {r : Int64} {N : Nat} {σ : St} (S : CallFix p m c cX12_parted 10 s av BG RX12) (hr : meth.sig.returnType = some .long) (hlk : meth.locks = false) {k5 : Int32 → Int64 → Int32 → Option Int64} (hk5 : ∀ (x1 : Int32) (x2 : Int64) (x4 : Int32) (ls : Array Slot) (H : Heap) (locs : List Loc), Hw (MWd D ad cs) s σ H locs → lv_has ls 10 [(0, .ref (ad 0)), (1, .int x1), (2, .long x2), (4, .int x4)] → k5 x1 x2 x4 = some r → W p l e (RM 0 0) s m av below meth c H locs 0 0 (QJ below (MWd D ad cs) av s r σ) (F0 m 5 ls []))  {x1 : Int32} {x2 : Int64} {x4 : Int32} {ls : Array Slot} {H : Heap} {locs : List Loc} (hw : Hw (MWd D ad cs) s σ H locs) (hl : lv_has ls 10 [(0, .ref (ad 0)), (1, .int x1), (2, .long x2), (4, .int x4)]) (hf : fX12_parted_5b N σ k5 x1 x2 x4 = some r) : W p l e (RM 0 0) s m av below meth c H locs 0 0 (QJ below (MWd D ad cs) av s r σ) (F0 m 5 ls []) := by
  unfold fX12_parted_5b at hf
  refine lv_iload S.1 S.2.1 dX12_parted_5 (lv_at hl 3 rfl) ?_
  refine lv_bipush (v := 10) S.1 S.2.1 dX12_parted_7 (by decide) ?_
  refine lv_icmp_ge (tgt := 209) S.1 S.2.1 dX12_parted_9 (by decide) (fun hc => ?_) (fun hc => ?_)
  · have hf := itt hf hc
    refine lv_lload_n S.1 S.2.1 dX12_parted_209 rfl (lv_at hl 2 rfl) ?_
    exact g_jret (MWd_ok D ad cs) S hr hlk hw dX12_parted_210 (Option.some.inj hf) rfl
  · have hf := itf hf hc
    refine lv_iconst (v := 0) S.1 S.2.1 dX12_parted_12 (by decide) ?_
    refine lv_istore (lv' := [(5, .int (0 : Int32)), (0, .ref (ad 0)), (1, .int x1), (2, .long x2), (4, .int x4)]) S.1 S.2.1 dX12_parted_13 hl (by decide) rfl (fun ls hl => ?_)
    refine lv_iconst (v := -1) S.1 S.2.1 dX12_parted_15 (by decide) ?_
    refine lv_istore (lv' := [(6, .int (-1 : Int32)), (5, .int (0 : Int32)), (0, .ref (ad 0)), (1, .int x1), (2, .long x2), (4, .int x4)]) S.1 S.2.1 dX12_parted_16 hl (by decide) rfl (fun ls hl => ?_)
    refine lv_bipush (v := 9) S.1 S.2.1 dX12_parted_18 (by decide) ?_
    refine lv_istore (lv' := [(7, .int (9 : Int32)), (6, .int (-1 : Int32)), (5, .int (0 : Int32)), (0, .ref (ad 0)), (1, .int x1), (2, .long x2), (4, .int x4)]) S.1 S.2.1 dX12_parted_20 hl (by decide) rfl (fun ls hl => ?_)
    exact wX12_parted_22 S hr hlk hk5 N x1 x2 x4 (0 : Int32) (-1 : Int32) (9 : Int32) _ _ _ hw (lv_sub hl [3, 4, 5, 6, 2, 1, 0] rfl) hf
def fX12_parted_5 (N : Nat) (σ : St) : Nat → Int32 → Int64 → Int32 → Option Int64
  | 0 => fun _ _ _ => none
  | n + 1 => fX12_parted_5b N σ (fX12_parted_5 N σ n)
theorem wX12_parted_5 {r : Int64} {N : Nat} {σ : St} (S : CallFix p m c cX12_parted 10 s av BG RX12) (hr : meth.sig.returnType = some .long) (hlk : meth.locks = false) : ∀ (n : Nat), ∀ (x1 : Int32) (x2 : Int64) (x4 : Int32) (ls : Array Slot) (H : Heap) (locs : List Loc), Hw (MWd D ad cs) s σ H locs → lv_has ls 10 [(0, .ref (ad 0)), (1, .int x1), (2, .long x2), (4, .int x4)] → fX12_parted_5 N σ n x1 x2 x4 = some r → W p l e (RM 0 0) s m av below meth c H locs 0 0 (QJ below (MWd D ad cs) av s r σ) (F0 m 5 ls []) := by
  intro n
  induction n with
  | zero => intro _ _ _ ls H locs hw hl hf; cases hf
  | succ n ih => intro _ _ _ ls H locs hw hl hf; exact wX12_parted_5b S hr hlk ih hw hl hf
def fX12_parted (N : Nat) (σ : St) (x1 : Int32) : Option Int64 :=
  fX12_parted_5 N σ N x1 (0 : Int64) (0 : Int32)
set_option maxHeartbeats 2000000 in
set_option maxRecDepth 20000 in
theorem tX12_parted {r : Int64} {N : Nat} {σ : St} {x1 : Int32} (hf : fX12_parted N σ x1 = some r) : CJ l (MWd D ad cs) yX12_parted cX12_parted 10 (some .long) 0 0 [.ref (ad 0), .int x1] σ r σ := by
  refine CJ.of (by decide) (Nat.le_of_ble_eq_true rfl) ?_
  intro p e s m below meth c ls S hr hlk hw hl
  have hl : lv_has ls 10 [(0, .ref (ad 0)), (1, .int x1)] := hl
  unfold fX12_parted at hf
  refine lv_lconst (v := 0) S.1 S.2.1 dX12_parted_0 (by decide) ?_
  refine lv_lstore_n (lv' := [(2, .long (0 : Int64)), (0, .ref (ad 0)), (1, .int x1)]) S.1 S.2.1 dX12_parted_1 rfl hl (by decide) rfl (fun ls hl => ?_)
  refine lv_iconst (v := 0) S.1 S.2.1 dX12_parted_2 (by decide) ?_
  refine lv_istore (lv' := [(4, .int (0 : Int32)), (2, .long (0 : Int64)), (0, .ref (ad 0)), (1, .int x1)]) S.1 S.2.1 dX12_parted_3 hl (by decide) rfl (fun ls hl => ?_)
  exact wX12_parted_5 S hr hlk N x1 (0 : Int64) (0 : Int32) _ _ _ hw (lv_sub hl [2, 3, 1, 0] rfl) hf
def fX12_clearComes_2b (N : Nat) (k2 : St → Int32 → Option St) (σ : St) (x1 : Int32) : Option St :=
  if (10 : Int32) ≤ x1 then (some σ) else (if ix x1 10 = true then nm (jW σ 30 x1 (0 : Int64)) fun σ2 => nm (x1 + (1 : Int32)) fun v4 => k2 σ2 v4 else none)
set_option maxHeartbeats 2000000 in
set_option maxRecDepth 20000 in
theorem wX12_clearComes_2b {σ' : St} {N : Nat} (S : CallFix p m c cX12_clearComes 2 s av BG RX12) (hr : meth.sig.returnType = none) (hlk : meth.locks = false) {k2 : St → Int32 → Option St} (hk2 : ∀ (σ : St) (x1 : Int32) (ls : Array Slot) (H : Heap) (locs : List Loc), Hw (MWd D ad cs) s σ H locs → lv_has ls 2 [(0, .ref (ad 0)), (1, .int x1)] → k2 σ x1 = some σ' → W p l e (RM 0 0) s m av below meth c H locs 0 0 (QV below (MWd D ad cs) av s σ') (F0 m 2 ls []))  {σ : St} {x1 : Int32} {ls : Array Slot} {H : Heap} {locs : List Loc} (hw : Hw (MWd D ad cs) s σ H locs) (hl : lv_has ls 2 [(0, .ref (ad 0)), (1, .int x1)]) (hf : fX12_clearComes_2b N k2 σ x1 = some σ') : W p l e (RM 0 0) s m av below meth c H locs 0 0 (QV below (MWd D ad cs) av s σ') (F0 m 2 ls []) := by
  unfold fX12_clearComes_2b at hf
  refine lv_iload_n S.1 S.2.1 dX12_clearComes_2 rfl (lv_at hl 1 rfl) ?_
  refine lv_bipush (v := 10) S.1 S.2.1 dX12_clearComes_3 (by decide) ?_
  refine lv_icmp_ge (tgt := 21) S.1 S.2.1 dX12_clearComes_5 (by decide) (fun hc => ?_) (fun hc => ?_)
  · have hf := itt hf hc
    exact g_vret (MWd_ok D ad cs) S hr hlk hw dX12_clearComes_21 (Option.some.inj hf)
  · have hf := itf hf hc
    refine lv_aload_n S.1 S.2.1 dX12_clearComes_8 rfl (lv_at hl 0 rfl) ?_
    refine mg_WayLeavesModel_comes S hw kf_X12_214 dX12_clearComes_9 ?_
    refine lv_iload_n S.1 S.2.1 dX12_clearComes_12 rfl (lv_at hl 1 rfl) ?_
    refine lv_lconst (v := 0) S.1 S.2.1 dX12_clearComes_13 (by decide) ?_
    obtain ⟨h1, hf⟩ := gd_ix hf
    obtain ⟨σ2, e3⟩ : ∃ z : St, z = jW σ 30 x1 (0 : Int64) := ⟨_, rfl⟩
    have hf := nm_s e3 hf
    refine g_last (σ' := σ2) S hw 30 1 me_30 rfl (by rw [e3]; exact ms_30 _) h1 dX12_clearComes_14 (fun H locs hw => ?_)
    obtain ⟨v4, e5⟩ : ∃ z : Int32, z = x1 + (1 : Int32) := ⟨_, rfl⟩
    have hf := nm_s e5 hf
    refine lv_iinc (v := v4) (lv' := [(1, .int v4), (0, .ref (ad 0))]) S.1 S.2.1 dX12_clearComes_15 hl (k := 1) rfl (by rw [e5]; rfl) (by decide) rfl (fun ls hl => ?_)
    refine lv_goto (tgt := 2) S.1 S.2.1 dX12_clearComes_18 (by decide) ?_
    exact hk2 σ2 v4 _ _ _ hw (lv_sub hl [1, 0] rfl) hf
def fX12_clearComes_2 (N : Nat) : Nat → St → Int32 → Option St
  | 0 => fun _ _ => none
  | n + 1 => fX12_clearComes_2b N (fX12_clearComes_2 N n)
theorem wX12_clearComes_2 {σ' : St} {N : Nat} (S : CallFix p m c cX12_clearComes 2 s av BG RX12) (hr : meth.sig.returnType = none) (hlk : meth.locks = false) : ∀ (n : Nat), ∀ (σ : St) (x1 : Int32) (ls : Array Slot) (H : Heap) (locs : List Loc), Hw (MWd D ad cs) s σ H locs → lv_has ls 2 [(0, .ref (ad 0)), (1, .int x1)] → fX12_clearComes_2 N n σ x1 = some σ' → W p l e (RM 0 0) s m av below meth c H locs 0 0 (QV below (MWd D ad cs) av s σ') (F0 m 2 ls []) := by
  intro n
  induction n with
  | zero => intro _ _ ls H locs hw hl hf; cases hf
  | succ n ih => intro _ _ ls H locs hw hl hf; exact wX12_clearComes_2b S hr hlk ih hw hl hf
def fX12_clearComes (N : Nat) (σ : St) : Option St :=
  fX12_clearComes_2 N N σ (0 : Int32)
set_option maxHeartbeats 2000000 in
set_option maxRecDepth 20000 in
theorem tX12_clearComes {σ' : St} {N : Nat} {σ : St} (hf : fX12_clearComes N σ = some σ') : CV l (MWd D ad cs) yX12_clearComes cX12_clearComes 2 0 0 [.ref (ad 0)] σ σ' := by
  refine CV.of (by decide) (Nat.le_of_ble_eq_true rfl) ?_
  intro p e s m below meth c ls S hr hlk hw hl
  have hl : lv_has ls 2 [(0, .ref (ad 0))] := hl
  unfold fX12_clearComes at hf
  refine lv_iconst (v := 0) S.1 S.2.1 dX12_clearComes_0 (by decide) ?_
  refine lv_istore_n (lv' := [(1, .int (0 : Int32)), (0, .ref (ad 0))]) S.1 S.2.1 dX12_clearComes_1 rfl hl (by decide) rfl (fun ls hl => ?_)
  exact wX12_clearComes_2 S hr hlk N σ (0 : Int32) _ _ _ hw (lv_sub hl [1, 0] rfl) hf
def fX12_yearly_71 (N : Nat) (k24 : St → Int32 → Int32 → Int32 → Option (Int64 × St)) (σ : St) (x1 : Int32) (x2 : Int32) (x3 : Int32) : Option (Int64 × St) :=
  nm (x3 + (1 : Int32)) fun v17 => k24 σ x1 x2 v17
set_option maxHeartbeats 2000000 in
set_option maxRecDepth 20000 in
theorem wX12_yearly_71 {r : Int64} {σ' : St} {N : Nat} (S : CallFix p m c cX12_yearly 4 s av BG RX12) (hr : meth.sig.returnType = some .long) (hlk : meth.locks = false) {k24 : St → Int32 → Int32 → Int32 → Option (Int64 × St)} (hk24 : ∀ (σ : St) (x1 : Int32) (x2 : Int32) (x3 : Int32) (ls : Array Slot) (H : Heap) (locs : List Loc), Hw (MWd D ad cs) s σ H locs → lv_has ls 4 [(0, .ref (ad 0)), (1, .int x1), (2, .int x2), (3, .int x3)] → k24 σ x1 x2 x3 = some (r, σ') → W p l e (RM 3 73) s m av below meth c H locs 0 0 (QJ below (MWd D ad cs) av s r σ') (F0 m 24 ls []))  {σ : St} {x1 : Int32} {x2 : Int32} {x3 : Int32} {ls : Array Slot} {H : Heap} {locs : List Loc} (hw : Hw (MWd D ad cs) s σ H locs) (hl : lv_has ls 4 [(0, .ref (ad 0)), (1, .int x1), (2, .int x2), (3, .int x3)]) (hf : fX12_yearly_71 N k24 σ x1 x2 x3 = some (r, σ')) : W p l e (RM 3 73) s m av below meth c H locs 0 0 (QJ below (MWd D ad cs) av s r σ') (F0 m 71 ls []) := by
  unfold fX12_yearly_71 at hf
  obtain ⟨v17, e18⟩ : ∃ z : Int32, z = x3 + (1 : Int32) := ⟨_, rfl⟩
  have hf := nm_s e18 hf
  refine lv_iinc (v := v17) (lv' := [(3, .int v17), (0, .ref (ad 0)), (1, .int x1), (2, .int x2)]) S.1 S.2.1 dX12_yearly_71 hl (k := 3) rfl (by rw [e18]; rfl) (by decide) rfl (fun ls hl => ?_)
  refine lv_goto (tgt := 24) S.1 S.2.1 dX12_yearly_74 (by decide) ?_
  exact hk24 σ x1 x2 v17 _ _ _ hw (lv_sub hl [1, 2, 3, 0] rfl) hf
def fX12_yearly_24b (N : Nat) (k24 : St → Int32 → Int32 → Int32 → Option (Int64 × St)) (σ : St) (x1 : Int32) (x2 : Int32) (x3 : Int32) : Option (Int64 × St) :=
  if (σ.1 4) ≤ x3 then (bd (fX12_parted N σ x1) fun r3 => some (r3, σ)) else (bd (fX12_isInForce N σ x3 x2) fun r5 => if r5 = 0 then (fX12_yearly_71 N k24 σ x1 x2 x3) else (if ix x3 24 = true then if ix (aR σ 23 x3) 16 = true then bd (fX12_ownerIn N σ (aR σ 16 (aR σ 23 x3)) x2) fun r9 => if ix r9 10 = true then bd (fX12_yearlyOf N σ x3) fun r12 => if ix r9 10 = true then nm (jW σ 30 r9 ((jR σ 30 r9) + (r12).toInt64)) fun σ15 => fX12_yearly_71 N k24 σ15 x1 x2 x3 else none else none else none else none))
set_option maxHeartbeats 2000000 in
set_option maxRecDepth 20000 in
theorem wX12_yearly_24b {r : Int64} {σ' : St} {N : Nat} (S : CallFix p m c cX12_yearly 4 s av BG RX12) (hr : meth.sig.returnType = some .long) (hlk : meth.locks = false) {k24 : St → Int32 → Int32 → Int32 → Option (Int64 × St)} (hk24 : ∀ (σ : St) (x1 : Int32) (x2 : Int32) (x3 : Int32) (ls : Array Slot) (H : Heap) (locs : List Loc), Hw (MWd D ad cs) s σ H locs → lv_has ls 4 [(0, .ref (ad 0)), (1, .int x1), (2, .int x2), (3, .int x3)] → k24 σ x1 x2 x3 = some (r, σ') → W p l e (RM 3 73) s m av below meth c H locs 0 0 (QJ below (MWd D ad cs) av s r σ') (F0 m 24 ls []))  {σ : St} {x1 : Int32} {x2 : Int32} {x3 : Int32} {ls : Array Slot} {H : Heap} {locs : List Loc} (hw : Hw (MWd D ad cs) s σ H locs) (hl : lv_has ls 4 [(0, .ref (ad 0)), (1, .int x1), (2, .int x2), (3, .int x3)]) (hf : fX12_yearly_24b N k24 σ x1 x2 x3 = some (r, σ')) : W p l e (RM 3 73) s m av below meth c H locs 0 0 (QJ below (MWd D ad cs) av s r σ') (F0 m 24 ls []) := by
  unfold fX12_yearly_24b at hf
  refine lv_iload_n S.1 S.2.1 dX12_yearly_24 rfl (lv_at hl 3 rfl) ?_
  refine lv_aload_n S.1 S.2.1 dX12_yearly_25 rfl (lv_at hl 0 rfl) ?_
  refine mg_WayLeavesModel_leaves S hw kf_X12_150 dX12_yearly_26 ?_
  refine lv_icmp_ge (tgt := 77) S.1 S.2.1 dX12_yearly_29 (by decide) (fun hc => ?_) (fun hc => ?_)
  · have hf := itt hf hc
    refine lv_aload_n S.1 S.2.1 dX12_yearly_77 rfl (lv_at hl 0 rfl) ?_
    refine lv_iload_n S.1 S.2.1 dX12_yearly_78 rfl (lv_at hl 1 rfl) ?_
    obtain ⟨r3, g4, hf⟩ := bd_s hf
    refine g_Vj (rest := []) (MWd_ok D ad cs) S hw (tX12_parted g4) kt_X12_222 0 me_0 rfl rfl ⟨Nat.le_of_ble_eq_true rfl, Nat.le_of_ble_eq_true rfl⟩ rfl hl.1 rfl (Nat.le_of_ble_eq_true rfl) ⟨Nat.zero_le _, Nat.zero_le _⟩ dX12_yearly_79 (fun H locs hw => ?_)
    exact g_jret (MWd_ok D ad cs) S hr hlk hw dX12_yearly_82 (Prod.mk.inj (Option.some.inj hf)).1 (Prod.mk.inj (Option.some.inj hf)).2
  · have hf := itf hf hc
    refine lv_aload_n S.1 S.2.1 dX12_yearly_32 rfl (lv_at hl 0 rfl) ?_
    refine lv_iload_n S.1 S.2.1 dX12_yearly_33 rfl (lv_at hl 3 rfl) ?_
    refine lv_iload_n S.1 S.2.1 dX12_yearly_34 rfl (lv_at hl 2 rfl) ?_
    obtain ⟨r5, g6, hf⟩ := bd_s hf
    refine g_Vi (rest := []) (MWd_ok D ad cs) S hw (tX12_isInForce g6) kt_X12_197 0 me_0 rfl rfl ⟨Nat.le_of_ble_eq_true rfl, Nat.le_of_ble_eq_true rfl⟩ rfl hl.1 rfl (Nat.le_of_ble_eq_true rfl) ⟨Nat.zero_le _, Nat.zero_le _⟩ dX12_yearly_35 (fun H locs hw => ?_)
    refine lv_if_eq (tgt := 71) S.1 S.2.1 dX12_yearly_38 (by decide) (fun hc => ?_) (fun hc => ?_)
    · have hf := itt hf hc
      exact wX12_yearly_71 S hr hlk hk24 hw (lv_sub hl [0, 1, 2, 3] rfl) hf
    · have hf := itf hf hc
      refine lv_aload_n S.1 S.2.1 dX12_yearly_41 rfl (lv_at hl 0 rfl) ?_
      refine mg_WayLeavesModel_comes S hw kf_X12_214 dX12_yearly_42 ?_
      refine lv_aload_n S.1 S.2.1 dX12_yearly_45 rfl (lv_at hl 0 rfl) ?_
      refine lv_aload_n S.1 S.2.1 dX12_yearly_46 rfl (lv_at hl 0 rfl) ?_
      refine mg_WayLeavesModel_spanPlot S hw kf_X12_111 dX12_yearly_47 ?_
      refine lv_aload_n S.1 S.2.1 dX12_yearly_50 rfl (lv_at hl 0 rfl) ?_
      refine mg_WayLeavesModel_spanOf S hw kf_X12_160 dX12_yearly_51 ?_
      refine lv_iload_n S.1 S.2.1 dX12_yearly_54 rfl (lv_at hl 3 rfl) ?_
      obtain ⟨h7, hf⟩ := gd_ix hf
      refine g_iald S hw 23 0 me_23 rfl h7 dX12_yearly_55 ?_
      obtain ⟨h8, hf⟩ := gd_ix hf
      refine g_iald S hw 16 0 me_16 rfl h8 dX12_yearly_56 ?_
      refine lv_iload_n S.1 S.2.1 dX12_yearly_57 rfl (lv_at hl 2 rfl) ?_
      obtain ⟨r9, g10, hf⟩ := bd_s hf
      refine g_Vi (rest := [.ref (ad 30)]) (MWd_ok D ad cs) S hw (tX12_ownerIn g10) kt_X12_42 0 me_0 rfl rfl ⟨Nat.le_of_ble_eq_true rfl, Nat.le_of_ble_eq_true rfl⟩ rfl hl.1 rfl (Nat.le_of_ble_eq_true rfl) ⟨Nat.zero_le _, Nat.zero_le _⟩ dX12_yearly_58 (fun H locs hw => ?_)
      refine lv_dup2_11 S.1 S.2.1 dX12_yearly_61 rfl rfl ?_
      obtain ⟨h11, hf⟩ := gd_ix hf
      refine g_lald S hw 30 1 me_30 rfl h11 dX12_yearly_62 ?_
      refine lv_aload_n S.1 S.2.1 dX12_yearly_63 rfl (lv_at hl 0 rfl) ?_
      refine lv_iload_n S.1 S.2.1 dX12_yearly_64 rfl (lv_at hl 3 rfl) ?_
      obtain ⟨r12, g13, hf⟩ := bd_s hf
      refine g_Vi (rest := [.long (jR σ 30 r9), .int r9, .ref (ad 30)]) (MWd_ok D ad cs) S hw (tX12_yearlyOf g13) kt_X12_194 0 me_0 rfl rfl ⟨Nat.le_of_ble_eq_true rfl, Nat.le_of_ble_eq_true rfl⟩ rfl hl.1 rfl (Nat.le_of_ble_eq_true rfl) ⟨Nat.zero_le _, Nat.zero_le _⟩ dX12_yearly_65 (fun H locs hw => ?_)
      refine lv_i2l S.1 S.2.1 dX12_yearly_68 rfl ?_
      refine lv_ladd S.1 S.2.1 dX12_yearly_69 ?_
      obtain ⟨h14, hf⟩ := gd_ix hf
      obtain ⟨σ15, e16⟩ : ∃ z : St, z = jW σ 30 r9 ((jR σ 30 r9) + (r12).toInt64) := ⟨_, rfl⟩
      have hf := nm_s e16 hf
      refine g_last (σ' := σ15) S hw 30 1 me_30 rfl (by rw [e16]; exact ms_30 _) h14 dX12_yearly_70 (fun H locs hw => ?_)
      exact wX12_yearly_71 S hr hlk hk24 hw (lv_sub hl [0, 1, 2, 3] rfl) hf
def fX12_yearly_24 (N : Nat) : Nat → St → Int32 → Int32 → Int32 → Option (Int64 × St)
  | 0 => fun _ _ _ _ => none
  | n + 1 => fX12_yearly_24b N (fX12_yearly_24 N n)
theorem wX12_yearly_24 {r : Int64} {σ' : St} {N : Nat} (S : CallFix p m c cX12_yearly 4 s av BG RX12) (hr : meth.sig.returnType = some .long) (hlk : meth.locks = false) : ∀ (n : Nat), ∀ (σ : St) (x1 : Int32) (x2 : Int32) (x3 : Int32) (ls : Array Slot) (H : Heap) (locs : List Loc), Hw (MWd D ad cs) s σ H locs → lv_has ls 4 [(0, .ref (ad 0)), (1, .int x1), (2, .int x2), (3, .int x3)] → fX12_yearly_24 N n σ x1 x2 x3 = some (r, σ') → W p l e (RM 3 73) s m av below meth c H locs 0 0 (QJ below (MWd D ad cs) av s r σ') (F0 m 24 ls []) := by
  intro n
  induction n with
  | zero => intro _ _ _ _ ls H locs hw hl hf; cases hf
  | succ n ih => intro _ _ _ _ ls H locs hw hl hf; exact wX12_yearly_24b S hr hlk ih hw hl hf
def fX12_yearly (N : Nat) (σ : St) (x1 : Int32) (x2 : Int32) : Option (Int64 × St) :=
  if (fX12_isOwner x1) = 0 then (some ((-4611686018427387904 : Int64), σ)) else (if (fX12_isDay x2) = 0 then (some ((-4611686018427387904 : Int64), σ)) else (bd (fX12_clearComes N σ) fun σ1 => fX12_yearly_24 N N σ1 x1 x2 (0 : Int32)))
set_option maxHeartbeats 2000000 in
set_option maxRecDepth 20000 in
theorem tX12_yearly {r : Int64} {σ' : St} {N : Nat} {σ : St} {x1 : Int32} {x2 : Int32} (hf : fX12_yearly N σ x1 x2 = some (r, σ')) : CJ l (MWd D ad cs) yX12_yearly cX12_yearly 4 (some .long) 3 73 [.ref (ad 0), .int x1, .int x2] σ r σ' := by
  refine CJ.of (by decide) (Nat.le_of_ble_eq_true rfl) ?_
  intro p e s m below meth c ls S hr hlk hw hl
  have hl : lv_has ls 4 [(0, .ref (ad 0)), (1, .int x1), (2, .int x2)] := hl
  unfold fX12_yearly at hf
  refine lv_iload_n S.1 S.2.1 dX12_yearly_0 rfl (lv_at hl 1 rfl) ?_
  refine g_Si (rest := []) (MWd_ok D ad cs) S hw (tX12_isOwner (ad := ad) (cs := cs) (σ := σ) rfl) kt_X12_23 ⟨Nat.le_of_ble_eq_true rfl, Nat.le_of_ble_eq_true rfl⟩ rfl hl.1 rfl (Nat.le_of_ble_eq_true rfl) ⟨Nat.zero_le _, Nat.zero_le _⟩ dX12_yearly_1 (fun H locs hw => ?_)
  refine lv_if_eq (tgt := 14) S.1 S.2.1 dX12_yearly_4 (by decide) (fun hc => ?_) (fun hc => ?_)
  · have hf := itt hf hc
    refine lv_ldc2 S.1 S.2.1 S.2.2.2.1 (S.2.2.2.2 _ kc_X12_142) dX12_yearly_14 ?_
    exact g_jret (MWd_ok D ad cs) S hr hlk hw dX12_yearly_17 (Prod.mk.inj (Option.some.inj hf)).1 (Prod.mk.inj (Option.some.inj hf)).2
  · have hf := itf hf hc
    refine lv_iload_n S.1 S.2.1 dX12_yearly_7 rfl (lv_at hl 2 rfl) ?_
    refine g_Si (rest := []) (MWd_ok D ad cs) S hw (tX12_isDay (ad := ad) (cs := cs) (σ := σ) rfl) kt_X12_39 ⟨Nat.le_of_ble_eq_true rfl, Nat.le_of_ble_eq_true rfl⟩ rfl hl.1 rfl (Nat.le_of_ble_eq_true rfl) ⟨Nat.zero_le _, Nat.zero_le _⟩ dX12_yearly_8 (fun H locs hw => ?_)
    refine lv_if_ne (tgt := 18) S.1 S.2.1 dX12_yearly_11 (by decide) (fun hc => ?_) (fun hc => ?_)
    · have hf := itf hf hc
      refine lv_aload_n S.1 S.2.1 dX12_yearly_18 rfl (lv_at hl 0 rfl) ?_
      obtain ⟨σ1, g2, hf⟩ := bd_s hf
      refine g_Vv (rest := []) (MWd_ok D ad cs) S hw (tX12_clearComes g2) kt_X12_218 0 me_0 rfl rfl ⟨Nat.le_of_ble_eq_true rfl, Nat.le_of_ble_eq_true rfl⟩ rfl hl.1 rfl (Nat.le_of_ble_eq_true rfl) ⟨Nat.zero_le _, Nat.zero_le _⟩ dX12_yearly_19 (fun H locs hw => ?_)
      refine lv_iconst (v := 0) S.1 S.2.1 dX12_yearly_22 (by decide) ?_
      refine lv_istore_n (lv' := [(3, .int (0 : Int32)), (0, .ref (ad 0)), (1, .int x1), (2, .int x2)]) S.1 S.2.1 dX12_yearly_23 rfl hl (by decide) rfl (fun ls hl => ?_)
      exact wX12_yearly_24 S hr hlk N σ1 x1 x2 (0 : Int32) _ _ _ hw (lv_sub hl [1, 2, 3, 0] rfl) hf
    · have hf := itt hf hc
      refine lv_ldc2 S.1 S.2.1 S.2.2.2.1 (S.2.2.2.2 _ kc_X12_142) dX12_yearly_14 ?_
      exact g_jret (MWd_ok D ad cs) S hr hlk hw dX12_yearly_17 (Prod.mk.inj (Option.some.inj hf)).1 (Prod.mk.inj (Option.some.inj hf)).2
def fX12_feed_33b (N : Nat) (k33 : St → Int32 → Int64 → Int32 → Option (Int32 × St)) (σ : St) (x1 : Int32) (x2 : Int64) (x4 : Int32) : Option (Int32 × St) :=
  if x1 ≤ x4 then (some ((σ.1 5), σ)) else (if ix (σ.1 5) 160 = true then nm (aW σ 31 (σ.1 5) (vp_nar .byte (((x2 >>> ((((8 : Int32) * x4)).toInt64 &&& 63))).toInt32).toInt8.toInt32)) fun σ2 => nm (sI σ2 5 ((σ2.1 5) + (1 : Int32))) fun σ4 => nm (x4 + (1 : Int32)) fun v6 => k33 σ4 x1 x2 v6 else none)
set_option maxHeartbeats 2000000 in
set_option maxRecDepth 20000 in
theorem wX12_feed_33b {r : Int32} {σ' : St} {N : Nat} (S : CallFix p m c cX12_feed 5 s av BG RX12) (hr : meth.sig.returnType = some .int) (hlk : meth.locks = false) {k33 : St → Int32 → Int64 → Int32 → Option (Int32 × St)} (hk33 : ∀ (σ : St) (x1 : Int32) (x2 : Int64) (x4 : Int32) (ls : Array Slot) (H : Heap) (locs : List Loc), Hw (MWd D ad cs) s σ H locs → lv_has ls 5 [(0, .ref (ad 0)), (1, .int x1), (2, .long x2), (4, .int x4)] → k33 σ x1 x2 x4 = some (r, σ') → W p l e (RM 1 25) s m av below meth c H locs 0 0 (QI below (MWd D ad cs) av s r σ') (F0 m 33 ls []))  {σ : St} {x1 : Int32} {x2 : Int64} {x4 : Int32} {ls : Array Slot} {H : Heap} {locs : List Loc} (hw : Hw (MWd D ad cs) s σ H locs) (hl : lv_has ls 5 [(0, .ref (ad 0)), (1, .int x1), (2, .long x2), (4, .int x4)]) (hf : fX12_feed_33b N k33 σ x1 x2 x4 = some (r, σ')) : W p l e (RM 1 25) s m av below meth c H locs 0 0 (QI below (MWd D ad cs) av s r σ') (F0 m 33 ls []) := by
  unfold fX12_feed_33b at hf
  refine lv_iload S.1 S.2.1 dX12_feed_33 (lv_at hl 3 rfl) ?_
  refine lv_iload_n S.1 S.2.1 dX12_feed_35 rfl (lv_at hl 1 rfl) ?_
  refine lv_icmp_ge (tgt := 73) S.1 S.2.1 dX12_feed_36 (by decide) (fun hc => ?_) (fun hc => ?_)
  · have hf := itt hf hc
    refine lv_aload_n S.1 S.2.1 dX12_feed_73 rfl (lv_at hl 0 rfl) ?_
    refine mg_WayLeavesModel_taped S hw kf_X12_228 dX12_feed_74 ?_
    exact g_iret (MWd_ok D ad cs) S hr hlk hw dX12_feed_77 (Prod.mk.inj (Option.some.inj hf)).1 (Prod.mk.inj (Option.some.inj hf)).2
  · have hf := itf hf hc
    refine lv_aload_n S.1 S.2.1 dX12_feed_39 rfl (lv_at hl 0 rfl) ?_
    refine mg_WayLeavesModel_tape S hw kf_X12_231 dX12_feed_40 ?_
    refine lv_aload_n S.1 S.2.1 dX12_feed_43 rfl (lv_at hl 0 rfl) ?_
    refine mg_WayLeavesModel_taped S hw kf_X12_228 dX12_feed_44 ?_
    refine lv_lload_n S.1 S.2.1 dX12_feed_47 rfl (lv_at hl 2 rfl) ?_
    refine lv_bipush (v := 8) S.1 S.2.1 dX12_feed_48 (by decide) ?_
    refine lv_iload S.1 S.2.1 dX12_feed_50 (lv_at hl 3 rfl) ?_
    refine lv_imul S.1 S.2.1 dX12_feed_52 ?_
    refine lv_lshr S.1 S.2.1 dX12_feed_53 rfl ?_
    refine lv_l2i S.1 S.2.1 dX12_feed_54 rfl ?_
    refine lv_i2b S.1 S.2.1 dX12_feed_55 rfl ?_
    obtain ⟨h1, hf⟩ := gd_ix hf
    obtain ⟨σ2, e3⟩ : ∃ z : St, z = aW σ 31 (σ.1 5) (vp_nar .byte (((x2 >>> ((((8 : Int32) * x4)).toInt64 &&& 63))).toInt32).toInt8.toInt32) := ⟨_, rfl⟩
    have hf := nm_s e3 hf
    refine g_bast (σ' := σ2) S hw 31 4 me_31 rfl (by rw [e3]; exact ms_31 _) h1 dX12_feed_56 (fun H locs hw => ?_)
    refine lv_aload_n S.1 S.2.1 dX12_feed_57 rfl (lv_at hl 0 rfl) ?_
    refine lv_dup S.1 S.2.1 dX12_feed_58 rfl ?_
    refine mg_WayLeavesModel_taped S hw kf_X12_228 dX12_feed_59 ?_
    refine lv_iconst (v := 1) S.1 S.2.1 dX12_feed_62 (by decide) ?_
    refine lv_iadd S.1 S.2.1 dX12_feed_63 ?_
    obtain ⟨σ4, e5⟩ : ∃ z : St, z = sI σ2 5 ((σ2.1 5) + (1 : Int32)) := ⟨_, rfl⟩
    have hf := nm_s e5 hf
    refine mp_WayLeavesModel_taped S hw e5 kf_X12_228 dX12_feed_64 (fun H locs hw => ?_)
    obtain ⟨v6, e7⟩ : ∃ z : Int32, z = x4 + (1 : Int32) := ⟨_, rfl⟩
    have hf := nm_s e7 hf
    refine lv_iinc (v := v6) (lv' := [(4, .int v6), (0, .ref (ad 0)), (1, .int x1), (2, .long x2)]) S.1 S.2.1 dX12_feed_67 hl (k := 3) rfl (by rw [e7]; rfl) (by decide) rfl (fun ls hl => ?_)
    refine lv_goto (tgt := 33) S.1 S.2.1 dX12_feed_70 (by decide) ?_
    exact hk33 σ4 x1 x2 v6 _ _ _ hw (lv_sub hl [1, 2, 3, 0] rfl) hf
def fX12_feed_33 (N : Nat) : Nat → St → Int32 → Int64 → Int32 → Option (Int32 × St)
  | 0 => fun _ _ _ _ => none
  | n + 1 => fX12_feed_33b N (fX12_feed_33 N n)
theorem wX12_feed_33 {r : Int32} {σ' : St} {N : Nat} (S : CallFix p m c cX12_feed 5 s av BG RX12) (hr : meth.sig.returnType = some .int) (hlk : meth.locks = false) : ∀ (n : Nat), ∀ (σ : St) (x1 : Int32) (x2 : Int64) (x4 : Int32) (ls : Array Slot) (H : Heap) (locs : List Loc), Hw (MWd D ad cs) s σ H locs → lv_has ls 5 [(0, .ref (ad 0)), (1, .int x1), (2, .long x2), (4, .int x4)] → fX12_feed_33 N n σ x1 x2 x4 = some (r, σ') → W p l e (RM 1 25) s m av below meth c H locs 0 0 (QI below (MWd D ad cs) av s r σ') (F0 m 33 ls []) := by
  intro n
  induction n with
  | zero => intro _ _ _ _ ls H locs hw hl hf; cases hf
  | succ n ih => intro _ _ _ _ ls H locs hw hl hf; exact wX12_feed_33b S hr hlk ih hw hl hf
def fX12_feed (N : Nat) (σ : St) (x1 : Int32) (x2 : Int64) : Option (Int32 × St) :=
  if (fX12_isIn (x1).toInt64 (1 : Int64) (8 : Int64)) = 0 then (some ((-2 : Int32), σ)) else (if ((σ.1 5) + x1) ≤ (160 : Int32) then (fX12_feed_33 N N σ x1 x2 (0 : Int32)) else (some ((-4 : Int32), σ)))
set_option maxHeartbeats 2000000 in
set_option maxRecDepth 20000 in
theorem tX12_feed {r : Int32} {σ' : St} {N : Nat} {σ : St} {x1 : Int32} {x2 : Int64} (hf : fX12_feed N σ x1 x2 = some (r, σ')) : CI l (MWd D ad cs) yX12_feed cX12_feed 5 (some .int) 1 25 [.ref (ad 0), .int x1, .long x2] σ r σ' := by
  refine CI.of (by decide) (Nat.le_of_ble_eq_true rfl) ?_
  intro p e s m below meth c ls S hr hlk hw hl
  have hl : lv_has ls 5 [(0, .ref (ad 0)), (1, .int x1), (2, .long x2)] := hl
  unfold fX12_feed at hf
  refine lv_iload_n S.1 S.2.1 dX12_feed_0 rfl (lv_at hl 1 rfl) ?_
  refine lv_i2l S.1 S.2.1 dX12_feed_1 rfl ?_
  refine lv_lconst (v := 1) S.1 S.2.1 dX12_feed_2 (by decide) ?_
  refine lv_ldc2 S.1 S.2.1 S.2.2.2.1 (S.2.2.2.2 _ kc_X12_226) dX12_feed_3 ?_
  refine g_Si (rest := []) (MWd_ok D ad cs) S hw (tX12_isIn (ad := ad) (cs := cs) (σ := σ) rfl) kt_X12_5 ⟨Nat.le_of_ble_eq_true rfl, Nat.le_of_ble_eq_true rfl⟩ rfl hl.1 rfl (Nat.le_of_ble_eq_true rfl) ⟨Nat.zero_le _, Nat.zero_le _⟩ dX12_feed_6 (fun H locs hw => ?_)
  refine lv_if_ne (tgt := 15) S.1 S.2.1 dX12_feed_9 (by decide) (fun hc => ?_) (fun hc => ?_)
  · have hf := itf hf hc
    refine lv_aload_n S.1 S.2.1 dX12_feed_15 rfl (lv_at hl 0 rfl) ?_
    refine mg_WayLeavesModel_taped S hw kf_X12_228 dX12_feed_16 ?_
    refine lv_iload_n S.1 S.2.1 dX12_feed_19 rfl (lv_at hl 1 rfl) ?_
    refine lv_iadd S.1 S.2.1 dX12_feed_20 ?_
    refine lv_sipush (v := 160) S.1 S.2.1 dX12_feed_21 (by decide) ?_
    refine lv_icmp_le (tgt := 30) S.1 S.2.1 dX12_feed_24 (by decide) (fun hc => ?_) (fun hc => ?_)
    · have hf := itt hf hc
      refine lv_iconst (v := 0) S.1 S.2.1 dX12_feed_30 (by decide) ?_
      refine lv_istore (lv' := [(4, .int (0 : Int32)), (0, .ref (ad 0)), (1, .int x1), (2, .long x2)]) S.1 S.2.1 dX12_feed_31 hl (by decide) rfl (fun ls hl => ?_)
      exact wX12_feed_33 S hr hlk N σ x1 x2 (0 : Int32) _ _ _ hw (lv_sub hl [1, 2, 3, 0] rfl) hf
    · have hf := itf hf hc
      refine lv_bipush (v := -4) S.1 S.2.1 dX12_feed_27 (by decide) ?_
      exact g_iret (MWd_ok D ad cs) S hr hlk hw dX12_feed_29 (Prod.mk.inj (Option.some.inj hf)).1 (Prod.mk.inj (Option.some.inj hf)).2
  · have hf := itt hf hc
    refine lv_bipush (v := -2) S.1 S.2.1 dX12_feed_12 (by decide) ?_
    exact g_iret (MWd_ok D ad cs) S hr hlk hw dX12_feed_14 (Prod.mk.inj (Option.some.inj hf)).1 (Prod.mk.inj (Option.some.inj hf)).2
def fX12_isLetter (N : Nat) (σ : St) (x1 : Int32) : Option Int32 :=
  if (σ.1 5) ≤ x1 then (some (0 : Int32)) else (if ix x1 160 = true then if (aR σ 31 x1) < (97 : Int32) then (some (0 : Int32)) else (if ix x1 160 = true then if (122 : Int32) < (aR σ 31 x1) then (some (0 : Int32)) else (some (1 : Int32)) else none) else none)
set_option maxHeartbeats 2000000 in
set_option maxRecDepth 20000 in
theorem tX12_isLetter {r : Int32} {N : Nat} {σ : St} {x1 : Int32} (hf : fX12_isLetter N σ x1 = some r) : CI l (MWd D ad cs) yX12_isLetter cX12_isLetter 2 (some .boolean) 0 0 [.ref (ad 0), .int x1] σ r σ := by
  refine CI.of (by decide) (Nat.le_of_ble_eq_true rfl) ?_
  intro p e s m below meth c ls S hr hlk hw hl
  have hl : lv_has ls 2 [(0, .ref (ad 0)), (1, .int x1)] := hl
  unfold fX12_isLetter at hf
  refine lv_iload_n S.1 S.2.1 dX12_isLetter_0 rfl (lv_at hl 1 rfl) ?_
  refine lv_aload_n S.1 S.2.1 dX12_isLetter_1 rfl (lv_at hl 0 rfl) ?_
  refine mg_WayLeavesModel_taped S hw kf_X12_228 dX12_isLetter_2 ?_
  refine lv_icmp_ge (tgt := 34) S.1 S.2.1 dX12_isLetter_5 (by decide) (fun hc => ?_) (fun hc => ?_)
  · have hf := itt hf hc
    refine lv_iconst (v := 0) S.1 S.2.1 dX12_isLetter_34 (by decide) ?_
    exact g_zret (MWd_ok D ad cs) S hr hlk hw rfl dX12_isLetter_35 (Option.some.inj hf) rfl
  · have hf := itf hf hc
    refine lv_aload_n S.1 S.2.1 dX12_isLetter_8 rfl (lv_at hl 0 rfl) ?_
    refine mg_WayLeavesModel_tape S hw kf_X12_231 dX12_isLetter_9 ?_
    refine lv_iload_n S.1 S.2.1 dX12_isLetter_12 rfl (lv_at hl 1 rfl) ?_
    obtain ⟨h1, hf⟩ := gd_ix hf
    refine g_bald S hw 31 4 me_31 rfl h1 dX12_isLetter_13 ?_
    refine lv_bipush (v := 97) S.1 S.2.1 dX12_isLetter_14 (by decide) ?_
    refine lv_icmp_lt (tgt := 34) S.1 S.2.1 dX12_isLetter_16 (by decide) (fun hc => ?_) (fun hc => ?_)
    · have hf := itt hf hc
      refine lv_iconst (v := 0) S.1 S.2.1 dX12_isLetter_34 (by decide) ?_
      exact g_zret (MWd_ok D ad cs) S hr hlk hw rfl dX12_isLetter_35 (Option.some.inj hf) rfl
    · have hf := itf hf hc
      refine lv_aload_n S.1 S.2.1 dX12_isLetter_19 rfl (lv_at hl 0 rfl) ?_
      refine mg_WayLeavesModel_tape S hw kf_X12_231 dX12_isLetter_20 ?_
      refine lv_iload_n S.1 S.2.1 dX12_isLetter_23 rfl (lv_at hl 1 rfl) ?_
      obtain ⟨h2, hf⟩ := gd_ix hf
      refine g_bald S hw 31 4 me_31 rfl h2 dX12_isLetter_24 ?_
      refine lv_bipush (v := 122) S.1 S.2.1 dX12_isLetter_25 (by decide) ?_
      refine lv_icmp_gt (tgt := 34) S.1 S.2.1 dX12_isLetter_27 (by decide) (fun hc => ?_) (fun hc => ?_)
      · have hf := itt hf hc
        refine lv_iconst (v := 0) S.1 S.2.1 dX12_isLetter_34 (by decide) ?_
        exact g_zret (MWd_ok D ad cs) S hr hlk hw rfl dX12_isLetter_35 (Option.some.inj hf) rfl
      · have hf := itf hf hc
        refine lv_iconst (v := 1) S.1 S.2.1 dX12_isLetter_30 (by decide) ?_
        refine lv_goto (tgt := 35) S.1 S.2.1 dX12_isLetter_31 (by decide) ?_
        exact g_zret (MWd_ok D ad cs) S hr hlk hw rfl dX12_isLetter_35 (Option.some.inj hf) rfl
def fX12_isDigit (N : Nat) (σ : St) (x1 : Int32) : Option Int32 :=
  if (σ.1 5) ≤ x1 then (some (0 : Int32)) else (if ix x1 160 = true then if (aR σ 31 x1) < (48 : Int32) then (some (0 : Int32)) else (if ix x1 160 = true then if (57 : Int32) < (aR σ 31 x1) then (some (0 : Int32)) else (some (1 : Int32)) else none) else none)
set_option maxHeartbeats 2000000 in
set_option maxRecDepth 20000 in
theorem tX12_isDigit {r : Int32} {N : Nat} {σ : St} {x1 : Int32} (hf : fX12_isDigit N σ x1 = some r) : CI l (MWd D ad cs) yX12_isDigit cX12_isDigit 2 (some .boolean) 0 0 [.ref (ad 0), .int x1] σ r σ := by
  refine CI.of (by decide) (Nat.le_of_ble_eq_true rfl) ?_
  intro p e s m below meth c ls S hr hlk hw hl
  have hl : lv_has ls 2 [(0, .ref (ad 0)), (1, .int x1)] := hl
  unfold fX12_isDigit at hf
  refine lv_iload_n S.1 S.2.1 dX12_isDigit_0 rfl (lv_at hl 1 rfl) ?_
  refine lv_aload_n S.1 S.2.1 dX12_isDigit_1 rfl (lv_at hl 0 rfl) ?_
  refine mg_WayLeavesModel_taped S hw kf_X12_228 dX12_isDigit_2 ?_
  refine lv_icmp_ge (tgt := 34) S.1 S.2.1 dX12_isDigit_5 (by decide) (fun hc => ?_) (fun hc => ?_)
  · have hf := itt hf hc
    refine lv_iconst (v := 0) S.1 S.2.1 dX12_isDigit_34 (by decide) ?_
    exact g_zret (MWd_ok D ad cs) S hr hlk hw rfl dX12_isDigit_35 (Option.some.inj hf) rfl
  · have hf := itf hf hc
    refine lv_aload_n S.1 S.2.1 dX12_isDigit_8 rfl (lv_at hl 0 rfl) ?_
    refine mg_WayLeavesModel_tape S hw kf_X12_231 dX12_isDigit_9 ?_
    refine lv_iload_n S.1 S.2.1 dX12_isDigit_12 rfl (lv_at hl 1 rfl) ?_
    obtain ⟨h1, hf⟩ := gd_ix hf
    refine g_bald S hw 31 4 me_31 rfl h1 dX12_isDigit_13 ?_
    refine lv_bipush (v := 48) S.1 S.2.1 dX12_isDigit_14 (by decide) ?_
    refine lv_icmp_lt (tgt := 34) S.1 S.2.1 dX12_isDigit_16 (by decide) (fun hc => ?_) (fun hc => ?_)
    · have hf := itt hf hc
      refine lv_iconst (v := 0) S.1 S.2.1 dX12_isDigit_34 (by decide) ?_
      exact g_zret (MWd_ok D ad cs) S hr hlk hw rfl dX12_isDigit_35 (Option.some.inj hf) rfl
    · have hf := itf hf hc
      refine lv_aload_n S.1 S.2.1 dX12_isDigit_19 rfl (lv_at hl 0 rfl) ?_
      refine mg_WayLeavesModel_tape S hw kf_X12_231 dX12_isDigit_20 ?_
      refine lv_iload_n S.1 S.2.1 dX12_isDigit_23 rfl (lv_at hl 1 rfl) ?_
      obtain ⟨h2, hf⟩ := gd_ix hf
      refine g_bald S hw 31 4 me_31 rfl h2 dX12_isDigit_24 ?_
      refine lv_bipush (v := 57) S.1 S.2.1 dX12_isDigit_25 (by decide) ?_
      refine lv_icmp_gt (tgt := 34) S.1 S.2.1 dX12_isDigit_27 (by decide) (fun hc => ?_) (fun hc => ?_)
      · have hf := itt hf hc
        refine lv_iconst (v := 0) S.1 S.2.1 dX12_isDigit_34 (by decide) ?_
        exact g_zret (MWd_ok D ad cs) S hr hlk hw rfl dX12_isDigit_35 (Option.some.inj hf) rfl
      · have hf := itf hf hc
        refine lv_iconst (v := 1) S.1 S.2.1 dX12_isDigit_30 (by decide) ?_
        refine lv_goto (tgt := 35) S.1 S.2.1 dX12_isDigit_31 (by decide) ?_
        exact g_zret (MWd_ok D ad cs) S hr hlk hw rfl dX12_isDigit_35 (Option.some.inj hf) rfl
def fX12_readWord_119 (N : Nat) (k31 : St → Int32 → Option St) (k75 : St → Int32 → Int32 → Int32 → Int32 → Option St) (σ : St) (x1 : Int32) (x2 : Int32) (x4 : Int32) (y0 : Int32) : Option St :=
  nm (x4 + (1 : Int32)) fun v14 => k75 σ x1 x2 y0 v14
set_option maxHeartbeats 2000000 in
set_option maxRecDepth 20000 in
theorem wX12_readWord_119 {σ' : St} {N : Nat} (S : CallFix p m c cX12_readWord 5 s av BG RX12) (hr : meth.sig.returnType = none) (hlk : meth.locks = false) {k31 : St → Int32 → Option St} {k75 : St → Int32 → Int32 → Int32 → Int32 → Option St} (hk31 : ∀ (σ : St) (x1 : Int32) (ls : Array Slot) (H : Heap) (locs : List Loc), Hw (MWd D ad cs) s σ H locs → lv_has ls 5 [(0, .ref (ad 0)), (1, .int x1)] → k31 σ x1 = some σ' → W p l e (RM 1 21) s m av below meth c H locs 0 0 (QV below (MWd D ad cs) av s σ') (F0 m 31 ls [])) (hk75 : ∀ (σ : St) (x1 : Int32) (x2 : Int32) (x3 : Int32) (x4 : Int32) (ls : Array Slot) (H : Heap) (locs : List Loc), Hw (MWd D ad cs) s σ H locs → lv_has ls 5 [(0, .ref (ad 0)), (1, .int x1), (2, .int x2), (3, .int x3), (4, .int x4)] → k75 σ x1 x2 x3 x4 = some σ' → W p l e (RM 1 21) s m av below meth c H locs 0 0 (QV below (MWd D ad cs) av s σ') (F0 m 75 ls []))  {σ : St} {x1 : Int32} {x2 : Int32} {x4 : Int32} {y0 : Int32} {ls : Array Slot} {H : Heap} {locs : List Loc} (hw : Hw (MWd D ad cs) s σ H locs) (hl : lv_has ls 5 [(0, .ref (ad 0)), (1, .int x1), (2, .int x2), (4, .int x4)]) (hf : fX12_readWord_119 N k31 k75 σ x1 x2 x4 y0 = some σ') : W p l e (RM 1 21) s m av below meth c H locs 0 0 (QV below (MWd D ad cs) av s σ') (F0 m 119 ls [.int y0]) := by
  unfold fX12_readWord_119 at hf
  refine lv_istore_n (lv' := [(3, .int y0), (0, .ref (ad 0)), (1, .int x1), (2, .int x2), (4, .int x4)]) S.1 S.2.1 dX12_readWord_119 rfl hl (by decide) rfl (fun ls hl => ?_)
  obtain ⟨v14, e15⟩ : ∃ z : Int32, z = x4 + (1 : Int32) := ⟨_, rfl⟩
  have hf := nm_s e15 hf
  refine lv_iinc (v := v14) (lv' := [(4, .int v14), (3, .int y0), (0, .ref (ad 0)), (1, .int x1), (2, .int x2)]) S.1 S.2.1 dX12_readWord_120 hl (k := 4) rfl (by rw [e15]; rfl) (by decide) rfl (fun ls hl => ?_)
  refine lv_goto (tgt := 75) S.1 S.2.1 dX12_readWord_123 (by decide) ?_
  exact hk75 σ x1 x2 y0 v14 _ _ _ hw (lv_sub hl [2, 3, 4, 1, 0] rfl) hf
def fX12_readWord_163 (N : Nat) (k31 : St → Int32 → Option St) (σ : St) (x1 : Int32) : Option St :=
  nm (x1 + (1 : Int32)) fun v16 => k31 σ v16
set_option maxHeartbeats 2000000 in
set_option maxRecDepth 20000 in
theorem wX12_readWord_163 {σ' : St} {N : Nat} (S : CallFix p m c cX12_readWord 5 s av BG RX12) (hr : meth.sig.returnType = none) (hlk : meth.locks = false) {k31 : St → Int32 → Option St} (hk31 : ∀ (σ : St) (x1 : Int32) (ls : Array Slot) (H : Heap) (locs : List Loc), Hw (MWd D ad cs) s σ H locs → lv_has ls 5 [(0, .ref (ad 0)), (1, .int x1)] → k31 σ x1 = some σ' → W p l e (RM 1 21) s m av below meth c H locs 0 0 (QV below (MWd D ad cs) av s σ') (F0 m 31 ls []))  {σ : St} {x1 : Int32} {ls : Array Slot} {H : Heap} {locs : List Loc} (hw : Hw (MWd D ad cs) s σ H locs) (hl : lv_has ls 5 [(0, .ref (ad 0)), (1, .int x1)]) (hf : fX12_readWord_163 N k31 σ x1 = some σ') : W p l e (RM 1 21) s m av below meth c H locs 0 0 (QV below (MWd D ad cs) av s σ') (F0 m 163 ls []) := by
  unfold fX12_readWord_163 at hf
  obtain ⟨v16, e17⟩ : ∃ z : Int32, z = x1 + (1 : Int32) := ⟨_, rfl⟩
  have hf := nm_s e17 hf
  refine lv_iinc (v := v16) (lv' := [(1, .int v16), (0, .ref (ad 0))]) S.1 S.2.1 dX12_readWord_163 hl (k := 1) rfl (by rw [e17]; rfl) (by decide) rfl (fun ls hl => ?_)
  refine lv_goto (tgt := 31) S.1 S.2.1 dX12_readWord_166 (by decide) ?_
  exact hk31 σ v16 _ _ _ hw (lv_sub hl [1, 0] rfl) hf
def fX12_readWord_160 (N : Nat) (k31 : St → Int32 → Option St) (σ : St) (x1 : Int32) (y1 : Int32) : Option St :=
  nm (sI σ 10 y1) fun σ20 => fX12_readWord_163 N k31 σ20 x1
set_option maxHeartbeats 2000000 in
set_option maxRecDepth 20000 in
theorem wX12_readWord_160 {σ' : St} {N : Nat} (S : CallFix p m c cX12_readWord 5 s av BG RX12) (hr : meth.sig.returnType = none) (hlk : meth.locks = false) {k31 : St → Int32 → Option St} (hk31 : ∀ (σ : St) (x1 : Int32) (ls : Array Slot) (H : Heap) (locs : List Loc), Hw (MWd D ad cs) s σ H locs → lv_has ls 5 [(0, .ref (ad 0)), (1, .int x1)] → k31 σ x1 = some σ' → W p l e (RM 1 21) s m av below meth c H locs 0 0 (QV below (MWd D ad cs) av s σ') (F0 m 31 ls []))  {σ : St} {x1 : Int32} {y1 : Int32} {ls : Array Slot} {H : Heap} {locs : List Loc} (hw : Hw (MWd D ad cs) s σ H locs) (hl : lv_has ls 5 [(0, .ref (ad 0)), (1, .int x1)]) (hf : fX12_readWord_160 N k31 σ x1 y1 = some σ') : W p l e (RM 1 21) s m av below meth c H locs 0 0 (QV below (MWd D ad cs) av s σ') (F0 m 160 ls [.int y1, .ref (ad 0)]) := by
  unfold fX12_readWord_160 at hf
  obtain ⟨σ20, e21⟩ : ∃ z : St, z = sI σ 10 y1 := ⟨_, rfl⟩
  have hf := nm_s e21 hf
  refine mp_WayLeavesModel_worth S hw e21 kf_X12_254 dX12_readWord_160 (fun H locs hw => ?_)
  exact wX12_readWord_163 S hr hlk hk31 hw (lv_sub hl [0, 1] rfl) hf
def fX12_readWord_142 (N : Nat) (k31 : St → Int32 → Option St) (σ : St) (x1 : Int32) (y1 : Int32) : Option St :=
  nm (sI σ 9 y1) fun σ18 => if (6 : Int32) ≤ x1 then (fX12_readWord_160 N k31 σ18 x1 (x1 - (6 : Int32))) else (fX12_readWord_160 N k31 σ18 x1 x1)
set_option maxHeartbeats 2000000 in
set_option maxRecDepth 20000 in
theorem wX12_readWord_142 {σ' : St} {N : Nat} (S : CallFix p m c cX12_readWord 5 s av BG RX12) (hr : meth.sig.returnType = none) (hlk : meth.locks = false) {k31 : St → Int32 → Option St} (hk31 : ∀ (σ : St) (x1 : Int32) (ls : Array Slot) (H : Heap) (locs : List Loc), Hw (MWd D ad cs) s σ H locs → lv_has ls 5 [(0, .ref (ad 0)), (1, .int x1)] → k31 σ x1 = some σ' → W p l e (RM 1 21) s m av below meth c H locs 0 0 (QV below (MWd D ad cs) av s σ') (F0 m 31 ls []))  {σ : St} {x1 : Int32} {y1 : Int32} {ls : Array Slot} {H : Heap} {locs : List Loc} (hw : Hw (MWd D ad cs) s σ H locs) (hl : lv_has ls 5 [(0, .ref (ad 0)), (1, .int x1)]) (hf : fX12_readWord_142 N k31 σ x1 y1 = some σ') : W p l e (RM 1 21) s m av below meth c H locs 0 0 (QV below (MWd D ad cs) av s σ') (F0 m 142 ls [.int y1, .ref (ad 0)]) := by
  unfold fX12_readWord_142 at hf
  obtain ⟨σ18, e19⟩ : ∃ z : St, z = sI σ 9 y1 := ⟨_, rfl⟩
  have hf := nm_s e19 hf
  refine mp_WayLeavesModel_token S hw e19 kf_X12_241 dX12_readWord_142 (fun H locs hw => ?_)
  refine lv_aload_n S.1 S.2.1 dX12_readWord_145 rfl (lv_at hl 0 rfl) ?_
  refine lv_iload_n S.1 S.2.1 dX12_readWord_146 rfl (lv_at hl 1 rfl) ?_
  refine lv_bipush (v := 6) S.1 S.2.1 dX12_readWord_147 (by decide) ?_
  refine lv_icmp_ge (tgt := 156) S.1 S.2.1 dX12_readWord_149 (by decide) (fun hc => ?_) (fun hc => ?_)
  · have hf := itt hf hc
    refine lv_iload_n S.1 S.2.1 dX12_readWord_156 rfl (lv_at hl 1 rfl) ?_
    refine lv_bipush (v := 6) S.1 S.2.1 dX12_readWord_157 (by decide) ?_
    refine lv_isub S.1 S.2.1 dX12_readWord_159 ?_
    exact wX12_readWord_160 S hr hlk hk31 hw (lv_sub hl [0, 1] rfl) hf
  · have hf := itf hf hc
    refine lv_iload_n S.1 S.2.1 dX12_readWord_152 rfl (lv_at hl 1 rfl) ?_
    refine lv_goto (tgt := 160) S.1 S.2.1 dX12_readWord_153 (by decide) ?_
    exact wX12_readWord_160 S hr hlk hk31 hw (lv_sub hl [0, 1] rfl) hf
def fX12_readWord_126 (N : Nat) (k31 : St → Int32 → Option St) (σ : St) (x1 : Int32) (x3 : Int32) : Option St :=
  if x3 = 0 then (fX12_readWord_163 N k31 σ x1) else (if (6 : Int32) ≤ x1 then (fX12_readWord_142 N k31 σ x1 (4 : Int32)) else (fX12_readWord_142 N k31 σ x1 (2 : Int32)))
set_option maxHeartbeats 2000000 in
set_option maxRecDepth 20000 in
theorem wX12_readWord_126 {σ' : St} {N : Nat} (S : CallFix p m c cX12_readWord 5 s av BG RX12) (hr : meth.sig.returnType = none) (hlk : meth.locks = false) {k31 : St → Int32 → Option St} (hk31 : ∀ (σ : St) (x1 : Int32) (ls : Array Slot) (H : Heap) (locs : List Loc), Hw (MWd D ad cs) s σ H locs → lv_has ls 5 [(0, .ref (ad 0)), (1, .int x1)] → k31 σ x1 = some σ' → W p l e (RM 1 21) s m av below meth c H locs 0 0 (QV below (MWd D ad cs) av s σ') (F0 m 31 ls []))  {σ : St} {x1 : Int32} {x3 : Int32} {ls : Array Slot} {H : Heap} {locs : List Loc} (hw : Hw (MWd D ad cs) s σ H locs) (hl : lv_has ls 5 [(0, .ref (ad 0)), (1, .int x1), (3, .int x3)]) (hf : fX12_readWord_126 N k31 σ x1 x3 = some σ') : W p l e (RM 1 21) s m av below meth c H locs 0 0 (QV below (MWd D ad cs) av s σ') (F0 m 126 ls []) := by
  unfold fX12_readWord_126 at hf
  refine lv_iload_n S.1 S.2.1 dX12_readWord_126 rfl (lv_at hl 2 rfl) ?_
  refine lv_if_eq (tgt := 163) S.1 S.2.1 dX12_readWord_127 (by decide) (fun hc => ?_) (fun hc => ?_)
  · have hf := itt hf hc
    exact wX12_readWord_163 S hr hlk hk31 hw (lv_sub hl [0, 1] rfl) hf
  · have hf := itf hf hc
    refine lv_aload_n S.1 S.2.1 dX12_readWord_130 rfl (lv_at hl 0 rfl) ?_
    refine lv_iload_n S.1 S.2.1 dX12_readWord_131 rfl (lv_at hl 1 rfl) ?_
    refine lv_bipush (v := 6) S.1 S.2.1 dX12_readWord_132 (by decide) ?_
    refine lv_icmp_ge (tgt := 141) S.1 S.2.1 dX12_readWord_134 (by decide) (fun hc => ?_) (fun hc => ?_)
    · have hf := itt hf hc
      refine lv_iconst (v := 4) S.1 S.2.1 dX12_readWord_141 (by decide) ?_
      exact wX12_readWord_142 S hr hlk hk31 hw (lv_sub hl [0, 1] rfl) hf
    · have hf := itf hf hc
      refine lv_iconst (v := 2) S.1 S.2.1 dX12_readWord_137 (by decide) ?_
      refine lv_goto (tgt := 142) S.1 S.2.1 dX12_readWord_138 (by decide) ?_
      exact wX12_readWord_142 S hr hlk hk31 hw (lv_sub hl [0, 1] rfl) hf
def fX12_readWord_75b (N : Nat) (k31 : St → Int32 → Option St) (k75 : St → Int32 → Int32 → Int32 → Int32 → Option St) (σ : St) (x1 : Int32) (x2 : Int32) (x3 : Int32) (x4 : Int32) : Option St :=
  if x2 ≤ x4 then (fX12_readWord_126 N k31 σ x1 x3) else (if x3 = 0 then (fX12_readWord_126 N k31 σ x1 x3) else (if ix ((σ.1 11) + x4) 160 = true then if ix x1 12 = true then if ix ((aR σ 35 x1) + x4) 41 = true then if (aR σ 31 ((σ.1 11) + x4)) = (aR σ 34 ((aR σ 35 x1) + x4)) then (fX12_readWord_119 N k31 k75 σ x1 x2 x4 (1 : Int32)) else (fX12_readWord_119 N k31 k75 σ x1 x2 x4 (0 : Int32)) else none else none else none))
set_option maxHeartbeats 2000000 in
set_option maxRecDepth 20000 in
theorem wX12_readWord_75b {σ' : St} {N : Nat} (S : CallFix p m c cX12_readWord 5 s av BG RX12) (hr : meth.sig.returnType = none) (hlk : meth.locks = false) {k31 : St → Int32 → Option St} {k75 : St → Int32 → Int32 → Int32 → Int32 → Option St} (hk31 : ∀ (σ : St) (x1 : Int32) (ls : Array Slot) (H : Heap) (locs : List Loc), Hw (MWd D ad cs) s σ H locs → lv_has ls 5 [(0, .ref (ad 0)), (1, .int x1)] → k31 σ x1 = some σ' → W p l e (RM 1 21) s m av below meth c H locs 0 0 (QV below (MWd D ad cs) av s σ') (F0 m 31 ls [])) (hk75 : ∀ (σ : St) (x1 : Int32) (x2 : Int32) (x3 : Int32) (x4 : Int32) (ls : Array Slot) (H : Heap) (locs : List Loc), Hw (MWd D ad cs) s σ H locs → lv_has ls 5 [(0, .ref (ad 0)), (1, .int x1), (2, .int x2), (3, .int x3), (4, .int x4)] → k75 σ x1 x2 x3 x4 = some σ' → W p l e (RM 1 21) s m av below meth c H locs 0 0 (QV below (MWd D ad cs) av s σ') (F0 m 75 ls []))  {σ : St} {x1 : Int32} {x2 : Int32} {x3 : Int32} {x4 : Int32} {ls : Array Slot} {H : Heap} {locs : List Loc} (hw : Hw (MWd D ad cs) s σ H locs) (hl : lv_has ls 5 [(0, .ref (ad 0)), (1, .int x1), (2, .int x2), (3, .int x3), (4, .int x4)]) (hf : fX12_readWord_75b N k31 k75 σ x1 x2 x3 x4 = some σ') : W p l e (RM 1 21) s m av below meth c H locs 0 0 (QV below (MWd D ad cs) av s σ') (F0 m 75 ls []) := by
  unfold fX12_readWord_75b at hf
  refine lv_iload S.1 S.2.1 dX12_readWord_75 (lv_at hl 4 rfl) ?_
  refine lv_iload_n S.1 S.2.1 dX12_readWord_77 rfl (lv_at hl 2 rfl) ?_
  refine lv_icmp_ge (tgt := 126) S.1 S.2.1 dX12_readWord_78 (by decide) (fun hc => ?_) (fun hc => ?_)
  · have hf := itt hf hc
    exact wX12_readWord_126 S hr hlk hk31 hw (lv_sub hl [0, 1, 3] rfl) hf
  · have hf := itf hf hc
    refine lv_iload_n S.1 S.2.1 dX12_readWord_81 rfl (lv_at hl 3 rfl) ?_
    refine lv_if_eq (tgt := 126) S.1 S.2.1 dX12_readWord_82 (by decide) (fun hc => ?_) (fun hc => ?_)
    · have hf := itt hf hc
      exact wX12_readWord_126 S hr hlk hk31 hw (lv_sub hl [0, 1, 3] rfl) hf
    · have hf := itf hf hc
      refine lv_aload_n S.1 S.2.1 dX12_readWord_85 rfl (lv_at hl 0 rfl) ?_
      refine mg_WayLeavesModel_tape S hw kf_X12_231 dX12_readWord_86 ?_
      refine lv_aload_n S.1 S.2.1 dX12_readWord_89 rfl (lv_at hl 0 rfl) ?_
      refine mg_WayLeavesModel_place S hw kf_X12_247 dX12_readWord_90 ?_
      refine lv_iload S.1 S.2.1 dX12_readWord_93 (lv_at hl 4 rfl) ?_
      refine lv_iadd S.1 S.2.1 dX12_readWord_95 ?_
      obtain ⟨h11, hf⟩ := gd_ix hf
      refine g_bald S hw 31 4 me_31 rfl h11 dX12_readWord_96 ?_
      refine lv_aload_n S.1 S.2.1 dX12_readWord_97 rfl (lv_at hl 0 rfl) ?_
      refine mg_WayLeavesModel_letters S hw kf_X12_250 dX12_readWord_98 ?_
      refine lv_aload_n S.1 S.2.1 dX12_readWord_101 rfl (lv_at hl 0 rfl) ?_
      refine mg_WayLeavesModel_begins S hw kf_X12_244 dX12_readWord_102 ?_
      refine lv_iload_n S.1 S.2.1 dX12_readWord_105 rfl (lv_at hl 1 rfl) ?_
      obtain ⟨h12, hf⟩ := gd_ix hf
      refine g_iald S hw 35 0 me_35 rfl h12 dX12_readWord_106 ?_
      refine lv_iload S.1 S.2.1 dX12_readWord_107 (lv_at hl 4 rfl) ?_
      refine lv_iadd S.1 S.2.1 dX12_readWord_109 ?_
      obtain ⟨h13, hf⟩ := gd_ix hf
      refine g_cald S hw 34 5 me_34 rfl h13 dX12_readWord_110 ?_
      refine lv_icmp_ne (tgt := 118) S.1 S.2.1 dX12_readWord_111 (by decide) (fun hc => ?_) (fun hc => ?_)
      · have hf := itf hf hc
        refine lv_iconst (v := 0) S.1 S.2.1 dX12_readWord_118 (by decide) ?_
        exact wX12_readWord_119 S hr hlk hk31 hk75 hw (lv_sub hl [0, 1, 2, 4] rfl) hf
      · have hf := itt hf hc
        refine lv_iconst (v := 1) S.1 S.2.1 dX12_readWord_114 (by decide) ?_
        refine lv_goto (tgt := 119) S.1 S.2.1 dX12_readWord_115 (by decide) ?_
        exact wX12_readWord_119 S hr hlk hk31 hk75 hw (lv_sub hl [0, 1, 2, 4] rfl) hf
def fX12_readWord_75 (N : Nat) (k31 : St → Int32 → Option St) : Nat → St → Int32 → Int32 → Int32 → Int32 → Option St
  | 0 => fun _ _ _ _ _ => none
  | n + 1 => fX12_readWord_75b N k31 (fX12_readWord_75 N k31 n)
theorem wX12_readWord_75 {σ' : St} {N : Nat} (S : CallFix p m c cX12_readWord 5 s av BG RX12) (hr : meth.sig.returnType = none) (hlk : meth.locks = false) {k31 : St → Int32 → Option St} (hk31 : ∀ (σ : St) (x1 : Int32) (ls : Array Slot) (H : Heap) (locs : List Loc), Hw (MWd D ad cs) s σ H locs → lv_has ls 5 [(0, .ref (ad 0)), (1, .int x1)] → k31 σ x1 = some σ' → W p l e (RM 1 21) s m av below meth c H locs 0 0 (QV below (MWd D ad cs) av s σ') (F0 m 31 ls [])) : ∀ (n : Nat), ∀ (σ : St) (x1 : Int32) (x2 : Int32) (x3 : Int32) (x4 : Int32) (ls : Array Slot) (H : Heap) (locs : List Loc), Hw (MWd D ad cs) s σ H locs → lv_has ls 5 [(0, .ref (ad 0)), (1, .int x1), (2, .int x2), (3, .int x3), (4, .int x4)] → fX12_readWord_75 N k31 n σ x1 x2 x3 x4 = some σ' → W p l e (RM 1 21) s m av below meth c H locs 0 0 (QV below (MWd D ad cs) av s σ') (F0 m 75 ls []) := by
  intro n
  induction n with
  | zero => intro _ _ _ _ _ ls H locs hw hl hf; cases hf
  | succ n ih => intro _ _ _ _ _ ls H locs hw hl hf; exact wX12_readWord_75b S hr hlk hk31 ih hw hl hf
def fX12_readWord_71 (N : Nat) (k31 : St → Int32 → Option St) (σ : St) (x1 : Int32) (x2 : Int32) (y0 : Int32) : Option St :=
  fX12_readWord_75 N k31 N σ x1 x2 y0 (0 : Int32)
set_option maxHeartbeats 2000000 in
set_option maxRecDepth 20000 in
theorem wX12_readWord_71 {σ' : St} {N : Nat} (S : CallFix p m c cX12_readWord 5 s av BG RX12) (hr : meth.sig.returnType = none) (hlk : meth.locks = false) {k31 : St → Int32 → Option St} (hk31 : ∀ (σ : St) (x1 : Int32) (ls : Array Slot) (H : Heap) (locs : List Loc), Hw (MWd D ad cs) s σ H locs → lv_has ls 5 [(0, .ref (ad 0)), (1, .int x1)] → k31 σ x1 = some σ' → W p l e (RM 1 21) s m av below meth c H locs 0 0 (QV below (MWd D ad cs) av s σ') (F0 m 31 ls []))  {σ : St} {x1 : Int32} {x2 : Int32} {y0 : Int32} {ls : Array Slot} {H : Heap} {locs : List Loc} (hw : Hw (MWd D ad cs) s σ H locs) (hl : lv_has ls 5 [(0, .ref (ad 0)), (1, .int x1), (2, .int x2)]) (hf : fX12_readWord_71 N k31 σ x1 x2 y0 = some σ') : W p l e (RM 1 21) s m av below meth c H locs 0 0 (QV below (MWd D ad cs) av s σ') (F0 m 71 ls [.int y0]) := by
  unfold fX12_readWord_71 at hf
  refine lv_istore_n (lv' := [(3, .int y0), (0, .ref (ad 0)), (1, .int x1), (2, .int x2)]) S.1 S.2.1 dX12_readWord_71 rfl hl (by decide) rfl (fun ls hl => ?_)
  refine lv_iconst (v := 0) S.1 S.2.1 dX12_readWord_72 (by decide) ?_
  refine lv_istore (lv' := [(4, .int (0 : Int32)), (3, .int y0), (0, .ref (ad 0)), (1, .int x1), (2, .int x2)]) S.1 S.2.1 dX12_readWord_73 hl (by decide) rfl (fun ls hl => ?_)
  exact wX12_readWord_75 S hr hlk hk31 N σ x1 x2 y0 (0 : Int32) _ _ _ hw (lv_sub hl [2, 3, 4, 1, 0] rfl) hf
def fX12_readWord_31b (N : Nat) (k31 : St → Int32 → Option St) (σ : St) (x1 : Int32) : Option St :=
  if (11 : Int32) ≤ x1 then (some σ) else (if ix (x1 + (1 : Int32)) 12 = true then if ix x1 12 = true then nm ((aR σ 35 (x1 + (1 : Int32))) - (aR σ 35 x1)) fun v9 => if v9 = ((σ.1 8) - (σ.1 11)) then (fX12_readWord_71 N k31 σ x1 v9 (1 : Int32)) else (fX12_readWord_71 N k31 σ x1 v9 (0 : Int32)) else none else none)
set_option maxHeartbeats 2000000 in
set_option maxRecDepth 20000 in
theorem wX12_readWord_31b {σ' : St} {N : Nat} (S : CallFix p m c cX12_readWord 5 s av BG RX12) (hr : meth.sig.returnType = none) (hlk : meth.locks = false) {k31 : St → Int32 → Option St} (hk31 : ∀ (σ : St) (x1 : Int32) (ls : Array Slot) (H : Heap) (locs : List Loc), Hw (MWd D ad cs) s σ H locs → lv_has ls 5 [(0, .ref (ad 0)), (1, .int x1)] → k31 σ x1 = some σ' → W p l e (RM 1 21) s m av below meth c H locs 0 0 (QV below (MWd D ad cs) av s σ') (F0 m 31 ls []))  {σ : St} {x1 : Int32} {ls : Array Slot} {H : Heap} {locs : List Loc} (hw : Hw (MWd D ad cs) s σ H locs) (hl : lv_has ls 5 [(0, .ref (ad 0)), (1, .int x1)]) (hf : fX12_readWord_31b N k31 σ x1 = some σ') : W p l e (RM 1 21) s m av below meth c H locs 0 0 (QV below (MWd D ad cs) av s σ') (F0 m 31 ls []) := by
  unfold fX12_readWord_31b at hf
  refine lv_iload_n S.1 S.2.1 dX12_readWord_31 rfl (lv_at hl 1 rfl) ?_
  refine lv_bipush (v := 11) S.1 S.2.1 dX12_readWord_32 (by decide) ?_
  refine lv_icmp_ge (tgt := 169) S.1 S.2.1 dX12_readWord_34 (by decide) (fun hc => ?_) (fun hc => ?_)
  · have hf := itt hf hc
    exact g_vret (MWd_ok D ad cs) S hr hlk hw dX12_readWord_169 (Option.some.inj hf)
  · have hf := itf hf hc
    refine lv_aload_n S.1 S.2.1 dX12_readWord_37 rfl (lv_at hl 0 rfl) ?_
    refine mg_WayLeavesModel_begins S hw kf_X12_244 dX12_readWord_38 ?_
    refine lv_iload_n S.1 S.2.1 dX12_readWord_41 rfl (lv_at hl 1 rfl) ?_
    refine lv_iconst (v := 1) S.1 S.2.1 dX12_readWord_42 (by decide) ?_
    refine lv_iadd S.1 S.2.1 dX12_readWord_43 ?_
    obtain ⟨h7, hf⟩ := gd_ix hf
    refine g_iald S hw 35 0 me_35 rfl h7 dX12_readWord_44 ?_
    refine lv_aload_n S.1 S.2.1 dX12_readWord_45 rfl (lv_at hl 0 rfl) ?_
    refine mg_WayLeavesModel_begins S hw kf_X12_244 dX12_readWord_46 ?_
    refine lv_iload_n S.1 S.2.1 dX12_readWord_49 rfl (lv_at hl 1 rfl) ?_
    obtain ⟨h8, hf⟩ := gd_ix hf
    refine g_iald S hw 35 0 me_35 rfl h8 dX12_readWord_50 ?_
    refine lv_isub S.1 S.2.1 dX12_readWord_51 ?_
    refine lv_topi (fun v9 e10 => ?_)
    have hf := nm_s e10 hf
    refine lv_istore_n (lv' := [(2, .int v9), (0, .ref (ad 0)), (1, .int x1)]) S.1 S.2.1 dX12_readWord_52 rfl hl (by decide) rfl (fun ls hl => ?_)
    refine lv_iload_n S.1 S.2.1 dX12_readWord_53 rfl (lv_at hl 0 rfl) ?_
    refine lv_aload_n S.1 S.2.1 dX12_readWord_54 rfl (lv_at hl 1 rfl) ?_
    refine mg_WayLeavesModel_at S hw kf_X12_235 dX12_readWord_55 ?_
    refine lv_aload_n S.1 S.2.1 dX12_readWord_58 rfl (lv_at hl 1 rfl) ?_
    refine mg_WayLeavesModel_place S hw kf_X12_247 dX12_readWord_59 ?_
    refine lv_isub S.1 S.2.1 dX12_readWord_62 ?_
    refine lv_icmp_ne (tgt := 70) S.1 S.2.1 dX12_readWord_63 (by decide) (fun hc => ?_) (fun hc => ?_)
    · have hf := itf hf hc
      refine lv_iconst (v := 0) S.1 S.2.1 dX12_readWord_70 (by decide) ?_
      exact wX12_readWord_71 S hr hlk hk31 hw (lv_sub hl [1, 2, 0] rfl) hf
    · have hf := itt hf hc
      refine lv_iconst (v := 1) S.1 S.2.1 dX12_readWord_66 (by decide) ?_
      refine lv_goto (tgt := 71) S.1 S.2.1 dX12_readWord_67 (by decide) ?_
      exact wX12_readWord_71 S hr hlk hk31 hw (lv_sub hl [1, 2, 0] rfl) hf
def fX12_readWord_31 (N : Nat) : Nat → St → Int32 → Option St
  | 0 => fun _ _ => none
  | n + 1 => fX12_readWord_31b N (fX12_readWord_31 N n)
theorem wX12_readWord_31 {σ' : St} {N : Nat} (S : CallFix p m c cX12_readWord 5 s av BG RX12) (hr : meth.sig.returnType = none) (hlk : meth.locks = false) : ∀ (n : Nat), ∀ (σ : St) (x1 : Int32) (ls : Array Slot) (H : Heap) (locs : List Loc), Hw (MWd D ad cs) s σ H locs → lv_has ls 5 [(0, .ref (ad 0)), (1, .int x1)] → fX12_readWord_31 N n σ x1 = some σ' → W p l e (RM 1 21) s m av below meth c H locs 0 0 (QV below (MWd D ad cs) av s σ') (F0 m 31 ls []) := by
  intro n
  induction n with
  | zero => intro _ _ ls H locs hw hl hf; cases hf
  | succ n ih => intro _ _ ls H locs hw hl hf; exact wX12_readWord_31b S hr hlk ih hw hl hf
def fX12_readWord_0b (N : Nat) (k0 : St → Option St) (σ : St) : Option St :=
  bd (fX12_isLetter N σ (σ.1 8)) fun r1 => if r1 = 0 then (nm (sI σ 9 (5 : Int32)) fun σ3 => fX12_readWord_31 N N σ3 (0 : Int32)) else (nm (sI σ 8 ((σ.1 8) + (1 : Int32))) fun σ5 => k0 σ5)
set_option maxHeartbeats 2000000 in
set_option maxRecDepth 20000 in
theorem wX12_readWord_0b {σ' : St} {N : Nat} (S : CallFix p m c cX12_readWord 5 s av BG RX12) (hr : meth.sig.returnType = none) (hlk : meth.locks = false) {k0 : St → Option St} (hk0 : ∀ (σ : St) (ls : Array Slot) (H : Heap) (locs : List Loc), Hw (MWd D ad cs) s σ H locs → lv_has ls 5 [(0, .ref (ad 0))] → k0 σ = some σ' → W p l e (RM 1 21) s m av below meth c H locs 0 0 (QV below (MWd D ad cs) av s σ') (F0 m 0 ls []))  {σ : St} {ls : Array Slot} {H : Heap} {locs : List Loc} (hw : Hw (MWd D ad cs) s σ H locs) (hl : lv_has ls 5 [(0, .ref (ad 0))]) (hf : fX12_readWord_0b N k0 σ = some σ') : W p l e (RM 1 21) s m av below meth c H locs 0 0 (QV below (MWd D ad cs) av s σ') (F0 m 0 ls []) := by
  unfold fX12_readWord_0b at hf
  refine lv_aload_n S.1 S.2.1 dX12_readWord_0 rfl (lv_at hl 0 rfl) ?_
  refine lv_aload_n S.1 S.2.1 dX12_readWord_1 rfl (lv_at hl 0 rfl) ?_
  refine mg_WayLeavesModel_at S hw kf_X12_235 dX12_readWord_2 ?_
  obtain ⟨r1, g2, hf⟩ := bd_s hf
  refine g_Vi (rest := []) (MWd_ok D ad cs) S hw (tX12_isLetter g2) kt_X12_238 0 me_0 rfl rfl ⟨Nat.le_of_ble_eq_true rfl, Nat.le_of_ble_eq_true rfl⟩ rfl hl.1 rfl (Nat.le_of_ble_eq_true rfl) ⟨Nat.zero_le _, Nat.zero_le _⟩ dX12_readWord_5 (fun H locs hw => ?_)
  refine lv_if_eq (tgt := 24) S.1 S.2.1 dX12_readWord_8 (by decide) (fun hc => ?_) (fun hc => ?_)
  · have hf := itt hf hc
    refine lv_aload_n S.1 S.2.1 dX12_readWord_24 rfl (lv_at hl 0 rfl) ?_
    refine lv_iconst (v := 5) S.1 S.2.1 dX12_readWord_25 (by decide) ?_
    obtain ⟨σ3, e4⟩ : ∃ z : St, z = sI σ 9 (5 : Int32) := ⟨_, rfl⟩
    have hf := nm_s e4 hf
    refine mp_WayLeavesModel_token S hw e4 kf_X12_241 dX12_readWord_26 (fun H locs hw => ?_)
    refine lv_iconst (v := 0) S.1 S.2.1 dX12_readWord_29 (by decide) ?_
    refine lv_istore_n (lv' := [(1, .int (0 : Int32)), (0, .ref (ad 0))]) S.1 S.2.1 dX12_readWord_30 rfl hl (by decide) rfl (fun ls hl => ?_)
    exact wX12_readWord_31 S hr hlk N σ3 (0 : Int32) _ _ _ hw (lv_sub hl [1, 0] rfl) hf
  · have hf := itf hf hc
    refine lv_aload_n S.1 S.2.1 dX12_readWord_11 rfl (lv_at hl 0 rfl) ?_
    refine lv_dup S.1 S.2.1 dX12_readWord_12 rfl ?_
    refine mg_WayLeavesModel_at S hw kf_X12_235 dX12_readWord_13 ?_
    refine lv_iconst (v := 1) S.1 S.2.1 dX12_readWord_16 (by decide) ?_
    refine lv_iadd S.1 S.2.1 dX12_readWord_17 ?_
    obtain ⟨σ5, e6⟩ : ∃ z : St, z = sI σ 8 ((σ.1 8) + (1 : Int32)) := ⟨_, rfl⟩
    have hf := nm_s e6 hf
    refine mp_WayLeavesModel_at S hw e6 kf_X12_235 dX12_readWord_18 (fun H locs hw => ?_)
    refine lv_goto (tgt := 0) S.1 S.2.1 dX12_readWord_21 (by decide) ?_
    exact hk0 σ5 _ _ _ hw (lv_sub hl [0] rfl) hf
def fX12_readWord_0 (N : Nat) : Nat → St → Option St
  | 0 => fun _ => none
  | n + 1 => fX12_readWord_0b N (fX12_readWord_0 N n)
theorem wX12_readWord_0 {σ' : St} {N : Nat} (S : CallFix p m c cX12_readWord 5 s av BG RX12) (hr : meth.sig.returnType = none) (hlk : meth.locks = false) : ∀ (n : Nat), ∀ (σ : St) (ls : Array Slot) (H : Heap) (locs : List Loc), Hw (MWd D ad cs) s σ H locs → lv_has ls 5 [(0, .ref (ad 0))] → fX12_readWord_0 N n σ = some σ' → W p l e (RM 1 21) s m av below meth c H locs 0 0 (QV below (MWd D ad cs) av s σ') (F0 m 0 ls []) := by
  intro n
  induction n with
  | zero => intro _ ls H locs hw hl hf; cases hf
  | succ n ih => intro _ ls H locs hw hl hf; exact wX12_readWord_0b S hr hlk ih hw hl hf
def fX12_readWord (N : Nat) (σ : St) : Option St :=
  fX12_readWord_0 N N σ
set_option maxHeartbeats 2000000 in
set_option maxRecDepth 20000 in
theorem tX12_readWord {σ' : St} {N : Nat} {σ : St} (hf : fX12_readWord N σ = some σ') : CV l (MWd D ad cs) yX12_readWord cX12_readWord 5 1 21 [.ref (ad 0)] σ σ' := by
  refine CV.of (by decide) (Nat.le_of_ble_eq_true rfl) ?_
  intro p e s m below meth c ls S hr hlk hw hl
  have hl : lv_has ls 5 [(0, .ref (ad 0))] := hl
  unfold fX12_readWord at hf
  exact wX12_readWord_0 S hr hlk N σ _ _ _ hw (lv_sub hl [0] rfl) hf
def fX12_readNumber_57 (N : Nat) (k5 : St → Option St) (σ : St) (y1 : Int32) : Option St :=
  nm (sI σ 10 y1) fun σ10 => nm (sI σ10 8 ((σ10.1 8) + (1 : Int32))) fun σ12 => k5 σ12
set_option maxHeartbeats 2000000 in
set_option maxRecDepth 20000 in
theorem wX12_readNumber_57 {σ' : St} {N : Nat} (S : CallFix p m c cX12_readNumber 1 s av BG RX12) (hr : meth.sig.returnType = none) (hlk : meth.locks = false) {k5 : St → Option St} (hk5 : ∀ (σ : St) (ls : Array Slot) (H : Heap) (locs : List Loc), Hw (MWd D ad cs) s σ H locs → lv_has ls 1 [(0, .ref (ad 0))] → k5 σ = some σ' → W p l e (RM 1 21) s m av below meth c H locs 0 0 (QV below (MWd D ad cs) av s σ') (F0 m 5 ls []))  {σ : St} {y1 : Int32} {ls : Array Slot} {H : Heap} {locs : List Loc} (hw : Hw (MWd D ad cs) s σ H locs) (hl : lv_has ls 1 [(0, .ref (ad 0))]) (hf : fX12_readNumber_57 N k5 σ y1 = some σ') : W p l e (RM 1 21) s m av below meth c H locs 0 0 (QV below (MWd D ad cs) av s σ') (F0 m 57 ls [.int y1, .ref (ad 0)]) := by
  unfold fX12_readNumber_57 at hf
  obtain ⟨σ10, e11⟩ : ∃ z : St, z = sI σ 10 y1 := ⟨_, rfl⟩
  have hf := nm_s e11 hf
  refine mp_WayLeavesModel_worth S hw e11 kf_X12_254 dX12_readNumber_57 (fun H locs hw => ?_)
  refine lv_aload_n S.1 S.2.1 dX12_readNumber_60 rfl (lv_at hl 0 rfl) ?_
  refine lv_dup S.1 S.2.1 dX12_readNumber_61 rfl ?_
  refine mg_WayLeavesModel_at S hw kf_X12_235 dX12_readNumber_62 ?_
  refine lv_iconst (v := 1) S.1 S.2.1 dX12_readNumber_65 (by decide) ?_
  refine lv_iadd S.1 S.2.1 dX12_readNumber_66 ?_
  obtain ⟨σ12, e13⟩ : ∃ z : St, z = sI σ10 8 ((σ10.1 8) + (1 : Int32)) := ⟨_, rfl⟩
  have hf := nm_s e13 hf
  refine mp_WayLeavesModel_at S hw e13 kf_X12_235 dX12_readNumber_67 (fun H locs hw => ?_)
  refine lv_goto (tgt := 5) S.1 S.2.1 dX12_readNumber_70 (by decide) ?_
  exact hk5 σ12 _ _ _ hw (lv_sub hl [0] rfl) hf
def fX12_readNumber_5b (N : Nat) (k5 : St → Option St) (σ : St) : Option St :=
  bd (fX12_isDigit N σ (σ.1 8)) fun r3 => if r3 = 0 then (if ((σ.1 8) - (σ.1 11)) ≤ (4 : Int32) then (nm (sI σ 9 (1 : Int32)) fun σ5 => some σ5) else (nm (sI σ 9 (5 : Int32)) fun σ7 => some σ7)) else (if (4 : Int32) ≤ ((σ.1 8) - (σ.1 11)) then (fX12_readNumber_57 N k5 σ (σ.1 10)) else (if ix (σ.1 8) 160 = true then fX12_readNumber_57 N k5 σ ((((10 : Int32) * (σ.1 10)) + (aR σ 31 (σ.1 8))) - (48 : Int32)) else none))
set_option maxHeartbeats 2000000 in
set_option maxRecDepth 20000 in
theorem wX12_readNumber_5b {σ' : St} {N : Nat} (S : CallFix p m c cX12_readNumber 1 s av BG RX12) (hr : meth.sig.returnType = none) (hlk : meth.locks = false) {k5 : St → Option St} (hk5 : ∀ (σ : St) (ls : Array Slot) (H : Heap) (locs : List Loc), Hw (MWd D ad cs) s σ H locs → lv_has ls 1 [(0, .ref (ad 0))] → k5 σ = some σ' → W p l e (RM 1 21) s m av below meth c H locs 0 0 (QV below (MWd D ad cs) av s σ') (F0 m 5 ls []))  {σ : St} {ls : Array Slot} {H : Heap} {locs : List Loc} (hw : Hw (MWd D ad cs) s σ H locs) (hl : lv_has ls 1 [(0, .ref (ad 0))]) (hf : fX12_readNumber_5b N k5 σ = some σ') : W p l e (RM 1 21) s m av below meth c H locs 0 0 (QV below (MWd D ad cs) av s σ') (F0 m 5 ls []) := by
  unfold fX12_readNumber_5b at hf
  refine lv_aload_n S.1 S.2.1 dX12_readNumber_5 rfl (lv_at hl 0 rfl) ?_
  refine lv_aload_n S.1 S.2.1 dX12_readNumber_6 rfl (lv_at hl 0 rfl) ?_
  refine mg_WayLeavesModel_at S hw kf_X12_235 dX12_readNumber_7 ?_
  obtain ⟨r3, g4, hf⟩ := bd_s hf
  refine g_Vi (rest := []) (MWd_ok D ad cs) S hw (tX12_isDigit g4) kt_X12_257 0 me_0 rfl rfl ⟨Nat.le_of_ble_eq_true rfl, Nat.le_of_ble_eq_true rfl⟩ rfl hl.1 rfl (Nat.le_of_ble_eq_true rfl) ⟨Nat.zero_le _, Nat.zero_le _⟩ dX12_readNumber_10 (fun H locs hw => ?_)
  refine lv_if_eq (tgt := 73) S.1 S.2.1 dX12_readNumber_13 (by decide) (fun hc => ?_) (fun hc => ?_)
  · have hf := itt hf hc
    refine lv_aload_n S.1 S.2.1 dX12_readNumber_73 rfl (lv_at hl 0 rfl) ?_
    refine lv_aload_n S.1 S.2.1 dX12_readNumber_74 rfl (lv_at hl 0 rfl) ?_
    refine mg_WayLeavesModel_at S hw kf_X12_235 dX12_readNumber_75 ?_
    refine lv_aload_n S.1 S.2.1 dX12_readNumber_78 rfl (lv_at hl 0 rfl) ?_
    refine mg_WayLeavesModel_place S hw kf_X12_247 dX12_readNumber_79 ?_
    refine lv_isub S.1 S.2.1 dX12_readNumber_82 ?_
    refine lv_iconst (v := 4) S.1 S.2.1 dX12_readNumber_83 (by decide) ?_
    refine lv_icmp_le (tgt := 91) S.1 S.2.1 dX12_readNumber_84 (by decide) (fun hc => ?_) (fun hc => ?_)
    · have hf := itt hf hc
      refine lv_iconst (v := 1) S.1 S.2.1 dX12_readNumber_91 (by decide) ?_
      obtain ⟨σ5, e6⟩ : ∃ z : St, z = sI σ 9 (1 : Int32) := ⟨_, rfl⟩
      have hf := nm_s e6 hf
      refine mp_WayLeavesModel_token S hw e6 kf_X12_241 dX12_readNumber_92 (fun H locs hw => ?_)
      exact g_vret (MWd_ok D ad cs) S hr hlk hw dX12_readNumber_95 (Option.some.inj hf)
    · have hf := itf hf hc
      refine lv_iconst (v := 5) S.1 S.2.1 dX12_readNumber_87 (by decide) ?_
      refine lv_goto (tgt := 92) S.1 S.2.1 dX12_readNumber_88 (by decide) ?_
      obtain ⟨σ7, e8⟩ : ∃ z : St, z = sI σ 9 (5 : Int32) := ⟨_, rfl⟩
      have hf := nm_s e8 hf
      refine mp_WayLeavesModel_token S hw e8 kf_X12_241 dX12_readNumber_92 (fun H locs hw => ?_)
      exact g_vret (MWd_ok D ad cs) S hr hlk hw dX12_readNumber_95 (Option.some.inj hf)
  · have hf := itf hf hc
    refine lv_aload_n S.1 S.2.1 dX12_readNumber_16 rfl (lv_at hl 0 rfl) ?_
    refine lv_aload_n S.1 S.2.1 dX12_readNumber_17 rfl (lv_at hl 0 rfl) ?_
    refine mg_WayLeavesModel_at S hw kf_X12_235 dX12_readNumber_18 ?_
    refine lv_aload_n S.1 S.2.1 dX12_readNumber_21 rfl (lv_at hl 0 rfl) ?_
    refine mg_WayLeavesModel_place S hw kf_X12_247 dX12_readNumber_22 ?_
    refine lv_isub S.1 S.2.1 dX12_readNumber_25 ?_
    refine lv_iconst (v := 4) S.1 S.2.1 dX12_readNumber_26 (by decide) ?_
    refine lv_icmp_ge (tgt := 53) S.1 S.2.1 dX12_readNumber_27 (by decide) (fun hc => ?_) (fun hc => ?_)
    · have hf := itt hf hc
      refine lv_aload_n S.1 S.2.1 dX12_readNumber_53 rfl (lv_at hl 0 rfl) ?_
      refine mg_WayLeavesModel_worth S hw kf_X12_254 dX12_readNumber_54 ?_
      exact wX12_readNumber_57 S hr hlk hk5 hw (lv_sub hl [0] rfl) hf
    · have hf := itf hf hc
      refine lv_bipush (v := 10) S.1 S.2.1 dX12_readNumber_30 (by decide) ?_
      refine lv_aload_n S.1 S.2.1 dX12_readNumber_32 rfl (lv_at hl 0 rfl) ?_
      refine mg_WayLeavesModel_worth S hw kf_X12_254 dX12_readNumber_33 ?_
      refine lv_imul S.1 S.2.1 dX12_readNumber_36 ?_
      refine lv_aload_n S.1 S.2.1 dX12_readNumber_37 rfl (lv_at hl 0 rfl) ?_
      refine mg_WayLeavesModel_tape S hw kf_X12_231 dX12_readNumber_38 ?_
      refine lv_aload_n S.1 S.2.1 dX12_readNumber_41 rfl (lv_at hl 0 rfl) ?_
      refine mg_WayLeavesModel_at S hw kf_X12_235 dX12_readNumber_42 ?_
      obtain ⟨h9, hf⟩ := gd_ix hf
      refine g_bald S hw 31 4 me_31 rfl h9 dX12_readNumber_45 ?_
      refine lv_iadd S.1 S.2.1 dX12_readNumber_46 ?_
      refine lv_bipush (v := 48) S.1 S.2.1 dX12_readNumber_47 (by decide) ?_
      refine lv_isub S.1 S.2.1 dX12_readNumber_49 ?_
      refine lv_goto (tgt := 57) S.1 S.2.1 dX12_readNumber_50 (by decide) ?_
      exact wX12_readNumber_57 S hr hlk hk5 hw (lv_sub hl [0] rfl) hf
def fX12_readNumber_5 (N : Nat) : Nat → St → Option St
  | 0 => fun _ => none
  | n + 1 => fX12_readNumber_5b N (fX12_readNumber_5 N n)
theorem wX12_readNumber_5 {σ' : St} {N : Nat} (S : CallFix p m c cX12_readNumber 1 s av BG RX12) (hr : meth.sig.returnType = none) (hlk : meth.locks = false) : ∀ (n : Nat), ∀ (σ : St) (ls : Array Slot) (H : Heap) (locs : List Loc), Hw (MWd D ad cs) s σ H locs → lv_has ls 1 [(0, .ref (ad 0))] → fX12_readNumber_5 N n σ = some σ' → W p l e (RM 1 21) s m av below meth c H locs 0 0 (QV below (MWd D ad cs) av s σ') (F0 m 5 ls []) := by
  intro n
  induction n with
  | zero => intro _ ls H locs hw hl hf; cases hf
  | succ n ih => intro _ ls H locs hw hl hf; exact wX12_readNumber_5b S hr hlk ih hw hl hf
def fX12_readNumber (N : Nat) (σ : St) : Option St :=
  nm (sI σ 10 (0 : Int32)) fun σ1 => fX12_readNumber_5 N N σ1
set_option maxHeartbeats 2000000 in
set_option maxRecDepth 20000 in
theorem tX12_readNumber {σ' : St} {N : Nat} {σ : St} (hf : fX12_readNumber N σ = some σ') : CV l (MWd D ad cs) yX12_readNumber cX12_readNumber 1 1 21 [.ref (ad 0)] σ σ' := by
  refine CV.of (by decide) (Nat.le_of_ble_eq_true rfl) ?_
  intro p e s m below meth c ls S hr hlk hw hl
  have hl : lv_has ls 1 [(0, .ref (ad 0))] := hl
  unfold fX12_readNumber at hf
  refine lv_aload_n S.1 S.2.1 dX12_readNumber_0 rfl (lv_at hl 0 rfl) ?_
  refine lv_iconst (v := 0) S.1 S.2.1 dX12_readNumber_1 (by decide) ?_
  obtain ⟨σ1, e2⟩ : ∃ z : St, z = sI σ 10 (0 : Int32) := ⟨_, rfl⟩
  have hf := nm_s e2 hf
  refine mp_WayLeavesModel_worth S hw e2 kf_X12_254 dX12_readNumber_2 (fun H locs hw => ?_)
  exact wX12_readNumber_5 S hr hlk N σ1 _ _ _ hw (lv_sub hl [0] rfl) hf
def fX12_next_39 (N : Nat) (k0 : St → Option St) (σ : St) : Option St :=
  nm (sI σ 8 ((σ.1 8) + (1 : Int32))) fun σ18 => k0 σ18
set_option maxHeartbeats 2000000 in
set_option maxRecDepth 20000 in
theorem wX12_next_39 {σ' : St} {N : Nat} (S : CallFix p m c cX12_next 2 s av BG RX12) (hr : meth.sig.returnType = none) (hlk : meth.locks = false) {k0 : St → Option St} (hk0 : ∀ (σ : St) (ls : Array Slot) (H : Heap) (locs : List Loc), Hw (MWd D ad cs) s σ H locs → lv_has ls 2 [(0, .ref (ad 0))] → k0 σ = some σ' → W p l e (RM 2 45) s m av below meth c H locs 0 0 (QV below (MWd D ad cs) av s σ') (F0 m 0 ls []))  {σ : St} {ls : Array Slot} {H : Heap} {locs : List Loc} (hw : Hw (MWd D ad cs) s σ H locs) (hl : lv_has ls 2 [(0, .ref (ad 0))]) (hf : fX12_next_39 N k0 σ = some σ') : W p l e (RM 2 45) s m av below meth c H locs 0 0 (QV below (MWd D ad cs) av s σ') (F0 m 39 ls []) := by
  unfold fX12_next_39 at hf
  refine lv_aload_n S.1 S.2.1 dX12_next_39 rfl (lv_at hl 0 rfl) ?_
  refine lv_dup S.1 S.2.1 dX12_next_40 rfl ?_
  refine mg_WayLeavesModel_at S hw kf_X12_235 dX12_next_41 ?_
  refine lv_iconst (v := 1) S.1 S.2.1 dX12_next_44 (by decide) ?_
  refine lv_iadd S.1 S.2.1 dX12_next_45 ?_
  obtain ⟨σ18, e19⟩ : ∃ z : St, z = sI σ 8 ((σ.1 8) + (1 : Int32)) := ⟨_, rfl⟩
  have hf := nm_s e19 hf
  refine mp_WayLeavesModel_at S hw e19 kf_X12_235 dX12_next_46 (fun H locs hw => ?_)
  refine lv_goto (tgt := 0) S.1 S.2.1 dX12_next_49 (by decide) ?_
  exact hk0 σ18 _ _ _ hw (lv_sub hl [0] rfl) hf
def fX12_next_216 (N : Nat) (σ : St) (y1 : Int32) : Option St :=
  nm (sI σ 9 y1) fun σ20 => nm (sI σ20 8 ((σ20.1 8) + (1 : Int32))) fun σ22 => some σ22
set_option maxHeartbeats 2000000 in
set_option maxRecDepth 20000 in
theorem wX12_next_216 {σ' : St} {N : Nat} (S : CallFix p m c cX12_next 2 s av BG RX12) (hr : meth.sig.returnType = none) (hlk : meth.locks = false)  {σ : St} {y1 : Int32} {ls : Array Slot} {H : Heap} {locs : List Loc} (hw : Hw (MWd D ad cs) s σ H locs) (hl : lv_has ls 2 [(0, .ref (ad 0))]) (hf : fX12_next_216 N σ y1 = some σ') : W p l e (RM 2 45) s m av below meth c H locs 0 0 (QV below (MWd D ad cs) av s σ') (F0 m 216 ls [.int y1, .ref (ad 0)]) := by
  unfold fX12_next_216 at hf
  obtain ⟨σ20, e21⟩ : ∃ z : St, z = sI σ 9 y1 := ⟨_, rfl⟩
  have hf := nm_s e21 hf
  refine mp_WayLeavesModel_token S hw e21 kf_X12_241 dX12_next_216 (fun H locs hw => ?_)
  refine lv_aload_n S.1 S.2.1 dX12_next_219 rfl (lv_at hl 0 rfl) ?_
  refine lv_dup S.1 S.2.1 dX12_next_220 rfl ?_
  refine mg_WayLeavesModel_at S hw kf_X12_235 dX12_next_221 ?_
  refine lv_iconst (v := 1) S.1 S.2.1 dX12_next_224 (by decide) ?_
  refine lv_iadd S.1 S.2.1 dX12_next_225 ?_
  obtain ⟨σ22, e23⟩ : ∃ z : St, z = sI σ20 8 ((σ20.1 8) + (1 : Int32)) := ⟨_, rfl⟩
  have hf := nm_s e23 hf
  refine mp_WayLeavesModel_at S hw e23 kf_X12_235 dX12_next_226 (fun H locs hw => ?_)
  exact g_vret (MWd_ok D ad cs) S hr hlk hw dX12_next_229 (Option.some.inj hf)
def fX12_next_205 (N : Nat) (σ : St) (y0 : Int32) : Option St :=
  if y0 = 0 then (fX12_next_216 N σ (5 : Int32)) else (fX12_next_216 N σ (3 : Int32))
set_option maxHeartbeats 2000000 in
set_option maxRecDepth 20000 in
theorem wX12_next_205 {σ' : St} {N : Nat} (S : CallFix p m c cX12_next 2 s av BG RX12) (hr : meth.sig.returnType = none) (hlk : meth.locks = false)  {σ : St} {y0 : Int32} {ls : Array Slot} {H : Heap} {locs : List Loc} (hw : Hw (MWd D ad cs) s σ H locs) (hl : lv_has ls 2 [(0, .ref (ad 0))]) (hf : fX12_next_205 N σ y0 = some σ') : W p l e (RM 2 45) s m av below meth c H locs 0 0 (QV below (MWd D ad cs) av s σ') (F0 m 205 ls [.int y0]) := by
  unfold fX12_next_205 at hf
  refine lv_istore_n (lv' := [(1, .int y0), (0, .ref (ad 0))]) S.1 S.2.1 dX12_next_205 rfl hl (by decide) rfl (fun ls hl => ?_)
  refine lv_aload_n S.1 S.2.1 dX12_next_206 rfl (lv_at hl 1 rfl) ?_
  refine lv_iload_n S.1 S.2.1 dX12_next_207 rfl (lv_at hl 0 rfl) ?_
  refine lv_if_eq (tgt := 215) S.1 S.2.1 dX12_next_208 (by decide) (fun hc => ?_) (fun hc => ?_)
  · have hf := itt hf hc
    refine lv_iconst (v := 5) S.1 S.2.1 dX12_next_215 (by decide) ?_
    exact wX12_next_216 S hr hlk hw (lv_sub hl [1] rfl) hf
  · have hf := itf hf hc
    refine lv_iconst (v := 3) S.1 S.2.1 dX12_next_211 (by decide) ?_
    refine lv_goto (tgt := 216) S.1 S.2.1 dX12_next_212 (by decide) ?_
    exact wX12_next_216 S hr hlk hw (lv_sub hl [1] rfl) hf
def fX12_next_200 (N : Nat) (σ : St) : Option St :=
  fX12_next_205 N σ (1 : Int32)
set_option maxHeartbeats 2000000 in
set_option maxRecDepth 20000 in
theorem wX12_next_200 {σ' : St} {N : Nat} (S : CallFix p m c cX12_next 2 s av BG RX12) (hr : meth.sig.returnType = none) (hlk : meth.locks = false)  {σ : St} {ls : Array Slot} {H : Heap} {locs : List Loc} (hw : Hw (MWd D ad cs) s σ H locs) (hl : lv_has ls 2 [(0, .ref (ad 0))]) (hf : fX12_next_200 N σ = some σ') : W p l e (RM 2 45) s m av below meth c H locs 0 0 (QV below (MWd D ad cs) av s σ') (F0 m 200 ls []) := by
  unfold fX12_next_200 at hf
  refine lv_iconst (v := 1) S.1 S.2.1 dX12_next_200 (by decide) ?_
  refine lv_goto (tgt := 205) S.1 S.2.1 dX12_next_201 (by decide) ?_
  exact wX12_next_205 S hr hlk hw (lv_sub hl [0] rfl) hf
def fX12_next_52 (N : Nat) (σ : St) : Option St :=
  nm (sI σ 11 (σ.1 8)) fun σ3 => if (σ3.1 8) = (σ3.1 5) then (nm (sI σ3 9 (0 : Int32)) fun σ16 => some σ16) else (bd (fX12_isLetter N σ3 (σ3.1 8)) fun r5 => if r5 = 0 then (bd (fX12_isDigit N σ3 (σ3.1 8)) fun r7 => if r7 = 0 then (if ix (σ3.1 8) 160 = true then nm (sI σ3 10 (aR σ3 31 (σ3.1 8))) fun σ10 => if (σ10.1 10) = (40 : Int32) then (fX12_next_200 N σ10) else (if (σ10.1 10) = (41 : Int32) then (fX12_next_200 N σ10) else (if (σ10.1 10) = (59 : Int32) then (fX12_next_200 N σ10) else (if (σ10.1 10) = (43 : Int32) then (fX12_next_200 N σ10) else (if (σ10.1 10) = (45 : Int32) then (fX12_next_200 N σ10) else (if (σ10.1 10) = (42 : Int32) then (fX12_next_200 N σ10) else (if (σ10.1 10) = (60 : Int32) then (fX12_next_200 N σ10) else (if (σ10.1 10) = (61 : Int32) then (fX12_next_200 N σ10) else (fX12_next_205 N σ10 (0 : Int32))))))))) else none) else (bd (fX12_readNumber N σ3) fun σ12 => some σ12)) else (bd (fX12_readWord N σ3) fun σ14 => some σ14))
set_option maxHeartbeats 2000000 in
set_option maxRecDepth 20000 in
theorem wX12_next_52 {σ' : St} {N : Nat} (S : CallFix p m c cX12_next 2 s av BG RX12) (hr : meth.sig.returnType = none) (hlk : meth.locks = false)  {σ : St} {ls : Array Slot} {H : Heap} {locs : List Loc} (hw : Hw (MWd D ad cs) s σ H locs) (hl : lv_has ls 2 [(0, .ref (ad 0))]) (hf : fX12_next_52 N σ = some σ') : W p l e (RM 2 45) s m av below meth c H locs 0 0 (QV below (MWd D ad cs) av s σ') (F0 m 52 ls []) := by
  unfold fX12_next_52 at hf
  refine lv_aload_n S.1 S.2.1 dX12_next_52 rfl (lv_at hl 0 rfl) ?_
  refine lv_aload_n S.1 S.2.1 dX12_next_53 rfl (lv_at hl 0 rfl) ?_
  refine mg_WayLeavesModel_at S hw kf_X12_235 dX12_next_54 ?_
  obtain ⟨σ3, e4⟩ : ∃ z : St, z = sI σ 11 (σ.1 8) := ⟨_, rfl⟩
  have hf := nm_s e4 hf
  refine mp_WayLeavesModel_place S hw e4 kf_X12_247 dX12_next_57 (fun H locs hw => ?_)
  refine lv_aload_n S.1 S.2.1 dX12_next_60 rfl (lv_at hl 0 rfl) ?_
  refine mg_WayLeavesModel_at S hw kf_X12_235 dX12_next_61 ?_
  refine lv_aload_n S.1 S.2.1 dX12_next_64 rfl (lv_at hl 0 rfl) ?_
  refine mg_WayLeavesModel_taped S hw kf_X12_228 dX12_next_65 ?_
  refine lv_icmp_ne (tgt := 79) S.1 S.2.1 dX12_next_68 (by decide) (fun hc => ?_) (fun hc => ?_)
  · have hf := itf hf hc
    refine lv_aload_n S.1 S.2.1 dX12_next_79 rfl (lv_at hl 0 rfl) ?_
    refine lv_aload_n S.1 S.2.1 dX12_next_80 rfl (lv_at hl 0 rfl) ?_
    refine mg_WayLeavesModel_at S hw kf_X12_235 dX12_next_81 ?_
    obtain ⟨r5, g6, hf⟩ := bd_s hf
    refine g_Vi (rest := []) (MWd_ok D ad cs) S hw (tX12_isLetter g6) kt_X12_238 0 me_0 rfl rfl ⟨Nat.le_of_ble_eq_true rfl, Nat.le_of_ble_eq_true rfl⟩ rfl hl.1 rfl (Nat.le_of_ble_eq_true rfl) ⟨Nat.zero_le _, Nat.zero_le _⟩ dX12_next_84 (fun H locs hw => ?_)
    refine lv_if_eq (tgt := 97) S.1 S.2.1 dX12_next_87 (by decide) (fun hc => ?_) (fun hc => ?_)
    · have hf := itt hf hc
      refine lv_aload_n S.1 S.2.1 dX12_next_97 rfl (lv_at hl 0 rfl) ?_
      refine lv_aload_n S.1 S.2.1 dX12_next_98 rfl (lv_at hl 0 rfl) ?_
      refine mg_WayLeavesModel_at S hw kf_X12_235 dX12_next_99 ?_
      obtain ⟨r7, g8, hf⟩ := bd_s hf
      refine g_Vi (rest := []) (MWd_ok D ad cs) S hw (tX12_isDigit g8) kt_X12_257 0 me_0 rfl rfl ⟨Nat.le_of_ble_eq_true rfl, Nat.le_of_ble_eq_true rfl⟩ rfl hl.1 rfl (Nat.le_of_ble_eq_true rfl) ⟨Nat.zero_le _, Nat.zero_le _⟩ dX12_next_102 (fun H locs hw => ?_)
      refine lv_if_eq (tgt := 115) S.1 S.2.1 dX12_next_105 (by decide) (fun hc => ?_) (fun hc => ?_)
      · have hf := itt hf hc
        refine lv_aload_n S.1 S.2.1 dX12_next_115 rfl (lv_at hl 0 rfl) ?_
        refine lv_aload_n S.1 S.2.1 dX12_next_116 rfl (lv_at hl 0 rfl) ?_
        refine mg_WayLeavesModel_tape S hw kf_X12_231 dX12_next_117 ?_
        refine lv_aload_n S.1 S.2.1 dX12_next_120 rfl (lv_at hl 0 rfl) ?_
        refine mg_WayLeavesModel_at S hw kf_X12_235 dX12_next_121 ?_
        obtain ⟨h9, hf⟩ := gd_ix hf
        refine g_bald S hw 31 4 me_31 rfl h9 dX12_next_124 ?_
        obtain ⟨σ10, e11⟩ : ∃ z : St, z = sI σ3 10 (aR σ3 31 (σ3.1 8)) := ⟨_, rfl⟩
        have hf := nm_s e11 hf
        refine mp_WayLeavesModel_worth S hw e11 kf_X12_254 dX12_next_125 (fun H locs hw => ?_)
        refine lv_aload_n S.1 S.2.1 dX12_next_128 rfl (lv_at hl 0 rfl) ?_
        refine mg_WayLeavesModel_worth S hw kf_X12_254 dX12_next_129 ?_
        refine lv_bipush (v := 40) S.1 S.2.1 dX12_next_132 (by decide) ?_
        refine lv_icmp_eq (tgt := 200) S.1 S.2.1 dX12_next_134 (by decide) (fun hc => ?_) (fun hc => ?_)
        · have hf := itt hf hc
          exact wX12_next_200 S hr hlk hw (lv_sub hl [0] rfl) hf
        · have hf := itf hf hc
          refine lv_aload_n S.1 S.2.1 dX12_next_137 rfl (lv_at hl 0 rfl) ?_
          refine mg_WayLeavesModel_worth S hw kf_X12_254 dX12_next_138 ?_
          refine lv_bipush (v := 41) S.1 S.2.1 dX12_next_141 (by decide) ?_
          refine lv_icmp_eq (tgt := 200) S.1 S.2.1 dX12_next_143 (by decide) (fun hc => ?_) (fun hc => ?_)
          · have hf := itt hf hc
            exact wX12_next_200 S hr hlk hw (lv_sub hl [0] rfl) hf
          · have hf := itf hf hc
            refine lv_aload_n S.1 S.2.1 dX12_next_146 rfl (lv_at hl 0 rfl) ?_
            refine mg_WayLeavesModel_worth S hw kf_X12_254 dX12_next_147 ?_
            refine lv_bipush (v := 59) S.1 S.2.1 dX12_next_150 (by decide) ?_
            refine lv_icmp_eq (tgt := 200) S.1 S.2.1 dX12_next_152 (by decide) (fun hc => ?_) (fun hc => ?_)
            · have hf := itt hf hc
              exact wX12_next_200 S hr hlk hw (lv_sub hl [0] rfl) hf
            · have hf := itf hf hc
              refine lv_aload_n S.1 S.2.1 dX12_next_155 rfl (lv_at hl 0 rfl) ?_
              refine mg_WayLeavesModel_worth S hw kf_X12_254 dX12_next_156 ?_
              refine lv_bipush (v := 43) S.1 S.2.1 dX12_next_159 (by decide) ?_
              refine lv_icmp_eq (tgt := 200) S.1 S.2.1 dX12_next_161 (by decide) (fun hc => ?_) (fun hc => ?_)
              · have hf := itt hf hc
                exact wX12_next_200 S hr hlk hw (lv_sub hl [0] rfl) hf
              · have hf := itf hf hc
                refine lv_aload_n S.1 S.2.1 dX12_next_164 rfl (lv_at hl 0 rfl) ?_
                refine mg_WayLeavesModel_worth S hw kf_X12_254 dX12_next_165 ?_
                refine lv_bipush (v := 45) S.1 S.2.1 dX12_next_168 (by decide) ?_
                refine lv_icmp_eq (tgt := 200) S.1 S.2.1 dX12_next_170 (by decide) (fun hc => ?_) (fun hc => ?_)
                · have hf := itt hf hc
                  exact wX12_next_200 S hr hlk hw (lv_sub hl [0] rfl) hf
                · have hf := itf hf hc
                  refine lv_aload_n S.1 S.2.1 dX12_next_173 rfl (lv_at hl 0 rfl) ?_
                  refine mg_WayLeavesModel_worth S hw kf_X12_254 dX12_next_174 ?_
                  refine lv_bipush (v := 42) S.1 S.2.1 dX12_next_177 (by decide) ?_
                  refine lv_icmp_eq (tgt := 200) S.1 S.2.1 dX12_next_179 (by decide) (fun hc => ?_) (fun hc => ?_)
                  · have hf := itt hf hc
                    exact wX12_next_200 S hr hlk hw (lv_sub hl [0] rfl) hf
                  · have hf := itf hf hc
                    refine lv_aload_n S.1 S.2.1 dX12_next_182 rfl (lv_at hl 0 rfl) ?_
                    refine mg_WayLeavesModel_worth S hw kf_X12_254 dX12_next_183 ?_
                    refine lv_bipush (v := 60) S.1 S.2.1 dX12_next_186 (by decide) ?_
                    refine lv_icmp_eq (tgt := 200) S.1 S.2.1 dX12_next_188 (by decide) (fun hc => ?_) (fun hc => ?_)
                    · have hf := itt hf hc
                      exact wX12_next_200 S hr hlk hw (lv_sub hl [0] rfl) hf
                    · have hf := itf hf hc
                      refine lv_aload_n S.1 S.2.1 dX12_next_191 rfl (lv_at hl 0 rfl) ?_
                      refine mg_WayLeavesModel_worth S hw kf_X12_254 dX12_next_192 ?_
                      refine lv_bipush (v := 61) S.1 S.2.1 dX12_next_195 (by decide) ?_
                      refine lv_icmp_ne (tgt := 204) S.1 S.2.1 dX12_next_197 (by decide) (fun hc => ?_) (fun hc => ?_)
                      · have hf := itf hf hc
                        refine lv_iconst (v := 0) S.1 S.2.1 dX12_next_204 (by decide) ?_
                        exact wX12_next_205 S hr hlk hw (lv_sub hl [0] rfl) hf
                      · have hf := itt hf hc
                        exact wX12_next_200 S hr hlk hw (lv_sub hl [0] rfl) hf
      · have hf := itf hf hc
        refine lv_aload_n S.1 S.2.1 dX12_next_108 rfl (lv_at hl 0 rfl) ?_
        obtain ⟨σ12, g13, hf⟩ := bd_s hf
        refine g_Vv (rest := []) (MWd_ok D ad cs) S hw (tX12_readNumber g13) kt_X12_263 0 me_0 rfl rfl ⟨Nat.le_of_ble_eq_true rfl, Nat.le_of_ble_eq_true rfl⟩ rfl hl.1 rfl (Nat.le_of_ble_eq_true rfl) ⟨Nat.zero_le _, Nat.zero_le _⟩ dX12_next_109 (fun H locs hw => ?_)
        refine lv_goto (tgt := 229) S.1 S.2.1 dX12_next_112 (by decide) ?_
        exact g_vret (MWd_ok D ad cs) S hr hlk hw dX12_next_229 (Option.some.inj hf)
    · have hf := itf hf hc
      refine lv_aload_n S.1 S.2.1 dX12_next_90 rfl (lv_at hl 0 rfl) ?_
      obtain ⟨σ14, g15, hf⟩ := bd_s hf
      refine g_Vv (rest := []) (MWd_ok D ad cs) S hw (tX12_readWord g15) kt_X12_260 0 me_0 rfl rfl ⟨Nat.le_of_ble_eq_true rfl, Nat.le_of_ble_eq_true rfl⟩ rfl hl.1 rfl (Nat.le_of_ble_eq_true rfl) ⟨Nat.zero_le _, Nat.zero_le _⟩ dX12_next_91 (fun H locs hw => ?_)
      refine lv_goto (tgt := 229) S.1 S.2.1 dX12_next_94 (by decide) ?_
      exact g_vret (MWd_ok D ad cs) S hr hlk hw dX12_next_229 (Option.some.inj hf)
  · have hf := itt hf hc
    refine lv_aload_n S.1 S.2.1 dX12_next_71 rfl (lv_at hl 0 rfl) ?_
    refine lv_iconst (v := 0) S.1 S.2.1 dX12_next_72 (by decide) ?_
    obtain ⟨σ16, e17⟩ : ∃ z : St, z = sI σ3 9 (0 : Int32) := ⟨_, rfl⟩
    have hf := nm_s e17 hf
    refine mp_WayLeavesModel_token S hw e17 kf_X12_241 dX12_next_73 (fun H locs hw => ?_)
    refine lv_goto (tgt := 229) S.1 S.2.1 dX12_next_76 (by decide) ?_
    exact g_vret (MWd_ok D ad cs) S hr hlk hw dX12_next_229 (Option.some.inj hf)
def fX12_next_0b (N : Nat) (k0 : St → Option St) (σ : St) : Option St :=
  if (σ.1 5) ≤ (σ.1 8) then (fX12_next_52 N σ) else (if ix (σ.1 8) 160 = true then if (aR σ 31 (σ.1 8)) = (32 : Int32) then (fX12_next_39 N k0 σ) else (if ix (σ.1 8) 160 = true then if (aR σ 31 (σ.1 8)) = (10 : Int32) then (fX12_next_39 N k0 σ) else (fX12_next_52 N σ) else none) else none)
set_option maxHeartbeats 2000000 in
set_option maxRecDepth 20000 in
theorem wX12_next_0b {σ' : St} {N : Nat} (S : CallFix p m c cX12_next 2 s av BG RX12) (hr : meth.sig.returnType = none) (hlk : meth.locks = false) {k0 : St → Option St} (hk0 : ∀ (σ : St) (ls : Array Slot) (H : Heap) (locs : List Loc), Hw (MWd D ad cs) s σ H locs → lv_has ls 2 [(0, .ref (ad 0))] → k0 σ = some σ' → W p l e (RM 2 45) s m av below meth c H locs 0 0 (QV below (MWd D ad cs) av s σ') (F0 m 0 ls []))  {σ : St} {ls : Array Slot} {H : Heap} {locs : List Loc} (hw : Hw (MWd D ad cs) s σ H locs) (hl : lv_has ls 2 [(0, .ref (ad 0))]) (hf : fX12_next_0b N k0 σ = some σ') : W p l e (RM 2 45) s m av below meth c H locs 0 0 (QV below (MWd D ad cs) av s σ') (F0 m 0 ls []) := by
  unfold fX12_next_0b at hf
  refine lv_aload_n S.1 S.2.1 dX12_next_0 rfl (lv_at hl 0 rfl) ?_
  refine mg_WayLeavesModel_at S hw kf_X12_235 dX12_next_1 ?_
  refine lv_aload_n S.1 S.2.1 dX12_next_4 rfl (lv_at hl 0 rfl) ?_
  refine mg_WayLeavesModel_taped S hw kf_X12_228 dX12_next_5 ?_
  refine lv_icmp_ge (tgt := 52) S.1 S.2.1 dX12_next_8 (by decide) (fun hc => ?_) (fun hc => ?_)
  · have hf := itt hf hc
    exact wX12_next_52 S hr hlk hw (lv_sub hl [0] rfl) hf
  · have hf := itf hf hc
    refine lv_aload_n S.1 S.2.1 dX12_next_11 rfl (lv_at hl 0 rfl) ?_
    refine mg_WayLeavesModel_tape S hw kf_X12_231 dX12_next_12 ?_
    refine lv_aload_n S.1 S.2.1 dX12_next_15 rfl (lv_at hl 0 rfl) ?_
    refine mg_WayLeavesModel_at S hw kf_X12_235 dX12_next_16 ?_
    obtain ⟨h1, hf⟩ := gd_ix hf
    refine g_bald S hw 31 4 me_31 rfl h1 dX12_next_19 ?_
    refine lv_bipush (v := 32) S.1 S.2.1 dX12_next_20 (by decide) ?_
    refine lv_icmp_eq (tgt := 39) S.1 S.2.1 dX12_next_22 (by decide) (fun hc => ?_) (fun hc => ?_)
    · have hf := itt hf hc
      exact wX12_next_39 S hr hlk hk0 hw (lv_sub hl [0] rfl) hf
    · have hf := itf hf hc
      refine lv_aload_n S.1 S.2.1 dX12_next_25 rfl (lv_at hl 0 rfl) ?_
      refine mg_WayLeavesModel_tape S hw kf_X12_231 dX12_next_26 ?_
      refine lv_aload_n S.1 S.2.1 dX12_next_29 rfl (lv_at hl 0 rfl) ?_
      refine mg_WayLeavesModel_at S hw kf_X12_235 dX12_next_30 ?_
      obtain ⟨h2, hf⟩ := gd_ix hf
      refine g_bald S hw 31 4 me_31 rfl h2 dX12_next_33 ?_
      refine lv_bipush (v := 10) S.1 S.2.1 dX12_next_34 (by decide) ?_
      refine lv_icmp_ne (tgt := 52) S.1 S.2.1 dX12_next_36 (by decide) (fun hc => ?_) (fun hc => ?_)
      · have hf := itf hf hc
        exact wX12_next_52 S hr hlk hw (lv_sub hl [0] rfl) hf
      · have hf := itt hf hc
        exact wX12_next_39 S hr hlk hk0 hw (lv_sub hl [0] rfl) hf
def fX12_next_0 (N : Nat) : Nat → St → Option St
  | 0 => fun _ => none
  | n + 1 => fX12_next_0b N (fX12_next_0 N n)
theorem wX12_next_0 {σ' : St} {N : Nat} (S : CallFix p m c cX12_next 2 s av BG RX12) (hr : meth.sig.returnType = none) (hlk : meth.locks = false) : ∀ (n : Nat), ∀ (σ : St) (ls : Array Slot) (H : Heap) (locs : List Loc), Hw (MWd D ad cs) s σ H locs → lv_has ls 2 [(0, .ref (ad 0))] → fX12_next_0 N n σ = some σ' → W p l e (RM 2 45) s m av below meth c H locs 0 0 (QV below (MWd D ad cs) av s σ') (F0 m 0 ls []) := by
  intro n
  induction n with
  | zero => intro _ ls H locs hw hl hf; cases hf
  | succ n ih => intro _ ls H locs hw hl hf; exact wX12_next_0b S hr hlk ih hw hl hf
def fX12_next (N : Nat) (σ : St) : Option St :=
  fX12_next_0 N N σ
set_option maxHeartbeats 2000000 in
set_option maxRecDepth 20000 in
theorem tX12_next {σ' : St} {N : Nat} {σ : St} (hf : fX12_next N σ = some σ') : CV l (MWd D ad cs) yX12_next cX12_next 2 2 45 [.ref (ad 0)] σ σ' := by
  refine CV.of (by decide) (Nat.le_of_ble_eq_true rfl) ?_
  intro p e s m below meth c ls S hr hlk hw hl
  have hl : lv_has ls 2 [(0, .ref (ad 0))] := hl
  unfold fX12_next at hf
  exact wX12_next_0 S hr hlk N σ _ _ _ hw (lv_sub hl [0] rfl) hf
def fX12_isSign (σ : St) (x1 : Int32) : Int32 :=
  if (σ.1 9) = (3 : Int32) then (if (σ.1 10) = x1 then ((1 : Int32)) else ((0 : Int32))) else ((0 : Int32))
set_option maxHeartbeats 2000000 in
set_option maxRecDepth 20000 in
theorem tX12_isSign {r : Int32} {σ : St} {x1 : Int32} (hf : fX12_isSign σ x1 = r) : CI l (MWd D ad cs) yX12_isSign cX12_isSign 2 (some .boolean) 0 0 [.ref (ad 0), .int x1] σ r σ := by
  refine CI.of (by decide) (Nat.le_of_ble_eq_true rfl) ?_
  intro p e s m below meth c ls S hr hlk hw hl
  have hl : lv_has ls 2 [(0, .ref (ad 0)), (1, .int x1)] := hl
  unfold fX12_isSign at hf
  refine lv_aload_n S.1 S.2.1 dX12_isSign_0 rfl (lv_at hl 0 rfl) ?_
  refine mg_WayLeavesModel_token S hw kf_X12_241 dX12_isSign_1 ?_
  refine lv_iconst (v := 3) S.1 S.2.1 dX12_isSign_4 (by decide) ?_
  refine lv_icmp_ne (tgt := 20) S.1 S.2.1 dX12_isSign_5 (by decide) (fun hc => ?_) (fun hc => ?_)
  · have hf := itf hf hc
    refine lv_iconst (v := 0) S.1 S.2.1 dX12_isSign_20 (by decide) ?_
    exact g_zret (MWd_ok D ad cs) S hr hlk hw rfl dX12_isSign_21 hf rfl
  · have hf := itt hf hc
    refine lv_aload_n S.1 S.2.1 dX12_isSign_8 rfl (lv_at hl 0 rfl) ?_
    refine mg_WayLeavesModel_worth S hw kf_X12_254 dX12_isSign_9 ?_
    refine lv_iload_n S.1 S.2.1 dX12_isSign_12 rfl (lv_at hl 1 rfl) ?_
    refine lv_icmp_ne (tgt := 20) S.1 S.2.1 dX12_isSign_13 (by decide) (fun hc => ?_) (fun hc => ?_)
    · have hf := itf hf hc
      refine lv_iconst (v := 0) S.1 S.2.1 dX12_isSign_20 (by decide) ?_
      exact g_zret (MWd_ok D ad cs) S hr hlk hw rfl dX12_isSign_21 hf rfl
    · have hf := itt hf hc
      refine lv_iconst (v := 1) S.1 S.2.1 dX12_isSign_16 (by decide) ?_
      refine lv_goto (tgt := 21) S.1 S.2.1 dX12_isSign_17 (by decide) ?_
      exact g_zret (MWd_ok D ad cs) S hr hlk hw rfl dX12_isSign_21 hf rfl
theorem zzX12_isSign (σ : St) (x1 : Int32) : narrow .boolean (.int (fX12_isSign σ x1)) = .int (fX12_isSign σ x1) := by
  unfold fX12_isSign
  repeat' split
  all_goals first | rfl
def fX12_isKey (σ : St) (x1 : Int32) : Int32 :=
  if (σ.1 9) = (4 : Int32) then (if (σ.1 10) = x1 then ((1 : Int32)) else ((0 : Int32))) else ((0 : Int32))
set_option maxHeartbeats 2000000 in
set_option maxRecDepth 20000 in
theorem tX12_isKey {r : Int32} {σ : St} {x1 : Int32} (hf : fX12_isKey σ x1 = r) : CI l (MWd D ad cs) yX12_isKey cX12_isKey 2 (some .boolean) 0 0 [.ref (ad 0), .int x1] σ r σ := by
  refine CI.of (by decide) (Nat.le_of_ble_eq_true rfl) ?_
  intro p e s m below meth c ls S hr hlk hw hl
  have hl : lv_has ls 2 [(0, .ref (ad 0)), (1, .int x1)] := hl
  unfold fX12_isKey at hf
  refine lv_aload_n S.1 S.2.1 dX12_isKey_0 rfl (lv_at hl 0 rfl) ?_
  refine mg_WayLeavesModel_token S hw kf_X12_241 dX12_isKey_1 ?_
  refine lv_iconst (v := 4) S.1 S.2.1 dX12_isKey_4 (by decide) ?_
  refine lv_icmp_ne (tgt := 20) S.1 S.2.1 dX12_isKey_5 (by decide) (fun hc => ?_) (fun hc => ?_)
  · have hf := itf hf hc
    refine lv_iconst (v := 0) S.1 S.2.1 dX12_isKey_20 (by decide) ?_
    exact g_zret (MWd_ok D ad cs) S hr hlk hw rfl dX12_isKey_21 hf rfl
  · have hf := itt hf hc
    refine lv_aload_n S.1 S.2.1 dX12_isKey_8 rfl (lv_at hl 0 rfl) ?_
    refine mg_WayLeavesModel_worth S hw kf_X12_254 dX12_isKey_9 ?_
    refine lv_iload_n S.1 S.2.1 dX12_isKey_12 rfl (lv_at hl 1 rfl) ?_
    refine lv_icmp_ne (tgt := 20) S.1 S.2.1 dX12_isKey_13 (by decide) (fun hc => ?_) (fun hc => ?_)
    · have hf := itf hf hc
      refine lv_iconst (v := 0) S.1 S.2.1 dX12_isKey_20 (by decide) ?_
      exact g_zret (MWd_ok D ad cs) S hr hlk hw rfl dX12_isKey_21 hf rfl
    · have hf := itt hf hc
      refine lv_iconst (v := 1) S.1 S.2.1 dX12_isKey_16 (by decide) ?_
      refine lv_goto (tgt := 21) S.1 S.2.1 dX12_isKey_17 (by decide) ?_
      exact g_zret (MWd_ok D ad cs) S hr hlk hw rfl dX12_isKey_21 hf rfl
theorem zzX12_isKey (σ : St) (x1 : Int32) : narrow .boolean (.int (fX12_isKey σ x1)) = .int (fX12_isKey σ x1) := by
  unfold fX12_isKey
  repeat' split
  all_goals first | rfl
def fX12_emit (N : Nat) (σ : St) (x1 : Int32) : Option St :=
  if ix ((σ.1 15) + (σ.1 16)) 1920 = true then nm (aW σ 32 ((σ.1 15) + (σ.1 16)) x1) fun σ2 => nm (sI σ2 16 ((σ2.1 16) + (1 : Int32))) fun σ4 => some σ4 else none
set_option maxHeartbeats 2000000 in
set_option maxRecDepth 20000 in
theorem tX12_emit {σ' : St} {N : Nat} {σ : St} {x1 : Int32} (hf : fX12_emit N σ x1 = some σ') : CV l (MWd D ad cs) yX12_emit cX12_emit 2 0 0 [.ref (ad 0), .int x1] σ σ' := by
  refine CV.of (by decide) (Nat.le_of_ble_eq_true rfl) ?_
  intro p e s m below meth c ls S hr hlk hw hl
  have hl : lv_has ls 2 [(0, .ref (ad 0)), (1, .int x1)] := hl
  unfold fX12_emit at hf
  refine lv_aload_n S.1 S.2.1 dX12_emit_0 rfl (lv_at hl 0 rfl) ?_
  refine mg_WayLeavesModel_codes S hw kf_X12_266 dX12_emit_1 ?_
  refine lv_aload_n S.1 S.2.1 dX12_emit_4 rfl (lv_at hl 0 rfl) ?_
  refine mg_WayLeavesModel_codeAt S hw kf_X12_269 dX12_emit_5 ?_
  refine lv_aload_n S.1 S.2.1 dX12_emit_8 rfl (lv_at hl 0 rfl) ?_
  refine mg_WayLeavesModel_made S hw kf_X12_272 dX12_emit_9 ?_
  refine lv_iadd S.1 S.2.1 dX12_emit_12 ?_
  refine lv_iload_n S.1 S.2.1 dX12_emit_13 rfl (lv_at hl 1 rfl) ?_
  obtain ⟨h1, hf⟩ := gd_ix hf
  obtain ⟨σ2, e3⟩ : ∃ z : St, z = aW σ 32 ((σ.1 15) + (σ.1 16)) x1 := ⟨_, rfl⟩
  have hf := nm_s e3 hf
  refine g_iast (σ' := σ2) S hw 32 0 me_32 rfl (by rw [e3]; exact ms_32 _) h1 dX12_emit_14 (fun H locs hw => ?_)
  refine lv_aload_n S.1 S.2.1 dX12_emit_15 rfl (lv_at hl 0 rfl) ?_
  refine lv_dup S.1 S.2.1 dX12_emit_16 rfl ?_
  refine mg_WayLeavesModel_made S hw kf_X12_272 dX12_emit_17 ?_
  refine lv_iconst (v := 1) S.1 S.2.1 dX12_emit_20 (by decide) ?_
  refine lv_iadd S.1 S.2.1 dX12_emit_21 ?_
  obtain ⟨σ4, e5⟩ : ∃ z : St, z = sI σ2 16 ((σ2.1 16) + (1 : Int32)) := ⟨_, rfl⟩
  have hf := nm_s e5 hf
  refine mp_WayLeavesModel_made S hw e5 kf_X12_272 dX12_emit_22 (fun H locs hw => ?_)
  exact g_vret (MWd_ok D ad cs) S hr hlk hw dX12_emit_25 (Option.some.inj hf)
def fX12_rank (x0 : Int32) : Int32 :=
  if x0 = (12 : Int32) then ((1 : Int32)) else (if x0 = (11 : Int32) then ((2 : Int32)) else (if x0 = (13 : Int32) then ((3 : Int32)) else (if x0 = (9 : Int32) then ((4 : Int32)) else (if x0 = (10 : Int32) then ((4 : Int32)) else (if x0 = (6 : Int32) then ((5 : Int32)) else (if x0 = (7 : Int32) then ((5 : Int32)) else (if x0 = (8 : Int32) then ((6 : Int32)) else (if x0 = (14 : Int32) then ((7 : Int32)) else ((0 : Int32))))))))))
set_option maxHeartbeats 2000000 in
set_option maxRecDepth 20000 in
theorem tX12_rank {r : Int32} {σ : St} {x0 : Int32} (hf : fX12_rank x0 = r) : CI l (MWd D ad cs) yX12_rank cX12_rank 1 (some .int) 0 0 [.int x0] σ r σ := by
  refine CI.of (by decide) (Nat.le_of_ble_eq_true rfl) ?_
  intro p e s m below meth c ls S hr hlk hw hl
  have hl : lv_has ls 1 [(0, .int x0)] := hl
  unfold fX12_rank at hf
  refine lv_iload_n S.1 S.2.1 dX12_rank_0 rfl (lv_at hl 0 rfl) ?_
  refine lv_bipush (v := 12) S.1 S.2.1 dX12_rank_1 (by decide) ?_
  refine lv_icmp_ne (tgt := 10) S.1 S.2.1 dX12_rank_3 (by decide) (fun hc => ?_) (fun hc => ?_)
  · have hf := itf hf hc
    refine lv_iload_n S.1 S.2.1 dX12_rank_10 rfl (lv_at hl 0 rfl) ?_
    refine lv_bipush (v := 11) S.1 S.2.1 dX12_rank_11 (by decide) ?_
    refine lv_icmp_ne (tgt := 20) S.1 S.2.1 dX12_rank_13 (by decide) (fun hc => ?_) (fun hc => ?_)
    · have hf := itf hf hc
      refine lv_iload_n S.1 S.2.1 dX12_rank_20 rfl (lv_at hl 0 rfl) ?_
      refine lv_bipush (v := 13) S.1 S.2.1 dX12_rank_21 (by decide) ?_
      refine lv_icmp_ne (tgt := 30) S.1 S.2.1 dX12_rank_23 (by decide) (fun hc => ?_) (fun hc => ?_)
      · have hf := itf hf hc
        refine lv_iload_n S.1 S.2.1 dX12_rank_30 rfl (lv_at hl 0 rfl) ?_
        refine lv_bipush (v := 9) S.1 S.2.1 dX12_rank_31 (by decide) ?_
        refine lv_icmp_eq (tgt := 42) S.1 S.2.1 dX12_rank_33 (by decide) (fun hc => ?_) (fun hc => ?_)
        · have hf := itt hf hc
          refine lv_iconst (v := 4) S.1 S.2.1 dX12_rank_42 (by decide) ?_
          refine lv_goto (tgt := 85) S.1 S.2.1 dX12_rank_43 (by decide) ?_
          exact g_iret (MWd_ok D ad cs) S hr hlk hw dX12_rank_85 hf rfl
        · have hf := itf hf hc
          refine lv_iload_n S.1 S.2.1 dX12_rank_36 rfl (lv_at hl 0 rfl) ?_
          refine lv_bipush (v := 10) S.1 S.2.1 dX12_rank_37 (by decide) ?_
          refine lv_icmp_ne (tgt := 46) S.1 S.2.1 dX12_rank_39 (by decide) (fun hc => ?_) (fun hc => ?_)
          · have hf := itf hf hc
            refine lv_iload_n S.1 S.2.1 dX12_rank_46 rfl (lv_at hl 0 rfl) ?_
            refine lv_bipush (v := 6) S.1 S.2.1 dX12_rank_47 (by decide) ?_
            refine lv_icmp_eq (tgt := 58) S.1 S.2.1 dX12_rank_49 (by decide) (fun hc => ?_) (fun hc => ?_)
            · have hf := itt hf hc
              refine lv_iconst (v := 5) S.1 S.2.1 dX12_rank_58 (by decide) ?_
              refine lv_goto (tgt := 85) S.1 S.2.1 dX12_rank_59 (by decide) ?_
              exact g_iret (MWd_ok D ad cs) S hr hlk hw dX12_rank_85 hf rfl
            · have hf := itf hf hc
              refine lv_iload_n S.1 S.2.1 dX12_rank_52 rfl (lv_at hl 0 rfl) ?_
              refine lv_bipush (v := 7) S.1 S.2.1 dX12_rank_53 (by decide) ?_
              refine lv_icmp_ne (tgt := 62) S.1 S.2.1 dX12_rank_55 (by decide) (fun hc => ?_) (fun hc => ?_)
              · have hf := itf hf hc
                refine lv_iload_n S.1 S.2.1 dX12_rank_62 rfl (lv_at hl 0 rfl) ?_
                refine lv_bipush (v := 8) S.1 S.2.1 dX12_rank_63 (by decide) ?_
                refine lv_icmp_ne (tgt := 73) S.1 S.2.1 dX12_rank_65 (by decide) (fun hc => ?_) (fun hc => ?_)
                · have hf := itf hf hc
                  refine lv_iload_n S.1 S.2.1 dX12_rank_73 rfl (lv_at hl 0 rfl) ?_
                  refine lv_bipush (v := 14) S.1 S.2.1 dX12_rank_74 (by decide) ?_
                  refine lv_icmp_ne (tgt := 84) S.1 S.2.1 dX12_rank_76 (by decide) (fun hc => ?_) (fun hc => ?_)
                  · have hf := itf hf hc
                    refine lv_iconst (v := 0) S.1 S.2.1 dX12_rank_84 (by decide) ?_
                    exact g_iret (MWd_ok D ad cs) S hr hlk hw dX12_rank_85 hf rfl
                  · have hf := itt hf hc
                    refine lv_bipush (v := 7) S.1 S.2.1 dX12_rank_79 (by decide) ?_
                    refine lv_goto (tgt := 85) S.1 S.2.1 dX12_rank_81 (by decide) ?_
                    exact g_iret (MWd_ok D ad cs) S hr hlk hw dX12_rank_85 hf rfl
                · have hf := itt hf hc
                  refine lv_bipush (v := 6) S.1 S.2.1 dX12_rank_68 (by decide) ?_
                  refine lv_goto (tgt := 85) S.1 S.2.1 dX12_rank_70 (by decide) ?_
                  exact g_iret (MWd_ok D ad cs) S hr hlk hw dX12_rank_85 hf rfl
              · have hf := itt hf hc
                refine lv_iconst (v := 5) S.1 S.2.1 dX12_rank_58 (by decide) ?_
                refine lv_goto (tgt := 85) S.1 S.2.1 dX12_rank_59 (by decide) ?_
                exact g_iret (MWd_ok D ad cs) S hr hlk hw dX12_rank_85 hf rfl
          · have hf := itt hf hc
            refine lv_iconst (v := 4) S.1 S.2.1 dX12_rank_42 (by decide) ?_
            refine lv_goto (tgt := 85) S.1 S.2.1 dX12_rank_43 (by decide) ?_
            exact g_iret (MWd_ok D ad cs) S hr hlk hw dX12_rank_85 hf rfl
      · have hf := itt hf hc
        refine lv_iconst (v := 3) S.1 S.2.1 dX12_rank_26 (by decide) ?_
        refine lv_goto (tgt := 85) S.1 S.2.1 dX12_rank_27 (by decide) ?_
        exact g_iret (MWd_ok D ad cs) S hr hlk hw dX12_rank_85 hf rfl
    · have hf := itt hf hc
      refine lv_iconst (v := 2) S.1 S.2.1 dX12_rank_16 (by decide) ?_
      refine lv_goto (tgt := 85) S.1 S.2.1 dX12_rank_17 (by decide) ?_
      exact g_iret (MWd_ok D ad cs) S hr hlk hw dX12_rank_85 hf rfl
  · have hf := itt hf hc
    refine lv_iconst (v := 1) S.1 S.2.1 dX12_rank_6 (by decide) ?_
    refine lv_goto (tgt := 85) S.1 S.2.1 dX12_rank_7 (by decide) ?_
    exact g_iret (MWd_ok D ad cs) S hr hlk hw dX12_rank_85 hf rfl
def fX12_doAll_89 (N : Nat) (k0 : St → Int32 → Option St) (σ : St) (x1 : Int32) (y1 : Int32) (y2 : Int32) : Option St :=
  nm (sI σ 13 (y1 - y2)) fun σ7 => if ix (σ7.1 12) 170 = true then bd (fX12_emit N σ7 (aR σ7 36 (σ7.1 12))) fun σ10 => k0 σ10 x1 else none
set_option maxHeartbeats 2000000 in
set_option maxRecDepth 20000 in
theorem wX12_doAll_89 {σ' : St} {N : Nat} (S : CallFix p m c cX12_doAll 2 s av BG RX12) (hr : meth.sig.returnType = none) (hlk : meth.locks = false) {k0 : St → Int32 → Option St} (hk0 : ∀ (σ : St) (x1 : Int32) (ls : Array Slot) (H : Heap) (locs : List Loc), Hw (MWd D ad cs) s σ H locs → lv_has ls 2 [(0, .ref (ad 0)), (1, .int x1)] → k0 σ x1 = some σ' → W p l e (RM 1 21) s m av below meth c H locs 0 0 (QV below (MWd D ad cs) av s σ') (F0 m 0 ls []))  {σ : St} {x1 : Int32} {y1 : Int32} {y2 : Int32} {ls : Array Slot} {H : Heap} {locs : List Loc} (hw : Hw (MWd D ad cs) s σ H locs) (hl : lv_has ls 2 [(0, .ref (ad 0)), (1, .int x1)]) (hf : fX12_doAll_89 N k0 σ x1 y1 y2 = some σ') : W p l e (RM 1 21) s m av below meth c H locs 0 0 (QV below (MWd D ad cs) av s σ') (F0 m 89 ls [.int y2, .int y1, .ref (ad 0)]) := by
  unfold fX12_doAll_89 at hf
  refine lv_isub S.1 S.2.1 dX12_doAll_89 ?_
  obtain ⟨σ7, e8⟩ : ∃ z : St, z = sI σ 13 (y1 - y2) := ⟨_, rfl⟩
  have hf := nm_s e8 hf
  refine mp_WayLeavesModel_open S hw e8 kf_X12_284 dX12_doAll_90 (fun H locs hw => ?_)
  refine lv_aload_n S.1 S.2.1 dX12_doAll_93 rfl (lv_at hl 0 rfl) ?_
  refine lv_aload_n S.1 S.2.1 dX12_doAll_94 rfl (lv_at hl 0 rfl) ?_
  refine mg_WayLeavesModel_waits S hw kf_X12_278 dX12_doAll_95 ?_
  refine lv_aload_n S.1 S.2.1 dX12_doAll_98 rfl (lv_at hl 0 rfl) ?_
  refine mg_WayLeavesModel_waiting S hw kf_X12_275 dX12_doAll_99 ?_
  obtain ⟨h9, hf⟩ := gd_ix hf
  refine g_iald S hw 36 0 me_36 rfl h9 dX12_doAll_102 ?_
  obtain ⟨σ10, g11, hf⟩ := bd_s hf
  refine g_Vv (rest := []) (MWd_ok D ad cs) S hw (tX12_emit g11) kt_X12_287 0 me_0 rfl rfl ⟨Nat.le_of_ble_eq_true rfl, Nat.le_of_ble_eq_true rfl⟩ rfl hl.1 rfl (Nat.le_of_ble_eq_true rfl) ⟨Nat.zero_le _, Nat.zero_le _⟩ dX12_doAll_103 (fun H locs hw => ?_)
  refine lv_goto (tgt := 0) S.1 S.2.1 dX12_doAll_106 (by decide) ?_
  exact hk0 σ10 x1 _ _ _ hw (lv_sub hl [0, 1] rfl) hf
def fX12_doAll_84 (N : Nat) (k0 : St → Int32 → Option St) (σ : St) (x1 : Int32) (y1 : Int32) : Option St :=
  fX12_doAll_89 N k0 σ x1 y1 (1 : Int32)
set_option maxHeartbeats 2000000 in
set_option maxRecDepth 20000 in
theorem wX12_doAll_84 {σ' : St} {N : Nat} (S : CallFix p m c cX12_doAll 2 s av BG RX12) (hr : meth.sig.returnType = none) (hlk : meth.locks = false) {k0 : St → Int32 → Option St} (hk0 : ∀ (σ : St) (x1 : Int32) (ls : Array Slot) (H : Heap) (locs : List Loc), Hw (MWd D ad cs) s σ H locs → lv_has ls 2 [(0, .ref (ad 0)), (1, .int x1)] → k0 σ x1 = some σ' → W p l e (RM 1 21) s m av below meth c H locs 0 0 (QV below (MWd D ad cs) av s σ') (F0 m 0 ls []))  {σ : St} {x1 : Int32} {y1 : Int32} {ls : Array Slot} {H : Heap} {locs : List Loc} (hw : Hw (MWd D ad cs) s σ H locs) (hl : lv_has ls 2 [(0, .ref (ad 0)), (1, .int x1)]) (hf : fX12_doAll_84 N k0 σ x1 y1 = some σ') : W p l e (RM 1 21) s m av below meth c H locs 0 0 (QV below (MWd D ad cs) av s σ') (F0 m 84 ls [.int y1, .ref (ad 0)]) := by
  unfold fX12_doAll_84 at hf
  refine lv_iconst (v := 1) S.1 S.2.1 dX12_doAll_84 (by decide) ?_
  refine lv_goto (tgt := 89) S.1 S.2.1 dX12_doAll_85 (by decide) ?_
  exact wX12_doAll_89 S hr hlk hk0 hw (lv_sub hl [0, 1] rfl) hf
def fX12_doAll_0b (N : Nat) (k0 : St → Int32 → Option St) (σ : St) (x1 : Int32) : Option St :=
  if (σ.1 12) ≤ 0 then (some σ) else (if ix ((σ.1 12) - (1 : Int32)) 170 = true then if (aR σ 36 ((σ.1 12) - (1 : Int32))) = (15 : Int32) then (some σ) else (if ix ((σ.1 12) - (1 : Int32)) 170 = true then if (fX12_rank (aR σ 36 ((σ.1 12) - (1 : Int32)))) < x1 then (some σ) else (nm (sI σ 12 ((σ.1 12) - (1 : Int32))) fun σ3 => if ix (σ3.1 12) 170 = true then if (aR σ3 36 (σ3.1 12)) = (13 : Int32) then (fX12_doAll_84 N k0 σ3 x1 (σ3.1 13)) else (if ix (σ3.1 12) 170 = true then if (aR σ3 36 (σ3.1 12)) = (14 : Int32) then (fX12_doAll_84 N k0 σ3 x1 (σ3.1 13)) else (fX12_doAll_89 N k0 σ3 x1 (σ3.1 13) (0 : Int32)) else none) else none) else none) else none)
set_option maxHeartbeats 2000000 in
set_option maxRecDepth 20000 in
theorem wX12_doAll_0b {σ' : St} {N : Nat} (S : CallFix p m c cX12_doAll 2 s av BG RX12) (hr : meth.sig.returnType = none) (hlk : meth.locks = false) {k0 : St → Int32 → Option St} (hk0 : ∀ (σ : St) (x1 : Int32) (ls : Array Slot) (H : Heap) (locs : List Loc), Hw (MWd D ad cs) s σ H locs → lv_has ls 2 [(0, .ref (ad 0)), (1, .int x1)] → k0 σ x1 = some σ' → W p l e (RM 1 21) s m av below meth c H locs 0 0 (QV below (MWd D ad cs) av s σ') (F0 m 0 ls []))  {σ : St} {x1 : Int32} {ls : Array Slot} {H : Heap} {locs : List Loc} (hw : Hw (MWd D ad cs) s σ H locs) (hl : lv_has ls 2 [(0, .ref (ad 0)), (1, .int x1)]) (hf : fX12_doAll_0b N k0 σ x1 = some σ') : W p l e (RM 1 21) s m av below meth c H locs 0 0 (QV below (MWd D ad cs) av s σ') (F0 m 0 ls []) := by
  unfold fX12_doAll_0b at hf
  refine lv_aload_n S.1 S.2.1 dX12_doAll_0 rfl (lv_at hl 0 rfl) ?_
  refine mg_WayLeavesModel_waiting S hw kf_X12_275 dX12_doAll_1 ?_
  refine lv_if_le (tgt := 109) S.1 S.2.1 dX12_doAll_4 (by decide) (fun hc => ?_) (fun hc => ?_)
  · have hf := itt hf hc
    exact g_vret (MWd_ok D ad cs) S hr hlk hw dX12_doAll_109 (Option.some.inj hf)
  · have hf := itf hf hc
    refine lv_aload_n S.1 S.2.1 dX12_doAll_7 rfl (lv_at hl 0 rfl) ?_
    refine mg_WayLeavesModel_waits S hw kf_X12_278 dX12_doAll_8 ?_
    refine lv_aload_n S.1 S.2.1 dX12_doAll_11 rfl (lv_at hl 0 rfl) ?_
    refine mg_WayLeavesModel_waiting S hw kf_X12_275 dX12_doAll_12 ?_
    refine lv_iconst (v := 1) S.1 S.2.1 dX12_doAll_15 (by decide) ?_
    refine lv_isub S.1 S.2.1 dX12_doAll_16 ?_
    obtain ⟨h1, hf⟩ := gd_ix hf
    refine g_iald S hw 36 0 me_36 rfl h1 dX12_doAll_17 ?_
    refine lv_bipush (v := 15) S.1 S.2.1 dX12_doAll_18 (by decide) ?_
    refine lv_icmp_eq (tgt := 109) S.1 S.2.1 dX12_doAll_20 (by decide) (fun hc => ?_) (fun hc => ?_)
    · have hf := itt hf hc
      exact g_vret (MWd_ok D ad cs) S hr hlk hw dX12_doAll_109 (Option.some.inj hf)
    · have hf := itf hf hc
      refine lv_aload_n S.1 S.2.1 dX12_doAll_23 rfl (lv_at hl 0 rfl) ?_
      refine mg_WayLeavesModel_waits S hw kf_X12_278 dX12_doAll_24 ?_
      refine lv_aload_n S.1 S.2.1 dX12_doAll_27 rfl (lv_at hl 0 rfl) ?_
      refine mg_WayLeavesModel_waiting S hw kf_X12_275 dX12_doAll_28 ?_
      refine lv_iconst (v := 1) S.1 S.2.1 dX12_doAll_31 (by decide) ?_
      refine lv_isub S.1 S.2.1 dX12_doAll_32 ?_
      obtain ⟨h2, hf⟩ := gd_ix hf
      refine g_iald S hw 36 0 me_36 rfl h2 dX12_doAll_33 ?_
      refine g_Si (rest := []) (MWd_ok D ad cs) S hw (tX12_rank (ad := ad) (cs := cs) (σ := σ) rfl) kt_X12_281 ⟨Nat.le_of_ble_eq_true rfl, Nat.le_of_ble_eq_true rfl⟩ rfl hl.1 rfl (Nat.le_of_ble_eq_true rfl) ⟨Nat.zero_le _, Nat.zero_le _⟩ dX12_doAll_34 (fun H locs hw => ?_)
      refine lv_iload_n S.1 S.2.1 dX12_doAll_37 rfl (lv_at hl 1 rfl) ?_
      refine lv_icmp_lt (tgt := 109) S.1 S.2.1 dX12_doAll_38 (by decide) (fun hc => ?_) (fun hc => ?_)
      · have hf := itt hf hc
        exact g_vret (MWd_ok D ad cs) S hr hlk hw dX12_doAll_109 (Option.some.inj hf)
      · have hf := itf hf hc
        refine lv_aload_n S.1 S.2.1 dX12_doAll_41 rfl (lv_at hl 0 rfl) ?_
        refine lv_dup S.1 S.2.1 dX12_doAll_42 rfl ?_
        refine mg_WayLeavesModel_waiting S hw kf_X12_275 dX12_doAll_43 ?_
        refine lv_iconst (v := 1) S.1 S.2.1 dX12_doAll_46 (by decide) ?_
        refine lv_isub S.1 S.2.1 dX12_doAll_47 ?_
        obtain ⟨σ3, e4⟩ : ∃ z : St, z = sI σ 12 ((σ.1 12) - (1 : Int32)) := ⟨_, rfl⟩
        have hf := nm_s e4 hf
        refine mp_WayLeavesModel_waiting S hw e4 kf_X12_275 dX12_doAll_48 (fun H locs hw => ?_)
        refine lv_aload_n S.1 S.2.1 dX12_doAll_51 rfl (lv_at hl 0 rfl) ?_
        refine lv_dup S.1 S.2.1 dX12_doAll_52 rfl ?_
        refine mg_WayLeavesModel_open S hw kf_X12_284 dX12_doAll_53 ?_
        refine lv_aload_n S.1 S.2.1 dX12_doAll_56 rfl (lv_at hl 0 rfl) ?_
        refine mg_WayLeavesModel_waits S hw kf_X12_278 dX12_doAll_57 ?_
        refine lv_aload_n S.1 S.2.1 dX12_doAll_60 rfl (lv_at hl 0 rfl) ?_
        refine mg_WayLeavesModel_waiting S hw kf_X12_275 dX12_doAll_61 ?_
        obtain ⟨h5, hf⟩ := gd_ix hf
        refine g_iald S hw 36 0 me_36 rfl h5 dX12_doAll_64 ?_
        refine lv_bipush (v := 13) S.1 S.2.1 dX12_doAll_65 (by decide) ?_
        refine lv_icmp_eq (tgt := 84) S.1 S.2.1 dX12_doAll_67 (by decide) (fun hc => ?_) (fun hc => ?_)
        · have hf := itt hf hc
          exact wX12_doAll_84 S hr hlk hk0 hw (lv_sub hl [0, 1] rfl) hf
        · have hf := itf hf hc
          refine lv_aload_n S.1 S.2.1 dX12_doAll_70 rfl (lv_at hl 0 rfl) ?_
          refine mg_WayLeavesModel_waits S hw kf_X12_278 dX12_doAll_71 ?_
          refine lv_aload_n S.1 S.2.1 dX12_doAll_74 rfl (lv_at hl 0 rfl) ?_
          refine mg_WayLeavesModel_waiting S hw kf_X12_275 dX12_doAll_75 ?_
          obtain ⟨h6, hf⟩ := gd_ix hf
          refine g_iald S hw 36 0 me_36 rfl h6 dX12_doAll_78 ?_
          refine lv_bipush (v := 14) S.1 S.2.1 dX12_doAll_79 (by decide) ?_
          refine lv_icmp_ne (tgt := 88) S.1 S.2.1 dX12_doAll_81 (by decide) (fun hc => ?_) (fun hc => ?_)
          · have hf := itf hf hc
            refine lv_iconst (v := 0) S.1 S.2.1 dX12_doAll_88 (by decide) ?_
            exact wX12_doAll_89 S hr hlk hk0 hw (lv_sub hl [0, 1] rfl) hf
          · have hf := itt hf hc
            exact wX12_doAll_84 S hr hlk hk0 hw (lv_sub hl [0, 1] rfl) hf
def fX12_doAll_0 (N : Nat) : Nat → St → Int32 → Option St
  | 0 => fun _ _ => none
  | n + 1 => fX12_doAll_0b N (fX12_doAll_0 N n)
theorem wX12_doAll_0 {σ' : St} {N : Nat} (S : CallFix p m c cX12_doAll 2 s av BG RX12) (hr : meth.sig.returnType = none) (hlk : meth.locks = false) : ∀ (n : Nat), ∀ (σ : St) (x1 : Int32) (ls : Array Slot) (H : Heap) (locs : List Loc), Hw (MWd D ad cs) s σ H locs → lv_has ls 2 [(0, .ref (ad 0)), (1, .int x1)] → fX12_doAll_0 N n σ x1 = some σ' → W p l e (RM 1 21) s m av below meth c H locs 0 0 (QV below (MWd D ad cs) av s σ') (F0 m 0 ls []) := by
  intro n
  induction n with
  | zero => intro _ _ ls H locs hw hl hf; cases hf
  | succ n ih => intro _ _ ls H locs hw hl hf; exact wX12_doAll_0b S hr hlk ih hw hl hf
def fX12_doAll (N : Nat) (σ : St) (x1 : Int32) : Option St :=
  fX12_doAll_0 N N σ x1
set_option maxHeartbeats 2000000 in
set_option maxRecDepth 20000 in
theorem tX12_doAll {σ' : St} {N : Nat} {σ : St} {x1 : Int32} (hf : fX12_doAll N σ x1 = some σ') : CV l (MWd D ad cs) yX12_doAll cX12_doAll 2 1 21 [.ref (ad 0), .int x1] σ σ' := by
  refine CV.of (by decide) (Nat.le_of_ble_eq_true rfl) ?_
  intro p e s m below meth c ls S hr hlk hw hl
  have hl : lv_has ls 2 [(0, .ref (ad 0)), (1, .int x1)] := hl
  unfold fX12_doAll at hf
  exact wX12_doAll_0 S hr hlk N σ x1 _ _ _ hw (lv_sub hl [0, 1] rfl) hf
def fX12_await (N : Nat) (σ : St) (x1 : Int32) : Option St :=
  if ix (σ.1 12) 170 = true then nm (aW σ 36 (σ.1 12) x1) fun σ2 => nm (sI σ2 12 ((σ2.1 12) + (1 : Int32))) fun σ4 => some σ4 else none
set_option maxHeartbeats 2000000 in
set_option maxRecDepth 20000 in
theorem tX12_await {σ' : St} {N : Nat} {σ : St} {x1 : Int32} (hf : fX12_await N σ x1 = some σ') : CV l (MWd D ad cs) yX12_await cX12_await 2 0 0 [.ref (ad 0), .int x1] σ σ' := by
  refine CV.of (by decide) (Nat.le_of_ble_eq_true rfl) ?_
  intro p e s m below meth c ls S hr hlk hw hl
  have hl : lv_has ls 2 [(0, .ref (ad 0)), (1, .int x1)] := hl
  unfold fX12_await at hf
  refine lv_aload_n S.1 S.2.1 dX12_await_0 rfl (lv_at hl 0 rfl) ?_
  refine mg_WayLeavesModel_waits S hw kf_X12_278 dX12_await_1 ?_
  refine lv_aload_n S.1 S.2.1 dX12_await_4 rfl (lv_at hl 0 rfl) ?_
  refine mg_WayLeavesModel_waiting S hw kf_X12_275 dX12_await_5 ?_
  refine lv_iload_n S.1 S.2.1 dX12_await_8 rfl (lv_at hl 1 rfl) ?_
  obtain ⟨h1, hf⟩ := gd_ix hf
  obtain ⟨σ2, e3⟩ : ∃ z : St, z = aW σ 36 (σ.1 12) x1 := ⟨_, rfl⟩
  have hf := nm_s e3 hf
  refine g_iast (σ' := σ2) S hw 36 0 me_36 rfl (by rw [e3]; exact ms_36 _) h1 dX12_await_9 (fun H locs hw => ?_)
  refine lv_aload_n S.1 S.2.1 dX12_await_10 rfl (lv_at hl 0 rfl) ?_
  refine lv_dup S.1 S.2.1 dX12_await_11 rfl ?_
  refine mg_WayLeavesModel_waiting S hw kf_X12_275 dX12_await_12 ?_
  refine lv_iconst (v := 1) S.1 S.2.1 dX12_await_15 (by decide) ?_
  refine lv_iadd S.1 S.2.1 dX12_await_16 ?_
  obtain ⟨σ4, e5⟩ : ∃ z : St, z = sI σ2 12 ((σ2.1 12) + (1 : Int32)) := ⟨_, rfl⟩
  have hf := nm_s e5 hf
  refine mp_WayLeavesModel_waiting S hw e5 kf_X12_275 dX12_await_17 (fun H locs hw => ?_)
  exact g_vret (MWd_ok D ad cs) S hr hlk hw dX12_await_20 (Option.some.inj hf)
def fX12_between_174 (N : Nat) (σ : St) (y1 : Int32) : Option (Int32 × St) :=
  if ix y1 8 = true then nm (aW σ 37 y1 (vp_nar .boolean (1 : Int32))) fun σ14 => some ((1 : Int32), σ14) else none
set_option maxHeartbeats 2000000 in
set_option maxRecDepth 20000 in
theorem wX12_between_174 {r : Int32} {σ' : St} {N : Nat} (S : CallFix p m c cX12_between 2 s av BG RX12) (hr : meth.sig.returnType = some .boolean) (hlk : meth.locks = false)  {σ : St} {y1 : Int32} {ls : Array Slot} {H : Heap} {locs : List Loc} (hw : Hw (MWd D ad cs) s σ H locs) (hl : lv_has ls 2 [(0, .ref (ad 0))]) (hf : fX12_between_174 N σ y1 = some (r, σ')) : W p l e (RM 2 42) s m av below meth c H locs 0 0 (QI below (MWd D ad cs) av s r σ') (F0 m 174 ls [.int y1, .ref (ad 37)]) := by
  unfold fX12_between_174 at hf
  refine lv_iconst (v := 1) S.1 S.2.1 dX12_between_174 (by decide) ?_
  refine lv_goto (tgt := 179) S.1 S.2.1 dX12_between_175 (by decide) ?_
  obtain ⟨h13, hf⟩ := gd_ix hf
  obtain ⟨σ14, e15⟩ : ∃ z : St, z = aW σ 37 y1 (vp_nar .boolean (1 : Int32)) := ⟨_, rfl⟩
  have hf := nm_s e15 hf
  refine g_zast (σ' := σ14) S hw 37 2 me_37 rfl (by rw [e15]; exact ms_37 _) h13 dX12_between_179 (fun H locs hw => ?_)
  refine lv_iconst (v := 1) S.1 S.2.1 dX12_between_180 (by decide) ?_
  exact g_zret (MWd_ok D ad cs) S hr hlk hw rfl dX12_between_181 (Prod.mk.inj (Option.some.inj hf)).1 (Prod.mk.inj (Option.some.inj hf)).2
def fX12_between_125 (N : Nat) (σ : St) (x1 : Int32) : Option (Int32 × St) :=
  bd (fX12_doAll N σ (fX12_rank x1)) fun σ2 => bd (fX12_await N σ2 x1) fun σ4 => if (fX12_rank x1) = (4 : Int32) then (fX12_between_174 N σ4 (σ4.1 14)) else (if (fX12_rank x1) ≤ (4 : Int32) then (if ix (σ4.1 14) 8 = true then nm (aW σ4 37 (σ4.1 14) (vp_nar .boolean (0 : Int32))) fun σ7 => some ((1 : Int32), σ7) else none) else (if ix (σ4.1 14) 8 = true then if (aR σ4 37 (σ4.1 14)) = 0 then (if ix (σ4.1 14) 8 = true then nm (aW σ4 37 (σ4.1 14) (vp_nar .boolean (0 : Int32))) fun σ11 => some ((1 : Int32), σ11) else none) else (fX12_between_174 N σ4 (σ4.1 14)) else none))
set_option maxHeartbeats 2000000 in
set_option maxRecDepth 20000 in
theorem wX12_between_125 {r : Int32} {σ' : St} {N : Nat} (S : CallFix p m c cX12_between 2 s av BG RX12) (hr : meth.sig.returnType = some .boolean) (hlk : meth.locks = false)  {σ : St} {x1 : Int32} {ls : Array Slot} {H : Heap} {locs : List Loc} (hw : Hw (MWd D ad cs) s σ H locs) (hl : lv_has ls 2 [(0, .ref (ad 0)), (1, .int x1)]) (hf : fX12_between_125 N σ x1 = some (r, σ')) : W p l e (RM 2 42) s m av below meth c H locs 0 0 (QI below (MWd D ad cs) av s r σ') (F0 m 125 ls []) := by
  unfold fX12_between_125 at hf
  refine lv_aload_n S.1 S.2.1 dX12_between_125 rfl (lv_at hl 0 rfl) ?_
  refine lv_iload_n S.1 S.2.1 dX12_between_126 rfl (lv_at hl 1 rfl) ?_
  refine g_Si (rest := [.ref (ad 0)]) (MWd_ok D ad cs) S hw (tX12_rank (ad := ad) (cs := cs) (σ := σ) rfl) kt_X12_281 ⟨Nat.le_of_ble_eq_true rfl, Nat.le_of_ble_eq_true rfl⟩ rfl hl.1 rfl (Nat.le_of_ble_eq_true rfl) ⟨Nat.zero_le _, Nat.zero_le _⟩ dX12_between_127 (fun H locs hw => ?_)
  obtain ⟨σ2, g3, hf⟩ := bd_s hf
  refine g_Vv (rest := []) (MWd_ok D ad cs) S hw (tX12_doAll g3) kt_X12_303 0 me_0 rfl rfl ⟨Nat.le_of_ble_eq_true rfl, Nat.le_of_ble_eq_true rfl⟩ rfl hl.1 rfl (Nat.le_of_ble_eq_true rfl) ⟨Nat.zero_le _, Nat.zero_le _⟩ dX12_between_130 (fun H locs hw => ?_)
  refine lv_aload_n S.1 S.2.1 dX12_between_133 rfl (lv_at hl 0 rfl) ?_
  refine lv_iload_n S.1 S.2.1 dX12_between_134 rfl (lv_at hl 1 rfl) ?_
  obtain ⟨σ4, g5, hf⟩ := bd_s hf
  refine g_Vv (rest := []) (MWd_ok D ad cs) S hw (tX12_await g5) kt_X12_306 0 me_0 rfl rfl ⟨Nat.le_of_ble_eq_true rfl, Nat.le_of_ble_eq_true rfl⟩ rfl hl.1 rfl (Nat.le_of_ble_eq_true rfl) ⟨Nat.zero_le _, Nat.zero_le _⟩ dX12_between_135 (fun H locs hw => ?_)
  refine lv_aload_n S.1 S.2.1 dX12_between_138 rfl (lv_at hl 0 rfl) ?_
  refine mg_WayLeavesModel_compared S hw kf_X12_297 dX12_between_139 ?_
  refine lv_aload_n S.1 S.2.1 dX12_between_142 rfl (lv_at hl 0 rfl) ?_
  refine mg_WayLeavesModel_depth S hw kf_X12_300 dX12_between_143 ?_
  refine lv_iload_n S.1 S.2.1 dX12_between_146 rfl (lv_at hl 1 rfl) ?_
  refine g_Si (rest := [.int (σ4.1 14), .ref (ad 37)]) (MWd_ok D ad cs) S hw (tX12_rank (ad := ad) (cs := cs) (σ := σ4) rfl) kt_X12_281 ⟨Nat.le_of_ble_eq_true rfl, Nat.le_of_ble_eq_true rfl⟩ rfl hl.1 rfl (Nat.le_of_ble_eq_true rfl) ⟨Nat.zero_le _, Nat.zero_le _⟩ dX12_between_147 (fun H locs hw => ?_)
  refine lv_iconst (v := 4) S.1 S.2.1 dX12_between_150 (by decide) ?_
  refine lv_icmp_eq (tgt := 174) S.1 S.2.1 dX12_between_151 (by decide) (fun hc => ?_) (fun hc => ?_)
  · have hf := itt hf hc
    exact wX12_between_174 S hr hlk hw (lv_sub hl [0] rfl) hf
  · have hf := itf hf hc
    refine lv_iload_n S.1 S.2.1 dX12_between_154 rfl (lv_at hl 1 rfl) ?_
    refine g_Si (rest := [.int (σ4.1 14), .ref (ad 37)]) (MWd_ok D ad cs) S hw (tX12_rank (ad := ad) (cs := cs) (σ := σ4) rfl) kt_X12_281 ⟨Nat.le_of_ble_eq_true rfl, Nat.le_of_ble_eq_true rfl⟩ rfl hl.1 rfl (Nat.le_of_ble_eq_true rfl) ⟨Nat.zero_le _, Nat.zero_le _⟩ dX12_between_155 (fun H locs hw => ?_)
    refine lv_iconst (v := 4) S.1 S.2.1 dX12_between_158 (by decide) ?_
    refine lv_icmp_le (tgt := 178) S.1 S.2.1 dX12_between_159 (by decide) (fun hc => ?_) (fun hc => ?_)
    · have hf := itt hf hc
      refine lv_iconst (v := 0) S.1 S.2.1 dX12_between_178 (by decide) ?_
      obtain ⟨h6, hf⟩ := gd_ix hf
      obtain ⟨σ7, e8⟩ : ∃ z : St, z = aW σ4 37 (σ4.1 14) (vp_nar .boolean (0 : Int32)) := ⟨_, rfl⟩
      have hf := nm_s e8 hf
      refine g_zast (σ' := σ7) S hw 37 2 me_37 rfl (by rw [e8]; exact ms_37 _) h6 dX12_between_179 (fun H locs hw => ?_)
      refine lv_iconst (v := 1) S.1 S.2.1 dX12_between_180 (by decide) ?_
      exact g_zret (MWd_ok D ad cs) S hr hlk hw rfl dX12_between_181 (Prod.mk.inj (Option.some.inj hf)).1 (Prod.mk.inj (Option.some.inj hf)).2
    · have hf := itf hf hc
      refine lv_aload_n S.1 S.2.1 dX12_between_162 rfl (lv_at hl 0 rfl) ?_
      refine mg_WayLeavesModel_compared S hw kf_X12_297 dX12_between_163 ?_
      refine lv_aload_n S.1 S.2.1 dX12_between_166 rfl (lv_at hl 0 rfl) ?_
      refine mg_WayLeavesModel_depth S hw kf_X12_300 dX12_between_167 ?_
      obtain ⟨h9, hf⟩ := gd_ix hf
      refine g_zald S hw 37 2 me_37 rfl h9 dX12_between_170 ?_
      refine lv_if_eq (tgt := 178) S.1 S.2.1 dX12_between_171 (by decide) (fun hc => ?_) (fun hc => ?_)
      · have hf := itt hf hc
        refine lv_iconst (v := 0) S.1 S.2.1 dX12_between_178 (by decide) ?_
        obtain ⟨h10, hf⟩ := gd_ix hf
        obtain ⟨σ11, e12⟩ : ∃ z : St, z = aW σ4 37 (σ4.1 14) (vp_nar .boolean (0 : Int32)) := ⟨_, rfl⟩
        have hf := nm_s e12 hf
        refine g_zast (σ' := σ11) S hw 37 2 me_37 rfl (by rw [e12]; exact ms_37 _) h10 dX12_between_179 (fun H locs hw => ?_)
        refine lv_iconst (v := 1) S.1 S.2.1 dX12_between_180 (by decide) ?_
        exact g_zret (MWd_ok D ad cs) S hr hlk hw rfl dX12_between_181 (Prod.mk.inj (Option.some.inj hf)).1 (Prod.mk.inj (Option.some.inj hf)).2
      · have hf := itf hf hc
        exact wX12_between_174 S hr hlk hw (lv_sub hl [0] rfl) hf
def fX12_between_97 (N : Nat) (σ : St) (y0 : Int32) : Option (Int32 × St) :=
  if y0 = (-1 : Int32) then (some ((0 : Int32), σ)) else (if (fX12_rank y0) = (4 : Int32) then (if ix (σ.1 14) 8 = true then if (aR σ 37 (σ.1 14)) = 0 then (fX12_between_125 N σ y0) else (some ((0 : Int32), σ)) else none) else (fX12_between_125 N σ y0))
set_option maxHeartbeats 2000000 in
set_option maxRecDepth 20000 in
theorem wX12_between_97 {r : Int32} {σ' : St} {N : Nat} (S : CallFix p m c cX12_between 2 s av BG RX12) (hr : meth.sig.returnType = some .boolean) (hlk : meth.locks = false)  {σ : St} {y0 : Int32} {ls : Array Slot} {H : Heap} {locs : List Loc} (hw : Hw (MWd D ad cs) s σ H locs) (hl : lv_has ls 2 [(0, .ref (ad 0))]) (hf : fX12_between_97 N σ y0 = some (r, σ')) : W p l e (RM 2 42) s m av below meth c H locs 0 0 (QI below (MWd D ad cs) av s r σ') (F0 m 97 ls [.int y0]) := by
  unfold fX12_between_97 at hf
  refine lv_istore_n (lv' := [(1, .int y0), (0, .ref (ad 0))]) S.1 S.2.1 dX12_between_97 rfl hl (by decide) rfl (fun ls hl => ?_)
  refine lv_iload_n S.1 S.2.1 dX12_between_98 rfl (lv_at hl 0 rfl) ?_
  refine lv_iconst (v := -1) S.1 S.2.1 dX12_between_99 (by decide) ?_
  refine lv_icmp_eq (tgt := 123) S.1 S.2.1 dX12_between_100 (by decide) (fun hc => ?_) (fun hc => ?_)
  · have hf := itt hf hc
    refine lv_iconst (v := 0) S.1 S.2.1 dX12_between_123 (by decide) ?_
    exact g_zret (MWd_ok D ad cs) S hr hlk hw rfl dX12_between_124 (Prod.mk.inj (Option.some.inj hf)).1 (Prod.mk.inj (Option.some.inj hf)).2
  · have hf := itf hf hc
    refine lv_iload_n S.1 S.2.1 dX12_between_103 rfl (lv_at hl 0 rfl) ?_
    refine g_Si (rest := []) (MWd_ok D ad cs) S hw (tX12_rank (ad := ad) (cs := cs) (σ := σ) rfl) kt_X12_281 ⟨Nat.le_of_ble_eq_true rfl, Nat.le_of_ble_eq_true rfl⟩ rfl hl.1 rfl (Nat.le_of_ble_eq_true rfl) ⟨Nat.zero_le _, Nat.zero_le _⟩ dX12_between_104 (fun H locs hw => ?_)
    refine lv_iconst (v := 4) S.1 S.2.1 dX12_between_107 (by decide) ?_
    refine lv_icmp_ne (tgt := 125) S.1 S.2.1 dX12_between_108 (by decide) (fun hc => ?_) (fun hc => ?_)
    · have hf := itf hf hc
      exact wX12_between_125 S hr hlk hw (lv_sub hl [1, 0] rfl) hf
    · have hf := itt hf hc
      refine lv_aload_n S.1 S.2.1 dX12_between_111 rfl (lv_at hl 1 rfl) ?_
      refine mg_WayLeavesModel_compared S hw kf_X12_297 dX12_between_112 ?_
      refine lv_aload_n S.1 S.2.1 dX12_between_115 rfl (lv_at hl 1 rfl) ?_
      refine mg_WayLeavesModel_depth S hw kf_X12_300 dX12_between_116 ?_
      obtain ⟨h1, hf⟩ := gd_ix hf
      refine g_zald S hw 37 2 me_37 rfl h1 dX12_between_119 ?_
      refine lv_if_eq (tgt := 125) S.1 S.2.1 dX12_between_120 (by decide) (fun hc => ?_) (fun hc => ?_)
      · have hf := itt hf hc
        exact wX12_between_125 S hr hlk hw (lv_sub hl [1, 0] rfl) hf
      · have hf := itf hf hc
        refine lv_iconst (v := 0) S.1 S.2.1 dX12_between_123 (by decide) ?_
        exact g_zret (MWd_ok D ad cs) S hr hlk hw rfl dX12_between_124 (Prod.mk.inj (Option.some.inj hf)).1 (Prod.mk.inj (Option.some.inj hf)).2
def fX12_between (N : Nat) (σ : St) : Option (Int32 × St) :=
  if (fX12_isSign σ (43 : Int32)) = 0 then (if (fX12_isSign σ (45 : Int32)) = 0 then (if (fX12_isSign σ (42 : Int32)) = 0 then (if (fX12_isSign σ (60 : Int32)) = 0 then (if (fX12_isSign σ (61 : Int32)) = 0 then (if (fX12_isKey σ (3 : Int32)) = 0 then (if (fX12_isKey σ (2 : Int32)) = 0 then (fX12_between_97 N σ (-1 : Int32)) else (fX12_between_97 N σ (12 : Int32))) else (fX12_between_97 N σ (11 : Int32))) else (fX12_between_97 N σ (10 : Int32))) else (fX12_between_97 N σ (9 : Int32))) else (fX12_between_97 N σ (8 : Int32))) else (fX12_between_97 N σ (7 : Int32))) else (fX12_between_97 N σ (6 : Int32))
set_option maxHeartbeats 2000000 in
set_option maxRecDepth 20000 in
theorem tX12_between {r : Int32} {σ' : St} {N : Nat} {σ : St} (hf : fX12_between N σ = some (r, σ')) : CI l (MWd D ad cs) yX12_between cX12_between 2 (some .boolean) 2 42 [.ref (ad 0)] σ r σ' := by
  refine CI.of (by decide) (Nat.le_of_ble_eq_true rfl) ?_
  intro p e s m below meth c ls S hr hlk hw hl
  have hl : lv_has ls 2 [(0, .ref (ad 0))] := hl
  unfold fX12_between at hf
  refine lv_aload_n S.1 S.2.1 dX12_between_0 rfl (lv_at hl 0 rfl) ?_
  refine lv_bipush (v := 43) S.1 S.2.1 dX12_between_1 (by decide) ?_
  refine g_Vi (rest := []) (MWd_ok D ad cs) S hw (tX12_isSign (ad := ad) (cs := cs) (σ := σ) rfl) kt_X12_291 0 me_0 rfl rfl ⟨Nat.le_of_ble_eq_true rfl, Nat.le_of_ble_eq_true rfl⟩ rfl hl.1 rfl (Nat.le_of_ble_eq_true rfl) ⟨Nat.zero_le _, Nat.zero_le _⟩ dX12_between_3 (fun H locs hw => ?_)
  refine lv_if_eq (tgt := 14) S.1 S.2.1 dX12_between_6 (by decide) (fun hc => ?_) (fun hc => ?_)
  · have hf := itt hf hc
    refine lv_aload_n S.1 S.2.1 dX12_between_14 rfl (lv_at hl 0 rfl) ?_
    refine lv_bipush (v := 45) S.1 S.2.1 dX12_between_15 (by decide) ?_
    refine g_Vi (rest := []) (MWd_ok D ad cs) S hw (tX12_isSign (ad := ad) (cs := cs) (σ := σ) rfl) kt_X12_291 0 me_0 rfl rfl ⟨Nat.le_of_ble_eq_true rfl, Nat.le_of_ble_eq_true rfl⟩ rfl hl.1 rfl (Nat.le_of_ble_eq_true rfl) ⟨Nat.zero_le _, Nat.zero_le _⟩ dX12_between_17 (fun H locs hw => ?_)
    refine lv_if_eq (tgt := 28) S.1 S.2.1 dX12_between_20 (by decide) (fun hc => ?_) (fun hc => ?_)
    · have hf := itt hf hc
      refine lv_aload_n S.1 S.2.1 dX12_between_28 rfl (lv_at hl 0 rfl) ?_
      refine lv_bipush (v := 42) S.1 S.2.1 dX12_between_29 (by decide) ?_
      refine g_Vi (rest := []) (MWd_ok D ad cs) S hw (tX12_isSign (ad := ad) (cs := cs) (σ := σ) rfl) kt_X12_291 0 me_0 rfl rfl ⟨Nat.le_of_ble_eq_true rfl, Nat.le_of_ble_eq_true rfl⟩ rfl hl.1 rfl (Nat.le_of_ble_eq_true rfl) ⟨Nat.zero_le _, Nat.zero_le _⟩ dX12_between_31 (fun H locs hw => ?_)
      refine lv_if_eq (tgt := 42) S.1 S.2.1 dX12_between_34 (by decide) (fun hc => ?_) (fun hc => ?_)
      · have hf := itt hf hc
        refine lv_aload_n S.1 S.2.1 dX12_between_42 rfl (lv_at hl 0 rfl) ?_
        refine lv_bipush (v := 60) S.1 S.2.1 dX12_between_43 (by decide) ?_
        refine g_Vi (rest := []) (MWd_ok D ad cs) S hw (tX12_isSign (ad := ad) (cs := cs) (σ := σ) rfl) kt_X12_291 0 me_0 rfl rfl ⟨Nat.le_of_ble_eq_true rfl, Nat.le_of_ble_eq_true rfl⟩ rfl hl.1 rfl (Nat.le_of_ble_eq_true rfl) ⟨Nat.zero_le _, Nat.zero_le _⟩ dX12_between_45 (fun H locs hw => ?_)
        refine lv_if_eq (tgt := 56) S.1 S.2.1 dX12_between_48 (by decide) (fun hc => ?_) (fun hc => ?_)
        · have hf := itt hf hc
          refine lv_aload_n S.1 S.2.1 dX12_between_56 rfl (lv_at hl 0 rfl) ?_
          refine lv_bipush (v := 61) S.1 S.2.1 dX12_between_57 (by decide) ?_
          refine g_Vi (rest := []) (MWd_ok D ad cs) S hw (tX12_isSign (ad := ad) (cs := cs) (σ := σ) rfl) kt_X12_291 0 me_0 rfl rfl ⟨Nat.le_of_ble_eq_true rfl, Nat.le_of_ble_eq_true rfl⟩ rfl hl.1 rfl (Nat.le_of_ble_eq_true rfl) ⟨Nat.zero_le _, Nat.zero_le _⟩ dX12_between_59 (fun H locs hw => ?_)
          refine lv_if_eq (tgt := 70) S.1 S.2.1 dX12_between_62 (by decide) (fun hc => ?_) (fun hc => ?_)
          · have hf := itt hf hc
            refine lv_aload_n S.1 S.2.1 dX12_between_70 rfl (lv_at hl 0 rfl) ?_
            refine lv_iconst (v := 3) S.1 S.2.1 dX12_between_71 (by decide) ?_
            refine g_Vi (rest := []) (MWd_ok D ad cs) S hw (tX12_isKey (ad := ad) (cs := cs) (σ := σ) rfl) kt_X12_294 0 me_0 rfl rfl ⟨Nat.le_of_ble_eq_true rfl, Nat.le_of_ble_eq_true rfl⟩ rfl hl.1 rfl (Nat.le_of_ble_eq_true rfl) ⟨Nat.zero_le _, Nat.zero_le _⟩ dX12_between_72 (fun H locs hw => ?_)
            refine lv_if_eq (tgt := 83) S.1 S.2.1 dX12_between_75 (by decide) (fun hc => ?_) (fun hc => ?_)
            · have hf := itt hf hc
              refine lv_aload_n S.1 S.2.1 dX12_between_83 rfl (lv_at hl 0 rfl) ?_
              refine lv_iconst (v := 2) S.1 S.2.1 dX12_between_84 (by decide) ?_
              refine g_Vi (rest := []) (MWd_ok D ad cs) S hw (tX12_isKey (ad := ad) (cs := cs) (σ := σ) rfl) kt_X12_294 0 me_0 rfl rfl ⟨Nat.le_of_ble_eq_true rfl, Nat.le_of_ble_eq_true rfl⟩ rfl hl.1 rfl (Nat.le_of_ble_eq_true rfl) ⟨Nat.zero_le _, Nat.zero_le _⟩ dX12_between_85 (fun H locs hw => ?_)
              refine lv_if_eq (tgt := 96) S.1 S.2.1 dX12_between_88 (by decide) (fun hc => ?_) (fun hc => ?_)
              · have hf := itt hf hc
                refine lv_iconst (v := -1) S.1 S.2.1 dX12_between_96 (by decide) ?_
                exact wX12_between_97 S hr hlk hw (lv_sub hl [0] rfl) hf
              · have hf := itf hf hc
                refine lv_bipush (v := 12) S.1 S.2.1 dX12_between_91 (by decide) ?_
                refine lv_goto (tgt := 97) S.1 S.2.1 dX12_between_93 (by decide) ?_
                exact wX12_between_97 S hr hlk hw (lv_sub hl [0] rfl) hf
            · have hf := itf hf hc
              refine lv_bipush (v := 11) S.1 S.2.1 dX12_between_78 (by decide) ?_
              refine lv_goto (tgt := 97) S.1 S.2.1 dX12_between_80 (by decide) ?_
              exact wX12_between_97 S hr hlk hw (lv_sub hl [0] rfl) hf
          · have hf := itf hf hc
            refine lv_bipush (v := 10) S.1 S.2.1 dX12_between_65 (by decide) ?_
            refine lv_goto (tgt := 97) S.1 S.2.1 dX12_between_67 (by decide) ?_
            exact wX12_between_97 S hr hlk hw (lv_sub hl [0] rfl) hf
        · have hf := itf hf hc
          refine lv_bipush (v := 9) S.1 S.2.1 dX12_between_51 (by decide) ?_
          refine lv_goto (tgt := 97) S.1 S.2.1 dX12_between_53 (by decide) ?_
          exact wX12_between_97 S hr hlk hw (lv_sub hl [0] rfl) hf
      · have hf := itf hf hc
        refine lv_bipush (v := 8) S.1 S.2.1 dX12_between_37 (by decide) ?_
        refine lv_goto (tgt := 97) S.1 S.2.1 dX12_between_39 (by decide) ?_
        exact wX12_between_97 S hr hlk hw (lv_sub hl [0] rfl) hf
    · have hf := itf hf hc
      refine lv_bipush (v := 7) S.1 S.2.1 dX12_between_23 (by decide) ?_
      refine lv_goto (tgt := 97) S.1 S.2.1 dX12_between_25 (by decide) ?_
      exact wX12_between_97 S hr hlk hw (lv_sub hl [0] rfl) hf
  · have hf := itf hf hc
    refine lv_bipush (v := 6) S.1 S.2.1 dX12_between_9 (by decide) ?_
    refine lv_goto (tgt := 97) S.1 S.2.1 dX12_between_11 (by decide) ?_
    exact wX12_between_97 S hr hlk hw (lv_sub hl [0] rfl) hf
end METH
