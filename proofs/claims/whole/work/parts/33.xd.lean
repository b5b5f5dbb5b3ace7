/-! METHODS (printed by wip/whole/emit.py) -/
section METH
variable {p : Program} {l : Launch} {e : Env} {s : State} {m : MethodId} {av : Array Value} {below : List Frame} {meth : Method} {c : Code} {D : va_G} {ad : Nat → Nat} {cs : Nat → ClassId} {ts adK adV : Nat → Nat}
def fX11_heat (N : Nat) (σ : St) (x1 : Int32) (x2 : Int32) : Option (Int32 × St) :=
  if (fX6_isSpan σ x1) = 0 then (some ((-100 : Int32), σ)) else (if (fX11_within x2 (-20 : Int32) (90 : Int32)) = 0 then (some ((-100 : Int32), σ)) else (bd2 (fX6_changeHeat N σ x1 x2) fun r3 σ1 => some (r3, σ1)))
set_option maxHeartbeats 2000000 in
set_option maxRecDepth 20000 in
theorem tX11_heat {r : Int32} {σ' : St} {N : Nat} {σ : St} {x1 : Int32} {x2 : Int32} (hf : fX11_heat N σ x1 x2 = some (r, σ')) : CI l (XWd D ad cs ts adK adV) yX11_heat cX11_heat 3 (some .int) 2 43 [.ref (ad 0), .int x1, .int x2] σ r σ' := by
  refine CI.of (by decide) (Nat.le_of_ble_eq_true rfl) ?_
  intro p e s m below meth c ls S hr hlk hw hl
  have hl : lv_has ls 3 [(0, .ref (ad 0)), (1, .int x1), (2, .int x2)] := hl
  unfold fX11_heat at hf
  refine lv_aload_n S.1 S.2.1 dX11_heat_0 rfl (lv_at hl 0 rfl) ?_
  refine xg_WayLeaves_line S hw kf_X11_28 dX11_heat_1 ?_
  refine lv_iload_n S.1 S.2.1 dX11_heat_4 rfl (lv_at hl 1 rfl) ?_
  refine g_Vi (rest := []) (XWd_ok D ad cs ts adK adV) S hw (tX6_isSpan (ad := ad) (cs := cs) (ts := ts) (adK := adK) (adV := adV) (σ := σ) rfl) kt_X11_175 3 xe_3 rfl rfl ⟨Nat.le_of_ble_eq_true rfl, Nat.le_of_ble_eq_true rfl⟩ rfl hl.1 rfl (Nat.le_of_ble_eq_true rfl) ⟨Nat.zero_le _, Nat.zero_le _⟩ dX11_heat_5 (fun H locs hw => ?_)
  refine lv_if_eq (tgt := 22) S.1 S.2.1 dX11_heat_8 (by decide) (fun hc => ?_) (fun hc => ?_)
  · have hf := itt hf hc
    refine lv_bipush (v := -100) S.1 S.2.1 dX11_heat_22 (by decide) ?_
    exact g_iret (XWd_ok D ad cs ts adK adV) S hr hlk hw dX11_heat_24 (Prod.mk.inj (Option.some.inj hf)).1 (Prod.mk.inj (Option.some.inj hf)).2
  · have hf := itf hf hc
    refine lv_iload_n S.1 S.2.1 dX11_heat_11 rfl (lv_at hl 2 rfl) ?_
    refine lv_bipush (v := -20) S.1 S.2.1 dX11_heat_12 (by decide) ?_
    refine lv_bipush (v := 90) S.1 S.2.1 dX11_heat_14 (by decide) ?_
    refine g_Si (rest := []) (XWd_ok D ad cs ts adK adV) S hw (tX11_within (ad := ad) (cs := cs) (ts := ts) (adK := adK) (adV := adV) (σ := σ) rfl) kt_X11_107 ⟨Nat.le_of_ble_eq_true rfl, Nat.le_of_ble_eq_true rfl⟩ rfl hl.1 rfl (Nat.le_of_ble_eq_true rfl) ⟨Nat.zero_le _, Nat.zero_le _⟩ dX11_heat_16 (fun H locs hw => ?_)
    refine lv_if_ne (tgt := 25) S.1 S.2.1 dX11_heat_19 (by decide) (fun hc => ?_) (fun hc => ?_)
    · have hf := itf hf hc
      refine lv_aload_n S.1 S.2.1 dX11_heat_25 rfl (lv_at hl 0 rfl) ?_
      refine xg_WayLeaves_line S hw kf_X11_28 dX11_heat_26 ?_
      refine lv_iload_n S.1 S.2.1 dX11_heat_29 rfl (lv_at hl 1 rfl) ?_
      refine lv_iload_n S.1 S.2.1 dX11_heat_30 rfl (lv_at hl 2 rfl) ?_
      obtain ⟨r3, σ1, g2, hf⟩ := bd2_s hf
      refine g_Vi (rest := []) (XWd_ok D ad cs ts adK adV) S hw (tX6_changeHeat g2) kt_X11_178 3 xe_3 rfl rfl ⟨Nat.le_of_ble_eq_true rfl, Nat.le_of_ble_eq_true rfl⟩ rfl hl.1 rfl (Nat.le_of_ble_eq_true rfl) ⟨Nat.zero_le _, Nat.zero_le _⟩ dX11_heat_31 (fun H locs hw => ?_)
      exact g_iret (XWd_ok D ad cs ts adK adV) S hr hlk hw dX11_heat_34 (Prod.mk.inj (Option.some.inj hf)).1 (Prod.mk.inj (Option.some.inj hf)).2
    · have hf := itt hf hc
      refine lv_bipush (v := -100) S.1 S.2.1 dX11_heat_22 (by decide) ?_
      exact g_iret (XWd_ok D ad cs ts adK adV) S hr hlk hw dX11_heat_24 (Prod.mk.inj (Option.some.inj hf)).1 (Prod.mk.inj (Option.some.inj hf)).2
def fX11_spanTold (N : Nat) (σ : St) (x1 : Int32) (x2 : Int32) : Option (Int64 × St) :=
  if (fX6_isSpan σ x1) = 0 then (some ((-4611686018427387904 : Int64), σ)) else (if x2 = (0 : Int32) then (if ix x1 16 = true then some (((aR σ 37 x1)).toInt64, σ) else none) else (if x2 = (1 : Int32) then (if ix x1 16 = true then some (((aR σ 38 x1)).toInt64, σ) else none) else (if x2 = (2 : Int32) then (bd (fX6_sag N σ x1) fun r6 => some ((r6).toInt64, σ)) else (if x2 = (3 : Int32) then (bd (fX6_low N σ x1) fun r9 => some ((r9).toInt64, σ)) else (if x2 = (4 : Int32) then (bd (fX6_near N σ x1) fun r12 => some ((r12).toInt64, σ)) else (if x2 = (5 : Int32) then (bd (fX6_isTooNear N σ x1) fun r15 => if r15 = 0 then (some ((0 : Int64), σ)) else (some ((1 : Int64), σ))) else (if x2 = (6 : Int32) then (bd2 (fX5_ends N σ x1) fun r20 σ18 => some ((r20).toInt64, σ18)) else (if x2 = (7 : Int32) then (if ix x1 16 = true then some (((aR σ 41 x1)).toInt64, σ) else none) else (some ((-4611686018427387904 : Int64), σ))))))))))
set_option maxHeartbeats 2000000 in
set_option maxRecDepth 20000 in
theorem tX11_spanTold {r : Int64} {σ' : St} {N : Nat} {σ : St} {x1 : Int32} {x2 : Int32} (hf : fX11_spanTold N σ x1 x2 = some (r, σ')) : CJ l (XWd D ad cs ts adK adV) yX11_spanTold cX11_spanTold 3 (some .long) 5 121 [.ref (ad 0), .int x1, .int x2] σ r σ' := by
  refine CJ.of (by decide) (Nat.le_of_ble_eq_true rfl) ?_
  intro p e s m below meth c ls S hr hlk hw hl
  have hl : lv_has ls 3 [(0, .ref (ad 0)), (1, .int x1), (2, .int x2)] := hl
  unfold fX11_spanTold at hf
  refine lv_aload_n S.1 S.2.1 dX11_spanTold_0 rfl (lv_at hl 0 rfl) ?_
  refine xg_WayLeaves_line S hw kf_X11_28 dX11_spanTold_1 ?_
  refine lv_iload_n S.1 S.2.1 dX11_spanTold_4 rfl (lv_at hl 1 rfl) ?_
  refine g_Vi (rest := []) (XWd_ok D ad cs ts adK adV) S hw (tX6_isSpan (ad := ad) (cs := cs) (ts := ts) (adK := adK) (adV := adV) (σ := σ) rfl) kt_X11_175 3 xe_3 rfl rfl ⟨Nat.le_of_ble_eq_true rfl, Nat.le_of_ble_eq_true rfl⟩ rfl hl.1 rfl (Nat.le_of_ble_eq_true rfl) ⟨Nat.zero_le _, Nat.zero_le _⟩ dX11_spanTold_5 (fun H locs hw => ?_)
  refine lv_if_ne (tgt := 15) S.1 S.2.1 dX11_spanTold_8 (by decide) (fun hc => ?_) (fun hc => ?_)
  · have hf := itf hf hc
    refine lv_iload_n S.1 S.2.1 dX11_spanTold_15 rfl (lv_at hl 2 rfl) ?_
    by_cases h1 : x2 = (0 : Int32)
    · have hf := itt hf h1
      refine lv_tableIn (off := 48) (tgt := 64) S.1 S.2.1 dX11_spanTold_16 (by rw [h1]; decide) (by rw [h1]; decide) (by rw [h1]; rfl) (by decide) ?_
      refine lv_aload_n S.1 S.2.1 dX11_spanTold_64 rfl (lv_at hl 0 rfl) ?_
      refine xg_WayLeaves_line S hw kf_X11_28 dX11_spanTold_65 ?_
      refine xg_Line_plots S hw kf_X11_183 dX11_spanTold_68 ?_
      refine lv_iload_n S.1 S.2.1 dX11_spanTold_71 rfl (lv_at hl 1 rfl) ?_
      obtain ⟨h2, hf⟩ := gd_ix hf
      refine g_iald S hw 37 0 xe_37 rfl h2 dX11_spanTold_72 ?_
      refine lv_i2l S.1 S.2.1 dX11_spanTold_73 rfl ?_
      exact g_jret (XWd_ok D ad cs ts adK adV) S hr hlk hw dX11_spanTold_74 (Prod.mk.inj (Option.some.inj hf)).1 (Prod.mk.inj (Option.some.inj hf)).2
    have hf := itf hf h1
    by_cases h3 : x2 = (1 : Int32)
    · have hf := itt hf h3
      refine lv_tableIn (off := 59) (tgt := 75) S.1 S.2.1 dX11_spanTold_16 (by rw [h3]; decide) (by rw [h3]; decide) (by rw [h3]; rfl) (by decide) ?_
      refine lv_aload_n S.1 S.2.1 dX11_spanTold_75 rfl (lv_at hl 0 rfl) ?_
      refine xg_WayLeaves_line S hw kf_X11_28 dX11_spanTold_76 ?_
      refine xg_Line_lengths S hw kf_X11_186 dX11_spanTold_79 ?_
      refine lv_iload_n S.1 S.2.1 dX11_spanTold_82 rfl (lv_at hl 1 rfl) ?_
      obtain ⟨h4, hf⟩ := gd_ix hf
      refine g_iald S hw 38 0 xe_38 rfl h4 dX11_spanTold_83 ?_
      refine lv_i2l S.1 S.2.1 dX11_spanTold_84 rfl ?_
      exact g_jret (XWd_ok D ad cs ts adK adV) S hr hlk hw dX11_spanTold_85 (Prod.mk.inj (Option.some.inj hf)).1 (Prod.mk.inj (Option.some.inj hf)).2
    have hf := itf hf h3
    by_cases h5 : x2 = (2 : Int32)
    · have hf := itt hf h5
      refine lv_tableIn (off := 70) (tgt := 86) S.1 S.2.1 dX11_spanTold_16 (by rw [h5]; decide) (by rw [h5]; decide) (by rw [h5]; rfl) (by decide) ?_
      refine lv_aload_n S.1 S.2.1 dX11_spanTold_86 rfl (lv_at hl 0 rfl) ?_
      refine xg_WayLeaves_line S hw kf_X11_28 dX11_spanTold_87 ?_
      refine lv_iload_n S.1 S.2.1 dX11_spanTold_90 rfl (lv_at hl 1 rfl) ?_
      obtain ⟨r6, g7, hf⟩ := bd_s hf
      refine g_Vi (rest := []) (XWd_ok D ad cs ts adK adV) S hw (tX6_sag g7) kt_X11_189 3 xe_3 rfl rfl ⟨Nat.le_of_ble_eq_true rfl, Nat.le_of_ble_eq_true rfl⟩ rfl hl.1 rfl (Nat.le_of_ble_eq_true rfl) ⟨Nat.zero_le _, Nat.zero_le _⟩ dX11_spanTold_91 (fun H locs hw => ?_)
      refine lv_i2l S.1 S.2.1 dX11_spanTold_94 rfl ?_
      exact g_jret (XWd_ok D ad cs ts adK adV) S hr hlk hw dX11_spanTold_95 (Prod.mk.inj (Option.some.inj hf)).1 (Prod.mk.inj (Option.some.inj hf)).2
    have hf := itf hf h5
    by_cases h8 : x2 = (3 : Int32)
    · have hf := itt hf h8
      refine lv_tableIn (off := 80) (tgt := 96) S.1 S.2.1 dX11_spanTold_16 (by rw [h8]; decide) (by rw [h8]; decide) (by rw [h8]; rfl) (by decide) ?_
      refine lv_aload_n S.1 S.2.1 dX11_spanTold_96 rfl (lv_at hl 0 rfl) ?_
      refine xg_WayLeaves_line S hw kf_X11_28 dX11_spanTold_97 ?_
      refine lv_iload_n S.1 S.2.1 dX11_spanTold_100 rfl (lv_at hl 1 rfl) ?_
      obtain ⟨r9, g10, hf⟩ := bd_s hf
      refine g_Vi (rest := []) (XWd_ok D ad cs ts adK adV) S hw (tX6_low g10) kt_X11_192 3 xe_3 rfl rfl ⟨Nat.le_of_ble_eq_true rfl, Nat.le_of_ble_eq_true rfl⟩ rfl hl.1 rfl (Nat.le_of_ble_eq_true rfl) ⟨Nat.zero_le _, Nat.zero_le _⟩ dX11_spanTold_101 (fun H locs hw => ?_)
      refine lv_i2l S.1 S.2.1 dX11_spanTold_104 rfl ?_
      exact g_jret (XWd_ok D ad cs ts adK adV) S hr hlk hw dX11_spanTold_105 (Prod.mk.inj (Option.some.inj hf)).1 (Prod.mk.inj (Option.some.inj hf)).2
    have hf := itf hf h8
    by_cases h11 : x2 = (4 : Int32)
    · have hf := itt hf h11
      refine lv_tableIn (off := 90) (tgt := 106) S.1 S.2.1 dX11_spanTold_16 (by rw [h11]; decide) (by rw [h11]; decide) (by rw [h11]; rfl) (by decide) ?_
      refine lv_aload_n S.1 S.2.1 dX11_spanTold_106 rfl (lv_at hl 0 rfl) ?_
      refine xg_WayLeaves_line S hw kf_X11_28 dX11_spanTold_107 ?_
      refine lv_iload_n S.1 S.2.1 dX11_spanTold_110 rfl (lv_at hl 1 rfl) ?_
      obtain ⟨r12, g13, hf⟩ := bd_s hf
      refine g_Vi (rest := []) (XWd_ok D ad cs ts adK adV) S hw (tX6_near g13) kt_X11_195 3 xe_3 rfl rfl ⟨Nat.le_of_ble_eq_true rfl, Nat.le_of_ble_eq_true rfl⟩ rfl hl.1 rfl (Nat.le_of_ble_eq_true rfl) ⟨Nat.zero_le _, Nat.zero_le _⟩ dX11_spanTold_111 (fun H locs hw => ?_)
      refine lv_i2l S.1 S.2.1 dX11_spanTold_114 rfl ?_
      exact g_jret (XWd_ok D ad cs ts adK adV) S hr hlk hw dX11_spanTold_115 (Prod.mk.inj (Option.some.inj hf)).1 (Prod.mk.inj (Option.some.inj hf)).2
    have hf := itf hf h11
    by_cases h14 : x2 = (5 : Int32)
    · have hf := itt hf h14
      refine lv_tableIn (off := 100) (tgt := 116) S.1 S.2.1 dX11_spanTold_16 (by rw [h14]; decide) (by rw [h14]; decide) (by rw [h14]; rfl) (by decide) ?_
      refine lv_aload_n S.1 S.2.1 dX11_spanTold_116 rfl (lv_at hl 0 rfl) ?_
      refine xg_WayLeaves_line S hw kf_X11_28 dX11_spanTold_117 ?_
      refine lv_iload_n S.1 S.2.1 dX11_spanTold_120 rfl (lv_at hl 1 rfl) ?_
      obtain ⟨r15, g16, hf⟩ := bd_s hf
      refine g_Vi (rest := []) (XWd_ok D ad cs ts adK adV) S hw (tX6_isTooNear g16) kt_X11_198 3 xe_3 rfl rfl ⟨Nat.le_of_ble_eq_true rfl, Nat.le_of_ble_eq_true rfl⟩ rfl hl.1 rfl (Nat.le_of_ble_eq_true rfl) ⟨Nat.zero_le _, Nat.zero_le _⟩ dX11_spanTold_121 (fun H locs hw => ?_)
      refine lv_if_eq (tgt := 131) S.1 S.2.1 dX11_spanTold_124 (by decide) (fun hc => ?_) (fun hc => ?_)
      · have hf := itt hf hc
        refine lv_lconst (v := 0) S.1 S.2.1 dX11_spanTold_131 (by decide) ?_
        exact g_jret (XWd_ok D ad cs ts adK adV) S hr hlk hw dX11_spanTold_132 (Prod.mk.inj (Option.some.inj hf)).1 (Prod.mk.inj (Option.some.inj hf)).2
      · have hf := itf hf hc
        refine lv_lconst (v := 1) S.1 S.2.1 dX11_spanTold_127 (by decide) ?_
        refine lv_goto (tgt := 132) S.1 S.2.1 dX11_spanTold_128 (by decide) ?_
        exact g_jret (XWd_ok D ad cs ts adK adV) S hr hlk hw dX11_spanTold_132 (Prod.mk.inj (Option.some.inj hf)).1 (Prod.mk.inj (Option.some.inj hf)).2
    have hf := itf hf h14
    by_cases h17 : x2 = (6 : Int32)
    · have hf := itt hf h17
      refine lv_tableIn (off := 117) (tgt := 133) S.1 S.2.1 dX11_spanTold_16 (by rw [h17]; decide) (by rw [h17]; decide) (by rw [h17]; rfl) (by decide) ?_
      refine lv_aload_n S.1 S.2.1 dX11_spanTold_133 rfl (lv_at hl 0 rfl) ?_
      refine xg_WayLeaves_leaves S hw kf_X11_37 dX11_spanTold_134 ?_
      refine lv_iload_n S.1 S.2.1 dX11_spanTold_137 rfl (lv_at hl 1 rfl) ?_
      obtain ⟨r20, σ18, g19, hf⟩ := bd2_s hf
      refine g_Vi (rest := []) (XWd_ok D ad cs ts adK adV) S hw (tX5_ends g19) kt_X11_201 4 xe_4 rfl rfl ⟨Nat.le_of_ble_eq_true rfl, Nat.le_of_ble_eq_true rfl⟩ rfl hl.1 rfl (Nat.le_of_ble_eq_true rfl) ⟨Nat.zero_le _, Nat.zero_le _⟩ dX11_spanTold_138 (fun H locs hw => ?_)
      refine lv_i2l S.1 S.2.1 dX11_spanTold_141 rfl ?_
      exact g_jret (XWd_ok D ad cs ts adK adV) S hr hlk hw dX11_spanTold_142 (Prod.mk.inj (Option.some.inj hf)).1 (Prod.mk.inj (Option.some.inj hf)).2
    have hf := itf hf h17
    by_cases h21 : x2 = (7 : Int32)
    · have hf := itt hf h21
      refine lv_tableIn (off := 127) (tgt := 143) S.1 S.2.1 dX11_spanTold_16 (by rw [h21]; decide) (by rw [h21]; decide) (by rw [h21]; rfl) (by decide) ?_
      refine lv_aload_n S.1 S.2.1 dX11_spanTold_143 rfl (lv_at hl 0 rfl) ?_
      refine xg_WayLeaves_line S hw kf_X11_28 dX11_spanTold_144 ?_
      refine xg_Line_askDays S hw kf_X11_204 dX11_spanTold_147 ?_
      refine lv_iload_n S.1 S.2.1 dX11_spanTold_150 rfl (lv_at hl 1 rfl) ?_
      obtain ⟨h22, hf⟩ := gd_ix hf
      refine g_iald S hw 41 0 xe_41 rfl h22 dX11_spanTold_151 ?_
      refine lv_i2l S.1 S.2.1 dX11_spanTold_152 rfl ?_
      exact g_jret (XWd_ok D ad cs ts adK adV) S hr hlk hw dX11_spanTold_153 (Prod.mk.inj (Option.some.inj hf)).1 (Prod.mk.inj (Option.some.inj hf)).2
    have hf := itf hf h21
    refine lv_tableOut (tgt := 154) S.1 S.2.1 dX11_spanTold_16 (by have h1 := lv_neT h1 (a := 0) (by decide); have h3 := lv_neT h3 (a := 1) (by decide); have h5 := lv_neT h5 (a := 2) (by decide); have h8 := lv_neT h8 (a := 3) (by decide); have h11 := lv_neT h11 (a := 4) (by decide); have h14 := lv_neT h14 (a := 5) (by decide); have h17 := lv_neT h17 (a := 6) (by decide); have h21 := lv_neT h21 (a := 7) (by decide); omega) (by decide) ?_
    refine lv_ldc2 S.1 S.2.1 S.2.2.2.1 (S.2.2.2.2 _ kc_X11_181) dX11_spanTold_154 ?_
    exact g_jret (XWd_ok D ad cs ts adK adV) S hr hlk hw dX11_spanTold_157 (Prod.mk.inj (Option.some.inj hf)).1 (Prod.mk.inj (Option.some.inj hf)).2
  · have hf := itt hf hc
    refine lv_ldc2 S.1 S.2.1 S.2.2.2.1 (S.2.2.2.2 _ kc_X11_181) dX11_spanTold_11 ?_
    exact g_jret (XWd_ok D ad cs ts adK adV) S hr hlk hw dX11_spanTold_14 (Prod.mk.inj (Option.some.inj hf)).1 (Prod.mk.inj (Option.some.inj hf)).2
def fX11_leave_83 (N : Nat) (σ : St) (x1 : Int32) (x2 : Int32) (x3 : Int32) (x4 : Int32) (x5 : Int32) : Option (Int32 × St) :=
  if (σ.1 4) < (24 : Int32) then (bd2 (fX5_add N σ x1 x2 x3 x4 x5) fun r4 σ2 => some (r4, σ2)) else (some ((-4 : Int32), σ))
set_option maxHeartbeats 2000000 in
set_option maxRecDepth 20000 in
theorem wX11_leave_83 {r : Int32} {σ' : St} {N : Nat} (S : CallFix p m c cX11_leave 6 s av BG RX11) (hr : meth.sig.returnType = some .int) (hlk : meth.locks = false)  {σ : St} {x1 : Int32} {x2 : Int32} {x3 : Int32} {x4 : Int32} {x5 : Int32} {ls : Array Slot} {H : Heap} {locs : List Loc} (hw : Hw (XWd D ad cs ts adK adV) s σ H locs) (hl : lv_has ls 6 [(0, .ref (ad 0)), (1, .int x1), (2, .int x2), (3, .int x3), (4, .int x4), (5, .int x5)]) (hf : fX11_leave_83 N σ x1 x2 x3 x4 x5 = some (r, σ')) : W p l e (RM 2 43) s m av below meth c H locs 0 0 (QI below (XWd D ad cs ts adK adV) av s r σ') (F0 m 83 ls []) := by
  unfold fX11_leave_83 at hf
  refine lv_aload_n S.1 S.2.1 dX11_leave_83 rfl (lv_at hl 0 rfl) ?_
  refine xg_WayLeaves_leaves S hw kf_X11_37 dX11_leave_84 ?_
  refine xg_Leaves_count S hw kf_X11_213 dX11_leave_87 ?_
  refine lv_bipush (v := 24) S.1 S.2.1 dX11_leave_90 (by decide) ?_
  refine lv_icmp_lt (tgt := 98) S.1 S.2.1 dX11_leave_92 (by decide) (fun hc => ?_) (fun hc => ?_)
  · have hf := itt hf hc
    refine lv_aload_n S.1 S.2.1 dX11_leave_98 rfl (lv_at hl 0 rfl) ?_
    refine xg_WayLeaves_leaves S hw kf_X11_37 dX11_leave_99 ?_
    refine lv_iload_n S.1 S.2.1 dX11_leave_102 rfl (lv_at hl 1 rfl) ?_
    refine lv_iload_n S.1 S.2.1 dX11_leave_103 rfl (lv_at hl 2 rfl) ?_
    refine lv_iload_n S.1 S.2.1 dX11_leave_104 rfl (lv_at hl 3 rfl) ?_
    refine lv_iload S.1 S.2.1 dX11_leave_105 (lv_at hl 4 rfl) ?_
    refine lv_iload S.1 S.2.1 dX11_leave_107 (lv_at hl 5 rfl) ?_
    obtain ⟨r4, σ2, g3, hf⟩ := bd2_s hf
    refine g_Vi (rest := []) (XWd_ok D ad cs ts adK adV) S hw (tX5_add g3) kt_X11_216 4 xe_4 rfl rfl ⟨Nat.le_of_ble_eq_true rfl, Nat.le_of_ble_eq_true rfl⟩ rfl hl.1 rfl (Nat.le_of_ble_eq_true rfl) ⟨Nat.zero_le _, Nat.zero_le _⟩ dX11_leave_109 (fun H locs hw => ?_)
    exact g_iret (XWd_ok D ad cs ts adK adV) S hr hlk hw dX11_leave_112 (Prod.mk.inj (Option.some.inj hf)).1 (Prod.mk.inj (Option.some.inj hf)).2
  · have hf := itf hf hc
    refine lv_bipush (v := -4) S.1 S.2.1 dX11_leave_95 (by decide) ?_
    exact g_iret (XWd_ok D ad cs ts adK adV) S hr hlk hw dX11_leave_97 (Prod.mk.inj (Option.some.inj hf)).1 (Prod.mk.inj (Option.some.inj hf)).2
def fX11_leave (N : Nat) (σ : St) (x1 : Int32) (x2 : Int32) (x3 : Int32) (x4 : Int32) (x5 : Int32) : Option (Int32 × St) :=
  if (fX11_within x1 (0 : Int32) (5 : Int32)) = 0 then (some ((-2 : Int32), σ)) else (if (fX6_isSpan σ x2) = 0 then (some ((-2 : Int32), σ)) else (if (fX11_within x3 (0 : Int32) (99999 : Int32)) = 0 then (some ((-2 : Int32), σ)) else (if (fX4_isStillToCome σ x4) = 0 then (some ((-2 : Int32), σ)) else (if x5 = (-1 : Int32) then (fX11_leave_83 N σ x1 x2 x3 x4 x5) else (if (fX5_isLeave σ x5) = 0 then (some ((-2 : Int32), σ)) else (if ix x5 24 = true then if (aR σ 43 x5) = x2 then (fX11_leave_83 N σ x1 x2 x3 x4 x5) else (some ((-2 : Int32), σ)) else none))))))
set_option maxHeartbeats 2000000 in
set_option maxRecDepth 20000 in
theorem tX11_leave {r : Int32} {σ' : St} {N : Nat} {σ : St} {x1 : Int32} {x2 : Int32} {x3 : Int32} {x4 : Int32} {x5 : Int32} (hf : fX11_leave N σ x1 x2 x3 x4 x5 = some (r, σ')) : CI l (XWd D ad cs ts adK adV) yX11_leave cX11_leave 6 (some .int) 2 43 [.ref (ad 0), .int x1, .int x2, .int x3, .int x4, .int x5] σ r σ' := by
  refine CI.of (by decide) (Nat.le_of_ble_eq_true rfl) ?_
  intro p e s m below meth c ls S hr hlk hw hl
  have hl : lv_has ls 6 [(0, .ref (ad 0)), (1, .int x1), (2, .int x2), (3, .int x3), (4, .int x4), (5, .int x5)] := hl
  unfold fX11_leave at hf
  refine lv_iload_n S.1 S.2.1 dX11_leave_0 rfl (lv_at hl 1 rfl) ?_
  refine lv_iconst (v := 0) S.1 S.2.1 dX11_leave_1 (by decide) ?_
  refine lv_iconst (v := 5) S.1 S.2.1 dX11_leave_2 (by decide) ?_
  refine g_Si (rest := []) (XWd_ok D ad cs ts adK adV) S hw (tX11_within (ad := ad) (cs := cs) (ts := ts) (adK := adK) (adV := adV) (σ := σ) rfl) kt_X11_107 ⟨Nat.le_of_ble_eq_true rfl, Nat.le_of_ble_eq_true rfl⟩ rfl hl.1 rfl (Nat.le_of_ble_eq_true rfl) ⟨Nat.zero_le _, Nat.zero_le _⟩ dX11_leave_3 (fun H locs hw => ?_)
  refine lv_if_eq (tgt := 20) S.1 S.2.1 dX11_leave_6 (by decide) (fun hc => ?_) (fun hc => ?_)
  · have hf := itt hf hc
    refine lv_bipush (v := -2) S.1 S.2.1 dX11_leave_20 (by decide) ?_
    exact g_iret (XWd_ok D ad cs ts adK adV) S hr hlk hw dX11_leave_22 (Prod.mk.inj (Option.some.inj hf)).1 (Prod.mk.inj (Option.some.inj hf)).2
  · have hf := itf hf hc
    refine lv_aload_n S.1 S.2.1 dX11_leave_9 rfl (lv_at hl 0 rfl) ?_
    refine xg_WayLeaves_line S hw kf_X11_28 dX11_leave_10 ?_
    refine lv_iload_n S.1 S.2.1 dX11_leave_13 rfl (lv_at hl 2 rfl) ?_
    refine g_Vi (rest := []) (XWd_ok D ad cs ts adK adV) S hw (tX6_isSpan (ad := ad) (cs := cs) (ts := ts) (adK := adK) (adV := adV) (σ := σ) rfl) kt_X11_175 3 xe_3 rfl rfl ⟨Nat.le_of_ble_eq_true rfl, Nat.le_of_ble_eq_true rfl⟩ rfl hl.1 rfl (Nat.le_of_ble_eq_true rfl) ⟨Nat.zero_le _, Nat.zero_le _⟩ dX11_leave_14 (fun H locs hw => ?_)
    refine lv_if_ne (tgt := 23) S.1 S.2.1 dX11_leave_17 (by decide) (fun hc => ?_) (fun hc => ?_)
    · have hf := itf hf hc
      refine lv_iload_n S.1 S.2.1 dX11_leave_23 rfl (lv_at hl 3 rfl) ?_
      refine lv_iconst (v := 0) S.1 S.2.1 dX11_leave_24 (by decide) ?_
      refine lv_ldc S.1 S.2.1 S.2.2.2.1 (S.2.2.2.2 _ kc_X11_207) dX11_leave_25 ?_
      refine g_Si (rest := []) (XWd_ok D ad cs ts adK adV) S hw (tX11_within (ad := ad) (cs := cs) (ts := ts) (adK := adK) (adV := adV) (σ := σ) rfl) kt_X11_107 ⟨Nat.le_of_ble_eq_true rfl, Nat.le_of_ble_eq_true rfl⟩ rfl hl.1 rfl (Nat.le_of_ble_eq_true rfl) ⟨Nat.zero_le _, Nat.zero_le _⟩ dX11_leave_27 (fun H locs hw => ?_)
      refine lv_if_eq (tgt := 45) S.1 S.2.1 dX11_leave_30 (by decide) (fun hc => ?_) (fun hc => ?_)
      · have hf := itt hf hc
        refine lv_bipush (v := -2) S.1 S.2.1 dX11_leave_45 (by decide) ?_
        exact g_iret (XWd_ok D ad cs ts adK adV) S hr hlk hw dX11_leave_47 (Prod.mk.inj (Option.some.inj hf)).1 (Prod.mk.inj (Option.some.inj hf)).2
      · have hf := itf hf hc
        refine lv_aload_n S.1 S.2.1 dX11_leave_33 rfl (lv_at hl 0 rfl) ?_
        refine xg_WayLeaves_land S hw kf_X11_10 dX11_leave_34 ?_
        refine lv_iload S.1 S.2.1 dX11_leave_37 (lv_at hl 4 rfl) ?_
        refine g_Vi (rest := []) (XWd_ok D ad cs ts adK adV) S hw (tX4_isStillToCome (ad := ad) (cs := cs) (ts := ts) (adK := adK) (adV := adV) (σ := σ) rfl) kt_X11_122 1 xe_1 rfl rfl ⟨Nat.le_of_ble_eq_true rfl, Nat.le_of_ble_eq_true rfl⟩ rfl hl.1 rfl (Nat.le_of_ble_eq_true rfl) ⟨Nat.zero_le _, Nat.zero_le _⟩ dX11_leave_39 (fun H locs hw => ?_)
        refine lv_if_ne (tgt := 48) S.1 S.2.1 dX11_leave_42 (by decide) (fun hc => ?_) (fun hc => ?_)
        · have hf := itf hf hc
          refine lv_iload S.1 S.2.1 dX11_leave_48 (lv_at hl 5 rfl) ?_
          refine lv_iconst (v := -1) S.1 S.2.1 dX11_leave_50 (by decide) ?_
          refine lv_icmp_eq (tgt := 83) S.1 S.2.1 dX11_leave_51 (by decide) (fun hc => ?_) (fun hc => ?_)
          · have hf := itt hf hc
            exact wX11_leave_83 S hr hlk hw (lv_sub hl [0, 1, 2, 3, 4, 5] rfl) hf
          · have hf := itf hf hc
            refine lv_aload_n S.1 S.2.1 dX11_leave_54 rfl (lv_at hl 0 rfl) ?_
            refine xg_WayLeaves_leaves S hw kf_X11_37 dX11_leave_55 ?_
            refine lv_iload S.1 S.2.1 dX11_leave_58 (lv_at hl 5 rfl) ?_
            refine g_Vi (rest := []) (XWd_ok D ad cs ts adK adV) S hw (tX5_isLeave (ad := ad) (cs := cs) (ts := ts) (adK := adK) (adV := adV) (σ := σ) rfl) kt_X11_208 4 xe_4 rfl rfl ⟨Nat.le_of_ble_eq_true rfl, Nat.le_of_ble_eq_true rfl⟩ rfl hl.1 rfl (Nat.le_of_ble_eq_true rfl) ⟨Nat.zero_le _, Nat.zero_le _⟩ dX11_leave_60 (fun H locs hw => ?_)
            refine lv_if_eq (tgt := 80) S.1 S.2.1 dX11_leave_63 (by decide) (fun hc => ?_) (fun hc => ?_)
            · have hf := itt hf hc
              refine lv_bipush (v := -2) S.1 S.2.1 dX11_leave_80 (by decide) ?_
              exact g_iret (XWd_ok D ad cs ts adK adV) S hr hlk hw dX11_leave_82 (Prod.mk.inj (Option.some.inj hf)).1 (Prod.mk.inj (Option.some.inj hf)).2
            · have hf := itf hf hc
              refine lv_aload_n S.1 S.2.1 dX11_leave_66 rfl (lv_at hl 0 rfl) ?_
              refine xg_WayLeaves_leaves S hw kf_X11_37 dX11_leave_67 ?_
              refine xg_Leaves_spans S hw kf_X11_211 dX11_leave_70 ?_
              refine lv_iload S.1 S.2.1 dX11_leave_73 (lv_at hl 5 rfl) ?_
              obtain ⟨h1, hf⟩ := gd_ix hf
              refine g_iald S hw 43 0 xe_43 rfl h1 dX11_leave_75 ?_
              refine lv_iload_n S.1 S.2.1 dX11_leave_76 rfl (lv_at hl 2 rfl) ?_
              refine lv_icmp_eq (tgt := 83) S.1 S.2.1 dX11_leave_77 (by decide) (fun hc => ?_) (fun hc => ?_)
              · have hf := itt hf hc
                exact wX11_leave_83 S hr hlk hw (lv_sub hl [0, 1, 2, 3, 4, 5] rfl) hf
              · have hf := itf hf hc
                refine lv_bipush (v := -2) S.1 S.2.1 dX11_leave_80 (by decide) ?_
                exact g_iret (XWd_ok D ad cs ts adK adV) S hr hlk hw dX11_leave_82 (Prod.mk.inj (Option.some.inj hf)).1 (Prod.mk.inj (Option.some.inj hf)).2
        · have hf := itt hf hc
          refine lv_bipush (v := -2) S.1 S.2.1 dX11_leave_45 (by decide) ?_
          exact g_iret (XWd_ok D ad cs ts adK adV) S hr hlk hw dX11_leave_47 (Prod.mk.inj (Option.some.inj hf)).1 (Prod.mk.inj (Option.some.inj hf)).2
    · have hf := itt hf hc
      refine lv_bipush (v := -2) S.1 S.2.1 dX11_leave_20 (by decide) ?_
      exact g_iret (XWd_ok D ad cs ts adK adV) S hr hlk hw dX11_leave_22 (Prod.mk.inj (Option.some.inj hf)).1 (Prod.mk.inj (Option.some.inj hf)).2
def fX11_leaveTold (N : Nat) (σ : St) (x1 : Int32) (x2 : Int32) : Option (Int32 × St) :=
  if (fX5_isLeave σ x1) = 0 then (some ((-2 : Int32), σ)) else (if x2 = (0 : Int32) then (if ix x1 24 = true then some ((aR σ 42 x1), σ) else none) else (if x2 = (1 : Int32) then (if ix x1 24 = true then some ((aR σ 43 x1), σ) else none) else (if x2 = (2 : Int32) then (if ix x1 24 = true then some ((aR σ 45 x1), σ) else none) else (if x2 = (3 : Int32) then (bd (fX5_lasts N σ x1) fun r8 => some (r8, σ)) else (if x2 = (4 : Int32) then (if ix x1 24 = true then if ix (aR σ 42 x1) 6 = true then some ((stT 3 ((aR σ 42 x1)).toNatClampNeg), σ) else none else none) else (if x2 = (5 : Int32) then (bd (fX5_yearlyOf N σ x1) fun r14 => some (r14, σ)) else (if x2 = (6 : Int32) then (bd2 (fX5_isInForce N σ x1 (σ.1 0)) fun r19 σ17 => if r19 = 0 then (some ((0 : Int32), σ17)) else (some ((1 : Int32), σ17))) else (if x2 = (7 : Int32) then (if ix x1 24 = true then some ((aR σ 48 x1), σ) else none) else (if x2 = (8 : Int32) then (if ix x1 24 = true then if (aR σ 49 x1) = 0 then (some ((0 : Int32), σ)) else (some ((1 : Int32), σ)) else none) else (some ((-2 : Int32), σ)))))))))))
set_option maxHeartbeats 2000000 in
set_option maxRecDepth 20000 in
theorem tX11_leaveTold {r : Int32} {σ' : St} {N : Nat} {σ : St} {x1 : Int32} {x2 : Int32} (hf : fX11_leaveTold N σ x1 x2 = some (r, σ')) : CI l (XWd D ad cs ts adK adV) yX11_leaveTold cX11_leaveTold 3 (some .int) 4 96 [.ref (ad 0), .int x1, .int x2] σ r σ' := by
  refine CI.of (by decide) (Nat.le_of_ble_eq_true rfl) ?_
  intro p e s m below meth c ls S hr hlk hw hl
  have hl : lv_has ls 3 [(0, .ref (ad 0)), (1, .int x1), (2, .int x2)] := hl
  unfold fX11_leaveTold at hf
  refine lv_aload_n S.1 S.2.1 dX11_leaveTold_0 rfl (lv_at hl 0 rfl) ?_
  refine xg_WayLeaves_leaves S hw kf_X11_37 dX11_leaveTold_1 ?_
  refine lv_iload_n S.1 S.2.1 dX11_leaveTold_4 rfl (lv_at hl 1 rfl) ?_
  refine g_Vi (rest := []) (XWd_ok D ad cs ts adK adV) S hw (tX5_isLeave (ad := ad) (cs := cs) (ts := ts) (adK := adK) (adV := adV) (σ := σ) rfl) kt_X11_208 4 xe_4 rfl rfl ⟨Nat.le_of_ble_eq_true rfl, Nat.le_of_ble_eq_true rfl⟩ rfl hl.1 rfl (Nat.le_of_ble_eq_true rfl) ⟨Nat.zero_le _, Nat.zero_le _⟩ dX11_leaveTold_5 (fun H locs hw => ?_)
  refine lv_if_ne (tgt := 14) S.1 S.2.1 dX11_leaveTold_8 (by decide) (fun hc => ?_) (fun hc => ?_)
  · have hf := itf hf hc
    refine lv_iload_n S.1 S.2.1 dX11_leaveTold_14 rfl (lv_at hl 2 rfl) ?_
    by_cases h1 : x2 = (0 : Int32)
    · have hf := itt hf h1
      refine lv_tableIn (off := 49) (tgt := 64) S.1 S.2.1 dX11_leaveTold_15 (by rw [h1]; decide) (by rw [h1]; decide) (by rw [h1]; rfl) (by decide) ?_
      refine lv_aload_n S.1 S.2.1 dX11_leaveTold_64 rfl (lv_at hl 0 rfl) ?_
      refine xg_WayLeaves_leaves S hw kf_X11_37 dX11_leaveTold_65 ?_
      refine xg_Leaves_kinds S hw kf_X11_220 dX11_leaveTold_68 ?_
      refine lv_iload_n S.1 S.2.1 dX11_leaveTold_71 rfl (lv_at hl 1 rfl) ?_
      obtain ⟨h2, hf⟩ := gd_ix hf
      refine g_iald S hw 42 0 xe_42 rfl h2 dX11_leaveTold_72 ?_
      exact g_iret (XWd_ok D ad cs ts adK adV) S hr hlk hw dX11_leaveTold_73 (Prod.mk.inj (Option.some.inj hf)).1 (Prod.mk.inj (Option.some.inj hf)).2
    have hf := itf hf h1
    by_cases h3 : x2 = (1 : Int32)
    · have hf := itt hf h3
      refine lv_tableIn (off := 59) (tgt := 74) S.1 S.2.1 dX11_leaveTold_15 (by rw [h3]; decide) (by rw [h3]; decide) (by rw [h3]; rfl) (by decide) ?_
      refine lv_aload_n S.1 S.2.1 dX11_leaveTold_74 rfl (lv_at hl 0 rfl) ?_
      refine xg_WayLeaves_leaves S hw kf_X11_37 dX11_leaveTold_75 ?_
      refine xg_Leaves_spans S hw kf_X11_211 dX11_leaveTold_78 ?_
      refine lv_iload_n S.1 S.2.1 dX11_leaveTold_81 rfl (lv_at hl 1 rfl) ?_
      obtain ⟨h4, hf⟩ := gd_ix hf
      refine g_iald S hw 43 0 xe_43 rfl h4 dX11_leaveTold_82 ?_
      exact g_iret (XWd_ok D ad cs ts adK adV) S hr hlk hw dX11_leaveTold_83 (Prod.mk.inj (Option.some.inj hf)).1 (Prod.mk.inj (Option.some.inj hf)).2
    have hf := itf hf h3
    by_cases h5 : x2 = (2 : Int32)
    · have hf := itt hf h5
      refine lv_tableIn (off := 69) (tgt := 84) S.1 S.2.1 dX11_leaveTold_15 (by rw [h5]; decide) (by rw [h5]; decide) (by rw [h5]; rfl) (by decide) ?_
      refine lv_aload_n S.1 S.2.1 dX11_leaveTold_84 rfl (lv_at hl 0 rfl) ?_
      refine xg_WayLeaves_leaves S hw kf_X11_37 dX11_leaveTold_85 ?_
      refine xg_Leaves_begins S hw kf_X11_223 dX11_leaveTold_88 ?_
      refine lv_iload_n S.1 S.2.1 dX11_leaveTold_91 rfl (lv_at hl 1 rfl) ?_
      obtain ⟨h6, hf⟩ := gd_ix hf
      refine g_iald S hw 45 0 xe_45 rfl h6 dX11_leaveTold_92 ?_
      exact g_iret (XWd_ok D ad cs ts adK adV) S hr hlk hw dX11_leaveTold_93 (Prod.mk.inj (Option.some.inj hf)).1 (Prod.mk.inj (Option.some.inj hf)).2
    have hf := itf hf h5
    by_cases h7 : x2 = (3 : Int32)
    · have hf := itt hf h7
      refine lv_tableIn (off := 79) (tgt := 94) S.1 S.2.1 dX11_leaveTold_15 (by rw [h7]; decide) (by rw [h7]; decide) (by rw [h7]; rfl) (by decide) ?_
      refine lv_aload_n S.1 S.2.1 dX11_leaveTold_94 rfl (lv_at hl 0 rfl) ?_
      refine xg_WayLeaves_leaves S hw kf_X11_37 dX11_leaveTold_95 ?_
      refine lv_iload_n S.1 S.2.1 dX11_leaveTold_98 rfl (lv_at hl 1 rfl) ?_
      obtain ⟨r8, g9, hf⟩ := bd_s hf
      refine g_Vi (rest := []) (XWd_ok D ad cs ts adK adV) S hw (tX5_lasts g9) kt_X11_226 4 xe_4 rfl rfl ⟨Nat.le_of_ble_eq_true rfl, Nat.le_of_ble_eq_true rfl⟩ rfl hl.1 rfl (Nat.le_of_ble_eq_true rfl) ⟨Nat.zero_le _, Nat.zero_le _⟩ dX11_leaveTold_99 (fun H locs hw => ?_)
      exact g_iret (XWd_ok D ad cs ts adK adV) S hr hlk hw dX11_leaveTold_102 (Prod.mk.inj (Option.some.inj hf)).1 (Prod.mk.inj (Option.some.inj hf)).2
    have hf := itf hf h7
    by_cases h10 : x2 = (4 : Int32)
    · have hf := itt hf h10
      refine lv_tableIn (off := 88) (tgt := 103) S.1 S.2.1 dX11_leaveTold_15 (by rw [h10]; decide) (by rw [h10]; decide) (by rw [h10]; rfl) (by decide) ?_
      refine x_gs S hw 3 (by decide) kf_X11_229 dX11_leaveTold_103 ?_
      refine lv_aload_n S.1 S.2.1 dX11_leaveTold_106 rfl (lv_at hl 0 rfl) ?_
      refine xg_WayLeaves_leaves S hw kf_X11_37 dX11_leaveTold_107 ?_
      refine xg_Leaves_kinds S hw kf_X11_220 dX11_leaveTold_110 ?_
      refine lv_iload_n S.1 S.2.1 dX11_leaveTold_113 rfl (lv_at hl 1 rfl) ?_
      obtain ⟨h11, hf⟩ := gd_ix hf
      refine g_iald S hw 42 0 xe_42 rfl h11 dX11_leaveTold_114 ?_
      obtain ⟨h12, hf⟩ := gd_ix hf
      refine x_ti S hw 3 (by decide) h12 dX11_leaveTold_115 ?_
      exact g_iret (XWd_ok D ad cs ts adK adV) S hr hlk hw dX11_leaveTold_116 (Prod.mk.inj (Option.some.inj hf)).1 (Prod.mk.inj (Option.some.inj hf)).2
    have hf := itf hf h10
    by_cases h13 : x2 = (5 : Int32)
    · have hf := itt hf h13
      refine lv_tableIn (off := 102) (tgt := 117) S.1 S.2.1 dX11_leaveTold_15 (by rw [h13]; decide) (by rw [h13]; decide) (by rw [h13]; rfl) (by decide) ?_
      refine lv_aload_n S.1 S.2.1 dX11_leaveTold_117 rfl (lv_at hl 0 rfl) ?_
      refine xg_WayLeaves_leaves S hw kf_X11_37 dX11_leaveTold_118 ?_
      refine lv_iload_n S.1 S.2.1 dX11_leaveTold_121 rfl (lv_at hl 1 rfl) ?_
      obtain ⟨r14, g15, hf⟩ := bd_s hf
      refine g_Vi (rest := []) (XWd_ok D ad cs ts adK adV) S hw (tX5_yearlyOf g15) kt_X11_232 4 xe_4 rfl rfl ⟨Nat.le_of_ble_eq_true rfl, Nat.le_of_ble_eq_true rfl⟩ rfl hl.1 rfl (Nat.le_of_ble_eq_true rfl) ⟨Nat.zero_le _, Nat.zero_le _⟩ dX11_leaveTold_122 (fun H locs hw => ?_)
      exact g_iret (XWd_ok D ad cs ts adK adV) S hr hlk hw dX11_leaveTold_125 (Prod.mk.inj (Option.some.inj hf)).1 (Prod.mk.inj (Option.some.inj hf)).2
    have hf := itf hf h13
    by_cases h16 : x2 = (6 : Int32)
    · have hf := itt hf h16
      refine lv_tableIn (off := 111) (tgt := 126) S.1 S.2.1 dX11_leaveTold_15 (by rw [h16]; decide) (by rw [h16]; decide) (by rw [h16]; rfl) (by decide) ?_
      refine lv_aload_n S.1 S.2.1 dX11_leaveTold_126 rfl (lv_at hl 0 rfl) ?_
      refine xg_WayLeaves_leaves S hw kf_X11_37 dX11_leaveTold_127 ?_
      refine lv_iload_n S.1 S.2.1 dX11_leaveTold_130 rfl (lv_at hl 1 rfl) ?_
      refine lv_aload_n S.1 S.2.1 dX11_leaveTold_131 rfl (lv_at hl 0 rfl) ?_
      refine xg_WayLeaves_land S hw kf_X11_10 dX11_leaveTold_132 ?_
      refine xg_Land_day S hw kf_X11_111 dX11_leaveTold_135 ?_
      obtain ⟨r19, σ17, g18, hf⟩ := bd2_s hf
      refine g_Vi (rest := []) (XWd_ok D ad cs ts adK adV) S hw (tX5_isInForce g18) kt_X11_235 4 xe_4 rfl rfl ⟨Nat.le_of_ble_eq_true rfl, Nat.le_of_ble_eq_true rfl⟩ rfl hl.1 rfl (Nat.le_of_ble_eq_true rfl) ⟨Nat.zero_le _, Nat.zero_le _⟩ dX11_leaveTold_138 (fun H locs hw => ?_)
      refine lv_if_eq (tgt := 148) S.1 S.2.1 dX11_leaveTold_141 (by decide) (fun hc => ?_) (fun hc => ?_)
      · have hf := itt hf hc
        refine lv_iconst (v := 0) S.1 S.2.1 dX11_leaveTold_148 (by decide) ?_
        exact g_iret (XWd_ok D ad cs ts adK adV) S hr hlk hw dX11_leaveTold_149 (Prod.mk.inj (Option.some.inj hf)).1 (Prod.mk.inj (Option.some.inj hf)).2
      · have hf := itf hf hc
        refine lv_iconst (v := 1) S.1 S.2.1 dX11_leaveTold_144 (by decide) ?_
        refine lv_goto (tgt := 149) S.1 S.2.1 dX11_leaveTold_145 (by decide) ?_
        exact g_iret (XWd_ok D ad cs ts adK adV) S hr hlk hw dX11_leaveTold_149 (Prod.mk.inj (Option.some.inj hf)).1 (Prod.mk.inj (Option.some.inj hf)).2
    have hf := itf hf h16
    by_cases h20 : x2 = (7 : Int32)
    · have hf := itt hf h20
      refine lv_tableIn (off := 135) (tgt := 150) S.1 S.2.1 dX11_leaveTold_15 (by rw [h20]; decide) (by rw [h20]; decide) (by rw [h20]; rfl) (by decide) ?_
      refine lv_aload_n S.1 S.2.1 dX11_leaveTold_150 rfl (lv_at hl 0 rfl) ?_
      refine xg_WayLeaves_leaves S hw kf_X11_37 dX11_leaveTold_151 ?_
      refine xg_Leaves_undone S hw kf_X11_239 dX11_leaveTold_154 ?_
      refine lv_iload_n S.1 S.2.1 dX11_leaveTold_157 rfl (lv_at hl 1 rfl) ?_
      obtain ⟨h21, hf⟩ := gd_ix hf
      refine g_iald S hw 48 0 xe_48 rfl h21 dX11_leaveTold_158 ?_
      exact g_iret (XWd_ok D ad cs ts adK adV) S hr hlk hw dX11_leaveTold_159 (Prod.mk.inj (Option.some.inj hf)).1 (Prod.mk.inj (Option.some.inj hf)).2
    have hf := itf hf h20
    by_cases h22 : x2 = (8 : Int32)
    · have hf := itt hf h22
      refine lv_tableIn (off := 145) (tgt := 160) S.1 S.2.1 dX11_leaveTold_15 (by rw [h22]; decide) (by rw [h22]; decide) (by rw [h22]; rfl) (by decide) ?_
      refine lv_aload_n S.1 S.2.1 dX11_leaveTold_160 rfl (lv_at hl 0 rfl) ?_
      refine xg_WayLeaves_leaves S hw kf_X11_37 dX11_leaveTold_161 ?_
      refine xg_Leaves_appealed S hw kf_X11_242 dX11_leaveTold_164 ?_
      refine lv_iload_n S.1 S.2.1 dX11_leaveTold_167 rfl (lv_at hl 1 rfl) ?_
      obtain ⟨h23, hf⟩ := gd_ix hf
      refine g_zald S hw 49 2 xe_49 rfl h23 dX11_leaveTold_168 ?_
      refine lv_if_eq (tgt := 176) S.1 S.2.1 dX11_leaveTold_169 (by decide) (fun hc => ?_) (fun hc => ?_)
      · have hf := itt hf hc
        refine lv_iconst (v := 0) S.1 S.2.1 dX11_leaveTold_176 (by decide) ?_
        exact g_iret (XWd_ok D ad cs ts adK adV) S hr hlk hw dX11_leaveTold_177 (Prod.mk.inj (Option.some.inj hf)).1 (Prod.mk.inj (Option.some.inj hf)).2
      · have hf := itf hf hc
        refine lv_iconst (v := 1) S.1 S.2.1 dX11_leaveTold_172 (by decide) ?_
        refine lv_goto (tgt := 177) S.1 S.2.1 dX11_leaveTold_173 (by decide) ?_
        exact g_iret (XWd_ok D ad cs ts adK adV) S hr hlk hw dX11_leaveTold_177 (Prod.mk.inj (Option.some.inj hf)).1 (Prod.mk.inj (Option.some.inj hf)).2
    have hf := itf hf h22
    refine lv_tableOut (tgt := 178) S.1 S.2.1 dX11_leaveTold_15 (by have h1 := lv_neT h1 (a := 0) (by decide); have h3 := lv_neT h3 (a := 1) (by decide); have h5 := lv_neT h5 (a := 2) (by decide); have h7 := lv_neT h7 (a := 3) (by decide); have h10 := lv_neT h10 (a := 4) (by decide); have h13 := lv_neT h13 (a := 5) (by decide); have h16 := lv_neT h16 (a := 6) (by decide); have h20 := lv_neT h20 (a := 7) (by decide); have h22 := lv_neT h22 (a := 8) (by decide); omega) (by decide) ?_
    refine lv_bipush (v := -2) S.1 S.2.1 dX11_leaveTold_178 (by decide) ?_
    exact g_iret (XWd_ok D ad cs ts adK adV) S hr hlk hw dX11_leaveTold_180 (Prod.mk.inj (Option.some.inj hf)).1 (Prod.mk.inj (Option.some.inj hf)).2
  · have hf := itt hf hc
    refine lv_bipush (v := -2) S.1 S.2.1 dX11_leaveTold_11 (by decide) ?_
    exact g_iret (XWd_ok D ad cs ts adK adV) S hr hlk hw dX11_leaveTold_13 (Prod.mk.inj (Option.some.inj hf)).1 (Prod.mk.inj (Option.some.inj hf)).2
def fX11_renew (N : Nat) (σ : St) (x1 : Int32) : Option (Int32 × St) :=
  if (fX5_isLeave σ x1) = 0 then (some ((-2 : Int32), σ)) else (if ix x1 24 = true then if (aR σ 42 x1) = (4 : Int32) then (some ((-13 : Int32), σ)) else (if ix x1 24 = true then if (aR σ 47 x1) < (5 : Int32) then (if ix x1 24 = true then if ix x1 24 = true then nm (aW σ 47 x1 ((aR σ 47 x1) + (1 : Int32))) fun σ5 => if ix x1 24 = true then some ((aR σ5 47 x1), σ5) else none else none else none) else (some ((-3 : Int32), σ)) else none) else none)
set_option maxHeartbeats 2000000 in
set_option maxRecDepth 20000 in
theorem tX11_renew {r : Int32} {σ' : St} {N : Nat} {σ : St} {x1 : Int32} (hf : fX11_renew N σ x1 = some (r, σ')) : CI l (XWd D ad cs ts adK adV) yX11_renew cX11_renew 2 (some .int) 2 43 [.ref (ad 0), .int x1] σ r σ' := by
  refine CI.of (by decide) (Nat.le_of_ble_eq_true rfl) ?_
  intro p e s m below meth c ls S hr hlk hw hl
  have hl : lv_has ls 2 [(0, .ref (ad 0)), (1, .int x1)] := hl
  unfold fX11_renew at hf
  refine lv_aload_n S.1 S.2.1 dX11_renew_0 rfl (lv_at hl 0 rfl) ?_
  refine xg_WayLeaves_leaves S hw kf_X11_37 dX11_renew_1 ?_
  refine lv_iload_n S.1 S.2.1 dX11_renew_4 rfl (lv_at hl 1 rfl) ?_
  refine g_Vi (rest := []) (XWd_ok D ad cs ts adK adV) S hw (tX5_isLeave (ad := ad) (cs := cs) (ts := ts) (adK := adK) (adV := adV) (σ := σ) rfl) kt_X11_208 4 xe_4 rfl rfl ⟨Nat.le_of_ble_eq_true rfl, Nat.le_of_ble_eq_true rfl⟩ rfl hl.1 rfl (Nat.le_of_ble_eq_true rfl) ⟨Nat.zero_le _, Nat.zero_le _⟩ dX11_renew_5 (fun H locs hw => ?_)
  refine lv_if_ne (tgt := 14) S.1 S.2.1 dX11_renew_8 (by decide) (fun hc => ?_) (fun hc => ?_)
  · have hf := itf hf hc
    refine lv_aload_n S.1 S.2.1 dX11_renew_14 rfl (lv_at hl 0 rfl) ?_
    refine xg_WayLeaves_leaves S hw kf_X11_37 dX11_renew_15 ?_
    refine xg_Leaves_kinds S hw kf_X11_220 dX11_renew_18 ?_
    refine lv_iload_n S.1 S.2.1 dX11_renew_21 rfl (lv_at hl 1 rfl) ?_
    obtain ⟨h1, hf⟩ := gd_ix hf
    refine g_iald S hw 42 0 xe_42 rfl h1 dX11_renew_22 ?_
    refine lv_iconst (v := 4) S.1 S.2.1 dX11_renew_23 (by decide) ?_
    refine lv_icmp_ne (tgt := 30) S.1 S.2.1 dX11_renew_24 (by decide) (fun hc => ?_) (fun hc => ?_)
    · have hf := itf hf hc
      refine lv_aload_n S.1 S.2.1 dX11_renew_30 rfl (lv_at hl 0 rfl) ?_
      refine xg_WayLeaves_leaves S hw kf_X11_37 dX11_renew_31 ?_
      refine xg_Leaves_renewals S hw kf_X11_246 dX11_renew_34 ?_
      refine lv_iload_n S.1 S.2.1 dX11_renew_37 rfl (lv_at hl 1 rfl) ?_
      obtain ⟨h2, hf⟩ := gd_ix hf
      refine g_iald S hw 47 0 xe_47 rfl h2 dX11_renew_38 ?_
      refine lv_iconst (v := 5) S.1 S.2.1 dX11_renew_39 (by decide) ?_
      refine lv_icmp_lt (tgt := 46) S.1 S.2.1 dX11_renew_40 (by decide) (fun hc => ?_) (fun hc => ?_)
      · have hf := itt hf hc
        refine lv_aload_n S.1 S.2.1 dX11_renew_46 rfl (lv_at hl 0 rfl) ?_
        refine xg_WayLeaves_leaves S hw kf_X11_37 dX11_renew_47 ?_
        refine xg_Leaves_renewals S hw kf_X11_246 dX11_renew_50 ?_
        refine lv_iload_n S.1 S.2.1 dX11_renew_53 rfl (lv_at hl 1 rfl) ?_
        refine lv_dup2_11 S.1 S.2.1 dX11_renew_54 rfl rfl ?_
        obtain ⟨h3, hf⟩ := gd_ix hf
        refine g_iald S hw 47 0 xe_47 rfl h3 dX11_renew_55 ?_
        refine lv_iconst (v := 1) S.1 S.2.1 dX11_renew_56 (by decide) ?_
        refine lv_iadd S.1 S.2.1 dX11_renew_57 ?_
        obtain ⟨h4, hf⟩ := gd_ix hf
        obtain ⟨σ5, e6⟩ : ∃ z : St, z = aW σ 47 x1 ((aR σ 47 x1) + (1 : Int32)) := ⟨_, rfl⟩
        have hf := nm_s e6 hf
        refine g_iast (σ' := σ5) S hw 47 0 xe_47 rfl (by rw [e6]; exact xs_47 _) h4 dX11_renew_58 (fun H locs hw => ?_)
        refine lv_aload_n S.1 S.2.1 dX11_renew_59 rfl (lv_at hl 0 rfl) ?_
        refine xg_WayLeaves_leaves S hw kf_X11_37 dX11_renew_60 ?_
        refine xg_Leaves_renewals S hw kf_X11_246 dX11_renew_63 ?_
        refine lv_iload_n S.1 S.2.1 dX11_renew_66 rfl (lv_at hl 1 rfl) ?_
        obtain ⟨h7, hf⟩ := gd_ix hf
        refine g_iald S hw 47 0 xe_47 rfl h7 dX11_renew_67 ?_
        exact g_iret (XWd_ok D ad cs ts adK adV) S hr hlk hw dX11_renew_68 (Prod.mk.inj (Option.some.inj hf)).1 (Prod.mk.inj (Option.some.inj hf)).2
      · have hf := itf hf hc
        refine lv_bipush (v := -3) S.1 S.2.1 dX11_renew_43 (by decide) ?_
        exact g_iret (XWd_ok D ad cs ts adK adV) S hr hlk hw dX11_renew_45 (Prod.mk.inj (Option.some.inj hf)).1 (Prod.mk.inj (Option.some.inj hf)).2
    · have hf := itt hf hc
      refine lv_bipush (v := -13) S.1 S.2.1 dX11_renew_27 (by decide) ?_
      exact g_iret (XWd_ok D ad cs ts adK adV) S hr hlk hw dX11_renew_29 (Prod.mk.inj (Option.some.inj hf)).1 (Prod.mk.inj (Option.some.inj hf)).2
  · have hf := itt hf hc
    refine lv_bipush (v := -2) S.1 S.2.1 dX11_renew_11 (by decide) ?_
    exact g_iret (XWd_ok D ad cs ts adK adV) S hr hlk hw dX11_renew_13 (Prod.mk.inj (Option.some.inj hf)).1 (Prod.mk.inj (Option.some.inj hf)).2
def fX11_appeal (N : Nat) (σ : St) (x1 : Int32) : Option (Int32 × St) :=
  if (fX5_isLeave σ x1) = 0 then (some ((-2 : Int32), σ)) else (if ix x1 24 = true then if (aR σ 42 x1) = (4 : Int32) then (if ix x1 24 = true then nm ((σ.1 0) - (aR σ 45 x1)) fun v3 => if ix x1 24 = true then if (aR σ 49 x1) = 0 then (if (fX11_within v3 (0 : Int32) (42 : Int32)) = 0 then (some ((-3 : Int32), σ)) else (if ix x1 24 = true then nm (aW σ 49 x1 (vp_nar .boolean (1 : Int32))) fun σ7 => some ((1 : Int32), σ7) else none)) else (some ((-3 : Int32), σ)) else none else none) else (some ((-13 : Int32), σ)) else none)
set_option maxHeartbeats 2000000 in
set_option maxRecDepth 20000 in
theorem tX11_appeal {r : Int32} {σ' : St} {N : Nat} {σ : St} {x1 : Int32} (hf : fX11_appeal N σ x1 = some (r, σ')) : CI l (XWd D ad cs ts adK adV) yX11_appeal cX11_appeal 3 (some .int) 2 43 [.ref (ad 0), .int x1] σ r σ' := by
  refine CI.of (by decide) (Nat.le_of_ble_eq_true rfl) ?_
  intro p e s m below meth c ls S hr hlk hw hl
  have hl : lv_has ls 3 [(0, .ref (ad 0)), (1, .int x1)] := hl
  unfold fX11_appeal at hf
  refine lv_aload_n S.1 S.2.1 dX11_appeal_0 rfl (lv_at hl 0 rfl) ?_
  refine xg_WayLeaves_leaves S hw kf_X11_37 dX11_appeal_1 ?_
  refine lv_iload_n S.1 S.2.1 dX11_appeal_4 rfl (lv_at hl 1 rfl) ?_
  refine g_Vi (rest := []) (XWd_ok D ad cs ts adK adV) S hw (tX5_isLeave (ad := ad) (cs := cs) (ts := ts) (adK := adK) (adV := adV) (σ := σ) rfl) kt_X11_208 4 xe_4 rfl rfl ⟨Nat.le_of_ble_eq_true rfl, Nat.le_of_ble_eq_true rfl⟩ rfl hl.1 rfl (Nat.le_of_ble_eq_true rfl) ⟨Nat.zero_le _, Nat.zero_le _⟩ dX11_appeal_5 (fun H locs hw => ?_)
  refine lv_if_ne (tgt := 14) S.1 S.2.1 dX11_appeal_8 (by decide) (fun hc => ?_) (fun hc => ?_)
  · have hf := itf hf hc
    refine lv_aload_n S.1 S.2.1 dX11_appeal_14 rfl (lv_at hl 0 rfl) ?_
    refine xg_WayLeaves_leaves S hw kf_X11_37 dX11_appeal_15 ?_
    refine xg_Leaves_kinds S hw kf_X11_220 dX11_appeal_18 ?_
    refine lv_iload_n S.1 S.2.1 dX11_appeal_21 rfl (lv_at hl 1 rfl) ?_
    obtain ⟨h1, hf⟩ := gd_ix hf
    refine g_iald S hw 42 0 xe_42 rfl h1 dX11_appeal_22 ?_
    refine lv_iconst (v := 4) S.1 S.2.1 dX11_appeal_23 (by decide) ?_
    refine lv_icmp_eq (tgt := 30) S.1 S.2.1 dX11_appeal_24 (by decide) (fun hc => ?_) (fun hc => ?_)
    · have hf := itt hf hc
      refine lv_aload_n S.1 S.2.1 dX11_appeal_30 rfl (lv_at hl 0 rfl) ?_
      refine xg_WayLeaves_land S hw kf_X11_10 dX11_appeal_31 ?_
      refine xg_Land_day S hw kf_X11_111 dX11_appeal_34 ?_
      refine lv_aload_n S.1 S.2.1 dX11_appeal_37 rfl (lv_at hl 0 rfl) ?_
      refine xg_WayLeaves_leaves S hw kf_X11_37 dX11_appeal_38 ?_
      refine xg_Leaves_begins S hw kf_X11_223 dX11_appeal_41 ?_
      refine lv_iload_n S.1 S.2.1 dX11_appeal_44 rfl (lv_at hl 1 rfl) ?_
      obtain ⟨h2, hf⟩ := gd_ix hf
      refine g_iald S hw 45 0 xe_45 rfl h2 dX11_appeal_45 ?_
      refine lv_isub S.1 S.2.1 dX11_appeal_46 ?_
      refine lv_topi (fun v3 e4 => ?_)
      have hf := nm_s e4 hf
      refine lv_istore_n (lv' := [(2, .int v3), (0, .ref (ad 0)), (1, .int x1)]) S.1 S.2.1 dX11_appeal_47 rfl hl (by decide) rfl (fun ls hl => ?_)
      refine lv_aload_n S.1 S.2.1 dX11_appeal_48 rfl (lv_at hl 1 rfl) ?_
      refine xg_WayLeaves_leaves S hw kf_X11_37 dX11_appeal_49 ?_
      refine xg_Leaves_appealed S hw kf_X11_242 dX11_appeal_52 ?_
      refine lv_iload_n S.1 S.2.1 dX11_appeal_55 rfl (lv_at hl 2 rfl) ?_
      obtain ⟨h5, hf⟩ := gd_ix hf
      refine g_zald S hw 49 2 xe_49 rfl h5 dX11_appeal_56 ?_
      refine lv_if_ne (tgt := 70) S.1 S.2.1 dX11_appeal_57 (by decide) (fun hc => ?_) (fun hc => ?_)
      · have hf := itf hf hc
        refine lv_bipush (v := -3) S.1 S.2.1 dX11_appeal_70 (by decide) ?_
        exact g_iret (XWd_ok D ad cs ts adK adV) S hr hlk hw dX11_appeal_72 (Prod.mk.inj (Option.some.inj hf)).1 (Prod.mk.inj (Option.some.inj hf)).2
      · have hf := itt hf hc
        refine lv_iload_n S.1 S.2.1 dX11_appeal_60 rfl (lv_at hl 0 rfl) ?_
        refine lv_iconst (v := 0) S.1 S.2.1 dX11_appeal_61 (by decide) ?_
        refine lv_bipush (v := 42) S.1 S.2.1 dX11_appeal_62 (by decide) ?_
        refine g_Si (rest := []) (XWd_ok D ad cs ts adK adV) S hw (tX11_within (ad := ad) (cs := cs) (ts := ts) (adK := adK) (adV := adV) (σ := σ) rfl) kt_X11_107 ⟨Nat.le_of_ble_eq_true rfl, Nat.le_of_ble_eq_true rfl⟩ rfl hl.1 rfl (Nat.le_of_ble_eq_true rfl) ⟨Nat.zero_le _, Nat.zero_le _⟩ dX11_appeal_64 (fun H locs hw => ?_)
        refine lv_if_ne (tgt := 73) S.1 S.2.1 dX11_appeal_67 (by decide) (fun hc => ?_) (fun hc => ?_)
        · have hf := itf hf hc
          refine lv_aload_n S.1 S.2.1 dX11_appeal_73 rfl (lv_at hl 1 rfl) ?_
          refine xg_WayLeaves_leaves S hw kf_X11_37 dX11_appeal_74 ?_
          refine xg_Leaves_appealed S hw kf_X11_242 dX11_appeal_77 ?_
          refine lv_iload_n S.1 S.2.1 dX11_appeal_80 rfl (lv_at hl 2 rfl) ?_
          refine lv_iconst (v := 1) S.1 S.2.1 dX11_appeal_81 (by decide) ?_
          obtain ⟨h6, hf⟩ := gd_ix hf
          obtain ⟨σ7, e8⟩ : ∃ z : St, z = aW σ 49 x1 (vp_nar .boolean (1 : Int32)) := ⟨_, rfl⟩
          have hf := nm_s e8 hf
          refine g_zast (σ' := σ7) S hw 49 2 xe_49 rfl (by rw [e8]; exact xs_49 _) h6 dX11_appeal_82 (fun H locs hw => ?_)
          refine lv_iconst (v := 1) S.1 S.2.1 dX11_appeal_83 (by decide) ?_
          exact g_iret (XWd_ok D ad cs ts adK adV) S hr hlk hw dX11_appeal_84 (Prod.mk.inj (Option.some.inj hf)).1 (Prod.mk.inj (Option.some.inj hf)).2
        · have hf := itt hf hc
          refine lv_bipush (v := -3) S.1 S.2.1 dX11_appeal_70 (by decide) ?_
          exact g_iret (XWd_ok D ad cs ts adK adV) S hr hlk hw dX11_appeal_72 (Prod.mk.inj (Option.some.inj hf)).1 (Prod.mk.inj (Option.some.inj hf)).2
    · have hf := itf hf hc
      refine lv_bipush (v := -13) S.1 S.2.1 dX11_appeal_27 (by decide) ?_
      exact g_iret (XWd_ok D ad cs ts adK adV) S hr hlk hw dX11_appeal_29 (Prod.mk.inj (Option.some.inj hf)).1 (Prod.mk.inj (Option.some.inj hf)).2
  · have hf := itt hf hc
    refine lv_bipush (v := -2) S.1 S.2.1 dX11_appeal_11 (by decide) ?_
    exact g_iret (XWd_ok D ad cs ts adK adV) S hr hlk hw dX11_appeal_13 (Prod.mk.inj (Option.some.inj hf)).1 (Prod.mk.inj (Option.some.inj hf)).2
def fX11_undo (N : Nat) (σ : St) (x1 : Int32) (x2 : Int32) : Option (Int32 × St) :=
  if (fX5_isLeave σ x1) = 0 then (some ((-2 : Int32), σ)) else (if ix x1 24 = true then if (fX11_within x2 (aR σ 45 x1) (9999 : Int32)) = 0 then (some ((-2 : Int32), σ)) else (if ix x1 24 = true then if (aR σ 42 x1) = (4 : Int32) then (if ix x1 24 = true then if (aR σ 49 x1) = 0 then (some ((-3 : Int32), σ)) else (if ix x1 24 = true then if (aR σ 48 x1) = (-1 : Int32) then (if ix x1 24 = true then nm (aW σ 48 x1 x2) fun σ6 => bd2 (fX5_hangingOn N σ6 x1) fun r10 σ8 => some (r10, σ8) else none) else (some ((-3 : Int32), σ)) else none) else none) else (some ((-13 : Int32), σ)) else none) else none)
set_option maxHeartbeats 2000000 in
set_option maxRecDepth 20000 in
theorem tX11_undo {r : Int32} {σ' : St} {N : Nat} {σ : St} {x1 : Int32} {x2 : Int32} (hf : fX11_undo N σ x1 x2 = some (r, σ')) : CI l (XWd D ad cs ts adK adV) yX11_undo cX11_undo 3 (some .int) 2 43 [.ref (ad 0), .int x1, .int x2] σ r σ' := by
  refine CI.of (by decide) (Nat.le_of_ble_eq_true rfl) ?_
  intro p e s m below meth c ls S hr hlk hw hl
  have hl : lv_has ls 3 [(0, .ref (ad 0)), (1, .int x1), (2, .int x2)] := hl
  unfold fX11_undo at hf
  refine lv_aload_n S.1 S.2.1 dX11_undo_0 rfl (lv_at hl 0 rfl) ?_
  refine xg_WayLeaves_leaves S hw kf_X11_37 dX11_undo_1 ?_
  refine lv_iload_n S.1 S.2.1 dX11_undo_4 rfl (lv_at hl 1 rfl) ?_
  refine g_Vi (rest := []) (XWd_ok D ad cs ts adK adV) S hw (tX5_isLeave (ad := ad) (cs := cs) (ts := ts) (adK := adK) (adV := adV) (σ := σ) rfl) kt_X11_208 4 xe_4 rfl rfl ⟨Nat.le_of_ble_eq_true rfl, Nat.le_of_ble_eq_true rfl⟩ rfl hl.1 rfl (Nat.le_of_ble_eq_true rfl) ⟨Nat.zero_le _, Nat.zero_le _⟩ dX11_undo_5 (fun H locs hw => ?_)
  refine lv_if_eq (tgt := 30) S.1 S.2.1 dX11_undo_8 (by decide) (fun hc => ?_) (fun hc => ?_)
  · have hf := itt hf hc
    refine lv_bipush (v := -2) S.1 S.2.1 dX11_undo_30 (by decide) ?_
    exact g_iret (XWd_ok D ad cs ts adK adV) S hr hlk hw dX11_undo_32 (Prod.mk.inj (Option.some.inj hf)).1 (Prod.mk.inj (Option.some.inj hf)).2
  · have hf := itf hf hc
    refine lv_iload_n S.1 S.2.1 dX11_undo_11 rfl (lv_at hl 2 rfl) ?_
    refine lv_aload_n S.1 S.2.1 dX11_undo_12 rfl (lv_at hl 0 rfl) ?_
    refine xg_WayLeaves_leaves S hw kf_X11_37 dX11_undo_13 ?_
    refine xg_Leaves_begins S hw kf_X11_223 dX11_undo_16 ?_
    refine lv_iload_n S.1 S.2.1 dX11_undo_19 rfl (lv_at hl 1 rfl) ?_
    obtain ⟨h1, hf⟩ := gd_ix hf
    refine g_iald S hw 45 0 xe_45 rfl h1 dX11_undo_20 ?_
    refine lv_sipush (v := 9999) S.1 S.2.1 dX11_undo_21 (by decide) ?_
    refine g_Si (rest := []) (XWd_ok D ad cs ts adK adV) S hw (tX11_within (ad := ad) (cs := cs) (ts := ts) (adK := adK) (adV := adV) (σ := σ) rfl) kt_X11_107 ⟨Nat.le_of_ble_eq_true rfl, Nat.le_of_ble_eq_true rfl⟩ rfl hl.1 rfl (Nat.le_of_ble_eq_true rfl) ⟨Nat.zero_le _, Nat.zero_le _⟩ dX11_undo_24 (fun H locs hw => ?_)
    refine lv_if_ne (tgt := 33) S.1 S.2.1 dX11_undo_27 (by decide) (fun hc => ?_) (fun hc => ?_)
    · have hf := itf hf hc
      refine lv_aload_n S.1 S.2.1 dX11_undo_33 rfl (lv_at hl 0 rfl) ?_
      refine xg_WayLeaves_leaves S hw kf_X11_37 dX11_undo_34 ?_
      refine xg_Leaves_kinds S hw kf_X11_220 dX11_undo_37 ?_
      refine lv_iload_n S.1 S.2.1 dX11_undo_40 rfl (lv_at hl 1 rfl) ?_
      obtain ⟨h2, hf⟩ := gd_ix hf
      refine g_iald S hw 42 0 xe_42 rfl h2 dX11_undo_41 ?_
      refine lv_iconst (v := 4) S.1 S.2.1 dX11_undo_42 (by decide) ?_
      refine lv_icmp_eq (tgt := 49) S.1 S.2.1 dX11_undo_43 (by decide) (fun hc => ?_) (fun hc => ?_)
      · have hf := itt hf hc
        refine lv_aload_n S.1 S.2.1 dX11_undo_49 rfl (lv_at hl 0 rfl) ?_
        refine xg_WayLeaves_leaves S hw kf_X11_37 dX11_undo_50 ?_
        refine xg_Leaves_appealed S hw kf_X11_242 dX11_undo_53 ?_
        refine lv_iload_n S.1 S.2.1 dX11_undo_56 rfl (lv_at hl 1 rfl) ?_
        obtain ⟨h3, hf⟩ := gd_ix hf
        refine g_zald S hw 49 2 xe_49 rfl h3 dX11_undo_57 ?_
        refine lv_if_eq (tgt := 74) S.1 S.2.1 dX11_undo_58 (by decide) (fun hc => ?_) (fun hc => ?_)
        · have hf := itt hf hc
          refine lv_bipush (v := -3) S.1 S.2.1 dX11_undo_74 (by decide) ?_
          exact g_iret (XWd_ok D ad cs ts adK adV) S hr hlk hw dX11_undo_76 (Prod.mk.inj (Option.some.inj hf)).1 (Prod.mk.inj (Option.some.inj hf)).2
        · have hf := itf hf hc
          refine lv_aload_n S.1 S.2.1 dX11_undo_61 rfl (lv_at hl 0 rfl) ?_
          refine xg_WayLeaves_leaves S hw kf_X11_37 dX11_undo_62 ?_
          refine xg_Leaves_undone S hw kf_X11_239 dX11_undo_65 ?_
          refine lv_iload_n S.1 S.2.1 dX11_undo_68 rfl (lv_at hl 1 rfl) ?_
          obtain ⟨h4, hf⟩ := gd_ix hf
          refine g_iald S hw 48 0 xe_48 rfl h4 dX11_undo_69 ?_
          refine lv_iconst (v := -1) S.1 S.2.1 dX11_undo_70 (by decide) ?_
          refine lv_icmp_eq (tgt := 77) S.1 S.2.1 dX11_undo_71 (by decide) (fun hc => ?_) (fun hc => ?_)
          · have hf := itt hf hc
            refine lv_aload_n S.1 S.2.1 dX11_undo_77 rfl (lv_at hl 0 rfl) ?_
            refine xg_WayLeaves_leaves S hw kf_X11_37 dX11_undo_78 ?_
            refine xg_Leaves_undone S hw kf_X11_239 dX11_undo_81 ?_
            refine lv_iload_n S.1 S.2.1 dX11_undo_84 rfl (lv_at hl 1 rfl) ?_
            refine lv_iload_n S.1 S.2.1 dX11_undo_85 rfl (lv_at hl 2 rfl) ?_
            obtain ⟨h5, hf⟩ := gd_ix hf
            obtain ⟨σ6, e7⟩ : ∃ z : St, z = aW σ 48 x1 x2 := ⟨_, rfl⟩
            have hf := nm_s e7 hf
            refine g_iast (σ' := σ6) S hw 48 0 xe_48 rfl (by rw [e7]; exact xs_48 _) h5 dX11_undo_86 (fun H locs hw => ?_)
            refine lv_aload_n S.1 S.2.1 dX11_undo_87 rfl (lv_at hl 0 rfl) ?_
            refine xg_WayLeaves_leaves S hw kf_X11_37 dX11_undo_88 ?_
            refine lv_iload_n S.1 S.2.1 dX11_undo_91 rfl (lv_at hl 1 rfl) ?_
            obtain ⟨r10, σ8, g9, hf⟩ := bd2_s hf
            refine g_Vi (rest := []) (XWd_ok D ad cs ts adK adV) S hw (tX5_hangingOn g9) kt_X11_249 4 xe_4 rfl rfl ⟨Nat.le_of_ble_eq_true rfl, Nat.le_of_ble_eq_true rfl⟩ rfl hl.1 rfl (Nat.le_of_ble_eq_true rfl) ⟨Nat.zero_le _, Nat.zero_le _⟩ dX11_undo_92 (fun H locs hw => ?_)
            exact g_iret (XWd_ok D ad cs ts adK adV) S hr hlk hw dX11_undo_95 (Prod.mk.inj (Option.some.inj hf)).1 (Prod.mk.inj (Option.some.inj hf)).2
          · have hf := itf hf hc
            refine lv_bipush (v := -3) S.1 S.2.1 dX11_undo_74 (by decide) ?_
            exact g_iret (XWd_ok D ad cs ts adK adV) S hr hlk hw dX11_undo_76 (Prod.mk.inj (Option.some.inj hf)).1 (Prod.mk.inj (Option.some.inj hf)).2
      · have hf := itf hf hc
        refine lv_bipush (v := -13) S.1 S.2.1 dX11_undo_46 (by decide) ?_
        exact g_iret (XWd_ok D ad cs ts adK adV) S hr hlk hw dX11_undo_48 (Prod.mk.inj (Option.some.inj hf)).1 (Prod.mk.inj (Option.some.inj hf)).2
    · have hf := itt hf hc
      refine lv_bipush (v := -2) S.1 S.2.1 dX11_undo_30 (by decide) ?_
      exact g_iret (XWd_ok D ad cs ts adK adV) S hr hlk hw dX11_undo_32 (Prod.mk.inj (Option.some.inj hf)).1 (Prod.mk.inj (Option.some.inj hf)).2
def fX11_has (N : Nat) (σ : St) (x1 : Int32) (x2 : Int32) : Option (Int32 × St) :=
  if (fX6_isSpan σ x1) = 0 then (some ((-2 : Int32), σ)) else (if (fX11_isDay x2) = 0 then (some ((-2 : Int32), σ)) else (bd2 (fX5_hasOn N σ x1 x2) fun r3 σ1 => some (r3, σ1)))
set_option maxHeartbeats 2000000 in
set_option maxRecDepth 20000 in
theorem tX11_has {r : Int32} {σ' : St} {N : Nat} {σ : St} {x1 : Int32} {x2 : Int32} (hf : fX11_has N σ x1 x2 = some (r, σ')) : CI l (XWd D ad cs ts adK adV) yX11_has cX11_has 3 (some .int) 4 98 [.ref (ad 0), .int x1, .int x2] σ r σ' := by
  refine CI.of (by decide) (Nat.le_of_ble_eq_true rfl) ?_
  intro p e s m below meth c ls S hr hlk hw hl
  have hl : lv_has ls 3 [(0, .ref (ad 0)), (1, .int x1), (2, .int x2)] := hl
  unfold fX11_has at hf
  refine lv_aload_n S.1 S.2.1 dX11_has_0 rfl (lv_at hl 0 rfl) ?_
  refine xg_WayLeaves_line S hw kf_X11_28 dX11_has_1 ?_
  refine lv_iload_n S.1 S.2.1 dX11_has_4 rfl (lv_at hl 1 rfl) ?_
  refine g_Vi (rest := []) (XWd_ok D ad cs ts adK adV) S hw (tX6_isSpan (ad := ad) (cs := cs) (ts := ts) (adK := adK) (adV := adV) (σ := σ) rfl) kt_X11_175 3 xe_3 rfl rfl ⟨Nat.le_of_ble_eq_true rfl, Nat.le_of_ble_eq_true rfl⟩ rfl hl.1 rfl (Nat.le_of_ble_eq_true rfl) ⟨Nat.zero_le _, Nat.zero_le _⟩ dX11_has_5 (fun H locs hw => ?_)
  refine lv_if_eq (tgt := 18) S.1 S.2.1 dX11_has_8 (by decide) (fun hc => ?_) (fun hc => ?_)
  · have hf := itt hf hc
    refine lv_bipush (v := -2) S.1 S.2.1 dX11_has_18 (by decide) ?_
    exact g_iret (XWd_ok D ad cs ts adK adV) S hr hlk hw dX11_has_20 (Prod.mk.inj (Option.some.inj hf)).1 (Prod.mk.inj (Option.some.inj hf)).2
  · have hf := itf hf hc
    refine lv_iload_n S.1 S.2.1 dX11_has_11 rfl (lv_at hl 2 rfl) ?_
    refine g_Si (rest := []) (XWd_ok D ad cs ts adK adV) S hw (tX11_isDay (ad := ad) (cs := cs) (ts := ts) (adK := adK) (adV := adV) (σ := σ) rfl) kt_X11_132 ⟨Nat.le_of_ble_eq_true rfl, Nat.le_of_ble_eq_true rfl⟩ rfl hl.1 rfl (Nat.le_of_ble_eq_true rfl) ⟨Nat.zero_le _, Nat.zero_le _⟩ dX11_has_12 (fun H locs hw => ?_)
    refine lv_if_ne (tgt := 21) S.1 S.2.1 dX11_has_15 (by decide) (fun hc => ?_) (fun hc => ?_)
    · have hf := itf hf hc
      refine lv_aload_n S.1 S.2.1 dX11_has_21 rfl (lv_at hl 0 rfl) ?_
      refine xg_WayLeaves_leaves S hw kf_X11_37 dX11_has_22 ?_
      refine lv_iload_n S.1 S.2.1 dX11_has_25 rfl (lv_at hl 1 rfl) ?_
      refine lv_iload_n S.1 S.2.1 dX11_has_26 rfl (lv_at hl 2 rfl) ?_
      obtain ⟨r3, σ1, g2, hf⟩ := bd2_s hf
      refine g_Vi (rest := []) (XWd_ok D ad cs ts adK adV) S hw (tX5_hasOn g2) kt_X11_252 4 xe_4 rfl rfl ⟨Nat.le_of_ble_eq_true rfl, Nat.le_of_ble_eq_true rfl⟩ rfl hl.1 rfl (Nat.le_of_ble_eq_true rfl) ⟨Nat.zero_le _, Nat.zero_le _⟩ dX11_has_27 (fun H locs hw => ?_)
      exact g_iret (XWd_ok D ad cs ts adK adV) S hr hlk hw dX11_has_30 (Prod.mk.inj (Option.some.inj hf)).1 (Prod.mk.inj (Option.some.inj hf)).2
    · have hf := itt hf hc
      refine lv_bipush (v := -2) S.1 S.2.1 dX11_has_18 (by decide) ?_
      exact g_iret (XWd_ok D ad cs ts adK adV) S hr hlk hw dX11_has_20 (Prod.mk.inj (Option.some.inj hf)).1 (Prod.mk.inj (Option.some.inj hf)).2
def fX11_yearly (N : Nat) (σ : St) (x1 : Int32) (x2 : Int32) : Option (Int64 × St) :=
  if (fX11_isOwner x1) = 0 then (some ((-4611686018427387904 : Int64), σ)) else (if (fX11_isDay x2) = 0 then (some ((-4611686018427387904 : Int64), σ)) else (bd2 (fX5_yearlyTo N σ x1 x2) fun r3 σ1 => some (r3, σ1)))
set_option maxHeartbeats 2000000 in
set_option maxRecDepth 20000 in
theorem tX11_yearly {r : Int64} {σ' : St} {N : Nat} {σ : St} {x1 : Int32} {x2 : Int32} (hf : fX11_yearly N σ x1 x2 = some (r, σ')) : CJ l (XWd D ad cs ts adK adV) yX11_yearly cX11_yearly 3 (some .long) 4 97 [.ref (ad 0), .int x1, .int x2] σ r σ' := by
  refine CJ.of (by decide) (Nat.le_of_ble_eq_true rfl) ?_
  intro p e s m below meth c ls S hr hlk hw hl
  have hl : lv_has ls 3 [(0, .ref (ad 0)), (1, .int x1), (2, .int x2)] := hl
  unfold fX11_yearly at hf
  refine lv_iload_n S.1 S.2.1 dX11_yearly_0 rfl (lv_at hl 1 rfl) ?_
  refine g_Si (rest := []) (XWd_ok D ad cs ts adK adV) S hw (tX11_isOwner (ad := ad) (cs := cs) (ts := ts) (adK := adK) (adV := adV) (σ := σ) rfl) kt_X11_119 ⟨Nat.le_of_ble_eq_true rfl, Nat.le_of_ble_eq_true rfl⟩ rfl hl.1 rfl (Nat.le_of_ble_eq_true rfl) ⟨Nat.zero_le _, Nat.zero_le _⟩ dX11_yearly_1 (fun H locs hw => ?_)
  refine lv_if_eq (tgt := 14) S.1 S.2.1 dX11_yearly_4 (by decide) (fun hc => ?_) (fun hc => ?_)
  · have hf := itt hf hc
    refine lv_ldc2 S.1 S.2.1 S.2.2.2.1 (S.2.2.2.2 _ kc_X11_181) dX11_yearly_14 ?_
    exact g_jret (XWd_ok D ad cs ts adK adV) S hr hlk hw dX11_yearly_17 (Prod.mk.inj (Option.some.inj hf)).1 (Prod.mk.inj (Option.some.inj hf)).2
  · have hf := itf hf hc
    refine lv_iload_n S.1 S.2.1 dX11_yearly_7 rfl (lv_at hl 2 rfl) ?_
    refine g_Si (rest := []) (XWd_ok D ad cs ts adK adV) S hw (tX11_isDay (ad := ad) (cs := cs) (ts := ts) (adK := adK) (adV := adV) (σ := σ) rfl) kt_X11_132 ⟨Nat.le_of_ble_eq_true rfl, Nat.le_of_ble_eq_true rfl⟩ rfl hl.1 rfl (Nat.le_of_ble_eq_true rfl) ⟨Nat.zero_le _, Nat.zero_le _⟩ dX11_yearly_8 (fun H locs hw => ?_)
    refine lv_if_ne (tgt := 18) S.1 S.2.1 dX11_yearly_11 (by decide) (fun hc => ?_) (fun hc => ?_)
    · have hf := itf hf hc
      refine lv_aload_n S.1 S.2.1 dX11_yearly_18 rfl (lv_at hl 0 rfl) ?_
      refine xg_WayLeaves_leaves S hw kf_X11_37 dX11_yearly_19 ?_
      refine lv_iload_n S.1 S.2.1 dX11_yearly_22 rfl (lv_at hl 1 rfl) ?_
      refine lv_iload_n S.1 S.2.1 dX11_yearly_23 rfl (lv_at hl 2 rfl) ?_
      obtain ⟨r3, σ1, g2, hf⟩ := bd2_s hf
      refine g_Vj (rest := []) (XWd_ok D ad cs ts adK adV) S hw (tX5_yearlyTo g2) kt_X11_255 4 xe_4 rfl rfl ⟨Nat.le_of_ble_eq_true rfl, Nat.le_of_ble_eq_true rfl⟩ rfl hl.1 rfl (Nat.le_of_ble_eq_true rfl) ⟨Nat.zero_le _, Nat.zero_le _⟩ dX11_yearly_24 (fun H locs hw => ?_)
      exact g_jret (XWd_ok D ad cs ts adK adV) S hr hlk hw dX11_yearly_27 (Prod.mk.inj (Option.some.inj hf)).1 (Prod.mk.inj (Option.some.inj hf)).2
    · have hf := itt hf hc
      refine lv_ldc2 S.1 S.2.1 S.2.2.2.1 (S.2.2.2.2 _ kc_X11_181) dX11_yearly_14 ?_
      exact g_jret (XWd_ok D ad cs ts adK adV) S hr hlk hw dX11_yearly_17 (Prod.mk.inj (Option.some.inj hf)).1 (Prod.mk.inj (Option.some.inj hf)).2
def fX11_feed_34b (N : Nat) (k34 : St → Int32 → Int64 → Int32 → Option (Int32 × St)) (σ : St) (x1 : Int32) (x2 : Int64) (x4 : Int32) : Option (Int32 × St) :=
  if x1 ≤ x4 then (some ((σ.1 5), σ)) else (bd (fX8_take N σ ((((x2).toUInt64 >>> ((((8 : Int32) * x4)).toInt64.toUInt64 &&& Int64.toUInt64 63)).toInt64).toInt32 &&& (255 : Int32))) fun σ1 => nm (x4 + (1 : Int32)) fun v3 => k34 σ1 x1 x2 v3)
set_option maxHeartbeats 2000000 in
set_option maxRecDepth 20000 in
theorem wX11_feed_34b {r : Int32} {σ' : St} {N : Nat} (S : CallFix p m c cX11_feed 5 s av BG RX11) (hr : meth.sig.returnType = some .int) (hlk : meth.locks = false) {k34 : St → Int32 → Int64 → Int32 → Option (Int32 × St)} (hk34 : ∀ (σ : St) (x1 : Int32) (x2 : Int64) (x4 : Int32) (ls : Array Slot) (H : Heap) (locs : List Loc), Hw (XWd D ad cs ts adK adV) s σ H locs → lv_has ls 5 [(0, .ref (ad 0)), (1, .int x1), (2, .long x2), (4, .int x4)] → k34 σ x1 x2 x4 = some (r, σ') → W p l e (RM 1 22) s m av below meth c H locs 0 0 (QI below (XWd D ad cs ts adK adV) av s r σ') (F0 m 34 ls []))  {σ : St} {x1 : Int32} {x2 : Int64} {x4 : Int32} {ls : Array Slot} {H : Heap} {locs : List Loc} (hw : Hw (XWd D ad cs ts adK adV) s σ H locs) (hl : lv_has ls 5 [(0, .ref (ad 0)), (1, .int x1), (2, .long x2), (4, .int x4)]) (hf : fX11_feed_34b N k34 σ x1 x2 x4 = some (r, σ')) : W p l e (RM 1 22) s m av below meth c H locs 0 0 (QI below (XWd D ad cs ts adK adV) av s r σ') (F0 m 34 ls []) := by
  unfold fX11_feed_34b at hf
  refine lv_iload S.1 S.2.1 dX11_feed_34 (lv_at hl 3 rfl) ?_
  refine lv_iload_n S.1 S.2.1 dX11_feed_36 rfl (lv_at hl 1 rfl) ?_
  refine lv_icmp_ge (tgt := 65) S.1 S.2.1 dX11_feed_37 (by decide) (fun hc => ?_) (fun hc => ?_)
  · have hf := itt hf hc
    refine lv_aload_n S.1 S.2.1 dX11_feed_65 rfl (lv_at hl 0 rfl) ?_
    refine xg_WayLeaves_reader S hw kf_X11_44 dX11_feed_66 ?_
    refine xg_Reader_size S hw kf_X11_259 dX11_feed_69 ?_
    exact g_iret (XWd_ok D ad cs ts adK adV) S hr hlk hw dX11_feed_72 (Prod.mk.inj (Option.some.inj hf)).1 (Prod.mk.inj (Option.some.inj hf)).2
  · have hf := itf hf hc
    refine lv_aload_n S.1 S.2.1 dX11_feed_40 rfl (lv_at hl 0 rfl) ?_
    refine xg_WayLeaves_reader S hw kf_X11_44 dX11_feed_41 ?_
    refine lv_lload_n S.1 S.2.1 dX11_feed_44 rfl (lv_at hl 2 rfl) ?_
    refine lv_bipush (v := 8) S.1 S.2.1 dX11_feed_45 (by decide) ?_
    refine lv_iload S.1 S.2.1 dX11_feed_47 (lv_at hl 3 rfl) ?_
    refine lv_imul S.1 S.2.1 dX11_feed_49 ?_
    refine lv_lushr S.1 S.2.1 dX11_feed_50 rfl ?_
    refine lv_l2i S.1 S.2.1 dX11_feed_51 rfl ?_
    refine lv_sipush (v := 255) S.1 S.2.1 dX11_feed_52 (by decide) ?_
    refine lv_iand S.1 S.2.1 dX11_feed_55 ?_
    obtain ⟨σ1, g2, hf⟩ := bd_s hf
    refine g_Vv (rest := []) (XWd_ok D ad cs ts adK adV) S hw (tX8_take g2) kt_X11_262 5 xe_5 rfl rfl ⟨Nat.le_of_ble_eq_true rfl, Nat.le_of_ble_eq_true rfl⟩ rfl hl.1 rfl (Nat.le_of_ble_eq_true rfl) ⟨Nat.zero_le _, Nat.zero_le _⟩ dX11_feed_56 (fun H locs hw => ?_)
    obtain ⟨v3, e4⟩ : ∃ z : Int32, z = x4 + (1 : Int32) := ⟨_, rfl⟩
    have hf := nm_s e4 hf
    refine lv_iinc (v := v3) (lv' := [(4, .int v3), (0, .ref (ad 0)), (1, .int x1), (2, .long x2)]) S.1 S.2.1 dX11_feed_59 hl (k := 3) rfl (by rw [e4]; rfl) (by decide) rfl (fun ls hl => ?_)
    refine lv_goto (tgt := 34) S.1 S.2.1 dX11_feed_62 (by decide) ?_
    exact hk34 σ1 x1 x2 v3 _ _ _ hw (lv_sub hl [1, 2, 3, 0] rfl) hf
def fX11_feed_34 (N : Nat) : Nat → St → Int32 → Int64 → Int32 → Option (Int32 × St)
  | 0 => fun _ _ _ _ => none
  | n + 1 => fX11_feed_34b N (fX11_feed_34 N n)
theorem wX11_feed_34 {r : Int32} {σ' : St} {N : Nat} (S : CallFix p m c cX11_feed 5 s av BG RX11) (hr : meth.sig.returnType = some .int) (hlk : meth.locks = false) : ∀ (n : Nat), ∀ (σ : St) (x1 : Int32) (x2 : Int64) (x4 : Int32) (ls : Array Slot) (H : Heap) (locs : List Loc), Hw (XWd D ad cs ts adK adV) s σ H locs → lv_has ls 5 [(0, .ref (ad 0)), (1, .int x1), (2, .long x2), (4, .int x4)] → fX11_feed_34 N n σ x1 x2 x4 = some (r, σ') → W p l e (RM 1 22) s m av below meth c H locs 0 0 (QI below (XWd D ad cs ts adK adV) av s r σ') (F0 m 34 ls []) := by
  intro n
  induction n with
  | zero => intro _ _ _ _ ls H locs hw hl hf; cases hf
  | succ n ih => intro _ _ _ _ ls H locs hw hl hf; exact wX11_feed_34b S hr hlk ih hw hl hf
def fX11_feed (N : Nat) (σ : St) (x1 : Int32) (x2 : Int64) : Option (Int32 × St) :=
  if (fX11_within x1 (1 : Int32) (8 : Int32)) = 0 then (some ((-2 : Int32), σ)) else (if ((σ.1 5) + x1) ≤ (160 : Int32) then (fX11_feed_34 N N σ x1 x2 (0 : Int32)) else (some ((-4 : Int32), σ)))
set_option maxHeartbeats 2000000 in
set_option maxRecDepth 20000 in
theorem tX11_feed {r : Int32} {σ' : St} {N : Nat} {σ : St} {x1 : Int32} {x2 : Int64} (hf : fX11_feed N σ x1 x2 = some (r, σ')) : CI l (XWd D ad cs ts adK adV) yX11_feed cX11_feed 5 (some .int) 1 22 [.ref (ad 0), .int x1, .long x2] σ r σ' := by
  refine CI.of (by decide) (Nat.le_of_ble_eq_true rfl) ?_
  intro p e s m below meth c ls S hr hlk hw hl
  have hl : lv_has ls 5 [(0, .ref (ad 0)), (1, .int x1), (2, .long x2)] := hl
  unfold fX11_feed at hf
  refine lv_iload_n S.1 S.2.1 dX11_feed_0 rfl (lv_at hl 1 rfl) ?_
  refine lv_iconst (v := 1) S.1 S.2.1 dX11_feed_1 (by decide) ?_
  refine lv_bipush (v := 8) S.1 S.2.1 dX11_feed_2 (by decide) ?_
  refine g_Si (rest := []) (XWd_ok D ad cs ts adK adV) S hw (tX11_within (ad := ad) (cs := cs) (ts := ts) (adK := adK) (adV := adV) (σ := σ) rfl) kt_X11_107 ⟨Nat.le_of_ble_eq_true rfl, Nat.le_of_ble_eq_true rfl⟩ rfl hl.1 rfl (Nat.le_of_ble_eq_true rfl) ⟨Nat.zero_le _, Nat.zero_le _⟩ dX11_feed_4 (fun H locs hw => ?_)
  refine lv_if_ne (tgt := 13) S.1 S.2.1 dX11_feed_7 (by decide) (fun hc => ?_) (fun hc => ?_)
  · have hf := itf hf hc
    refine lv_aload_n S.1 S.2.1 dX11_feed_13 rfl (lv_at hl 0 rfl) ?_
    refine xg_WayLeaves_reader S hw kf_X11_44 dX11_feed_14 ?_
    refine xg_Reader_size S hw kf_X11_259 dX11_feed_17 ?_
    refine lv_iload_n S.1 S.2.1 dX11_feed_20 rfl (lv_at hl 1 rfl) ?_
    refine lv_iadd S.1 S.2.1 dX11_feed_21 ?_
    refine lv_sipush (v := 160) S.1 S.2.1 dX11_feed_22 (by decide) ?_
    refine lv_icmp_le (tgt := 31) S.1 S.2.1 dX11_feed_25 (by decide) (fun hc => ?_) (fun hc => ?_)
    · have hf := itt hf hc
      refine lv_iconst (v := 0) S.1 S.2.1 dX11_feed_31 (by decide) ?_
      refine lv_istore (lv' := [(4, .int (0 : Int32)), (0, .ref (ad 0)), (1, .int x1), (2, .long x2)]) S.1 S.2.1 dX11_feed_32 hl (by decide) rfl (fun ls hl => ?_)
      exact wX11_feed_34 S hr hlk N σ x1 x2 (0 : Int32) _ _ _ hw (lv_sub hl [1, 2, 3, 0] rfl) hf
    · have hf := itf hf hc
      refine lv_bipush (v := -4) S.1 S.2.1 dX11_feed_28 (by decide) ?_
      exact g_iret (XWd_ok D ad cs ts adK adV) S hr hlk hw dX11_feed_30 (Prod.mk.inj (Option.some.inj hf)).1 (Prod.mk.inj (Option.some.inj hf)).2
  · have hf := itt hf hc
    refine lv_bipush (v := -2) S.1 S.2.1 dX11_feed_10 (by decide) ?_
    exact g_iret (XWd_ok D ad cs ts adK adV) S hr hlk hw dX11_feed_12 (Prod.mk.inj (Option.some.inj hf)).1 (Prod.mk.inj (Option.some.inj hf)).2
def fX11_text (N : Nat) (σ : St) : Option (Int32 × St) :=
  if (σ.1 10) < (6 : Int32) then (bd2 (fX8_readTape N σ) fun r3 σ1 => if r3 = (-1 : Int32) then (bd2 (fX0_keep N σ1) fun r6 σ4 => some (r6, σ4)) else (some (((-100 : Int32) - r3), σ1))) else (some ((-4 : Int32), σ))
set_option maxHeartbeats 2000000 in
set_option maxRecDepth 20000 in
theorem tX11_text {r : Int32} {σ' : St} {N : Nat} {σ : St} (hf : fX11_text N σ = some (r, σ')) : CI l (XWd D ad cs ts adK adV) yX11_text cX11_text 2 (some .int) 185 6126 [.ref (ad 0)] σ r σ' := by
  refine CI.of (by decide) (Nat.le_of_ble_eq_true rfl) ?_
  intro p e s m below meth c ls S hr hlk hw hl
  have hl : lv_has ls 2 [(0, .ref (ad 0))] := hl
  unfold fX11_text at hf
  refine lv_aload_n S.1 S.2.1 dX11_text_0 rfl (lv_at hl 0 rfl) ?_
  refine xg_WayLeaves_acts S hw kf_X11_53 dX11_text_1 ?_
  refine xg_Acts_count S hw kf_X11_266 dX11_text_4 ?_
  refine lv_bipush (v := 6) S.1 S.2.1 dX11_text_7 (by decide) ?_
  refine lv_icmp_lt (tgt := 15) S.1 S.2.1 dX11_text_9 (by decide) (fun hc => ?_) (fun hc => ?_)
  · have hf := itt hf hc
    refine lv_aload_n S.1 S.2.1 dX11_text_15 rfl (lv_at hl 0 rfl) ?_
    refine xg_WayLeaves_reader S hw kf_X11_44 dX11_text_16 ?_
    obtain ⟨r3, σ1, g2, hf⟩ := bd2_s hf
    refine g_Vi (rest := []) (XWd_ok D ad cs ts adK adV) S hw (tX8_readTape g2) kt_X11_99 5 xe_5 rfl rfl ⟨Nat.le_of_ble_eq_true rfl, Nat.le_of_ble_eq_true rfl⟩ rfl hl.1 rfl (Nat.le_of_ble_eq_true rfl) ⟨Nat.zero_le _, Nat.zero_le _⟩ dX11_text_19 (fun H locs hw => ?_)
    refine lv_istore_n (lv' := [(1, .int r3), (0, .ref (ad 0))]) S.1 S.2.1 dX11_text_22 rfl hl (by decide) rfl (fun ls hl => ?_)
    refine lv_iload_n S.1 S.2.1 dX11_text_23 rfl (lv_at hl 0 rfl) ?_
    refine lv_iconst (v := -1) S.1 S.2.1 dX11_text_24 (by decide) ?_
    refine lv_icmp_eq (tgt := 33) S.1 S.2.1 dX11_text_25 (by decide) (fun hc => ?_) (fun hc => ?_)
    · have hf := itt hf hc
      refine lv_aload_n S.1 S.2.1 dX11_text_33 rfl (lv_at hl 1 rfl) ?_
      refine xg_WayLeaves_acts S hw kf_X11_53 dX11_text_34 ?_
      refine lv_aload_n S.1 S.2.1 dX11_text_37 rfl (lv_at hl 1 rfl) ?_
      refine xg_WayLeaves_reader S hw kf_X11_44 dX11_text_38 ?_
      obtain ⟨r6, σ4, g5, hf⟩ := bd2_s hf
      refine g_Vi (rest := []) (XWd_ok D ad cs ts adK adV) S hw (tX0_keep g5) kt_X11_103 6 xe_6 rfl rfl ⟨Nat.le_of_ble_eq_true rfl, Nat.le_of_ble_eq_true rfl⟩ rfl hl.1 rfl (Nat.le_of_ble_eq_true rfl) ⟨Nat.zero_le _, Nat.zero_le _⟩ dX11_text_41 (fun H locs hw => ?_)
      exact g_iret (XWd_ok D ad cs ts adK adV) S hr hlk hw dX11_text_44 (Prod.mk.inj (Option.some.inj hf)).1 (Prod.mk.inj (Option.some.inj hf)).2
    · have hf := itf hf hc
      refine lv_bipush (v := -100) S.1 S.2.1 dX11_text_28 (by decide) ?_
      refine lv_iload_n S.1 S.2.1 dX11_text_30 rfl (lv_at hl 0 rfl) ?_
      refine lv_isub S.1 S.2.1 dX11_text_31 ?_
      exact g_iret (XWd_ok D ad cs ts adK adV) S hr hlk hw dX11_text_32 (Prod.mk.inj (Option.some.inj hf)).1 (Prod.mk.inj (Option.some.inj hf)).2
  · have hf := itf hf hc
    refine lv_bipush (v := -4) S.1 S.2.1 dX11_text_12 (by decide) ?_
    exact g_iret (XWd_ok D ad cs ts adK adV) S hr hlk hw dX11_text_14 (Prod.mk.inj (Option.some.inj hf)).1 (Prod.mk.inj (Option.some.inj hf)).2
def fX11_force (N : Nat) (σ : St) (x1 : Int32) : Option (Int32 × St) :=
  if (fX11_within x1 (0 : Int32) ((σ.1 10) - (1 : Int32))) = 0 then (some ((-2 : Int32), σ)) else (nm (sI σ 11 x1) fun σ1 => some ((σ.1 11), σ1))
set_option maxHeartbeats 2000000 in
set_option maxRecDepth 20000 in
theorem tX11_force {r : Int32} {σ' : St} {N : Nat} {σ : St} {x1 : Int32} (hf : fX11_force N σ x1 = some (r, σ')) : CI l (XWd D ad cs ts adK adV) yX11_force cX11_force 3 (some .int) 1 22 [.ref (ad 0), .int x1] σ r σ' := by
  refine CI.of (by decide) (Nat.le_of_ble_eq_true rfl) ?_
  intro p e s m below meth c ls S hr hlk hw hl
  have hl : lv_has ls 3 [(0, .ref (ad 0)), (1, .int x1)] := hl
  unfold fX11_force at hf
  refine lv_iload_n S.1 S.2.1 dX11_force_0 rfl (lv_at hl 1 rfl) ?_
  refine lv_iconst (v := 0) S.1 S.2.1 dX11_force_1 (by decide) ?_
  refine lv_aload_n S.1 S.2.1 dX11_force_2 rfl (lv_at hl 0 rfl) ?_
  refine xg_WayLeaves_acts S hw kf_X11_53 dX11_force_3 ?_
  refine xg_Acts_count S hw kf_X11_266 dX11_force_6 ?_
  refine lv_iconst (v := 1) S.1 S.2.1 dX11_force_9 (by decide) ?_
  refine lv_isub S.1 S.2.1 dX11_force_10 ?_
  refine g_Si (rest := []) (XWd_ok D ad cs ts adK adV) S hw (tX11_within (ad := ad) (cs := cs) (ts := ts) (adK := adK) (adV := adV) (σ := σ) rfl) kt_X11_107 ⟨Nat.le_of_ble_eq_true rfl, Nat.le_of_ble_eq_true rfl⟩ rfl hl.1 rfl (Nat.le_of_ble_eq_true rfl) ⟨Nat.zero_le _, Nat.zero_le _⟩ dX11_force_11 (fun H locs hw => ?_)
  refine lv_if_ne (tgt := 20) S.1 S.2.1 dX11_force_14 (by decide) (fun hc => ?_) (fun hc => ?_)
  · have hf := itf hf hc
    refine lv_aload_n S.1 S.2.1 dX11_force_20 rfl (lv_at hl 0 rfl) ?_
    refine xg_WayLeaves_acts S hw kf_X11_53 dX11_force_21 ?_
    refine xg_Acts_inForce S hw kf_X11_267 dX11_force_24 ?_
    refine lv_istore_n (lv' := [(2, .int (σ.1 11)), (0, .ref (ad 0)), (1, .int x1)]) S.1 S.2.1 dX11_force_27 rfl hl (by decide) rfl (fun ls hl => ?_)
    refine lv_aload_n S.1 S.2.1 dX11_force_28 rfl (lv_at hl 1 rfl) ?_
    refine xg_WayLeaves_acts S hw kf_X11_53 dX11_force_29 ?_
    refine lv_iload_n S.1 S.2.1 dX11_force_32 rfl (lv_at hl 2 rfl) ?_
    obtain ⟨σ1, e2⟩ : ∃ z : St, z = sI σ 11 x1 := ⟨_, rfl⟩
    have hf := nm_s e2 hf
    refine xp_Acts_inForce S hw e2 kf_X11_267 dX11_force_33 (fun H locs hw => ?_)
    refine lv_iload_n S.1 S.2.1 dX11_force_36 rfl (lv_at hl 0 rfl) ?_
    exact g_iret (XWd_ok D ad cs ts adK adV) S hr hlk hw dX11_force_37 (Prod.mk.inj (Option.some.inj hf)).1 (Prod.mk.inj (Option.some.inj hf)).2
  · have hf := itt hf hc
    refine lv_bipush (v := -2) S.1 S.2.1 dX11_force_17 (by decide) ?_
    exact g_iret (XWd_ok D ad cs ts adK adV) S hr hlk hw dX11_force_19 (Prod.mk.inj (Option.some.inj hf)).1 (Prod.mk.inj (Option.some.inj hf)).2
def fX11_says (N : Nat) (σ : St) (x1 : Int32) (x2 : Int32) : Option (Int64 × St) :=
  if (fX6_isSpan σ x1) = 0 then (some ((-4611686018427387904 : Int64), σ)) else (if (fX11_within x2 (0 : Int32) (1 : Int32)) = 0 then (some ((-4611686018427387904 : Int64), σ)) else (bd2 (fX0_comesTo N σ x1 x2) fun r3 σ1 => some ((r3).toInt64, σ1)))
set_option maxHeartbeats 2000000 in
set_option maxRecDepth 20000 in
theorem tX11_says {r : Int64} {σ' : St} {N : Nat} {σ : St} {x1 : Int32} {x2 : Int32} (hf : fX11_says N σ x1 x2 = some (r, σ')) : CJ l (XWd D ad cs ts adK adV) yX11_says cX11_says 3 (some .long) 5 115 [.ref (ad 0), .int x1, .int x2] σ r σ' := by
  refine CJ.of (by decide) (Nat.le_of_ble_eq_true rfl) ?_
  intro p e s m below meth c ls S hr hlk hw hl
  have hl : lv_has ls 3 [(0, .ref (ad 0)), (1, .int x1), (2, .int x2)] := hl
  unfold fX11_says at hf
  refine lv_aload_n S.1 S.2.1 dX11_says_0 rfl (lv_at hl 0 rfl) ?_
  refine xg_WayLeaves_line S hw kf_X11_28 dX11_says_1 ?_
  refine lv_iload_n S.1 S.2.1 dX11_says_4 rfl (lv_at hl 1 rfl) ?_
  refine g_Vi (rest := []) (XWd_ok D ad cs ts adK adV) S hw (tX6_isSpan (ad := ad) (cs := cs) (ts := ts) (adK := adK) (adV := adV) (σ := σ) rfl) kt_X11_175 3 xe_3 rfl rfl ⟨Nat.le_of_ble_eq_true rfl, Nat.le_of_ble_eq_true rfl⟩ rfl hl.1 rfl (Nat.le_of_ble_eq_true rfl) ⟨Nat.zero_le _, Nat.zero_le _⟩ dX11_says_5 (fun H locs hw => ?_)
  refine lv_if_eq (tgt := 20) S.1 S.2.1 dX11_says_8 (by decide) (fun hc => ?_) (fun hc => ?_)
  · have hf := itt hf hc
    refine lv_ldc2 S.1 S.2.1 S.2.2.2.1 (S.2.2.2.2 _ kc_X11_181) dX11_says_20 ?_
    exact g_jret (XWd_ok D ad cs ts adK adV) S hr hlk hw dX11_says_23 (Prod.mk.inj (Option.some.inj hf)).1 (Prod.mk.inj (Option.some.inj hf)).2
  · have hf := itf hf hc
    refine lv_iload_n S.1 S.2.1 dX11_says_11 rfl (lv_at hl 2 rfl) ?_
    refine lv_iconst (v := 0) S.1 S.2.1 dX11_says_12 (by decide) ?_
    refine lv_iconst (v := 1) S.1 S.2.1 dX11_says_13 (by decide) ?_
    refine g_Si (rest := []) (XWd_ok D ad cs ts adK adV) S hw (tX11_within (ad := ad) (cs := cs) (ts := ts) (adK := adK) (adV := adV) (σ := σ) rfl) kt_X11_107 ⟨Nat.le_of_ble_eq_true rfl, Nat.le_of_ble_eq_true rfl⟩ rfl hl.1 rfl (Nat.le_of_ble_eq_true rfl) ⟨Nat.zero_le _, Nat.zero_le _⟩ dX11_says_14 (fun H locs hw => ?_)
    refine lv_if_ne (tgt := 24) S.1 S.2.1 dX11_says_17 (by decide) (fun hc => ?_) (fun hc => ?_)
    · have hf := itf hf hc
      refine lv_aload_n S.1 S.2.1 dX11_says_24 rfl (lv_at hl 0 rfl) ?_
      refine xg_WayLeaves_acts S hw kf_X11_53 dX11_says_25 ?_
      refine lv_iload_n S.1 S.2.1 dX11_says_28 rfl (lv_at hl 1 rfl) ?_
      refine lv_iload_n S.1 S.2.1 dX11_says_29 rfl (lv_at hl 2 rfl) ?_
      obtain ⟨r3, σ1, g2, hf⟩ := bd2_s hf
      refine g_Vi (rest := []) (XWd_ok D ad cs ts adK adV) S hw (tX0_comesTo g2) kt_X11_270 6 xe_6 rfl rfl ⟨Nat.le_of_ble_eq_true rfl, Nat.le_of_ble_eq_true rfl⟩ rfl hl.1 rfl (Nat.le_of_ble_eq_true rfl) ⟨Nat.zero_le _, Nat.zero_le _⟩ dX11_says_30 (fun H locs hw => ?_)
      refine lv_i2l S.1 S.2.1 dX11_says_33 rfl ?_
      exact g_jret (XWd_ok D ad cs ts adK adV) S hr hlk hw dX11_says_34 (Prod.mk.inj (Option.some.inj hf)).1 (Prod.mk.inj (Option.some.inj hf)).2
    · have hf := itt hf hc
      refine lv_ldc2 S.1 S.2.1 S.2.2.2.1 (S.2.2.2.2 _ kc_X11_181) dX11_says_20 ?_
      exact g_jret (XWd_ok D ad cs ts adK adV) S hr hlk hw dX11_says_23 (Prod.mk.inj (Option.some.inj hf)).1 (Prod.mk.inj (Option.some.inj hf)).2
def fX11_claim (N : Nat) (σ : St) (x1 : Int32) (x2 : Int32) (x3 : Int32) : Option (Int32 × St) :=
  if (fX11_isOwner x1) = 0 then (some ((-2 : Int32), σ)) else (if (fX6_isSpan σ x2) = 0 then (some ((-2 : Int32), σ)) else (if (fX11_within x3 (0 : Int32) (99999 : Int32)) = 0 then (some ((-2 : Int32), σ)) else (if (σ.1 13) < (30 : Int32) then (bd2 (fX2_add N σ x1 x2 x3) fun r3 σ1 => some (r3, σ1)) else (some ((-4 : Int32), σ)))))
set_option maxHeartbeats 2000000 in
set_option maxRecDepth 20000 in
theorem tX11_claim {r : Int32} {σ' : St} {N : Nat} {σ : St} {x1 : Int32} {x2 : Int32} {x3 : Int32} (hf : fX11_claim N σ x1 x2 x3 = some (r, σ')) : CI l (XWd D ad cs ts adK adV) yX11_claim cX11_claim 4 (some .int) 2 46 [.ref (ad 0), .int x1, .int x2, .int x3] σ r σ' := by
  refine CI.of (by decide) (Nat.le_of_ble_eq_true rfl) ?_
  intro p e s m below meth c ls S hr hlk hw hl
  have hl : lv_has ls 4 [(0, .ref (ad 0)), (1, .int x1), (2, .int x2), (3, .int x3)] := hl
  unfold fX11_claim at hf
  refine lv_iload_n S.1 S.2.1 dX11_claim_0 rfl (lv_at hl 1 rfl) ?_
  refine g_Si (rest := []) (XWd_ok D ad cs ts adK adV) S hw (tX11_isOwner (ad := ad) (cs := cs) (ts := ts) (adK := adK) (adV := adV) (σ := σ) rfl) kt_X11_119 ⟨Nat.le_of_ble_eq_true rfl, Nat.le_of_ble_eq_true rfl⟩ rfl hl.1 rfl (Nat.le_of_ble_eq_true rfl) ⟨Nat.zero_le _, Nat.zero_le _⟩ dX11_claim_1 (fun H locs hw => ?_)
  refine lv_if_eq (tgt := 28) S.1 S.2.1 dX11_claim_4 (by decide) (fun hc => ?_) (fun hc => ?_)
  · have hf := itt hf hc
    refine lv_bipush (v := -2) S.1 S.2.1 dX11_claim_28 (by decide) ?_
    exact g_iret (XWd_ok D ad cs ts adK adV) S hr hlk hw dX11_claim_30 (Prod.mk.inj (Option.some.inj hf)).1 (Prod.mk.inj (Option.some.inj hf)).2
  · have hf := itf hf hc
    refine lv_aload_n S.1 S.2.1 dX11_claim_7 rfl (lv_at hl 0 rfl) ?_
    refine xg_WayLeaves_line S hw kf_X11_28 dX11_claim_8 ?_
    refine lv_iload_n S.1 S.2.1 dX11_claim_11 rfl (lv_at hl 2 rfl) ?_
    refine g_Vi (rest := []) (XWd_ok D ad cs ts adK adV) S hw (tX6_isSpan (ad := ad) (cs := cs) (ts := ts) (adK := adK) (adV := adV) (σ := σ) rfl) kt_X11_175 3 xe_3 rfl rfl ⟨Nat.le_of_ble_eq_true rfl, Nat.le_of_ble_eq_true rfl⟩ rfl hl.1 rfl (Nat.le_of_ble_eq_true rfl) ⟨Nat.zero_le _, Nat.zero_le _⟩ dX11_claim_12 (fun H locs hw => ?_)
    refine lv_if_eq (tgt := 28) S.1 S.2.1 dX11_claim_15 (by decide) (fun hc => ?_) (fun hc => ?_)
    · have hf := itt hf hc
      refine lv_bipush (v := -2) S.1 S.2.1 dX11_claim_28 (by decide) ?_
      exact g_iret (XWd_ok D ad cs ts adK adV) S hr hlk hw dX11_claim_30 (Prod.mk.inj (Option.some.inj hf)).1 (Prod.mk.inj (Option.some.inj hf)).2
    · have hf := itf hf hc
      refine lv_iload_n S.1 S.2.1 dX11_claim_18 rfl (lv_at hl 3 rfl) ?_
      refine lv_iconst (v := 0) S.1 S.2.1 dX11_claim_19 (by decide) ?_
      refine lv_ldc S.1 S.2.1 S.2.2.2.1 (S.2.2.2.2 _ kc_X11_207) dX11_claim_20 ?_
      refine g_Si (rest := []) (XWd_ok D ad cs ts adK adV) S hw (tX11_within (ad := ad) (cs := cs) (ts := ts) (adK := adK) (adV := adV) (σ := σ) rfl) kt_X11_107 ⟨Nat.le_of_ble_eq_true rfl, Nat.le_of_ble_eq_true rfl⟩ rfl hl.1 rfl (Nat.le_of_ble_eq_true rfl) ⟨Nat.zero_le _, Nat.zero_le _⟩ dX11_claim_22 (fun H locs hw => ?_)
      refine lv_if_ne (tgt := 31) S.1 S.2.1 dX11_claim_25 (by decide) (fun hc => ?_) (fun hc => ?_)
      · have hf := itf hf hc
        refine lv_aload_n S.1 S.2.1 dX11_claim_31 rfl (lv_at hl 0 rfl) ?_
        refine xg_WayLeaves_claims S hw kf_X11_62 dX11_claim_32 ?_
        refine xg_Claims_count S hw kf_X11_273 dX11_claim_35 ?_
        refine lv_bipush (v := 30) S.1 S.2.1 dX11_claim_38 (by decide) ?_
        refine lv_icmp_lt (tgt := 46) S.1 S.2.1 dX11_claim_40 (by decide) (fun hc => ?_) (fun hc => ?_)
        · have hf := itt hf hc
          refine lv_aload_n S.1 S.2.1 dX11_claim_46 rfl (lv_at hl 0 rfl) ?_
          refine xg_WayLeaves_claims S hw kf_X11_62 dX11_claim_47 ?_
          refine lv_iload_n S.1 S.2.1 dX11_claim_50 rfl (lv_at hl 1 rfl) ?_
          refine lv_iload_n S.1 S.2.1 dX11_claim_51 rfl (lv_at hl 2 rfl) ?_
          refine lv_iload_n S.1 S.2.1 dX11_claim_52 rfl (lv_at hl 3 rfl) ?_
          obtain ⟨r3, σ1, g2, hf⟩ := bd2_s hf
          refine g_Vi (rest := []) (XWd_ok D ad cs ts adK adV) S hw (tX2_add g2) kt_X11_274 7 xe_7 rfl rfl ⟨Nat.le_of_ble_eq_true rfl, Nat.le_of_ble_eq_true rfl⟩ rfl hl.1 rfl (Nat.le_of_ble_eq_true rfl) ⟨Nat.zero_le _, Nat.zero_le _⟩ dX11_claim_53 (fun H locs hw => ?_)
          exact g_iret (XWd_ok D ad cs ts adK adV) S hr hlk hw dX11_claim_56 (Prod.mk.inj (Option.some.inj hf)).1 (Prod.mk.inj (Option.some.inj hf)).2
        · have hf := itf hf hc
          refine lv_bipush (v := -4) S.1 S.2.1 dX11_claim_43 (by decide) ?_
          exact g_iret (XWd_ok D ad cs ts adK adV) S hr hlk hw dX11_claim_45 (Prod.mk.inj (Option.some.inj hf)).1 (Prod.mk.inj (Option.some.inj hf)).2
      · have hf := itt hf hc
        refine lv_bipush (v := -2) S.1 S.2.1 dX11_claim_28 (by decide) ?_
        exact g_iret (XWd_ok D ad cs ts adK adV) S hr hlk hw dX11_claim_30 (Prod.mk.inj (Option.some.inj hf)).1 (Prod.mk.inj (Option.some.inj hf)).2
def fX11_doubled (σ : St) : Int32 :=
  (σ.1 14)
set_option maxHeartbeats 2000000 in
set_option maxRecDepth 20000 in
theorem tX11_doubled {r : Int32} {σ : St} (hf : fX11_doubled σ = r) : CI l (XWd D ad cs ts adK adV) yX11_doubled cX11_doubled 1 (some .int) 0 0 [.ref (ad 0)] σ r σ := by
  refine CI.of (by decide) (Nat.le_of_ble_eq_true rfl) ?_
  intro p e s m below meth c ls S hr hlk hw hl
  have hl : lv_has ls 1 [(0, .ref (ad 0))] := hl
  unfold fX11_doubled at hf
  refine lv_aload_n S.1 S.2.1 dX11_doubled_0 rfl (lv_at hl 0 rfl) ?_
  refine xg_WayLeaves_claims S hw kf_X11_62 dX11_doubled_1 ?_
  refine xg_Claims_doubles S hw kf_X11_276 dX11_doubled_4 ?_
  exact g_iret (XWd_ok D ad cs ts adK adV) S hr hlk hw dX11_doubled_7 hf rfl
def fX11_due (N : Nat) (σ : St) (x1 : Int32) : Option (Int64 × St) :=
  if (fX11_isOwner x1) = 0 then (some ((-4611686018427387904 : Int64), σ)) else (bd2 (fX2_dueTo N σ x1) fun r3 σ1 => some (r3, σ1))
set_option maxHeartbeats 2000000 in
set_option maxRecDepth 20000 in
theorem tX11_due {r : Int64} {σ' : St} {N : Nat} {σ : St} {x1 : Int32} (hf : fX11_due N σ x1 = some (r, σ')) : CJ l (XWd D ad cs ts adK adV) yX11_due cX11_due 2 (some .long) 6 138 [.ref (ad 0), .int x1] σ r σ' := by
  refine CJ.of (by decide) (Nat.le_of_ble_eq_true rfl) ?_
  intro p e s m below meth c ls S hr hlk hw hl
  have hl : lv_has ls 2 [(0, .ref (ad 0)), (1, .int x1)] := hl
  unfold fX11_due at hf
  refine lv_iload_n S.1 S.2.1 dX11_due_0 rfl (lv_at hl 1 rfl) ?_
  refine g_Si (rest := []) (XWd_ok D ad cs ts adK adV) S hw (tX11_isOwner (ad := ad) (cs := cs) (ts := ts) (adK := adK) (adV := adV) (σ := σ) rfl) kt_X11_119 ⟨Nat.le_of_ble_eq_true rfl, Nat.le_of_ble_eq_true rfl⟩ rfl hl.1 rfl (Nat.le_of_ble_eq_true rfl) ⟨Nat.zero_le _, Nat.zero_le _⟩ dX11_due_1 (fun H locs hw => ?_)
  refine lv_if_ne (tgt := 11) S.1 S.2.1 dX11_due_4 (by decide) (fun hc => ?_) (fun hc => ?_)
  · have hf := itf hf hc
    refine lv_aload_n S.1 S.2.1 dX11_due_11 rfl (lv_at hl 0 rfl) ?_
    refine xg_WayLeaves_claims S hw kf_X11_62 dX11_due_12 ?_
    refine lv_iload_n S.1 S.2.1 dX11_due_15 rfl (lv_at hl 1 rfl) ?_
    obtain ⟨r3, σ1, g2, hf⟩ := bd2_s hf
    refine g_Vj (rest := []) (XWd_ok D ad cs ts adK adV) S hw (tX2_dueTo g2) kt_X11_279 7 xe_7 rfl rfl ⟨Nat.le_of_ble_eq_true rfl, Nat.le_of_ble_eq_true rfl⟩ rfl hl.1 rfl (Nat.le_of_ble_eq_true rfl) ⟨Nat.zero_le _, Nat.zero_le _⟩ dX11_due_16 (fun H locs hw => ?_)
    exact g_jret (XWd_ok D ad cs ts adK adV) S hr hlk hw dX11_due_19 (Prod.mk.inj (Option.some.inj hf)).1 (Prod.mk.inj (Option.some.inj hf)).2
  · have hf := itt hf hc
    refine lv_ldc2 S.1 S.2.1 S.2.2.2.1 (S.2.2.2.2 _ kc_X11_181) dX11_due_7 ?_
    exact g_jret (XWd_ok D ad cs ts adK adV) S hr hlk hw dX11_due_10 (Prod.mk.inj (Option.some.inj hf)).1 (Prod.mk.inj (Option.some.inj hf)).2
def fX11_look (N : Nat) (σ : St) (x1 : Int32) (x2 : Int32) (x3 : Int32) : Option (Int32 × St) :=
  if (fX11_isPlot x1) = 0 then (some ((-2 : Int32), σ)) else (if (fX11_within x2 (0 : Int32) (99999 : Int32)) = 0 then (some ((-2 : Int32), σ)) else (if (fX11_within x3 (0 : Int32) (50 : Int32)) = 0 then (some ((-2 : Int32), σ)) else (if (σ.1 15) < (20 : Int32) then (bd2 (fX7_add N σ x1 x2 x3) fun r3 σ1 => some (r3, σ1)) else (some ((-4 : Int32), σ)))))
set_option maxHeartbeats 2000000 in
set_option maxRecDepth 20000 in
theorem tX11_look {r : Int32} {σ' : St} {N : Nat} {σ : St} {x1 : Int32} {x2 : Int32} {x3 : Int32} (hf : fX11_look N σ x1 x2 x3 = some (r, σ')) : CI l (XWd D ad cs ts adK adV) yX11_look cX11_look 4 (some .int) 2 42 [.ref (ad 0), .int x1, .int x2, .int x3] σ r σ' := by
  refine CI.of (by decide) (Nat.le_of_ble_eq_true rfl) ?_
  intro p e s m below meth c ls S hr hlk hw hl
  have hl : lv_has ls 4 [(0, .ref (ad 0)), (1, .int x1), (2, .int x2), (3, .int x3)] := hl
  unfold fX11_look at hf
  refine lv_iload_n S.1 S.2.1 dX11_look_0 rfl (lv_at hl 1 rfl) ?_
  refine g_Si (rest := []) (XWd_ok D ad cs ts adK adV) S hw (tX11_isPlot (ad := ad) (cs := cs) (ts := ts) (adK := adK) (adV := adV) (σ := σ) rfl) kt_X11_115 ⟨Nat.le_of_ble_eq_true rfl, Nat.le_of_ble_eq_true rfl⟩ rfl hl.1 rfl (Nat.le_of_ble_eq_true rfl) ⟨Nat.zero_le _, Nat.zero_le _⟩ dX11_look_1 (fun H locs hw => ?_)
  refine lv_if_eq (tgt := 27) S.1 S.2.1 dX11_look_4 (by decide) (fun hc => ?_) (fun hc => ?_)
  · have hf := itt hf hc
    refine lv_bipush (v := -2) S.1 S.2.1 dX11_look_27 (by decide) ?_
    exact g_iret (XWd_ok D ad cs ts adK adV) S hr hlk hw dX11_look_29 (Prod.mk.inj (Option.some.inj hf)).1 (Prod.mk.inj (Option.some.inj hf)).2
  · have hf := itf hf hc
    refine lv_iload_n S.1 S.2.1 dX11_look_7 rfl (lv_at hl 2 rfl) ?_
    refine lv_iconst (v := 0) S.1 S.2.1 dX11_look_8 (by decide) ?_
    refine lv_ldc S.1 S.2.1 S.2.2.2.1 (S.2.2.2.2 _ kc_X11_207) dX11_look_9 ?_
    refine g_Si (rest := []) (XWd_ok D ad cs ts adK adV) S hw (tX11_within (ad := ad) (cs := cs) (ts := ts) (adK := adK) (adV := adV) (σ := σ) rfl) kt_X11_107 ⟨Nat.le_of_ble_eq_true rfl, Nat.le_of_ble_eq_true rfl⟩ rfl hl.1 rfl (Nat.le_of_ble_eq_true rfl) ⟨Nat.zero_le _, Nat.zero_le _⟩ dX11_look_11 (fun H locs hw => ?_)
    refine lv_if_eq (tgt := 27) S.1 S.2.1 dX11_look_14 (by decide) (fun hc => ?_) (fun hc => ?_)
    · have hf := itt hf hc
      refine lv_bipush (v := -2) S.1 S.2.1 dX11_look_27 (by decide) ?_
      exact g_iret (XWd_ok D ad cs ts adK adV) S hr hlk hw dX11_look_29 (Prod.mk.inj (Option.some.inj hf)).1 (Prod.mk.inj (Option.some.inj hf)).2
    · have hf := itf hf hc
      refine lv_iload_n S.1 S.2.1 dX11_look_17 rfl (lv_at hl 3 rfl) ?_
      refine lv_iconst (v := 0) S.1 S.2.1 dX11_look_18 (by decide) ?_
      refine lv_bipush (v := 50) S.1 S.2.1 dX11_look_19 (by decide) ?_
      refine g_Si (rest := []) (XWd_ok D ad cs ts adK adV) S hw (tX11_within (ad := ad) (cs := cs) (ts := ts) (adK := adK) (adV := adV) (σ := σ) rfl) kt_X11_107 ⟨Nat.le_of_ble_eq_true rfl, Nat.le_of_ble_eq_true rfl⟩ rfl hl.1 rfl (Nat.le_of_ble_eq_true rfl) ⟨Nat.zero_le _, Nat.zero_le _⟩ dX11_look_21 (fun H locs hw => ?_)
      refine lv_if_ne (tgt := 30) S.1 S.2.1 dX11_look_24 (by decide) (fun hc => ?_) (fun hc => ?_)
      · have hf := itf hf hc
        refine lv_aload_n S.1 S.2.1 dX11_look_30 rfl (lv_at hl 0 rfl) ?_
        refine xg_WayLeaves_looks S hw kf_X11_69 dX11_look_31 ?_
        refine xg_Looks_count S hw kf_X11_283 dX11_look_34 ?_
        refine lv_bipush (v := 20) S.1 S.2.1 dX11_look_37 (by decide) ?_
        refine lv_icmp_lt (tgt := 45) S.1 S.2.1 dX11_look_39 (by decide) (fun hc => ?_) (fun hc => ?_)
        · have hf := itt hf hc
          refine lv_aload_n S.1 S.2.1 dX11_look_45 rfl (lv_at hl 0 rfl) ?_
          refine xg_WayLeaves_looks S hw kf_X11_69 dX11_look_46 ?_
          refine lv_iload_n S.1 S.2.1 dX11_look_49 rfl (lv_at hl 1 rfl) ?_
          refine lv_iload_n S.1 S.2.1 dX11_look_50 rfl (lv_at hl 2 rfl) ?_
          refine lv_iload_n S.1 S.2.1 dX11_look_51 rfl (lv_at hl 3 rfl) ?_
          obtain ⟨r3, σ1, g2, hf⟩ := bd2_s hf
          refine g_Vi (rest := []) (XWd_ok D ad cs ts adK adV) S hw (tX7_add g2) kt_X11_284 8 xe_8 rfl rfl ⟨Nat.le_of_ble_eq_true rfl, Nat.le_of_ble_eq_true rfl⟩ rfl hl.1 rfl (Nat.le_of_ble_eq_true rfl) ⟨Nat.zero_le _, Nat.zero_le _⟩ dX11_look_52 (fun H locs hw => ?_)
          exact g_iret (XWd_ok D ad cs ts adK adV) S hr hlk hw dX11_look_55 (Prod.mk.inj (Option.some.inj hf)).1 (Prod.mk.inj (Option.some.inj hf)).2
        · have hf := itf hf hc
          refine lv_bipush (v := -4) S.1 S.2.1 dX11_look_42 (by decide) ?_
          exact g_iret (XWd_ok D ad cs ts adK adV) S hr hlk hw dX11_look_44 (Prod.mk.inj (Option.some.inj hf)).1 (Prod.mk.inj (Option.some.inj hf)).2
      · have hf := itt hf hc
        refine lv_bipush (v := -2) S.1 S.2.1 dX11_look_27 (by decide) ?_
        exact g_iret (XWd_ok D ad cs ts adK adV) S hr hlk hw dX11_look_29 (Prod.mk.inj (Option.some.inj hf)).1 (Prod.mk.inj (Option.some.inj hf)).2
def fX11_bounds (N : Nat) (σ : St) (x1 : Int32) (x2 : Int32) : Option Int32 :=
  if (fX11_isPlot x1) = 0 then (some (-5 : Int32)) else (if (fX11_within x2 (0 : Int32) (1 : Int32)) = 0 then (some (-5 : Int32)) else (bd (fX7_boundOf N σ x1 x2) fun r1 => some r1))
set_option maxHeartbeats 2000000 in
set_option maxRecDepth 20000 in
theorem tX11_bounds {r : Int32} {N : Nat} {σ : St} {x1 : Int32} {x2 : Int32} (hf : fX11_bounds N σ x1 x2 = some r) : CI l (XWd D ad cs ts adK adV) yX11_bounds cX11_bounds 3 (some .int) 2 46 [.ref (ad 0), .int x1, .int x2] σ r σ := by
  refine CI.of (by decide) (Nat.le_of_ble_eq_true rfl) ?_
  intro p e s m below meth c ls S hr hlk hw hl
  have hl : lv_has ls 3 [(0, .ref (ad 0)), (1, .int x1), (2, .int x2)] := hl
  unfold fX11_bounds at hf
  refine lv_iload_n S.1 S.2.1 dX11_bounds_0 rfl (lv_at hl 1 rfl) ?_
  refine g_Si (rest := []) (XWd_ok D ad cs ts adK adV) S hw (tX11_isPlot (ad := ad) (cs := cs) (ts := ts) (adK := adK) (adV := adV) (σ := σ) rfl) kt_X11_115 ⟨Nat.le_of_ble_eq_true rfl, Nat.le_of_ble_eq_true rfl⟩ rfl hl.1 rfl (Nat.le_of_ble_eq_true rfl) ⟨Nat.zero_le _, Nat.zero_le _⟩ dX11_bounds_1 (fun H locs hw => ?_)
  refine lv_if_eq (tgt := 16) S.1 S.2.1 dX11_bounds_4 (by decide) (fun hc => ?_) (fun hc => ?_)
  · have hf := itt hf hc
    refine lv_bipush (v := -5) S.1 S.2.1 dX11_bounds_16 (by decide) ?_
    exact g_iret (XWd_ok D ad cs ts adK adV) S hr hlk hw dX11_bounds_18 (Option.some.inj hf) rfl
  · have hf := itf hf hc
    refine lv_iload_n S.1 S.2.1 dX11_bounds_7 rfl (lv_at hl 2 rfl) ?_
    refine lv_iconst (v := 0) S.1 S.2.1 dX11_bounds_8 (by decide) ?_
    refine lv_iconst (v := 1) S.1 S.2.1 dX11_bounds_9 (by decide) ?_
    refine g_Si (rest := []) (XWd_ok D ad cs ts adK adV) S hw (tX11_within (ad := ad) (cs := cs) (ts := ts) (adK := adK) (adV := adV) (σ := σ) rfl) kt_X11_107 ⟨Nat.le_of_ble_eq_true rfl, Nat.le_of_ble_eq_true rfl⟩ rfl hl.1 rfl (Nat.le_of_ble_eq_true rfl) ⟨Nat.zero_le _, Nat.zero_le _⟩ dX11_bounds_10 (fun H locs hw => ?_)
    refine lv_if_ne (tgt := 19) S.1 S.2.1 dX11_bounds_13 (by decide) (fun hc => ?_) (fun hc => ?_)
    · have hf := itf hf hc
      refine lv_aload_n S.1 S.2.1 dX11_bounds_19 rfl (lv_at hl 0 rfl) ?_
      refine xg_WayLeaves_looks S hw kf_X11_69 dX11_bounds_20 ?_
      refine lv_iload_n S.1 S.2.1 dX11_bounds_23 rfl (lv_at hl 1 rfl) ?_
      refine lv_iload_n S.1 S.2.1 dX11_bounds_24 rfl (lv_at hl 2 rfl) ?_
      obtain ⟨r1, g2, hf⟩ := bd_s hf
      refine g_Vi (rest := []) (XWd_ok D ad cs ts adK adV) S hw (tX7_boundOf g2) kt_X11_285 8 xe_8 rfl rfl ⟨Nat.le_of_ble_eq_true rfl, Nat.le_of_ble_eq_true rfl⟩ rfl hl.1 rfl (Nat.le_of_ble_eq_true rfl) ⟨Nat.zero_le _, Nat.zero_le _⟩ dX11_bounds_25 (fun H locs hw => ?_)
      exact g_iret (XWd_ok D ad cs ts adK adV) S hr hlk hw dX11_bounds_28 (Option.some.inj hf) rfl
    · have hf := itt hf hc
      refine lv_bipush (v := -5) S.1 S.2.1 dX11_bounds_16 (by decide) ?_
      exact g_iret (XWd_ok D ad cs ts adK adV) S hr hlk hw dX11_bounds_18 (Option.some.inj hf) rfl
def fX11_hold (N : Nat) (σ : St) (x1 : Int32) (x2 : Int32) : Option (Int32 × St) :=
  if (fX11_isOwner x1) = 0 then (some ((-2 : Int32), σ)) else (if (fX11_within x2 (0 : Int32) (9999 : Int32)) = 0 then (some ((-2 : Int32), σ)) else (if ix x1 10 = true then nm (aR σ 15 x1) fun v2 => if ix x1 10 = true then nm (aW σ 15 x1 x2) fun σ5 => some (v2, σ5) else none else none))
set_option maxHeartbeats 2000000 in
set_option maxRecDepth 20000 in
theorem tX11_hold {r : Int32} {σ' : St} {N : Nat} {σ : St} {x1 : Int32} {x2 : Int32} (hf : fX11_hold N σ x1 x2 = some (r, σ')) : CI l (XWd D ad cs ts adK adV) yX11_hold cX11_hold 4 (some .int) 2 42 [.ref (ad 0), .int x1, .int x2] σ r σ' := by
  refine CI.of (by decide) (Nat.le_of_ble_eq_true rfl) ?_
  intro p e s m below meth c ls S hr hlk hw hl
  have hl : lv_has ls 4 [(0, .ref (ad 0)), (1, .int x1), (2, .int x2)] := hl
  unfold fX11_hold at hf
  refine lv_iload_n S.1 S.2.1 dX11_hold_0 rfl (lv_at hl 1 rfl) ?_
  refine g_Si (rest := []) (XWd_ok D ad cs ts adK adV) S hw (tX11_isOwner (ad := ad) (cs := cs) (ts := ts) (adK := adK) (adV := adV) (σ := σ) rfl) kt_X11_119 ⟨Nat.le_of_ble_eq_true rfl, Nat.le_of_ble_eq_true rfl⟩ rfl hl.1 rfl (Nat.le_of_ble_eq_true rfl) ⟨Nat.zero_le _, Nat.zero_le _⟩ dX11_hold_1 (fun H locs hw => ?_)
  refine lv_if_eq (tgt := 18) S.1 S.2.1 dX11_hold_4 (by decide) (fun hc => ?_) (fun hc => ?_)
  · have hf := itt hf hc
    refine lv_bipush (v := -2) S.1 S.2.1 dX11_hold_18 (by decide) ?_
    exact g_iret (XWd_ok D ad cs ts adK adV) S hr hlk hw dX11_hold_20 (Prod.mk.inj (Option.some.inj hf)).1 (Prod.mk.inj (Option.some.inj hf)).2
  · have hf := itf hf hc
    refine lv_iload_n S.1 S.2.1 dX11_hold_7 rfl (lv_at hl 2 rfl) ?_
    refine lv_iconst (v := 0) S.1 S.2.1 dX11_hold_8 (by decide) ?_
    refine lv_sipush (v := 9999) S.1 S.2.1 dX11_hold_9 (by decide) ?_
    refine g_Si (rest := []) (XWd_ok D ad cs ts adK adV) S hw (tX11_within (ad := ad) (cs := cs) (ts := ts) (adK := adK) (adV := adV) (σ := σ) rfl) kt_X11_107 ⟨Nat.le_of_ble_eq_true rfl, Nat.le_of_ble_eq_true rfl⟩ rfl hl.1 rfl (Nat.le_of_ble_eq_true rfl) ⟨Nat.zero_le _, Nat.zero_le _⟩ dX11_hold_12 (fun H locs hw => ?_)
    refine lv_if_ne (tgt := 21) S.1 S.2.1 dX11_hold_15 (by decide) (fun hc => ?_) (fun hc => ?_)
    · have hf := itf hf hc
      refine lv_aload_n S.1 S.2.1 dX11_hold_21 rfl (lv_at hl 0 rfl) ?_
      refine xg_WayLeaves_land S hw kf_X11_10 dX11_hold_22 ?_
      refine xg_Land_holds S hw kf_X11_288 dX11_hold_25 ?_
      refine lv_iload_n S.1 S.2.1 dX11_hold_28 rfl (lv_at hl 1 rfl) ?_
      obtain ⟨h1, hf⟩ := gd_ix hf
      refine g_iald S hw 15 0 xe_15 rfl h1 dX11_hold_29 ?_
      refine lv_topi (fun v2 e3 => ?_)
      have hf := nm_s e3 hf
      refine lv_istore_n (lv' := [(3, .int v2), (0, .ref (ad 0)), (1, .int x1), (2, .int x2)]) S.1 S.2.1 dX11_hold_30 rfl hl (by decide) rfl (fun ls hl => ?_)
      refine lv_aload_n S.1 S.2.1 dX11_hold_31 rfl (lv_at hl 1 rfl) ?_
      refine xg_WayLeaves_land S hw kf_X11_10 dX11_hold_32 ?_
      refine xg_Land_holds S hw kf_X11_288 dX11_hold_35 ?_
      refine lv_iload_n S.1 S.2.1 dX11_hold_38 rfl (lv_at hl 2 rfl) ?_
      refine lv_iload_n S.1 S.2.1 dX11_hold_39 rfl (lv_at hl 3 rfl) ?_
      obtain ⟨h4, hf⟩ := gd_ix hf
      obtain ⟨σ5, e6⟩ : ∃ z : St, z = aW σ 15 x1 x2 := ⟨_, rfl⟩
      have hf := nm_s e6 hf
      refine g_iast (σ' := σ5) S hw 15 0 xe_15 rfl (by rw [e6]; exact xs_15 _) h4 dX11_hold_40 (fun H locs hw => ?_)
      refine lv_iload_n S.1 S.2.1 dX11_hold_41 rfl (lv_at hl 0 rfl) ?_
      exact g_iret (XWd_ok D ad cs ts adK adV) S hr hlk hw dX11_hold_42 (Prod.mk.inj (Option.some.inj hf)).1 (Prod.mk.inj (Option.some.inj hf)).2
    · have hf := itt hf hc
      refine lv_bipush (v := -2) S.1 S.2.1 dX11_hold_18 (by decide) ?_
      exact g_iret (XWd_ok D ad cs ts adK adV) S hr hlk hw dX11_hold_20 (Prod.mk.inj (Option.some.inj hf)).1 (Prod.mk.inj (Option.some.inj hf)).2
def fX11_way (N : Nat) (σ : St) (x1 : Int32) (x2 : Int32) (x3 : Int32) : Option (Int32 × St) :=
  if (fX11_isPlot x1) = 0 then (some ((-2 : Int32), σ)) else (if (fX11_isPlot x2) = 0 then (some ((-2 : Int32), σ)) else (bd2 (fX10_leastCost N σ x1 x2 (-1 : Int32) (-1 : Int32)) fun r3 σ1 => if r3 = (-1 : Int32) then (some (r3, σ1)) else (if x3 = (-1 : Int32) then (some (r3, σ1)) else (bd (fX10_plotAt N σ1 x1 x3) fun r4 => some (r4, σ1)))))
set_option maxHeartbeats 2000000 in
set_option maxRecDepth 20000 in
theorem tX11_way {r : Int32} {σ' : St} {N : Nat} {σ : St} {x1 : Int32} {x2 : Int32} {x3 : Int32} (hf : fX11_way N σ x1 x2 x3 = some (r, σ')) : CI l (XWd D ad cs ts adK adV) yX11_way cX11_way 5 (some .int) 4 95 [.ref (ad 0), .int x1, .int x2, .int x3] σ r σ' := by
  refine CI.of (by decide) (Nat.le_of_ble_eq_true rfl) ?_
  intro p e s m below meth c ls S hr hlk hw hl
  have hl : lv_has ls 5 [(0, .ref (ad 0)), (1, .int x1), (2, .int x2), (3, .int x3)] := hl
  unfold fX11_way at hf
  refine lv_iload_n S.1 S.2.1 dX11_way_0 rfl (lv_at hl 1 rfl) ?_
  refine g_Si (rest := []) (XWd_ok D ad cs ts adK adV) S hw (tX11_isPlot (ad := ad) (cs := cs) (ts := ts) (adK := adK) (adV := adV) (σ := σ) rfl) kt_X11_115 ⟨Nat.le_of_ble_eq_true rfl, Nat.le_of_ble_eq_true rfl⟩ rfl hl.1 rfl (Nat.le_of_ble_eq_true rfl) ⟨Nat.zero_le _, Nat.zero_le _⟩ dX11_way_1 (fun H locs hw => ?_)
  refine lv_if_eq (tgt := 14) S.1 S.2.1 dX11_way_4 (by decide) (fun hc => ?_) (fun hc => ?_)
  · have hf := itt hf hc
    refine lv_bipush (v := -2) S.1 S.2.1 dX11_way_14 (by decide) ?_
    exact g_iret (XWd_ok D ad cs ts adK adV) S hr hlk hw dX11_way_16 (Prod.mk.inj (Option.some.inj hf)).1 (Prod.mk.inj (Option.some.inj hf)).2
  · have hf := itf hf hc
    refine lv_iload_n S.1 S.2.1 dX11_way_7 rfl (lv_at hl 2 rfl) ?_
    refine g_Si (rest := []) (XWd_ok D ad cs ts adK adV) S hw (tX11_isPlot (ad := ad) (cs := cs) (ts := ts) (adK := adK) (adV := adV) (σ := σ) rfl) kt_X11_115 ⟨Nat.le_of_ble_eq_true rfl, Nat.le_of_ble_eq_true rfl⟩ rfl hl.1 rfl (Nat.le_of_ble_eq_true rfl) ⟨Nat.zero_le _, Nat.zero_le _⟩ dX11_way_8 (fun H locs hw => ?_)
    refine lv_if_ne (tgt := 17) S.1 S.2.1 dX11_way_11 (by decide) (fun hc => ?_) (fun hc => ?_)
    · have hf := itf hf hc
      refine lv_aload_n S.1 S.2.1 dX11_way_17 rfl (lv_at hl 0 rfl) ?_
      refine xg_WayLeaves_ways S hw kf_X11_76 dX11_way_18 ?_
      refine lv_iload_n S.1 S.2.1 dX11_way_21 rfl (lv_at hl 1 rfl) ?_
      refine lv_iload_n S.1 S.2.1 dX11_way_22 rfl (lv_at hl 2 rfl) ?_
      refine lv_iconst (v := -1) S.1 S.2.1 dX11_way_23 (by decide) ?_
      refine lv_iconst (v := -1) S.1 S.2.1 dX11_way_24 (by decide) ?_
      obtain ⟨r3, σ1, g2, hf⟩ := bd2_s hf
      refine g_Vi (rest := []) (XWd_ok D ad cs ts adK adV) S hw (tX10_leastCost g2) kt_X11_291 9 xe_9 rfl rfl ⟨Nat.le_of_ble_eq_true rfl, Nat.le_of_ble_eq_true rfl⟩ rfl hl.1 rfl (Nat.le_of_ble_eq_true rfl) ⟨Nat.zero_le _, Nat.zero_le _⟩ dX11_way_25 (fun H locs hw => ?_)
      refine lv_istore (lv' := [(4, .int r3), (0, .ref (ad 0)), (1, .int x1), (2, .int x2), (3, .int x3)]) S.1 S.2.1 dX11_way_28 hl (by decide) rfl (fun ls hl => ?_)
      refine lv_iload S.1 S.2.1 dX11_way_30 (lv_at hl 0 rfl) ?_
      refine lv_iconst (v := -1) S.1 S.2.1 dX11_way_32 (by decide) ?_
      refine lv_icmp_eq (tgt := 41) S.1 S.2.1 dX11_way_33 (by decide) (fun hc => ?_) (fun hc => ?_)
      · have hf := itt hf hc
        refine lv_iload S.1 S.2.1 dX11_way_41 (lv_at hl 0 rfl) ?_
        exact g_iret (XWd_ok D ad cs ts adK adV) S hr hlk hw dX11_way_43 (Prod.mk.inj (Option.some.inj hf)).1 (Prod.mk.inj (Option.some.inj hf)).2
      · have hf := itf hf hc
        refine lv_iload_n S.1 S.2.1 dX11_way_36 rfl (lv_at hl 4 rfl) ?_
        refine lv_iconst (v := -1) S.1 S.2.1 dX11_way_37 (by decide) ?_
        refine lv_icmp_ne (tgt := 44) S.1 S.2.1 dX11_way_38 (by decide) (fun hc => ?_) (fun hc => ?_)
        · have hf := itf hf hc
          refine lv_aload_n S.1 S.2.1 dX11_way_44 rfl (lv_at hl 1 rfl) ?_
          refine xg_WayLeaves_ways S hw kf_X11_76 dX11_way_45 ?_
          refine lv_iload_n S.1 S.2.1 dX11_way_48 rfl (lv_at hl 2 rfl) ?_
          refine lv_iload_n S.1 S.2.1 dX11_way_49 rfl (lv_at hl 4 rfl) ?_
          obtain ⟨r4, g5, hf⟩ := bd_s hf
          refine g_Vi (rest := []) (XWd_ok D ad cs ts adK adV) S hw (tX10_plotAt g5) kt_X11_294 9 xe_9 rfl rfl ⟨Nat.le_of_ble_eq_true rfl, Nat.le_of_ble_eq_true rfl⟩ rfl hl.1 rfl (Nat.le_of_ble_eq_true rfl) ⟨Nat.zero_le _, Nat.zero_le _⟩ dX11_way_50 (fun H locs hw => ?_)
          exact g_iret (XWd_ok D ad cs ts adK adV) S hr hlk hw dX11_way_53 (Prod.mk.inj (Option.some.inj hf)).1 (Prod.mk.inj (Option.some.inj hf)).2
        · have hf := itt hf hc
          refine lv_iload S.1 S.2.1 dX11_way_41 (lv_at hl 0 rfl) ?_
          exact g_iret (XWd_ok D ad cs ts adK adV) S hr hlk hw dX11_way_43 (Prod.mk.inj (Option.some.inj hf)).1 (Prod.mk.inj (Option.some.inj hf)).2
    · have hf := itt hf hc
      refine lv_bipush (v := -2) S.1 S.2.1 dX11_way_14 (by decide) ?_
      exact g_iret (XWd_ok D ad cs ts adK adV) S hr hlk hw dX11_way_16 (Prod.mk.inj (Option.some.inj hf)).1 (Prod.mk.inj (Option.some.inj hf)).2
def fX11_couldAsk (N : Nat) (σ : St) (x1 : Int32) (x2 : Int32) (x3 : Int32) : Option (Int32 × St) :=
  if (fX11_isOwner x1) = 0 then (some ((-2 : Int32), σ)) else (if (fX11_isPlot x2) = 0 then (some ((-2 : Int32), σ)) else (if (fX11_isPlot x3) = 0 then (some ((-2 : Int32), σ)) else (bd2 (fX10_leastCost N σ x2 x3 (-1 : Int32) x1) fun r3 σ1 => if r3 = (-1 : Int32) then (some ((-1 : Int32), σ1)) else (bd2 (fX10_leastCost N σ1 x2 x3 x1 (-1 : Int32)) fun r6 σ4 => some ((r3 - r6), σ4)))))
set_option maxHeartbeats 2000000 in
set_option maxRecDepth 20000 in
theorem tX11_couldAsk {r : Int32} {σ' : St} {N : Nat} {σ : St} {x1 : Int32} {x2 : Int32} {x3 : Int32} (hf : fX11_couldAsk N σ x1 x2 x3 = some (r, σ')) : CI l (XWd D ad cs ts adK adV) yX11_couldAsk cX11_couldAsk 5 (some .int) 4 95 [.ref (ad 0), .int x1, .int x2, .int x3] σ r σ' := by
  refine CI.of (by decide) (Nat.le_of_ble_eq_true rfl) ?_
  intro p e s m below meth c ls S hr hlk hw hl
  have hl : lv_has ls 5 [(0, .ref (ad 0)), (1, .int x1), (2, .int x2), (3, .int x3)] := hl
  unfold fX11_couldAsk at hf
  refine lv_iload_n S.1 S.2.1 dX11_couldAsk_0 rfl (lv_at hl 1 rfl) ?_
  refine g_Si (rest := []) (XWd_ok D ad cs ts adK adV) S hw (tX11_isOwner (ad := ad) (cs := cs) (ts := ts) (adK := adK) (adV := adV) (σ := σ) rfl) kt_X11_119 ⟨Nat.le_of_ble_eq_true rfl, Nat.le_of_ble_eq_true rfl⟩ rfl hl.1 rfl (Nat.le_of_ble_eq_true rfl) ⟨Nat.zero_le _, Nat.zero_le _⟩ dX11_couldAsk_1 (fun H locs hw => ?_)
  refine lv_if_eq (tgt := 21) S.1 S.2.1 dX11_couldAsk_4 (by decide) (fun hc => ?_) (fun hc => ?_)
  · have hf := itt hf hc
    refine lv_bipush (v := -2) S.1 S.2.1 dX11_couldAsk_21 (by decide) ?_
    exact g_iret (XWd_ok D ad cs ts adK adV) S hr hlk hw dX11_couldAsk_23 (Prod.mk.inj (Option.some.inj hf)).1 (Prod.mk.inj (Option.some.inj hf)).2
  · have hf := itf hf hc
    refine lv_iload_n S.1 S.2.1 dX11_couldAsk_7 rfl (lv_at hl 2 rfl) ?_
    refine g_Si (rest := []) (XWd_ok D ad cs ts adK adV) S hw (tX11_isPlot (ad := ad) (cs := cs) (ts := ts) (adK := adK) (adV := adV) (σ := σ) rfl) kt_X11_115 ⟨Nat.le_of_ble_eq_true rfl, Nat.le_of_ble_eq_true rfl⟩ rfl hl.1 rfl (Nat.le_of_ble_eq_true rfl) ⟨Nat.zero_le _, Nat.zero_le _⟩ dX11_couldAsk_8 (fun H locs hw => ?_)
    refine lv_if_eq (tgt := 21) S.1 S.2.1 dX11_couldAsk_11 (by decide) (fun hc => ?_) (fun hc => ?_)
    · have hf := itt hf hc
      refine lv_bipush (v := -2) S.1 S.2.1 dX11_couldAsk_21 (by decide) ?_
      exact g_iret (XWd_ok D ad cs ts adK adV) S hr hlk hw dX11_couldAsk_23 (Prod.mk.inj (Option.some.inj hf)).1 (Prod.mk.inj (Option.some.inj hf)).2
    · have hf := itf hf hc
      refine lv_iload_n S.1 S.2.1 dX11_couldAsk_14 rfl (lv_at hl 3 rfl) ?_
      refine g_Si (rest := []) (XWd_ok D ad cs ts adK adV) S hw (tX11_isPlot (ad := ad) (cs := cs) (ts := ts) (adK := adK) (adV := adV) (σ := σ) rfl) kt_X11_115 ⟨Nat.le_of_ble_eq_true rfl, Nat.le_of_ble_eq_true rfl⟩ rfl hl.1 rfl (Nat.le_of_ble_eq_true rfl) ⟨Nat.zero_le _, Nat.zero_le _⟩ dX11_couldAsk_15 (fun H locs hw => ?_)
      refine lv_if_ne (tgt := 24) S.1 S.2.1 dX11_couldAsk_18 (by decide) (fun hc => ?_) (fun hc => ?_)
      · have hf := itf hf hc
        refine lv_aload_n S.1 S.2.1 dX11_couldAsk_24 rfl (lv_at hl 0 rfl) ?_
        refine xg_WayLeaves_ways S hw kf_X11_76 dX11_couldAsk_25 ?_
        refine lv_iload_n S.1 S.2.1 dX11_couldAsk_28 rfl (lv_at hl 2 rfl) ?_
        refine lv_iload_n S.1 S.2.1 dX11_couldAsk_29 rfl (lv_at hl 3 rfl) ?_
        refine lv_iconst (v := -1) S.1 S.2.1 dX11_couldAsk_30 (by decide) ?_
        refine lv_iload_n S.1 S.2.1 dX11_couldAsk_31 rfl (lv_at hl 1 rfl) ?_
        obtain ⟨r3, σ1, g2, hf⟩ := bd2_s hf
        refine g_Vi (rest := []) (XWd_ok D ad cs ts adK adV) S hw (tX10_leastCost g2) kt_X11_291 9 xe_9 rfl rfl ⟨Nat.le_of_ble_eq_true rfl, Nat.le_of_ble_eq_true rfl⟩ rfl hl.1 rfl (Nat.le_of_ble_eq_true rfl) ⟨Nat.zero_le _, Nat.zero_le _⟩ dX11_couldAsk_32 (fun H locs hw => ?_)
        refine lv_istore (lv' := [(4, .int r3), (0, .ref (ad 0)), (1, .int x1), (2, .int x2), (3, .int x3)]) S.1 S.2.1 dX11_couldAsk_35 hl (by decide) rfl (fun ls hl => ?_)
        refine lv_iload S.1 S.2.1 dX11_couldAsk_37 (lv_at hl 0 rfl) ?_
        refine lv_iconst (v := -1) S.1 S.2.1 dX11_couldAsk_39 (by decide) ?_
        refine lv_icmp_ne (tgt := 45) S.1 S.2.1 dX11_couldAsk_40 (by decide) (fun hc => ?_) (fun hc => ?_)
        · have hf := itf hf hc
          refine lv_iload S.1 S.2.1 dX11_couldAsk_45 (lv_at hl 0 rfl) ?_
          refine lv_aload_n S.1 S.2.1 dX11_couldAsk_47 rfl (lv_at hl 1 rfl) ?_
          refine xg_WayLeaves_ways S hw kf_X11_76 dX11_couldAsk_48 ?_
          refine lv_iload_n S.1 S.2.1 dX11_couldAsk_51 rfl (lv_at hl 3 rfl) ?_
          refine lv_iload_n S.1 S.2.1 dX11_couldAsk_52 rfl (lv_at hl 4 rfl) ?_
          refine lv_iload_n S.1 S.2.1 dX11_couldAsk_53 rfl (lv_at hl 2 rfl) ?_
          refine lv_iconst (v := -1) S.1 S.2.1 dX11_couldAsk_54 (by decide) ?_
          obtain ⟨r6, σ4, g5, hf⟩ := bd2_s hf
          refine g_Vi (rest := [.int r3]) (XWd_ok D ad cs ts adK adV) S hw (tX10_leastCost g5) kt_X11_291 9 xe_9 rfl rfl ⟨Nat.le_of_ble_eq_true rfl, Nat.le_of_ble_eq_true rfl⟩ rfl hl.1 rfl (Nat.le_of_ble_eq_true rfl) ⟨Nat.zero_le _, Nat.zero_le _⟩ dX11_couldAsk_55 (fun H locs hw => ?_)
          refine lv_isub S.1 S.2.1 dX11_couldAsk_58 ?_
          exact g_iret (XWd_ok D ad cs ts adK adV) S hr hlk hw dX11_couldAsk_59 (Prod.mk.inj (Option.some.inj hf)).1 (Prod.mk.inj (Option.some.inj hf)).2
        · have hf := itt hf hc
          refine lv_iconst (v := -1) S.1 S.2.1 dX11_couldAsk_43 (by decide) ?_
          exact g_iret (XWd_ok D ad cs ts adK adV) S hr hlk hw dX11_couldAsk_44 (Prod.mk.inj (Option.some.inj hf)).1 (Prod.mk.inj (Option.some.inj hf)).2
      · have hf := itt hf hc
        refine lv_bipush (v := -2) S.1 S.2.1 dX11_couldAsk_21 (by decide) ?_
        exact g_iret (XWd_ok D ad cs ts adK adV) S hr hlk hw dX11_couldAsk_23 (Prod.mk.inj (Option.some.inj hf)).1 (Prod.mk.inj (Option.some.inj hf)).2
def fX11_asking (N : Nat) (σ : St) (x1 : Int32) (x2 : Int32) : Option (Int32 × St) :=
  if (fX6_isSpan σ x1) = 0 then (some ((-2 : Int32), σ)) else (if (fX11_within x2 (1 : Int32) (60 : Int32)) = 0 then (some ((-2 : Int32), σ)) else (if ix x1 16 = true then nm (aR σ 41 x1) fun v2 => if ix x1 16 = true then nm (aW σ 41 x1 x2) fun σ5 => some (v2, σ5) else none else none))
set_option maxHeartbeats 2000000 in
set_option maxRecDepth 20000 in
theorem tX11_asking {r : Int32} {σ' : St} {N : Nat} {σ : St} {x1 : Int32} {x2 : Int32} (hf : fX11_asking N σ x1 x2 = some (r, σ')) : CI l (XWd D ad cs ts adK adV) yX11_asking cX11_asking 4 (some .int) 2 43 [.ref (ad 0), .int x1, .int x2] σ r σ' := by
  refine CI.of (by decide) (Nat.le_of_ble_eq_true rfl) ?_
  intro p e s m below meth c ls S hr hlk hw hl
  have hl : lv_has ls 4 [(0, .ref (ad 0)), (1, .int x1), (2, .int x2)] := hl
  unfold fX11_asking at hf
  refine lv_aload_n S.1 S.2.1 dX11_asking_0 rfl (lv_at hl 0 rfl) ?_
  refine xg_WayLeaves_line S hw kf_X11_28 dX11_asking_1 ?_
  refine lv_iload_n S.1 S.2.1 dX11_asking_4 rfl (lv_at hl 1 rfl) ?_
  refine g_Vi (rest := []) (XWd_ok D ad cs ts adK adV) S hw (tX6_isSpan (ad := ad) (cs := cs) (ts := ts) (adK := adK) (adV := adV) (σ := σ) rfl) kt_X11_175 3 xe_3 rfl rfl ⟨Nat.le_of_ble_eq_true rfl, Nat.le_of_ble_eq_true rfl⟩ rfl hl.1 rfl (Nat.le_of_ble_eq_true rfl) ⟨Nat.zero_le _, Nat.zero_le _⟩ dX11_asking_5 (fun H locs hw => ?_)
  refine lv_if_eq (tgt := 21) S.1 S.2.1 dX11_asking_8 (by decide) (fun hc => ?_) (fun hc => ?_)
  · have hf := itt hf hc
    refine lv_bipush (v := -2) S.1 S.2.1 dX11_asking_21 (by decide) ?_
    exact g_iret (XWd_ok D ad cs ts adK adV) S hr hlk hw dX11_asking_23 (Prod.mk.inj (Option.some.inj hf)).1 (Prod.mk.inj (Option.some.inj hf)).2
  · have hf := itf hf hc
    refine lv_iload_n S.1 S.2.1 dX11_asking_11 rfl (lv_at hl 2 rfl) ?_
    refine lv_iconst (v := 1) S.1 S.2.1 dX11_asking_12 (by decide) ?_
    refine lv_bipush (v := 60) S.1 S.2.1 dX11_asking_13 (by decide) ?_
    refine g_Si (rest := []) (XWd_ok D ad cs ts adK adV) S hw (tX11_within (ad := ad) (cs := cs) (ts := ts) (adK := adK) (adV := adV) (σ := σ) rfl) kt_X11_107 ⟨Nat.le_of_ble_eq_true rfl, Nat.le_of_ble_eq_true rfl⟩ rfl hl.1 rfl (Nat.le_of_ble_eq_true rfl) ⟨Nat.zero_le _, Nat.zero_le _⟩ dX11_asking_15 (fun H locs hw => ?_)
    refine lv_if_ne (tgt := 24) S.1 S.2.1 dX11_asking_18 (by decide) (fun hc => ?_) (fun hc => ?_)
    · have hf := itf hf hc
      refine lv_aload_n S.1 S.2.1 dX11_asking_24 rfl (lv_at hl 0 rfl) ?_
      refine xg_WayLeaves_line S hw kf_X11_28 dX11_asking_25 ?_
      refine xg_Line_askDays S hw kf_X11_204 dX11_asking_28 ?_
      refine lv_iload_n S.1 S.2.1 dX11_asking_31 rfl (lv_at hl 1 rfl) ?_
      obtain ⟨h1, hf⟩ := gd_ix hf
      refine g_iald S hw 41 0 xe_41 rfl h1 dX11_asking_32 ?_
      refine lv_topi (fun v2 e3 => ?_)
      have hf := nm_s e3 hf
      refine lv_istore_n (lv' := [(3, .int v2), (0, .ref (ad 0)), (1, .int x1), (2, .int x2)]) S.1 S.2.1 dX11_asking_33 rfl hl (by decide) rfl (fun ls hl => ?_)
      refine lv_aload_n S.1 S.2.1 dX11_asking_34 rfl (lv_at hl 1 rfl) ?_
      refine xg_WayLeaves_line S hw kf_X11_28 dX11_asking_35 ?_
      refine xg_Line_askDays S hw kf_X11_204 dX11_asking_38 ?_
      refine lv_iload_n S.1 S.2.1 dX11_asking_41 rfl (lv_at hl 2 rfl) ?_
      refine lv_iload_n S.1 S.2.1 dX11_asking_42 rfl (lv_at hl 3 rfl) ?_
      obtain ⟨h4, hf⟩ := gd_ix hf
      obtain ⟨σ5, e6⟩ : ∃ z : St, z = aW σ 41 x1 x2 := ⟨_, rfl⟩
      have hf := nm_s e6 hf
      refine g_iast (σ' := σ5) S hw 41 0 xe_41 rfl (by rw [e6]; exact xs_41 _) h4 dX11_asking_43 (fun H locs hw => ?_)
      refine lv_iload_n S.1 S.2.1 dX11_asking_44 rfl (lv_at hl 0 rfl) ?_
      exact g_iret (XWd_ok D ad cs ts adK adV) S hr hlk hw dX11_asking_45 (Prod.mk.inj (Option.some.inj hf)).1 (Prod.mk.inj (Option.some.inj hf)).2
    · have hf := itt hf hc
      refine lv_bipush (v := -2) S.1 S.2.1 dX11_asking_21 (by decide) ?_
      exact g_iret (XWd_ok D ad cs ts adK adV) S hr hlk hw dX11_asking_23 (Prod.mk.inj (Option.some.inj hf)).1 (Prod.mk.inj (Option.some.inj hf)).2
def fJ6_bitCount_0f7a4 (x0 : Int32) : Int32 :=
  nm (x0 - (((x0).toUInt32 >>> (((1 : Int32)).toUInt32 &&& Int32.toUInt32 31)).toInt32 &&& (1431655765 : Int32))) fun v1 => nm ((v1 &&& (858993459 : Int32)) + (((v1).toUInt32 >>> (((2 : Int32)).toUInt32 &&& Int32.toUInt32 31)).toInt32 &&& (858993459 : Int32))) fun v3 => nm ((v3 + ((v3).toUInt32 >>> (((4 : Int32)).toUInt32 &&& Int32.toUInt32 31)).toInt32) &&& (252645135 : Int32)) fun v5 => nm (v5 + ((v5).toUInt32 >>> (((8 : Int32)).toUInt32 &&& Int32.toUInt32 31)).toInt32) fun v7 => nm (v7 + ((v7).toUInt32 >>> (((16 : Int32)).toUInt32 &&& Int32.toUInt32 31)).toInt32) fun v9 => (v9 &&& (63 : Int32))
set_option maxHeartbeats 2000000 in
set_option maxRecDepth 20000 in
theorem tJ6_bitCount_0f7a4 {r : Int32} {σ : St} {x0 : Int32} (hf : fJ6_bitCount_0f7a4 x0 = r) : CI l (XWd D ad cs ts adK adV) yJ6_bitCount_0f7a4 cJ6_bitCount_0f7a4 1 (some .int) 0 0 [.int x0] σ r σ := by
  refine CI.of (by decide) (Nat.le_of_ble_eq_true rfl) ?_
  intro p e s m below meth c ls S hr hlk hw hl
  have hl : lv_has ls 1 [(0, .int x0)] := hl
  unfold fJ6_bitCount_0f7a4 at hf
  refine lv_iload_n S.1 S.2.1 dJ6_bitCount_0f7a4_0 rfl (lv_at hl 0 rfl) ?_
  refine lv_iload_n S.1 S.2.1 dJ6_bitCount_0f7a4_1 rfl (lv_at hl 0 rfl) ?_
  refine lv_iconst (v := 1) S.1 S.2.1 dJ6_bitCount_0f7a4_2 (by decide) ?_
  refine lv_iushr S.1 S.2.1 dJ6_bitCount_0f7a4_3 rfl ?_
  refine lv_ldcw S.1 S.2.1 S.2.2.2.1 (S.2.2.2.2 _ kc_J6_265) dJ6_bitCount_0f7a4_4 ?_
  refine lv_iand S.1 S.2.1 dJ6_bitCount_0f7a4_7 ?_
  refine lv_isub S.1 S.2.1 dJ6_bitCount_0f7a4_8 ?_
  refine lv_topi (fun v1 e2 => ?_)
  have hf := nm_s e2 hf
  refine lv_istore_n (lv' := [(0, .int v1)]) S.1 S.2.1 dJ6_bitCount_0f7a4_9 rfl hl (by decide) rfl (fun ls hl => ?_)
  refine lv_iload_n S.1 S.2.1 dJ6_bitCount_0f7a4_10 rfl (lv_at hl 0 rfl) ?_
  refine lv_ldcw S.1 S.2.1 S.2.2.2.1 (S.2.2.2.2 _ kc_J6_266) dJ6_bitCount_0f7a4_11 ?_
  refine lv_iand S.1 S.2.1 dJ6_bitCount_0f7a4_14 ?_
  refine lv_iload_n S.1 S.2.1 dJ6_bitCount_0f7a4_15 rfl (lv_at hl 0 rfl) ?_
  refine lv_iconst (v := 2) S.1 S.2.1 dJ6_bitCount_0f7a4_16 (by decide) ?_
  refine lv_iushr S.1 S.2.1 dJ6_bitCount_0f7a4_17 rfl ?_
  refine lv_ldcw S.1 S.2.1 S.2.2.2.1 (S.2.2.2.2 _ kc_J6_266) dJ6_bitCount_0f7a4_18 ?_
  refine lv_iand S.1 S.2.1 dJ6_bitCount_0f7a4_21 ?_
  refine lv_iadd S.1 S.2.1 dJ6_bitCount_0f7a4_22 ?_
  refine lv_topi (fun v3 e4 => ?_)
  have hf := nm_s e4 hf
  refine lv_istore_n (lv' := [(0, .int v3)]) S.1 S.2.1 dJ6_bitCount_0f7a4_23 rfl hl (by decide) rfl (fun ls hl => ?_)
  refine lv_iload_n S.1 S.2.1 dJ6_bitCount_0f7a4_24 rfl (lv_at hl 0 rfl) ?_
  refine lv_iload_n S.1 S.2.1 dJ6_bitCount_0f7a4_25 rfl (lv_at hl 0 rfl) ?_
  refine lv_iconst (v := 4) S.1 S.2.1 dJ6_bitCount_0f7a4_26 (by decide) ?_
  refine lv_iushr S.1 S.2.1 dJ6_bitCount_0f7a4_27 rfl ?_
  refine lv_iadd S.1 S.2.1 dJ6_bitCount_0f7a4_28 ?_
  refine lv_ldcw S.1 S.2.1 S.2.2.2.1 (S.2.2.2.2 _ kc_J6_267) dJ6_bitCount_0f7a4_29 ?_
  refine lv_iand S.1 S.2.1 dJ6_bitCount_0f7a4_32 ?_
  refine lv_topi (fun v5 e6 => ?_)
  have hf := nm_s e6 hf
  refine lv_istore_n (lv' := [(0, .int v5)]) S.1 S.2.1 dJ6_bitCount_0f7a4_33 rfl hl (by decide) rfl (fun ls hl => ?_)
  refine lv_iload_n S.1 S.2.1 dJ6_bitCount_0f7a4_34 rfl (lv_at hl 0 rfl) ?_
  refine lv_iload_n S.1 S.2.1 dJ6_bitCount_0f7a4_35 rfl (lv_at hl 0 rfl) ?_
  refine lv_bipush (v := 8) S.1 S.2.1 dJ6_bitCount_0f7a4_36 (by decide) ?_
  refine lv_iushr S.1 S.2.1 dJ6_bitCount_0f7a4_38 rfl ?_
  refine lv_iadd S.1 S.2.1 dJ6_bitCount_0f7a4_39 ?_
  refine lv_topi (fun v7 e8 => ?_)
  have hf := nm_s e8 hf
  refine lv_istore_n (lv' := [(0, .int v7)]) S.1 S.2.1 dJ6_bitCount_0f7a4_40 rfl hl (by decide) rfl (fun ls hl => ?_)
  refine lv_iload_n S.1 S.2.1 dJ6_bitCount_0f7a4_41 rfl (lv_at hl 0 rfl) ?_
  refine lv_iload_n S.1 S.2.1 dJ6_bitCount_0f7a4_42 rfl (lv_at hl 0 rfl) ?_
  refine lv_bipush (v := 16) S.1 S.2.1 dJ6_bitCount_0f7a4_43 (by decide) ?_
  refine lv_iushr S.1 S.2.1 dJ6_bitCount_0f7a4_45 rfl ?_
  refine lv_iadd S.1 S.2.1 dJ6_bitCount_0f7a4_46 ?_
  refine lv_topi (fun v9 e10 => ?_)
  have hf := nm_s e10 hf
  refine lv_istore_n (lv' := [(0, .int v9)]) S.1 S.2.1 dJ6_bitCount_0f7a4_47 rfl hl (by decide) rfl (fun ls hl => ?_)
  refine lv_iload_n S.1 S.2.1 dJ6_bitCount_0f7a4_48 rfl (lv_at hl 0 rfl) ?_
  refine lv_bipush (v := 63) S.1 S.2.1 dJ6_bitCount_0f7a4_49 (by decide) ?_
  refine lv_iand S.1 S.2.1 dJ6_bitCount_0f7a4_51 ?_
  exact g_iret (XWd_ok D ad cs ts adK adV) S hr hlk hw dJ6_bitCount_0f7a4_52 hf rfl
def fX11_toAsk (N : Nat) (σ : St) (x1 : Int32) (x2 : Int32) : Option (Int32 × St) :=
  if ((x1).toUInt32 >>> (((σ.1 3)).toUInt32 &&& Int32.toUInt32 31)).toInt32 = 0 then (if (fJ6_bitCount_0f7a4 x1) ≤ (6 : Int32) then (bd (fX1_choose N σ x1) fun σ1 => bd (fX1_arrange N σ1) fun σ3 => if x2 = (-1 : Int32) then (bd (fX1_late N σ3) fun r7 => some (r7, σ3)) else (bd (fX1_spanAt N σ3 x2) fun r5 => some (r5, σ3))) else (some ((-2 : Int32), σ))) else (some ((-2 : Int32), σ))
set_option maxHeartbeats 2000000 in
set_option maxRecDepth 20000 in
theorem tX11_toAsk {r : Int32} {σ' : St} {N : Nat} {σ : St} {x1 : Int32} {x2 : Int32} (hf : fX11_toAsk N σ x1 x2 = some (r, σ')) : CI l (XWd D ad cs ts adK adV) yX11_toAsk cX11_toAsk 3 (some .int) 6 145 [.ref (ad 0), .int x1, .int x2] σ r σ' := by
  refine CI.of (by decide) (Nat.le_of_ble_eq_true rfl) ?_
  intro p e s m below meth c ls S hr hlk hw hl
  have hl : lv_has ls 3 [(0, .ref (ad 0)), (1, .int x1), (2, .int x2)] := hl
  unfold fX11_toAsk at hf
  refine lv_iload_n S.1 S.2.1 dX11_toAsk_0 rfl (lv_at hl 1 rfl) ?_
  refine lv_aload_n S.1 S.2.1 dX11_toAsk_1 rfl (lv_at hl 0 rfl) ?_
  refine xg_WayLeaves_line S hw kf_X11_28 dX11_toAsk_2 ?_
  refine xg_Line_spans S hw kf_X11_168 dX11_toAsk_5 ?_
  refine lv_iushr S.1 S.2.1 dX11_toAsk_8 rfl ?_
  refine lv_if_ne (tgt := 21) S.1 S.2.1 dX11_toAsk_9 (by decide) (fun hc => ?_) (fun hc => ?_)
  · have hf := itf hf hc
    refine lv_bipush (v := -2) S.1 S.2.1 dX11_toAsk_21 (by decide) ?_
    exact g_iret (XWd_ok D ad cs ts adK adV) S hr hlk hw dX11_toAsk_23 (Prod.mk.inj (Option.some.inj hf)).1 (Prod.mk.inj (Option.some.inj hf)).2
  · have hf := itt hf hc
    refine lv_iload_n S.1 S.2.1 dX11_toAsk_12 rfl (lv_at hl 1 rfl) ?_
    refine g_Si (rest := []) (XWd_ok D ad cs ts adK adV) S hw (tJ6_bitCount_0f7a4 (ad := ad) (cs := cs) (ts := ts) (adK := adK) (adV := adV) (σ := σ) rfl) kt_X11_297 ⟨Nat.le_of_ble_eq_true rfl, Nat.le_of_ble_eq_true rfl⟩ rfl hl.1 rfl (Nat.le_of_ble_eq_true rfl) ⟨Nat.zero_le _, Nat.zero_le _⟩ dX11_toAsk_13 (fun H locs hw => ?_)
    refine lv_bipush (v := 6) S.1 S.2.1 dX11_toAsk_16 (by decide) ?_
    refine lv_icmp_le (tgt := 24) S.1 S.2.1 dX11_toAsk_18 (by decide) (fun hc => ?_) (fun hc => ?_)
    · have hf := itt hf hc
      refine lv_aload_n S.1 S.2.1 dX11_toAsk_24 rfl (lv_at hl 0 rfl) ?_
      refine xg_WayLeaves_asks S hw kf_X11_85 dX11_toAsk_25 ?_
      refine lv_iload_n S.1 S.2.1 dX11_toAsk_28 rfl (lv_at hl 1 rfl) ?_
      obtain ⟨σ1, g2, hf⟩ := bd_s hf
      refine g_Vv (rest := []) (XWd_ok D ad cs ts adK adV) S hw (tX1_choose g2) kt_X11_302 10 xe_10 rfl rfl ⟨Nat.le_of_ble_eq_true rfl, Nat.le_of_ble_eq_true rfl⟩ rfl hl.1 rfl (Nat.le_of_ble_eq_true rfl) ⟨Nat.zero_le _, Nat.zero_le _⟩ dX11_toAsk_29 (fun H locs hw => ?_)
      refine lv_aload_n S.1 S.2.1 dX11_toAsk_32 rfl (lv_at hl 0 rfl) ?_
      refine xg_WayLeaves_asks S hw kf_X11_85 dX11_toAsk_33 ?_
      obtain ⟨σ3, g4, hf⟩ := bd_s hf
      refine g_Vv (rest := []) (XWd_ok D ad cs ts adK adV) S hw (tX1_arrange g4) kt_X11_305 10 xe_10 rfl rfl ⟨Nat.le_of_ble_eq_true rfl, Nat.le_of_ble_eq_true rfl⟩ rfl hl.1 rfl (Nat.le_of_ble_eq_true rfl) ⟨Nat.zero_le _, Nat.zero_le _⟩ dX11_toAsk_36 (fun H locs hw => ?_)
      refine lv_iload_n S.1 S.2.1 dX11_toAsk_39 rfl (lv_at hl 2 rfl) ?_
      refine lv_iconst (v := -1) S.1 S.2.1 dX11_toAsk_40 (by decide) ?_
      refine lv_icmp_ne (tgt := 54) S.1 S.2.1 dX11_toAsk_41 (by decide) (fun hc => ?_) (fun hc => ?_)
      · have hf := itf hf hc
        refine lv_aload_n S.1 S.2.1 dX11_toAsk_54 rfl (lv_at hl 0 rfl) ?_
        refine xg_WayLeaves_asks S hw kf_X11_85 dX11_toAsk_55 ?_
        refine lv_iload_n S.1 S.2.1 dX11_toAsk_58 rfl (lv_at hl 2 rfl) ?_
        obtain ⟨r5, g6, hf⟩ := bd_s hf
        refine g_Vi (rest := []) (XWd_ok D ad cs ts adK adV) S hw (tX1_spanAt g6) kt_X11_311 10 xe_10 rfl rfl ⟨Nat.le_of_ble_eq_true rfl, Nat.le_of_ble_eq_true rfl⟩ rfl hl.1 rfl (Nat.le_of_ble_eq_true rfl) ⟨Nat.zero_le _, Nat.zero_le _⟩ dX11_toAsk_59 (fun H locs hw => ?_)
        exact g_iret (XWd_ok D ad cs ts adK adV) S hr hlk hw dX11_toAsk_62 (Prod.mk.inj (Option.some.inj hf)).1 (Prod.mk.inj (Option.some.inj hf)).2
      · have hf := itt hf hc
        refine lv_aload_n S.1 S.2.1 dX11_toAsk_44 rfl (lv_at hl 0 rfl) ?_
        refine xg_WayLeaves_asks S hw kf_X11_85 dX11_toAsk_45 ?_
        obtain ⟨r7, g8, hf⟩ := bd_s hf
        refine g_Vi (rest := []) (XWd_ok D ad cs ts adK adV) S hw (tX1_late g8) kt_X11_308 10 xe_10 rfl rfl ⟨Nat.le_of_ble_eq_true rfl, Nat.le_of_ble_eq_true rfl⟩ rfl hl.1 rfl (Nat.le_of_ble_eq_true rfl) ⟨Nat.zero_le _, Nat.zero_le _⟩ dX11_toAsk_48 (fun H locs hw => ?_)
        refine lv_goto (tgt := 62) S.1 S.2.1 dX11_toAsk_51 (by decide) ?_
        exact g_iret (XWd_ok D ad cs ts adK adV) S hr hlk hw dX11_toAsk_62 (Prod.mk.inj (Option.some.inj hf)).1 (Prod.mk.inj (Option.some.inj hf)).2
    · have hf := itf hf hc
      refine lv_bipush (v := -2) S.1 S.2.1 dX11_toAsk_21 (by decide) ?_
      exact g_iret (XWd_ok D ad cs ts adK adV) S hr hlk hw dX11_toAsk_23 (Prod.mk.inj (Option.some.inj hf)).1 (Prod.mk.inj (Option.some.inj hf)).2
def fX11_count (N : Nat) (σ : St) (x1 : Int32) : Option (Int32 × St) :=
  if x1 = (0 : Int32) then (some ((σ.1 0), σ)) else (if x1 = (1 : Int32) then (some ((σ.1 1), σ)) else (if x1 = (2 : Int32) then (some ((σ.1 2), σ)) else (if x1 = (3 : Int32) then (some ((σ.1 3), σ)) else (if x1 = (4 : Int32) then (some ((σ.1 4), σ)) else (if x1 = (5 : Int32) then (some ((σ.1 13), σ)) else (if x1 = (6 : Int32) then (some ((σ.1 15), σ)) else (if x1 = (7 : Int32) then (some ((σ.1 10), σ)) else (if x1 = (8 : Int32) then (some ((σ.1 5), σ)) else (if x1 = (9 : Int32) then (some ((σ.1 11), σ)) else (if x1 = (10 : Int32) then (bd2 (fX5_bareSpans N σ) fun r14 σ12 => some (r14, σ12)) else (if x1 = (11 : Int32) then (bd (fX6_tooNearSpans N σ) fun r16 => some (r16, σ)) else (some ((-2 : Int32), σ)))))))))))))
set_option maxHeartbeats 2000000 in
set_option maxRecDepth 20000 in
theorem tX11_count {r : Int32} {σ' : St} {N : Nat} {σ : St} {x1 : Int32} (hf : fX11_count N σ x1 = some (r, σ')) : CI l (XWd D ad cs ts adK adV) yX11_count cX11_count 2 (some .int) 5 120 [.ref (ad 0), .int x1] σ r σ' := by
  refine CI.of (by decide) (Nat.le_of_ble_eq_true rfl) ?_
  intro p e s m below meth c ls S hr hlk hw hl
  have hl : lv_has ls 2 [(0, .ref (ad 0)), (1, .int x1)] := hl
  unfold fX11_count at hf
  refine lv_iload_n S.1 S.2.1 dX11_count_0 rfl (lv_at hl 1 rfl) ?_
  by_cases h1 : x1 = (0 : Int32)
  · have hf := itt hf h1
    refine lv_tableIn (off := 63) (tgt := 64) S.1 S.2.1 dX11_count_1 (by rw [h1]; decide) (by rw [h1]; decide) (by rw [h1]; rfl) (by decide) ?_
    refine lv_aload_n S.1 S.2.1 dX11_count_64 rfl (lv_at hl 0 rfl) ?_
    refine xg_WayLeaves_land S hw kf_X11_10 dX11_count_65 ?_
    refine xg_Land_day S hw kf_X11_111 dX11_count_68 ?_
    exact g_iret (XWd_ok D ad cs ts adK adV) S hr hlk hw dX11_count_71 (Prod.mk.inj (Option.some.inj hf)).1 (Prod.mk.inj (Option.some.inj hf)).2
  have hf := itf hf h1
  by_cases h2 : x1 = (1 : Int32)
  · have hf := itt hf h2
    refine lv_tableIn (off := 71) (tgt := 72) S.1 S.2.1 dX11_count_1 (by rw [h2]; decide) (by rw [h2]; decide) (by rw [h2]; rfl) (by decide) ?_
    refine lv_aload_n S.1 S.2.1 dX11_count_72 rfl (lv_at hl 0 rfl) ?_
    refine xg_WayLeaves_land S hw kf_X11_10 dX11_count_73 ?_
    refine xg_Land_sales S hw kf_X11_125 dX11_count_76 ?_
    exact g_iret (XWd_ok D ad cs ts adK adV) S hr hlk hw dX11_count_79 (Prod.mk.inj (Option.some.inj hf)).1 (Prod.mk.inj (Option.some.inj hf)).2
  have hf := itf hf h2
  by_cases h3 : x1 = (2 : Int32)
  · have hf := itt hf h3
    refine lv_tableIn (off := 79) (tgt := 80) S.1 S.2.1 dX11_count_1 (by rw [h3]; decide) (by rw [h3]; decide) (by rw [h3]; rfl) (by decide) ?_
    refine lv_aload_n S.1 S.2.1 dX11_count_80 rfl (lv_at hl 0 rfl) ?_
    refine xg_WayLeaves_line S hw kf_X11_28 dX11_count_81 ?_
    refine xg_Line_towers S hw kf_X11_159 dX11_count_84 ?_
    exact g_iret (XWd_ok D ad cs ts adK adV) S hr hlk hw dX11_count_87 (Prod.mk.inj (Option.some.inj hf)).1 (Prod.mk.inj (Option.some.inj hf)).2
  have hf := itf hf h3
  by_cases h4 : x1 = (3 : Int32)
  · have hf := itt hf h4
    refine lv_tableIn (off := 87) (tgt := 88) S.1 S.2.1 dX11_count_1 (by rw [h4]; decide) (by rw [h4]; decide) (by rw [h4]; rfl) (by decide) ?_
    refine lv_aload_n S.1 S.2.1 dX11_count_88 rfl (lv_at hl 0 rfl) ?_
    refine xg_WayLeaves_line S hw kf_X11_28 dX11_count_89 ?_
    refine xg_Line_spans S hw kf_X11_168 dX11_count_92 ?_
    exact g_iret (XWd_ok D ad cs ts adK adV) S hr hlk hw dX11_count_95 (Prod.mk.inj (Option.some.inj hf)).1 (Prod.mk.inj (Option.some.inj hf)).2
  have hf := itf hf h4
  by_cases h5 : x1 = (4 : Int32)
  · have hf := itt hf h5
    refine lv_tableIn (off := 95) (tgt := 96) S.1 S.2.1 dX11_count_1 (by rw [h5]; decide) (by rw [h5]; decide) (by rw [h5]; rfl) (by decide) ?_
    refine lv_aload_n S.1 S.2.1 dX11_count_96 rfl (lv_at hl 0 rfl) ?_
    refine xg_WayLeaves_leaves S hw kf_X11_37 dX11_count_97 ?_
    refine xg_Leaves_count S hw kf_X11_213 dX11_count_100 ?_
    exact g_iret (XWd_ok D ad cs ts adK adV) S hr hlk hw dX11_count_103 (Prod.mk.inj (Option.some.inj hf)).1 (Prod.mk.inj (Option.some.inj hf)).2
  have hf := itf hf h5
  by_cases h6 : x1 = (5 : Int32)
  · have hf := itt hf h6
    refine lv_tableIn (off := 103) (tgt := 104) S.1 S.2.1 dX11_count_1 (by rw [h6]; decide) (by rw [h6]; decide) (by rw [h6]; rfl) (by decide) ?_
    refine lv_aload_n S.1 S.2.1 dX11_count_104 rfl (lv_at hl 0 rfl) ?_
    refine xg_WayLeaves_claims S hw kf_X11_62 dX11_count_105 ?_
    refine xg_Claims_count S hw kf_X11_273 dX11_count_108 ?_
    exact g_iret (XWd_ok D ad cs ts adK adV) S hr hlk hw dX11_count_111 (Prod.mk.inj (Option.some.inj hf)).1 (Prod.mk.inj (Option.some.inj hf)).2
  have hf := itf hf h6
  by_cases h7 : x1 = (6 : Int32)
  · have hf := itt hf h7
    refine lv_tableIn (off := 111) (tgt := 112) S.1 S.2.1 dX11_count_1 (by rw [h7]; decide) (by rw [h7]; decide) (by rw [h7]; rfl) (by decide) ?_
    refine lv_aload_n S.1 S.2.1 dX11_count_112 rfl (lv_at hl 0 rfl) ?_
    refine xg_WayLeaves_looks S hw kf_X11_69 dX11_count_113 ?_
    refine xg_Looks_count S hw kf_X11_283 dX11_count_116 ?_
    exact g_iret (XWd_ok D ad cs ts adK adV) S hr hlk hw dX11_count_119 (Prod.mk.inj (Option.some.inj hf)).1 (Prod.mk.inj (Option.some.inj hf)).2
  have hf := itf hf h7
  by_cases h8 : x1 = (7 : Int32)
  · have hf := itt hf h8
    refine lv_tableIn (off := 119) (tgt := 120) S.1 S.2.1 dX11_count_1 (by rw [h8]; decide) (by rw [h8]; decide) (by rw [h8]; rfl) (by decide) ?_
    refine lv_aload_n S.1 S.2.1 dX11_count_120 rfl (lv_at hl 0 rfl) ?_
    refine xg_WayLeaves_acts S hw kf_X11_53 dX11_count_121 ?_
    refine xg_Acts_count S hw kf_X11_266 dX11_count_124 ?_
    exact g_iret (XWd_ok D ad cs ts adK adV) S hr hlk hw dX11_count_127 (Prod.mk.inj (Option.some.inj hf)).1 (Prod.mk.inj (Option.some.inj hf)).2
  have hf := itf hf h8
  by_cases h9 : x1 = (8 : Int32)
  · have hf := itt hf h9
    refine lv_tableIn (off := 127) (tgt := 128) S.1 S.2.1 dX11_count_1 (by rw [h9]; decide) (by rw [h9]; decide) (by rw [h9]; rfl) (by decide) ?_
    refine lv_aload_n S.1 S.2.1 dX11_count_128 rfl (lv_at hl 0 rfl) ?_
    refine xg_WayLeaves_reader S hw kf_X11_44 dX11_count_129 ?_
    refine xg_Reader_size S hw kf_X11_259 dX11_count_132 ?_
    exact g_iret (XWd_ok D ad cs ts adK adV) S hr hlk hw dX11_count_135 (Prod.mk.inj (Option.some.inj hf)).1 (Prod.mk.inj (Option.some.inj hf)).2
  have hf := itf hf h9
  by_cases h10 : x1 = (9 : Int32)
  · have hf := itt hf h10
    refine lv_tableIn (off := 135) (tgt := 136) S.1 S.2.1 dX11_count_1 (by rw [h10]; decide) (by rw [h10]; decide) (by rw [h10]; rfl) (by decide) ?_
    refine lv_aload_n S.1 S.2.1 dX11_count_136 rfl (lv_at hl 0 rfl) ?_
    refine xg_WayLeaves_acts S hw kf_X11_53 dX11_count_137 ?_
    refine xg_Acts_inForce S hw kf_X11_267 dX11_count_140 ?_
    exact g_iret (XWd_ok D ad cs ts adK adV) S hr hlk hw dX11_count_143 (Prod.mk.inj (Option.some.inj hf)).1 (Prod.mk.inj (Option.some.inj hf)).2
  have hf := itf hf h10
  by_cases h11 : x1 = (10 : Int32)
  · have hf := itt hf h11
    refine lv_tableIn (off := 143) (tgt := 144) S.1 S.2.1 dX11_count_1 (by rw [h11]; decide) (by rw [h11]; decide) (by rw [h11]; rfl) (by decide) ?_
    refine lv_aload_n S.1 S.2.1 dX11_count_144 rfl (lv_at hl 0 rfl) ?_
    refine xg_WayLeaves_leaves S hw kf_X11_37 dX11_count_145 ?_
    obtain ⟨r14, σ12, g13, hf⟩ := bd2_s hf
    refine g_Vi (rest := []) (XWd_ok D ad cs ts adK adV) S hw (tX5_bareSpans g13) kt_X11_314 4 xe_4 rfl rfl ⟨Nat.le_of_ble_eq_true rfl, Nat.le_of_ble_eq_true rfl⟩ rfl hl.1 rfl (Nat.le_of_ble_eq_true rfl) ⟨Nat.zero_le _, Nat.zero_le _⟩ dX11_count_148 (fun H locs hw => ?_)
    exact g_iret (XWd_ok D ad cs ts adK adV) S hr hlk hw dX11_count_151 (Prod.mk.inj (Option.some.inj hf)).1 (Prod.mk.inj (Option.some.inj hf)).2
  have hf := itf hf h11
  by_cases h15 : x1 = (11 : Int32)
  · have hf := itt hf h15
    refine lv_tableIn (off := 151) (tgt := 152) S.1 S.2.1 dX11_count_1 (by rw [h15]; decide) (by rw [h15]; decide) (by rw [h15]; rfl) (by decide) ?_
    refine lv_aload_n S.1 S.2.1 dX11_count_152 rfl (lv_at hl 0 rfl) ?_
    refine xg_WayLeaves_line S hw kf_X11_28 dX11_count_153 ?_
    obtain ⟨r16, g17, hf⟩ := bd_s hf
    refine g_Vi (rest := []) (XWd_ok D ad cs ts adK adV) S hw (tX6_tooNearSpans g17) kt_X11_317 3 xe_3 rfl rfl ⟨Nat.le_of_ble_eq_true rfl, Nat.le_of_ble_eq_true rfl⟩ rfl hl.1 rfl (Nat.le_of_ble_eq_true rfl) ⟨Nat.zero_le _, Nat.zero_le _⟩ dX11_count_156 (fun H locs hw => ?_)
    exact g_iret (XWd_ok D ad cs ts adK adV) S hr hlk hw dX11_count_159 (Prod.mk.inj (Option.some.inj hf)).1 (Prod.mk.inj (Option.some.inj hf)).2
  have hf := itf hf h15
  refine lv_tableOut (tgt := 160) S.1 S.2.1 dX11_count_1 (by have h1 := lv_neT h1 (a := 0) (by decide); have h2 := lv_neT h2 (a := 1) (by decide); have h3 := lv_neT h3 (a := 2) (by decide); have h4 := lv_neT h4 (a := 3) (by decide); have h5 := lv_neT h5 (a := 4) (by decide); have h6 := lv_neT h6 (a := 5) (by decide); have h7 := lv_neT h7 (a := 6) (by decide); have h8 := lv_neT h8 (a := 7) (by decide); have h9 := lv_neT h9 (a := 8) (by decide); have h10 := lv_neT h10 (a := 9) (by decide); have h11 := lv_neT h11 (a := 10) (by decide); have h15 := lv_neT h15 (a := 11) (by decide); omega) (by decide) ?_
  refine lv_bipush (v := -2) S.1 S.2.1 dX11_count_160 (by decide) ?_
  exact g_iret (XWd_ok D ad cs ts adK adV) S hr hlk hw dX11_count_162 (Prod.mk.inj (Option.some.inj hf)).1 (Prod.mk.inj (Option.some.inj hf)).2
def fX11_sheet (N : Nat) (σ : St) (x1 : Int32) (x2 : Int32) (x3 : Int32) : Option (Int32 × St) :=
  if (fX9_isSheet x1) = 0 then (some ((-2 : Int32), σ)) else (if (fX11_within x2 (-1 : Int32) (2 : Int32)) = 0 then (some ((-2 : Int32), σ)) else (if x2 = (-1 : Int32) then (bd2 (fX9_remove N σ x1) fun r6 σ4 => some (r6, σ4)) else (if x3 ≤ (40 : Int32) then (if 0 ≤ x3 then (bd2 (fX9_lay N σ x1 x2 x3) fun r3 σ1 => some (r3, σ1)) else (some ((-14 : Int32), σ))) else (some ((-2 : Int32), σ)))))
set_option maxHeartbeats 2000000 in
set_option maxRecDepth 20000 in
theorem tX11_sheet {r : Int32} {σ' : St} {N : Nat} {σ : St} {x1 : Int32} {x2 : Int32} {x3 : Int32} (hf : fX11_sheet N σ x1 x2 x3 = some (r, σ')) : CI l (XWd D ad cs ts adK adV) yX11_sheet cX11_sheet 4 (some .int) 2 46 [.ref (ad 0), .int x1, .int x2, .int x3] σ r σ' := by
  refine CI.of (by decide) (Nat.le_of_ble_eq_true rfl) ?_
  intro p e s m below meth c ls S hr hlk hw hl
  have hl : lv_has ls 4 [(0, .ref (ad 0)), (1, .int x1), (2, .int x2), (3, .int x3)] := hl
  unfold fX11_sheet at hf
  refine lv_aload_n S.1 S.2.1 dX11_sheet_0 rfl (lv_at hl 0 rfl) ?_
  refine xg_WayLeaves_sheets S hw kf_X11_92 dX11_sheet_1 ?_
  refine lv_iload_n S.1 S.2.1 dX11_sheet_4 rfl (lv_at hl 1 rfl) ?_
  refine g_Vi (rest := []) (XWd_ok D ad cs ts adK adV) S hw (tX9_isSheet (ad := ad) (cs := cs) (ts := ts) (adK := adK) (adV := adV) (σ := σ) rfl) kt_X11_320 11 xe_11 rfl rfl ⟨Nat.le_of_ble_eq_true rfl, Nat.le_of_ble_eq_true rfl⟩ rfl hl.1 rfl (Nat.le_of_ble_eq_true rfl) ⟨Nat.zero_le _, Nat.zero_le _⟩ dX11_sheet_5 (fun H locs hw => ?_)
  refine lv_if_eq (tgt := 20) S.1 S.2.1 dX11_sheet_8 (by decide) (fun hc => ?_) (fun hc => ?_)
  · have hf := itt hf hc
    refine lv_bipush (v := -2) S.1 S.2.1 dX11_sheet_20 (by decide) ?_
    exact g_iret (XWd_ok D ad cs ts adK adV) S hr hlk hw dX11_sheet_22 (Prod.mk.inj (Option.some.inj hf)).1 (Prod.mk.inj (Option.some.inj hf)).2
  · have hf := itf hf hc
    refine lv_iload_n S.1 S.2.1 dX11_sheet_11 rfl (lv_at hl 2 rfl) ?_
    refine lv_iconst (v := -1) S.1 S.2.1 dX11_sheet_12 (by decide) ?_
    refine lv_iconst (v := 2) S.1 S.2.1 dX11_sheet_13 (by decide) ?_
    refine g_Si (rest := []) (XWd_ok D ad cs ts adK adV) S hw (tX11_within (ad := ad) (cs := cs) (ts := ts) (adK := adK) (adV := adV) (σ := σ) rfl) kt_X11_107 ⟨Nat.le_of_ble_eq_true rfl, Nat.le_of_ble_eq_true rfl⟩ rfl hl.1 rfl (Nat.le_of_ble_eq_true rfl) ⟨Nat.zero_le _, Nat.zero_le _⟩ dX11_sheet_14 (fun H locs hw => ?_)
    refine lv_if_ne (tgt := 23) S.1 S.2.1 dX11_sheet_17 (by decide) (fun hc => ?_) (fun hc => ?_)
    · have hf := itf hf hc
      refine lv_iload_n S.1 S.2.1 dX11_sheet_23 rfl (lv_at hl 2 rfl) ?_
      refine lv_iconst (v := -1) S.1 S.2.1 dX11_sheet_24 (by decide) ?_
      refine lv_icmp_ne (tgt := 37) S.1 S.2.1 dX11_sheet_25 (by decide) (fun hc => ?_) (fun hc => ?_)
      · have hf := itf hf hc
        refine lv_iload_n S.1 S.2.1 dX11_sheet_37 rfl (lv_at hl 3 rfl) ?_
        refine lv_bipush (v := 40) S.1 S.2.1 dX11_sheet_38 (by decide) ?_
        refine lv_icmp_le (tgt := 46) S.1 S.2.1 dX11_sheet_40 (by decide) (fun hc => ?_) (fun hc => ?_)
        · have hf := itt hf hc
          refine lv_iload_n S.1 S.2.1 dX11_sheet_46 rfl (lv_at hl 3 rfl) ?_
          refine lv_if_ge (tgt := 53) S.1 S.2.1 dX11_sheet_47 (by decide) (fun hc => ?_) (fun hc => ?_)
          · have hf := itt hf hc
            refine lv_aload_n S.1 S.2.1 dX11_sheet_53 rfl (lv_at hl 0 rfl) ?_
            refine xg_WayLeaves_sheets S hw kf_X11_92 dX11_sheet_54 ?_
            refine lv_iload_n S.1 S.2.1 dX11_sheet_57 rfl (lv_at hl 1 rfl) ?_
            refine lv_iload_n S.1 S.2.1 dX11_sheet_58 rfl (lv_at hl 2 rfl) ?_
            refine lv_iload_n S.1 S.2.1 dX11_sheet_59 rfl (lv_at hl 3 rfl) ?_
            obtain ⟨r3, σ1, g2, hf⟩ := bd2_s hf
            refine g_Vi (rest := []) (XWd_ok D ad cs ts adK adV) S hw (tX9_lay g2) kt_X11_326 11 xe_11 rfl rfl ⟨Nat.le_of_ble_eq_true rfl, Nat.le_of_ble_eq_true rfl⟩ rfl hl.1 rfl (Nat.le_of_ble_eq_true rfl) ⟨Nat.zero_le _, Nat.zero_le _⟩ dX11_sheet_60 (fun H locs hw => ?_)
            exact g_iret (XWd_ok D ad cs ts adK adV) S hr hlk hw dX11_sheet_63 (Prod.mk.inj (Option.some.inj hf)).1 (Prod.mk.inj (Option.some.inj hf)).2
          · have hf := itf hf hc
            refine lv_bipush (v := -14) S.1 S.2.1 dX11_sheet_50 (by decide) ?_
            exact g_iret (XWd_ok D ad cs ts adK adV) S hr hlk hw dX11_sheet_52 (Prod.mk.inj (Option.some.inj hf)).1 (Prod.mk.inj (Option.some.inj hf)).2
        · have hf := itf hf hc
          refine lv_bipush (v := -2) S.1 S.2.1 dX11_sheet_43 (by decide) ?_
          exact g_iret (XWd_ok D ad cs ts adK adV) S hr hlk hw dX11_sheet_45 (Prod.mk.inj (Option.some.inj hf)).1 (Prod.mk.inj (Option.some.inj hf)).2
      · have hf := itt hf hc
        refine lv_aload_n S.1 S.2.1 dX11_sheet_28 rfl (lv_at hl 0 rfl) ?_
        refine xg_WayLeaves_sheets S hw kf_X11_92 dX11_sheet_29 ?_
        refine lv_iload_n S.1 S.2.1 dX11_sheet_32 rfl (lv_at hl 1 rfl) ?_
        obtain ⟨r6, σ4, g5, hf⟩ := bd2_s hf
        refine g_Vi (rest := []) (XWd_ok D ad cs ts adK adV) S hw (tX9_remove g5) kt_X11_323 11 xe_11 rfl rfl ⟨Nat.le_of_ble_eq_true rfl, Nat.le_of_ble_eq_true rfl⟩ rfl hl.1 rfl (Nat.le_of_ble_eq_true rfl) ⟨Nat.zero_le _, Nat.zero_le _⟩ dX11_sheet_33 (fun H locs hw => ?_)
        exact g_iret (XWd_ok D ad cs ts adK adV) S hr hlk hw dX11_sheet_36 (Prod.mk.inj (Option.some.inj hf)).1 (Prod.mk.inj (Option.some.inj hf)).2
    · have hf := itt hf hc
      refine lv_bipush (v := -2) S.1 S.2.1 dX11_sheet_20 (by decide) ?_
      exact g_iret (XWd_ok D ad cs ts adK adV) S hr hlk hw dX11_sheet_22 (Prod.mk.inj (Option.some.inj hf)).1 (Prod.mk.inj (Option.some.inj hf)).2
def fX11_cell (N : Nat) (σ : St) (x1 : Int32) (x2 : Int32) (x3 : Int32) : Option (Int32 × St) :=
  if (fX9_isSheet x1) = 0 then (some ((-2 : Int32), σ)) else (bd (fX9_isMissing N σ x1) fun r1 => if r1 = 0 then (if ix x1 4 = true then if (fX11_within x2 (0 : Int32) ((aR σ 79 x1) - (1 : Int32))) = 0 then (some ((-12 : Int32), σ)) else (bd2 (fX9_write N σ x1 x2 x3) fun r6 σ4 => some (r6, σ4)) else none) else (some ((-11 : Int32), σ)))
set_option maxHeartbeats 2000000 in
set_option maxRecDepth 20000 in
theorem tX11_cell {r : Int32} {σ' : St} {N : Nat} {σ : St} {x1 : Int32} {x2 : Int32} {x3 : Int32} (hf : fX11_cell N σ x1 x2 x3 = some (r, σ')) : CI l (XWd D ad cs ts adK adV) yX11_cell cX11_cell 4 (some .int) 2 44 [.ref (ad 0), .int x1, .int x2, .int x3] σ r σ' := by
  refine CI.of (by decide) (Nat.le_of_ble_eq_true rfl) ?_
  intro p e s m below meth c ls S hr hlk hw hl
  have hl : lv_has ls 4 [(0, .ref (ad 0)), (1, .int x1), (2, .int x2), (3, .int x3)] := hl
  unfold fX11_cell at hf
  refine lv_aload_n S.1 S.2.1 dX11_cell_0 rfl (lv_at hl 0 rfl) ?_
  refine xg_WayLeaves_sheets S hw kf_X11_92 dX11_cell_1 ?_
  refine lv_iload_n S.1 S.2.1 dX11_cell_4 rfl (lv_at hl 1 rfl) ?_
  refine g_Vi (rest := []) (XWd_ok D ad cs ts adK adV) S hw (tX9_isSheet (ad := ad) (cs := cs) (ts := ts) (adK := adK) (adV := adV) (σ := σ) rfl) kt_X11_320 11 xe_11 rfl rfl ⟨Nat.le_of_ble_eq_true rfl, Nat.le_of_ble_eq_true rfl⟩ rfl hl.1 rfl (Nat.le_of_ble_eq_true rfl) ⟨Nat.zero_le _, Nat.zero_le _⟩ dX11_cell_5 (fun H locs hw => ?_)
  refine lv_if_ne (tgt := 14) S.1 S.2.1 dX11_cell_8 (by decide) (fun hc => ?_) (fun hc => ?_)
  · have hf := itf hf hc
    refine lv_aload_n S.1 S.2.1 dX11_cell_14 rfl (lv_at hl 0 rfl) ?_
    refine xg_WayLeaves_sheets S hw kf_X11_92 dX11_cell_15 ?_
    refine lv_iload_n S.1 S.2.1 dX11_cell_18 rfl (lv_at hl 1 rfl) ?_
    obtain ⟨r1, g2, hf⟩ := bd_s hf
    refine g_Vi (rest := []) (XWd_ok D ad cs ts adK adV) S hw (tX9_isMissing g2) kt_X11_329 11 xe_11 rfl rfl ⟨Nat.le_of_ble_eq_true rfl, Nat.le_of_ble_eq_true rfl⟩ rfl hl.1 rfl (Nat.le_of_ble_eq_true rfl) ⟨Nat.zero_le _, Nat.zero_le _⟩ dX11_cell_19 (fun H locs hw => ?_)
    refine lv_if_eq (tgt := 28) S.1 S.2.1 dX11_cell_22 (by decide) (fun hc => ?_) (fun hc => ?_)
    · have hf := itt hf hc
      refine lv_iload_n S.1 S.2.1 dX11_cell_28 rfl (lv_at hl 2 rfl) ?_
      refine lv_iconst (v := 0) S.1 S.2.1 dX11_cell_29 (by decide) ?_
      refine lv_aload_n S.1 S.2.1 dX11_cell_30 rfl (lv_at hl 0 rfl) ?_
      refine xg_WayLeaves_sheets S hw kf_X11_92 dX11_cell_31 ?_
      refine xg_Sheets_sizes S hw kf_X11_332 dX11_cell_34 ?_
      refine lv_iload_n S.1 S.2.1 dX11_cell_37 rfl (lv_at hl 1 rfl) ?_
      obtain ⟨h3, hf⟩ := gd_ix hf
      refine g_iald S hw 79 0 xe_79 rfl h3 dX11_cell_38 ?_
      refine lv_iconst (v := 1) S.1 S.2.1 dX11_cell_39 (by decide) ?_
      refine lv_isub S.1 S.2.1 dX11_cell_40 ?_
      refine g_Si (rest := []) (XWd_ok D ad cs ts adK adV) S hw (tX11_within (ad := ad) (cs := cs) (ts := ts) (adK := adK) (adV := adV) (σ := σ) rfl) kt_X11_107 ⟨Nat.le_of_ble_eq_true rfl, Nat.le_of_ble_eq_true rfl⟩ rfl hl.1 rfl (Nat.le_of_ble_eq_true rfl) ⟨Nat.zero_le _, Nat.zero_le _⟩ dX11_cell_41 (fun H locs hw => ?_)
      refine lv_if_ne (tgt := 50) S.1 S.2.1 dX11_cell_44 (by decide) (fun hc => ?_) (fun hc => ?_)
      · have hf := itf hf hc
        refine lv_aload_n S.1 S.2.1 dX11_cell_50 rfl (lv_at hl 0 rfl) ?_
        refine xg_WayLeaves_sheets S hw kf_X11_92 dX11_cell_51 ?_
        refine lv_iload_n S.1 S.2.1 dX11_cell_54 rfl (lv_at hl 1 rfl) ?_
        refine lv_iload_n S.1 S.2.1 dX11_cell_55 rfl (lv_at hl 2 rfl) ?_
        refine lv_iload_n S.1 S.2.1 dX11_cell_56 rfl (lv_at hl 3 rfl) ?_
        obtain ⟨r6, σ4, g5, hf⟩ := bd2_s hf
        refine g_Vi (rest := []) (XWd_ok D ad cs ts adK adV) S hw (tX9_write g5) kt_X11_335 11 xe_11 rfl rfl ⟨Nat.le_of_ble_eq_true rfl, Nat.le_of_ble_eq_true rfl⟩ rfl hl.1 rfl (Nat.le_of_ble_eq_true rfl) ⟨Nat.zero_le _, Nat.zero_le _⟩ dX11_cell_57 (fun H locs hw => ?_)
        exact g_iret (XWd_ok D ad cs ts adK adV) S hr hlk hw dX11_cell_60 (Prod.mk.inj (Option.some.inj hf)).1 (Prod.mk.inj (Option.some.inj hf)).2
      · have hf := itt hf hc
        refine lv_bipush (v := -12) S.1 S.2.1 dX11_cell_47 (by decide) ?_
        exact g_iret (XWd_ok D ad cs ts adK adV) S hr hlk hw dX11_cell_49 (Prod.mk.inj (Option.some.inj hf)).1 (Prod.mk.inj (Option.some.inj hf)).2
    · have hf := itf hf hc
      refine lv_bipush (v := -11) S.1 S.2.1 dX11_cell_25 (by decide) ?_
      exact g_iret (XWd_ok D ad cs ts adK adV) S hr hlk hw dX11_cell_27 (Prod.mk.inj (Option.some.inj hf)).1 (Prod.mk.inj (Option.some.inj hf)).2
  · have hf := itt hf hc
    refine lv_bipush (v := -2) S.1 S.2.1 dX11_cell_11 (by decide) ?_
    exact g_iret (XWd_ok D ad cs ts adK adV) S hr hlk hw dX11_cell_13 (Prod.mk.inj (Option.some.inj hf)).1 (Prod.mk.inj (Option.some.inj hf)).2
def fX11_copy (N : Nat) (σ : St) (x1 : Int32) (x2 : Int32) (x3 : Int32) (x4 : Int32) (x5 : Int32) : Option (Int32 × St) :=
  if (fX9_isSheet x1) = 0 then (some ((-2 : Int32), σ)) else (if (fX9_isSheet x3) = 0 then (some ((-2 : Int32), σ)) else (bd (fX9_isMissing N σ x1) fun r1 => if r1 = 0 then (bd (fX9_isMissing N σ x3) fun r3 => if r3 = 0 then (if ix x1 4 = true then if ix x3 4 = true then if (aR σ 78 x1) = (aR σ 78 x3) then (bd (fX9_hasPlaces N σ x1 x2 x5) fun r7 => if r7 = 0 then (some ((-12 : Int32), σ)) else (bd (fX9_hasPlaces N σ x3 x4 x5) fun r9 => if r9 = 0 then (some ((-12 : Int32), σ)) else (if ix x1 4 = true then if ix x3 4 = true then if cpok x2 x4 x5 40 40 = true then nm (sA σ (81 + (x3).toNatClampNeg) (va_cpy (σ.2.1 (81 + (x1).toNatClampNeg)) (σ.2.1 (81 + (x3).toNatClampNeg)) (x2).toNatClampNeg (x4).toNatClampNeg (x5).toNatClampNeg)) fun σ14 => some (x5, σ14) else none else none else none))) else (some ((-13 : Int32), σ)) else none else none) else (some ((-11 : Int32), σ))) else (some ((-11 : Int32), σ))))
set_option maxHeartbeats 2000000 in
set_option maxRecDepth 20000 in
theorem tX11_copy {r : Int32} {σ' : St} {N : Nat} {σ : St} {x1 : Int32} {x2 : Int32} {x3 : Int32} {x4 : Int32} {x5 : Int32} (hf : fX11_copy N σ x1 x2 x3 x4 x5 = some (r, σ')) : CI l (XWd D ad cs ts adK adV) yX11_copy cX11_copy 6 (some .int) 2 79 [.ref (ad 0), .int x1, .int x2, .int x3, .int x4, .int x5] σ r σ' := by
  refine CI.of (by decide) (Nat.le_of_ble_eq_true rfl) ?_
  intro p e s m below meth c ls S hr hlk hw hl
  have hl : lv_has ls 6 [(0, .ref (ad 0)), (1, .int x1), (2, .int x2), (3, .int x3), (4, .int x4), (5, .int x5)] := hl
  unfold fX11_copy at hf
  refine lv_aload_n S.1 S.2.1 dX11_copy_0 rfl (lv_at hl 0 rfl) ?_
  refine xg_WayLeaves_sheets S hw kf_X11_92 dX11_copy_1 ?_
  refine lv_iload_n S.1 S.2.1 dX11_copy_4 rfl (lv_at hl 1 rfl) ?_
  refine g_Vi (rest := []) (XWd_ok D ad cs ts adK adV) S hw (tX9_isSheet (ad := ad) (cs := cs) (ts := ts) (adK := adK) (adV := adV) (σ := σ) rfl) kt_X11_320 11 xe_11 rfl rfl ⟨Nat.le_of_ble_eq_true rfl, Nat.le_of_ble_eq_true rfl⟩ rfl hl.1 rfl (Nat.le_of_ble_eq_true rfl) ⟨Nat.zero_le _, Nat.zero_le _⟩ dX11_copy_5 (fun H locs hw => ?_)
  refine lv_if_eq (tgt := 22) S.1 S.2.1 dX11_copy_8 (by decide) (fun hc => ?_) (fun hc => ?_)
  · have hf := itt hf hc
    refine lv_bipush (v := -2) S.1 S.2.1 dX11_copy_22 (by decide) ?_
    exact g_iret (XWd_ok D ad cs ts adK adV) S hr hlk hw dX11_copy_24 (Prod.mk.inj (Option.some.inj hf)).1 (Prod.mk.inj (Option.some.inj hf)).2
  · have hf := itf hf hc
    refine lv_aload_n S.1 S.2.1 dX11_copy_11 rfl (lv_at hl 0 rfl) ?_
    refine xg_WayLeaves_sheets S hw kf_X11_92 dX11_copy_12 ?_
    refine lv_iload_n S.1 S.2.1 dX11_copy_15 rfl (lv_at hl 3 rfl) ?_
    refine g_Vi (rest := []) (XWd_ok D ad cs ts adK adV) S hw (tX9_isSheet (ad := ad) (cs := cs) (ts := ts) (adK := adK) (adV := adV) (σ := σ) rfl) kt_X11_320 11 xe_11 rfl rfl ⟨Nat.le_of_ble_eq_true rfl, Nat.le_of_ble_eq_true rfl⟩ rfl hl.1 rfl (Nat.le_of_ble_eq_true rfl) ⟨Nat.zero_le _, Nat.zero_le _⟩ dX11_copy_16 (fun H locs hw => ?_)
    refine lv_if_ne (tgt := 25) S.1 S.2.1 dX11_copy_19 (by decide) (fun hc => ?_) (fun hc => ?_)
    · have hf := itf hf hc
      refine lv_aload_n S.1 S.2.1 dX11_copy_25 rfl (lv_at hl 0 rfl) ?_
      refine xg_WayLeaves_sheets S hw kf_X11_92 dX11_copy_26 ?_
      refine lv_iload_n S.1 S.2.1 dX11_copy_29 rfl (lv_at hl 1 rfl) ?_
      obtain ⟨r1, g2, hf⟩ := bd_s hf
      refine g_Vi (rest := []) (XWd_ok D ad cs ts adK adV) S hw (tX9_isMissing g2) kt_X11_329 11 xe_11 rfl rfl ⟨Nat.le_of_ble_eq_true rfl, Nat.le_of_ble_eq_true rfl⟩ rfl hl.1 rfl (Nat.le_of_ble_eq_true rfl) ⟨Nat.zero_le _, Nat.zero_le _⟩ dX11_copy_30 (fun H locs hw => ?_)
      refine lv_if_ne (tgt := 47) S.1 S.2.1 dX11_copy_33 (by decide) (fun hc => ?_) (fun hc => ?_)
      · have hf := itf hf hc
        refine lv_bipush (v := -11) S.1 S.2.1 dX11_copy_47 (by decide) ?_
        exact g_iret (XWd_ok D ad cs ts adK adV) S hr hlk hw dX11_copy_49 (Prod.mk.inj (Option.some.inj hf)).1 (Prod.mk.inj (Option.some.inj hf)).2
      · have hf := itt hf hc
        refine lv_aload_n S.1 S.2.1 dX11_copy_36 rfl (lv_at hl 0 rfl) ?_
        refine xg_WayLeaves_sheets S hw kf_X11_92 dX11_copy_37 ?_
        refine lv_iload_n S.1 S.2.1 dX11_copy_40 rfl (lv_at hl 3 rfl) ?_
        obtain ⟨r3, g4, hf⟩ := bd_s hf
        refine g_Vi (rest := []) (XWd_ok D ad cs ts adK adV) S hw (tX9_isMissing g4) kt_X11_329 11 xe_11 rfl rfl ⟨Nat.le_of_ble_eq_true rfl, Nat.le_of_ble_eq_true rfl⟩ rfl hl.1 rfl (Nat.le_of_ble_eq_true rfl) ⟨Nat.zero_le _, Nat.zero_le _⟩ dX11_copy_41 (fun H locs hw => ?_)
        refine lv_if_eq (tgt := 50) S.1 S.2.1 dX11_copy_44 (by decide) (fun hc => ?_) (fun hc => ?_)
        · have hf := itt hf hc
          refine lv_aload_n S.1 S.2.1 dX11_copy_50 rfl (lv_at hl 0 rfl) ?_
          refine xg_WayLeaves_sheets S hw kf_X11_92 dX11_copy_51 ?_
          refine xg_Sheets_sorts S hw kf_X11_338 dX11_copy_54 ?_
          refine lv_iload_n S.1 S.2.1 dX11_copy_57 rfl (lv_at hl 1 rfl) ?_
          obtain ⟨h5, hf⟩ := gd_ix hf
          refine g_iald S hw 78 0 xe_78 rfl h5 dX11_copy_58 ?_
          refine lv_aload_n S.1 S.2.1 dX11_copy_59 rfl (lv_at hl 0 rfl) ?_
          refine xg_WayLeaves_sheets S hw kf_X11_92 dX11_copy_60 ?_
          refine xg_Sheets_sorts S hw kf_X11_338 dX11_copy_63 ?_
          refine lv_iload_n S.1 S.2.1 dX11_copy_66 rfl (lv_at hl 3 rfl) ?_
          obtain ⟨h6, hf⟩ := gd_ix hf
          refine g_iald S hw 78 0 xe_78 rfl h6 dX11_copy_67 ?_
          refine lv_icmp_eq (tgt := 74) S.1 S.2.1 dX11_copy_68 (by decide) (fun hc => ?_) (fun hc => ?_)
          · have hf := itt hf hc
            refine lv_aload_n S.1 S.2.1 dX11_copy_74 rfl (lv_at hl 0 rfl) ?_
            refine xg_WayLeaves_sheets S hw kf_X11_92 dX11_copy_75 ?_
            refine lv_iload_n S.1 S.2.1 dX11_copy_78 rfl (lv_at hl 1 rfl) ?_
            refine lv_iload_n S.1 S.2.1 dX11_copy_79 rfl (lv_at hl 2 rfl) ?_
            refine lv_iload S.1 S.2.1 dX11_copy_80 (lv_at hl 5 rfl) ?_
            obtain ⟨r7, g8, hf⟩ := bd_s hf
            refine g_Vi (rest := []) (XWd_ok D ad cs ts adK adV) S hw (tX9_hasPlaces g8) kt_X11_341 11 xe_11 rfl rfl ⟨Nat.le_of_ble_eq_true rfl, Nat.le_of_ble_eq_true rfl⟩ rfl hl.1 rfl (Nat.le_of_ble_eq_true rfl) ⟨Nat.zero_le _, Nat.zero_le _⟩ dX11_copy_82 (fun H locs hw => ?_)
            refine lv_if_eq (tgt := 103) S.1 S.2.1 dX11_copy_85 (by decide) (fun hc => ?_) (fun hc => ?_)
            · have hf := itt hf hc
              refine lv_bipush (v := -12) S.1 S.2.1 dX11_copy_103 (by decide) ?_
              exact g_iret (XWd_ok D ad cs ts adK adV) S hr hlk hw dX11_copy_105 (Prod.mk.inj (Option.some.inj hf)).1 (Prod.mk.inj (Option.some.inj hf)).2
            · have hf := itf hf hc
              refine lv_aload_n S.1 S.2.1 dX11_copy_88 rfl (lv_at hl 0 rfl) ?_
              refine xg_WayLeaves_sheets S hw kf_X11_92 dX11_copy_89 ?_
              refine lv_iload_n S.1 S.2.1 dX11_copy_92 rfl (lv_at hl 3 rfl) ?_
              refine lv_iload S.1 S.2.1 dX11_copy_93 (lv_at hl 4 rfl) ?_
              refine lv_iload S.1 S.2.1 dX11_copy_95 (lv_at hl 5 rfl) ?_
              obtain ⟨r9, g10, hf⟩ := bd_s hf
              refine g_Vi (rest := []) (XWd_ok D ad cs ts adK adV) S hw (tX9_hasPlaces g10) kt_X11_341 11 xe_11 rfl rfl ⟨Nat.le_of_ble_eq_true rfl, Nat.le_of_ble_eq_true rfl⟩ rfl hl.1 rfl (Nat.le_of_ble_eq_true rfl) ⟨Nat.zero_le _, Nat.zero_le _⟩ dX11_copy_97 (fun H locs hw => ?_)
              refine lv_if_ne (tgt := 106) S.1 S.2.1 dX11_copy_100 (by decide) (fun hc => ?_) (fun hc => ?_)
              · have hf := itf hf hc
                refine lv_aload_n S.1 S.2.1 dX11_copy_106 rfl (lv_at hl 0 rfl) ?_
                refine xg_WayLeaves_sheets S hw kf_X11_92 dX11_copy_107 ?_
                refine xg_Sheets_rows S hw kf_X11_344 dX11_copy_110 ?_
                refine lv_iload_n S.1 S.2.1 dX11_copy_113 rfl (lv_at hl 1 rfl) ?_
                obtain ⟨h11, hf⟩ := gd_ix hf
                refine g_aald S hw 80 3 xe_80 rfl h11 dX11_copy_114 ?_
                refine lv_iload_n S.1 S.2.1 dX11_copy_115 rfl (lv_at hl 2 rfl) ?_
                refine lv_aload_n S.1 S.2.1 dX11_copy_116 rfl (lv_at hl 0 rfl) ?_
                refine xg_WayLeaves_sheets S hw kf_X11_92 dX11_copy_117 ?_
                refine xg_Sheets_rows S hw kf_X11_344 dX11_copy_120 ?_
                refine lv_iload_n S.1 S.2.1 dX11_copy_123 rfl (lv_at hl 3 rfl) ?_
                obtain ⟨h12, hf⟩ := gd_ix hf
                refine g_aald S hw 80 3 xe_80 rfl h12 dX11_copy_124 ?_
                refine lv_iload S.1 S.2.1 dX11_copy_125 (lv_at hl 4 rfl) ?_
                refine lv_iload S.1 S.2.1 dX11_copy_127 (lv_at hl 5 rfl) ?_
                obtain ⟨h13, hf⟩ := gd_cp hf
                obtain ⟨σ14, e15⟩ : ∃ z : St, z = sA σ (81 + (x3).toNatClampNeg) (va_cpy (σ.2.1 (81 + (x1).toNatClampNeg)) (σ.2.1 (81 + (x3).toNatClampNeg)) (x2).toNatClampNeg (x4).toNatClampNeg (x5).toNatClampNeg) := ⟨_, rfl⟩
                have hf := nm_s e15 hf
                refine g_cpy (σ' := σ14) (rest := []) S hl.1 kcp_X11 hw (81 + (x1).toNatClampNeg) (81 + (x3).toNatClampNeg) (x2_81 (vp_lt h11)) (x2_81 (vp_lt h12)) rfl h13 (by rw [e15]; exact xt_81 (vp_lt h12) _) (Nat.le_of_ble_eq_true rfl) (Nat.le_of_ble_eq_true rfl) dX11_copy_129 (fun H locs hw => ?_)
                refine lv_iload S.1 S.2.1 dX11_copy_132 (lv_at hl 5 rfl) ?_
                exact g_iret (XWd_ok D ad cs ts adK adV) S hr hlk hw dX11_copy_134 (Prod.mk.inj (Option.some.inj hf)).1 (Prod.mk.inj (Option.some.inj hf)).2
              · have hf := itt hf hc
                refine lv_bipush (v := -12) S.1 S.2.1 dX11_copy_103 (by decide) ?_
                exact g_iret (XWd_ok D ad cs ts adK adV) S hr hlk hw dX11_copy_105 (Prod.mk.inj (Option.some.inj hf)).1 (Prod.mk.inj (Option.some.inj hf)).2
          · have hf := itf hf hc
            refine lv_bipush (v := -13) S.1 S.2.1 dX11_copy_71 (by decide) ?_
            exact g_iret (XWd_ok D ad cs ts adK adV) S hr hlk hw dX11_copy_73 (Prod.mk.inj (Option.some.inj hf)).1 (Prod.mk.inj (Option.some.inj hf)).2
        · have hf := itf hf hc
          refine lv_bipush (v := -11) S.1 S.2.1 dX11_copy_47 (by decide) ?_
          exact g_iret (XWd_ok D ad cs ts adK adV) S hr hlk hw dX11_copy_49 (Prod.mk.inj (Option.some.inj hf)).1 (Prod.mk.inj (Option.some.inj hf)).2
    · have hf := itt hf hc
      refine lv_bipush (v := -2) S.1 S.2.1 dX11_copy_22 (by decide) ?_
      exact g_iret (XWd_ok D ad cs ts adK adV) S hr hlk hw dX11_copy_24 (Prod.mk.inj (Option.some.inj hf)).1 (Prod.mk.inj (Option.some.inj hf)).2
def fX11_costs (N : Nat) (σ : St) (x1 : Int32) (x2 : Int32) (x3 : Int32) (x4 : Int32) (x5 : Int32) : Option (Int32 × St) :=
  if (fX11_isPlot x1) = 0 then (some ((-2 : Int32), σ)) else (if (fX9_isSheet x2) = 0 then (some ((-2 : Int32), σ)) else (if (fX11_within x3 (0 : Int32) (2 : Int32)) = 0 then (some ((-2 : Int32), σ)) else (if (fX11_within x5 (0 : Int32) (40 : Int32)) = 0 then (some ((-2 : Int32), σ)) else (bd (fX9_isMissing N σ x2) fun r1 => if r1 = 0 then (if ix x2 4 = true then if (aR σ 78 x2) = x3 then (bd2 (fX9_tellCosts N σ x1 x2 x4 x5) fun r6 σ4 => some (r6, σ4)) else (some ((-13 : Int32), σ)) else none) else (some ((-11 : Int32), σ))))))
set_option maxHeartbeats 2000000 in
set_option maxRecDepth 20000 in
theorem tX11_costs {r : Int32} {σ' : St} {N : Nat} {σ : St} {x1 : Int32} {x2 : Int32} {x3 : Int32} {x4 : Int32} {x5 : Int32} (hf : fX11_costs N σ x1 x2 x3 x4 x5 = some (r, σ')) : CI l (XWd D ad cs ts adK adV) yX11_costs cX11_costs 6 (some .int) 3 69 [.ref (ad 0), .int x1, .int x2, .int x3, .int x4, .int x5] σ r σ' := by
  refine CI.of (by decide) (Nat.le_of_ble_eq_true rfl) ?_
  intro p e s m below meth c ls S hr hlk hw hl
  have hl : lv_has ls 6 [(0, .ref (ad 0)), (1, .int x1), (2, .int x2), (3, .int x3), (4, .int x4), (5, .int x5)] := hl
  unfold fX11_costs at hf
  refine lv_iload_n S.1 S.2.1 dX11_costs_0 rfl (lv_at hl 1 rfl) ?_
  refine g_Si (rest := []) (XWd_ok D ad cs ts adK adV) S hw (tX11_isPlot (ad := ad) (cs := cs) (ts := ts) (adK := adK) (adV := adV) (σ := σ) rfl) kt_X11_115 ⟨Nat.le_of_ble_eq_true rfl, Nat.le_of_ble_eq_true rfl⟩ rfl hl.1 rfl (Nat.le_of_ble_eq_true rfl) ⟨Nat.zero_le _, Nat.zero_le _⟩ dX11_costs_1 (fun H locs hw => ?_)
  refine lv_if_eq (tgt := 18) S.1 S.2.1 dX11_costs_4 (by decide) (fun hc => ?_) (fun hc => ?_)
  · have hf := itt hf hc
    refine lv_bipush (v := -2) S.1 S.2.1 dX11_costs_18 (by decide) ?_
    exact g_iret (XWd_ok D ad cs ts adK adV) S hr hlk hw dX11_costs_20 (Prod.mk.inj (Option.some.inj hf)).1 (Prod.mk.inj (Option.some.inj hf)).2
  · have hf := itf hf hc
    refine lv_aload_n S.1 S.2.1 dX11_costs_7 rfl (lv_at hl 0 rfl) ?_
    refine xg_WayLeaves_sheets S hw kf_X11_92 dX11_costs_8 ?_
    refine lv_iload_n S.1 S.2.1 dX11_costs_11 rfl (lv_at hl 2 rfl) ?_
    refine g_Vi (rest := []) (XWd_ok D ad cs ts adK adV) S hw (tX9_isSheet (ad := ad) (cs := cs) (ts := ts) (adK := adK) (adV := adV) (σ := σ) rfl) kt_X11_320 11 xe_11 rfl rfl ⟨Nat.le_of_ble_eq_true rfl, Nat.le_of_ble_eq_true rfl⟩ rfl hl.1 rfl (Nat.le_of_ble_eq_true rfl) ⟨Nat.zero_le _, Nat.zero_le _⟩ dX11_costs_12 (fun H locs hw => ?_)
    refine lv_if_ne (tgt := 21) S.1 S.2.1 dX11_costs_15 (by decide) (fun hc => ?_) (fun hc => ?_)
    · have hf := itf hf hc
      refine lv_iload_n S.1 S.2.1 dX11_costs_21 rfl (lv_at hl 3 rfl) ?_
      refine lv_iconst (v := 0) S.1 S.2.1 dX11_costs_22 (by decide) ?_
      refine lv_iconst (v := 2) S.1 S.2.1 dX11_costs_23 (by decide) ?_
      refine g_Si (rest := []) (XWd_ok D ad cs ts adK adV) S hw (tX11_within (ad := ad) (cs := cs) (ts := ts) (adK := adK) (adV := adV) (σ := σ) rfl) kt_X11_107 ⟨Nat.le_of_ble_eq_true rfl, Nat.le_of_ble_eq_true rfl⟩ rfl hl.1 rfl (Nat.le_of_ble_eq_true rfl) ⟨Nat.zero_le _, Nat.zero_le _⟩ dX11_costs_24 (fun H locs hw => ?_)
      refine lv_if_eq (tgt := 41) S.1 S.2.1 dX11_costs_27 (by decide) (fun hc => ?_) (fun hc => ?_)
      · have hf := itt hf hc
        refine lv_bipush (v := -2) S.1 S.2.1 dX11_costs_41 (by decide) ?_
        exact g_iret (XWd_ok D ad cs ts adK adV) S hr hlk hw dX11_costs_43 (Prod.mk.inj (Option.some.inj hf)).1 (Prod.mk.inj (Option.some.inj hf)).2
      · have hf := itf hf hc
        refine lv_iload S.1 S.2.1 dX11_costs_30 (lv_at hl 5 rfl) ?_
        refine lv_iconst (v := 0) S.1 S.2.1 dX11_costs_32 (by decide) ?_
        refine lv_bipush (v := 40) S.1 S.2.1 dX11_costs_33 (by decide) ?_
        refine g_Si (rest := []) (XWd_ok D ad cs ts adK adV) S hw (tX11_within (ad := ad) (cs := cs) (ts := ts) (adK := adK) (adV := adV) (σ := σ) rfl) kt_X11_107 ⟨Nat.le_of_ble_eq_true rfl, Nat.le_of_ble_eq_true rfl⟩ rfl hl.1 rfl (Nat.le_of_ble_eq_true rfl) ⟨Nat.zero_le _, Nat.zero_le _⟩ dX11_costs_35 (fun H locs hw => ?_)
        refine lv_if_ne (tgt := 44) S.1 S.2.1 dX11_costs_38 (by decide) (fun hc => ?_) (fun hc => ?_)
        · have hf := itf hf hc
          refine lv_aload_n S.1 S.2.1 dX11_costs_44 rfl (lv_at hl 0 rfl) ?_
          refine xg_WayLeaves_sheets S hw kf_X11_92 dX11_costs_45 ?_
          refine lv_iload_n S.1 S.2.1 dX11_costs_48 rfl (lv_at hl 2 rfl) ?_
          obtain ⟨r1, g2, hf⟩ := bd_s hf
          refine g_Vi (rest := []) (XWd_ok D ad cs ts adK adV) S hw (tX9_isMissing g2) kt_X11_329 11 xe_11 rfl rfl ⟨Nat.le_of_ble_eq_true rfl, Nat.le_of_ble_eq_true rfl⟩ rfl hl.1 rfl (Nat.le_of_ble_eq_true rfl) ⟨Nat.zero_le _, Nat.zero_le _⟩ dX11_costs_49 (fun H locs hw => ?_)
          refine lv_if_eq (tgt := 58) S.1 S.2.1 dX11_costs_52 (by decide) (fun hc => ?_) (fun hc => ?_)
          · have hf := itt hf hc
            refine lv_aload_n S.1 S.2.1 dX11_costs_58 rfl (lv_at hl 0 rfl) ?_
            refine xg_WayLeaves_sheets S hw kf_X11_92 dX11_costs_59 ?_
            refine xg_Sheets_sorts S hw kf_X11_338 dX11_costs_62 ?_
            refine lv_iload_n S.1 S.2.1 dX11_costs_65 rfl (lv_at hl 2 rfl) ?_
            obtain ⟨h3, hf⟩ := gd_ix hf
            refine g_iald S hw 78 0 xe_78 rfl h3 dX11_costs_66 ?_
            refine lv_iload_n S.1 S.2.1 dX11_costs_67 rfl (lv_at hl 3 rfl) ?_
            refine lv_icmp_eq (tgt := 74) S.1 S.2.1 dX11_costs_68 (by decide) (fun hc => ?_) (fun hc => ?_)
            · have hf := itt hf hc
              refine lv_aload_n S.1 S.2.1 dX11_costs_74 rfl (lv_at hl 0 rfl) ?_
              refine xg_WayLeaves_sheets S hw kf_X11_92 dX11_costs_75 ?_
              refine lv_iload_n S.1 S.2.1 dX11_costs_78 rfl (lv_at hl 1 rfl) ?_
              refine lv_iload_n S.1 S.2.1 dX11_costs_79 rfl (lv_at hl 2 rfl) ?_
              refine lv_iload S.1 S.2.1 dX11_costs_80 (lv_at hl 4 rfl) ?_
              refine lv_iload S.1 S.2.1 dX11_costs_82 (lv_at hl 5 rfl) ?_
              obtain ⟨r6, σ4, g5, hf⟩ := bd2_s hf
              refine g_Vi (rest := []) (XWd_ok D ad cs ts adK adV) S hw (tX9_tellCosts g5) kt_X11_354 11 xe_11 rfl rfl ⟨Nat.le_of_ble_eq_true rfl, Nat.le_of_ble_eq_true rfl⟩ rfl hl.1 rfl (Nat.le_of_ble_eq_true rfl) ⟨Nat.zero_le _, Nat.zero_le _⟩ dX11_costs_84 (fun H locs hw => ?_)
              exact g_iret (XWd_ok D ad cs ts adK adV) S hr hlk hw dX11_costs_87 (Prod.mk.inj (Option.some.inj hf)).1 (Prod.mk.inj (Option.some.inj hf)).2
            · have hf := itf hf hc
              refine lv_bipush (v := -13) S.1 S.2.1 dX11_costs_71 (by decide) ?_
              exact g_iret (XWd_ok D ad cs ts adK adV) S hr hlk hw dX11_costs_73 (Prod.mk.inj (Option.some.inj hf)).1 (Prod.mk.inj (Option.some.inj hf)).2
          · have hf := itf hf hc
            refine lv_bipush (v := -11) S.1 S.2.1 dX11_costs_55 (by decide) ?_
            exact g_iret (XWd_ok D ad cs ts adK adV) S hr hlk hw dX11_costs_57 (Prod.mk.inj (Option.some.inj hf)).1 (Prod.mk.inj (Option.some.inj hf)).2
        · have hf := itt hf hc
          refine lv_bipush (v := -2) S.1 S.2.1 dX11_costs_41 (by decide) ?_
          exact g_iret (XWd_ok D ad cs ts adK adV) S hr hlk hw dX11_costs_43 (Prod.mk.inj (Option.some.inj hf)).1 (Prod.mk.inj (Option.some.inj hf)).2
    · have hf := itt hf hc
      refine lv_bipush (v := -2) S.1 S.2.1 dX11_costs_18 (by decide) ?_
      exact g_iret (XWd_ok D ad cs ts adK adV) S hr hlk hw dX11_costs_20 (Prod.mk.inj (Option.some.inj hf)).1 (Prod.mk.inj (Option.some.inj hf)).2
def fX11_taken (N : Nat) (σ : St) (x1 : Int32) (x2 : Int32) : Option Int32 :=
  if (fX11_within x2 (0 : Int32) (5 : Int32)) = 0 then (some (-2 : Int32)) else (if (fX5_isLeave σ x1) = 0 then (some (-11 : Int32)) else (bd (fX5_isUnder N σ x1 x2) fun r1 => if r1 = 0 then (some (-13 : Int32)) else (if ix x1 24 = true then some (aR σ 43 x1) else none)))
set_option maxHeartbeats 2000000 in
set_option maxRecDepth 20000 in
theorem tX11_taken {r : Int32} {N : Nat} {σ : St} {x1 : Int32} {x2 : Int32} (hf : fX11_taken N σ x1 x2 = some r) : CI l (XWd D ad cs ts adK adV) yX11_taken cX11_taken 3 (some .int) 2 43 [.ref (ad 0), .int x1, .int x2] σ r σ := by
  refine CI.of (by decide) (Nat.le_of_ble_eq_true rfl) ?_
  intro p e s m below meth c ls S hr hlk hw hl
  have hl : lv_has ls 3 [(0, .ref (ad 0)), (1, .int x1), (2, .int x2)] := hl
  unfold fX11_taken at hf
  refine lv_iload_n S.1 S.2.1 dX11_taken_0 rfl (lv_at hl 2 rfl) ?_
  refine lv_iconst (v := 0) S.1 S.2.1 dX11_taken_1 (by decide) ?_
  refine lv_iconst (v := 5) S.1 S.2.1 dX11_taken_2 (by decide) ?_
  refine g_Si (rest := []) (XWd_ok D ad cs ts adK adV) S hw (tX11_within (ad := ad) (cs := cs) (ts := ts) (adK := adK) (adV := adV) (σ := σ) rfl) kt_X11_107 ⟨Nat.le_of_ble_eq_true rfl, Nat.le_of_ble_eq_true rfl⟩ rfl hl.1 rfl (Nat.le_of_ble_eq_true rfl) ⟨Nat.zero_le _, Nat.zero_le _⟩ dX11_taken_3 (fun H locs hw => ?_)
  refine lv_if_ne (tgt := 12) S.1 S.2.1 dX11_taken_6 (by decide) (fun hc => ?_) (fun hc => ?_)
  · have hf := itf hf hc
    refine lv_aload_n S.1 S.2.1 dX11_taken_12 rfl (lv_at hl 0 rfl) ?_
    refine xg_WayLeaves_leaves S hw kf_X11_37 dX11_taken_13 ?_
    refine lv_iload_n S.1 S.2.1 dX11_taken_16 rfl (lv_at hl 1 rfl) ?_
    refine g_Vi (rest := []) (XWd_ok D ad cs ts adK adV) S hw (tX5_isLeave (ad := ad) (cs := cs) (ts := ts) (adK := adK) (adV := adV) (σ := σ) rfl) kt_X11_208 4 xe_4 rfl rfl ⟨Nat.le_of_ble_eq_true rfl, Nat.le_of_ble_eq_true rfl⟩ rfl hl.1 rfl (Nat.le_of_ble_eq_true rfl) ⟨Nat.zero_le _, Nat.zero_le _⟩ dX11_taken_17 (fun H locs hw => ?_)
    refine lv_if_ne (tgt := 26) S.1 S.2.1 dX11_taken_20 (by decide) (fun hc => ?_) (fun hc => ?_)
    · have hf := itf hf hc
      refine lv_aload_n S.1 S.2.1 dX11_taken_26 rfl (lv_at hl 0 rfl) ?_
      refine xg_WayLeaves_leaves S hw kf_X11_37 dX11_taken_27 ?_
      refine lv_iload_n S.1 S.2.1 dX11_taken_30 rfl (lv_at hl 1 rfl) ?_
      refine lv_iload_n S.1 S.2.1 dX11_taken_31 rfl (lv_at hl 2 rfl) ?_
      obtain ⟨r1, g2, hf⟩ := bd_s hf
      refine g_Vi (rest := []) (XWd_ok D ad cs ts adK adV) S hw (tX5_isUnder g2) kt_X11_357 4 xe_4 rfl rfl ⟨Nat.le_of_ble_eq_true rfl, Nat.le_of_ble_eq_true rfl⟩ rfl hl.1 rfl (Nat.le_of_ble_eq_true rfl) ⟨Nat.zero_le _, Nat.zero_le _⟩ dX11_taken_32 (fun H locs hw => ?_)
      refine lv_if_eq (tgt := 50) S.1 S.2.1 dX11_taken_35 (by decide) (fun hc => ?_) (fun hc => ?_)
      · have hf := itt hf hc
        refine lv_bipush (v := -13) S.1 S.2.1 dX11_taken_50 (by decide) ?_
        exact g_iret (XWd_ok D ad cs ts adK adV) S hr hlk hw dX11_taken_52 (Option.some.inj hf) rfl
      · have hf := itf hf hc
        refine lv_aload_n S.1 S.2.1 dX11_taken_38 rfl (lv_at hl 0 rfl) ?_
        refine xg_WayLeaves_leaves S hw kf_X11_37 dX11_taken_39 ?_
        refine xg_Leaves_spans S hw kf_X11_211 dX11_taken_42 ?_
        refine lv_iload_n S.1 S.2.1 dX11_taken_45 rfl (lv_at hl 1 rfl) ?_
        obtain ⟨h3, hf⟩ := gd_ix hf
        refine g_iald S hw 43 0 xe_43 rfl h3 dX11_taken_46 ?_
        refine lv_goto (tgt := 52) S.1 S.2.1 dX11_taken_47 (by decide) ?_
        exact g_iret (XWd_ok D ad cs ts adK adV) S hr hlk hw dX11_taken_52 (Option.some.inj hf) rfl
    · have hf := itt hf hc
      refine lv_bipush (v := -11) S.1 S.2.1 dX11_taken_23 (by decide) ?_
      exact g_iret (XWd_ok D ad cs ts adK adV) S hr hlk hw dX11_taken_25 (Option.some.inj hf) rfl
  · have hf := itt hf hc
    refine lv_bipush (v := -2) S.1 S.2.1 dX11_taken_9 (by decide) ?_
    exact g_iret (XWd_ok D ad cs ts adK adV) S hr hlk hw dX11_taken_11 (Option.some.inj hf) rfl
end METH
