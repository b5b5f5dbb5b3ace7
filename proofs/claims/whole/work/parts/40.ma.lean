/-! METHODS (printed by wip/whole/emit.py) -/
section METH
variable {p : Program} {l : Launch} {e : Env} {s : State} {m : MethodId} {av : Array Value} {below : List Frame} {meth : Method} {c : Code} {D : va_G} {ad : Nat → Nat} {cs : Nat → ClassId} {ts adK adV : Nat → Nat}
def fX12_isIn (x0 : Int64) (x2 : Int64) (x4 : Int64) : Int32 :=
  if (lg_cmp x0 x2) < 0 then ((0 : Int32)) else (if 0 < (lg_cmp x0 x4) then ((0 : Int32)) else ((1 : Int32)))
set_option maxHeartbeats 2000000 in
set_option maxRecDepth 20000 in
theorem tX12_isIn {r : Int32} {σ : St} {x0 : Int64} {x2 : Int64} {x4 : Int64} (hf : fX12_isIn x0 x2 x4 = r) : CI l (MWd D ad cs) yX12_isIn cX12_isIn 6 (some .boolean) 0 0 [.long x0, .long x2, .long x4] σ r σ := by
  refine CI.of (by decide) (Nat.le_of_ble_eq_true rfl) ?_
  intro p e s m below meth c ls S hr hlk hw hl
  have hl : lv_has ls 6 [(0, .long x0), (2, .long x2), (4, .long x4)] := hl
  unfold fX12_isIn at hf
  refine lv_lload_n S.1 S.2.1 dX12_isIn_0 rfl (lv_at hl 0 rfl) ?_
  refine lv_lload_n S.1 S.2.1 dX12_isIn_1 rfl (lv_at hl 1 rfl) ?_
  refine W.lcmp S.1 S.2.1 dX12_isIn_2 ?_
  refine lv_if_lt (tgt := 17) S.1 S.2.1 dX12_isIn_3 (by decide) (fun hc => ?_) (fun hc => ?_)
  · have hf := itt hf hc
    refine lv_iconst (v := 0) S.1 S.2.1 dX12_isIn_17 (by decide) ?_
    exact g_zret (MWd_ok D ad cs) S hr hlk hw rfl dX12_isIn_18 hf rfl
  · have hf := itf hf hc
    refine lv_lload_n S.1 S.2.1 dX12_isIn_6 rfl (lv_at hl 0 rfl) ?_
    refine lv_lload S.1 S.2.1 dX12_isIn_7 (lv_at hl 2 rfl) ?_
    refine W.lcmp S.1 S.2.1 dX12_isIn_9 ?_
    refine lv_if_gt (tgt := 17) S.1 S.2.1 dX12_isIn_10 (by decide) (fun hc => ?_) (fun hc => ?_)
    · have hf := itt hf hc
      refine lv_iconst (v := 0) S.1 S.2.1 dX12_isIn_17 (by decide) ?_
      exact g_zret (MWd_ok D ad cs) S hr hlk hw rfl dX12_isIn_18 hf rfl
    · have hf := itf hf hc
      refine lv_iconst (v := 1) S.1 S.2.1 dX12_isIn_13 (by decide) ?_
      refine lv_goto (tgt := 18) S.1 S.2.1 dX12_isIn_14 (by decide) ?_
      exact g_zret (MWd_ok D ad cs) S hr hlk hw rfl dX12_isIn_18 hf rfl
theorem zzX12_isIn (x0 : Int64) (x2 : Int64) (x4 : Int64) : narrow .boolean (.int (fX12_isIn x0 x2 x4)) = .int (fX12_isIn x0 x2 x4) := by
  unfold fX12_isIn
  repeat' split
  all_goals rfl
def fX12_isDay (x0 : Int32) : Int32 :=
  (fX12_isIn (x0).toInt64 (0 : Int64) (9999 : Int64))
set_option maxHeartbeats 2000000 in
set_option maxRecDepth 20000 in
theorem tX12_isDay {r : Int32} {σ : St} {x0 : Int32} (hf : fX12_isDay x0 = r) : CI l (MWd D ad cs) yX12_isDay cX12_isDay 1 (some .boolean) 1 25 [.int x0] σ r σ := by
  refine CI.of (by decide) (Nat.le_of_ble_eq_true rfl) ?_
  intro p e s m below meth c ls S hr hlk hw hl
  have hl : lv_has ls 1 [(0, .int x0)] := hl
  unfold fX12_isDay at hf
  refine lv_iload_n S.1 S.2.1 dX12_isDay_0 rfl (lv_at hl 0 rfl) ?_
  refine lv_i2l S.1 S.2.1 dX12_isDay_1 rfl ?_
  refine lv_lconst (v := 0) S.1 S.2.1 dX12_isDay_2 (by decide) ?_
  refine lv_ldc2 S.1 S.2.1 S.2.2.2.1 (S.2.2.2.2 _ kc_X12_3) dX12_isDay_3 ?_
  refine g_Si (rest := []) (MWd_ok D ad cs) S hw (tX12_isIn (ad := ad) (cs := cs) (σ := σ) rfl) kt_X12_5 ⟨Nat.le_of_ble_eq_true rfl, Nat.le_of_ble_eq_true rfl⟩ rfl hl.1 rfl (Nat.le_of_ble_eq_true rfl) ⟨Nat.zero_le _, Nat.zero_le _⟩ dX12_isDay_6 (fun H locs hw => ?_)
  exact g_zret (MWd_ok D ad cs) S hr hlk hw (zzX12_isIn ..) dX12_isDay_9 hf rfl
theorem zzX12_isDay (x0 : Int32) : narrow .boolean (.int (fX12_isDay x0)) = .int (fX12_isDay x0) := by
  unfold fX12_isDay
  repeat' split
  all_goals first | exact zzX12_isIn ..
def fX12_isPlot (x0 : Int32) : Int32 :=
  (fX12_isIn (x0).toInt64 (0 : Int64) (47 : Int64))
set_option maxHeartbeats 2000000 in
set_option maxRecDepth 20000 in
theorem tX12_isPlot {r : Int32} {σ : St} {x0 : Int32} (hf : fX12_isPlot x0 = r) : CI l (MWd D ad cs) yX12_isPlot cX12_isPlot 1 (some .boolean) 1 25 [.int x0] σ r σ := by
  refine CI.of (by decide) (Nat.le_of_ble_eq_true rfl) ?_
  intro p e s m below meth c ls S hr hlk hw hl
  have hl : lv_has ls 1 [(0, .int x0)] := hl
  unfold fX12_isPlot at hf
  refine lv_iload_n S.1 S.2.1 dX12_isPlot_0 rfl (lv_at hl 0 rfl) ?_
  refine lv_i2l S.1 S.2.1 dX12_isPlot_1 rfl ?_
  refine lv_lconst (v := 0) S.1 S.2.1 dX12_isPlot_2 (by decide) ?_
  refine lv_ldc2 S.1 S.2.1 S.2.2.2.1 (S.2.2.2.2 _ kc_X12_9) dX12_isPlot_3 ?_
  refine g_Si (rest := []) (MWd_ok D ad cs) S hw (tX12_isIn (ad := ad) (cs := cs) (σ := σ) rfl) kt_X12_5 ⟨Nat.le_of_ble_eq_true rfl, Nat.le_of_ble_eq_true rfl⟩ rfl hl.1 rfl (Nat.le_of_ble_eq_true rfl) ⟨Nat.zero_le _, Nat.zero_le _⟩ dX12_isPlot_6 (fun H locs hw => ?_)
  exact g_zret (MWd_ok D ad cs) S hr hlk hw (zzX12_isIn ..) dX12_isPlot_9 hf rfl
theorem zzX12_isPlot (x0 : Int32) : narrow .boolean (.int (fX12_isPlot x0)) = .int (fX12_isPlot x0) := by
  unfold fX12_isPlot
  repeat' split
  all_goals first | exact zzX12_isIn ..
def fX12_isOwner (x0 : Int32) : Int32 :=
  (fX12_isIn (x0).toInt64 (0 : Int64) (9 : Int64))
set_option maxHeartbeats 2000000 in
set_option maxRecDepth 20000 in
theorem tX12_isOwner {r : Int32} {σ : St} {x0 : Int32} (hf : fX12_isOwner x0 = r) : CI l (MWd D ad cs) yX12_isOwner cX12_isOwner 1 (some .boolean) 1 25 [.int x0] σ r σ := by
  refine CI.of (by decide) (Nat.le_of_ble_eq_true rfl) ?_
  intro p e s m below meth c ls S hr hlk hw hl
  have hl : lv_has ls 1 [(0, .int x0)] := hl
  unfold fX12_isOwner at hf
  refine lv_iload_n S.1 S.2.1 dX12_isOwner_0 rfl (lv_at hl 0 rfl) ?_
  refine lv_i2l S.1 S.2.1 dX12_isOwner_1 rfl ?_
  refine lv_lconst (v := 0) S.1 S.2.1 dX12_isOwner_2 (by decide) ?_
  refine lv_ldc2 S.1 S.2.1 S.2.2.2.1 (S.2.2.2.2 _ kc_X12_11) dX12_isOwner_3 ?_
  refine g_Si (rest := []) (MWd_ok D ad cs) S hw (tX12_isIn (ad := ad) (cs := cs) (σ := σ) rfl) kt_X12_5 ⟨Nat.le_of_ble_eq_true rfl, Nat.le_of_ble_eq_true rfl⟩ rfl hl.1 rfl (Nat.le_of_ble_eq_true rfl) ⟨Nat.zero_le _, Nat.zero_le _⟩ dX12_isOwner_6 (fun H locs hw => ?_)
  exact g_zret (MWd_ok D ad cs) S hr hlk hw (zzX12_isIn ..) dX12_isOwner_9 hf rfl
theorem zzX12_isOwner (x0 : Int32) : narrow .boolean (.int (fX12_isOwner x0)) = .int (fX12_isOwner x0) := by
  unfold fX12_isOwner
  repeat' split
  all_goals first | exact zzX12_isIn ..
def fX12_pass (N : Nat) (σ : St) (x1 : Int32) : Option (Int32 × St) :=
  if (fX12_isIn (x1).toInt64 (1 : Int64) (2000 : Int64)) = 0 then (some ((-2 : Int32), σ)) else (if ((σ.1 0) + x1) ≤ (9999 : Int32) then (nm (sI σ 0 ((σ.1 0) + x1)) fun σ1 => some ((σ1.1 0), σ1)) else (some ((-4 : Int32), σ)))
set_option maxHeartbeats 2000000 in
set_option maxRecDepth 20000 in
theorem tX12_pass {r : Int32} {σ' : St} {N : Nat} {σ : St} {x1 : Int32} (hf : fX12_pass N σ x1 = some (r, σ')) : CI l (MWd D ad cs) yX12_pass cX12_pass 2 (some .int) 1 25 [.ref (ad 0), .int x1] σ r σ' := by
  refine CI.of (by decide) (Nat.le_of_ble_eq_true rfl) ?_
  intro p e s m below meth c ls S hr hlk hw hl
  have hl : lv_has ls 2 [(0, .ref (ad 0)), (1, .int x1)] := hl
  unfold fX12_pass at hf
  refine lv_iload_n S.1 S.2.1 dX12_pass_0 rfl (lv_at hl 1 rfl) ?_
  refine lv_i2l S.1 S.2.1 dX12_pass_1 rfl ?_
  refine lv_lconst (v := 1) S.1 S.2.1 dX12_pass_2 (by decide) ?_
  refine lv_ldc2 S.1 S.2.1 S.2.2.2.1 (S.2.2.2.2 _ kc_X12_13) dX12_pass_3 ?_
  refine g_Si (rest := []) (MWd_ok D ad cs) S hw (tX12_isIn (ad := ad) (cs := cs) (σ := σ) rfl) kt_X12_5 ⟨Nat.le_of_ble_eq_true rfl, Nat.le_of_ble_eq_true rfl⟩ rfl hl.1 rfl (Nat.le_of_ble_eq_true rfl) ⟨Nat.zero_le _, Nat.zero_le _⟩ dX12_pass_6 (fun H locs hw => ?_)
  refine lv_if_ne (tgt := 15) S.1 S.2.1 dX12_pass_9 (by decide) (fun hc => ?_) (fun hc => ?_)
  · have hf := itf hf hc
    refine lv_aload_n S.1 S.2.1 dX12_pass_15 rfl (lv_at hl 0 rfl) ?_
    refine mg_WayLeavesModel_today S hw kf_X12_15 dX12_pass_16 ?_
    refine lv_iload_n S.1 S.2.1 dX12_pass_19 rfl (lv_at hl 1 rfl) ?_
    refine lv_iadd S.1 S.2.1 dX12_pass_20 ?_
    refine lv_sipush (v := 9999) S.1 S.2.1 dX12_pass_21 (by decide) ?_
    refine lv_icmp_le (tgt := 30) S.1 S.2.1 dX12_pass_24 (by decide) (fun hc => ?_) (fun hc => ?_)
    · have hf := itt hf hc
      refine lv_aload_n S.1 S.2.1 dX12_pass_30 rfl (lv_at hl 0 rfl) ?_
      refine lv_dup S.1 S.2.1 dX12_pass_31 rfl ?_
      refine mg_WayLeavesModel_today S hw kf_X12_15 dX12_pass_32 ?_
      refine lv_iload_n S.1 S.2.1 dX12_pass_35 rfl (lv_at hl 1 rfl) ?_
      refine lv_iadd S.1 S.2.1 dX12_pass_36 ?_
      obtain ⟨σ1, e2⟩ : ∃ z : St, z = sI σ 0 ((σ.1 0) + x1) := ⟨_, rfl⟩
      have hf := nm_s e2 hf
      refine mp_WayLeavesModel_today S hw e2 kf_X12_15 dX12_pass_37 (fun H locs hw => ?_)
      refine lv_aload_n S.1 S.2.1 dX12_pass_40 rfl (lv_at hl 0 rfl) ?_
      refine mg_WayLeavesModel_today S hw kf_X12_15 dX12_pass_41 ?_
      exact g_iret (MWd_ok D ad cs) S hr hlk hw dX12_pass_44 (Prod.mk.inj (Option.some.inj hf)).1 (Prod.mk.inj (Option.some.inj hf)).2
    · have hf := itf hf hc
      refine lv_bipush (v := -4) S.1 S.2.1 dX12_pass_27 (by decide) ?_
      exact g_iret (MWd_ok D ad cs) S hr hlk hw dX12_pass_29 (Prod.mk.inj (Option.some.inj hf)).1 (Prod.mk.inj (Option.some.inj hf)).2
  · have hf := itt hf hc
    refine lv_bipush (v := -2) S.1 S.2.1 dX12_pass_12 (by decide) ?_
    exact g_iret (MWd_ok D ad cs) S hr hlk hw dX12_pass_14 (Prod.mk.inj (Option.some.inj hf)).1 (Prod.mk.inj (Option.some.inj hf)).2
def fX12_sell (N : Nat) (σ : St) (x1 : Int32) (x2 : Int32) (x3 : Int32) : Option (Int32 × St) :=
  if (fX12_isPlot x1) = 0 then (some ((-2 : Int32), σ)) else (if (fX12_isOwner x2) = 0 then (some ((-2 : Int32), σ)) else (if (fX12_isIn (x3).toInt64 ((σ.1 0)).toInt64 (9999 : Int64)) = 0 then (some ((-2 : Int32), σ)) else (if (σ.1 1) = (40 : Int32) then (some ((-4 : Int32), σ)) else (if ix (σ.1 1) 40 = true then nm (aW σ 1 (σ.1 1) x1) fun σ2 => if ix (σ2.1 1) 40 = true then nm (aW σ2 2 (σ2.1 1) x2) fun σ5 => if ix (σ5.1 1) 40 = true then nm (aW σ5 3 (σ5.1 1) x3) fun σ8 => nm (sI σ8 1 ((σ8.1 1) + (1 : Int32))) fun σ10 => some ((σ10.1 1), σ10) else none else none else none))))
set_option maxHeartbeats 2000000 in
set_option maxRecDepth 20000 in
theorem tX12_sell {r : Int32} {σ' : St} {N : Nat} {σ : St} {x1 : Int32} {x2 : Int32} {x3 : Int32} (hf : fX12_sell N σ x1 x2 x3 = some (r, σ')) : CI l (MWd D ad cs) yX12_sell cX12_sell 4 (some .int) 2 45 [.ref (ad 0), .int x1, .int x2, .int x3] σ r σ' := by
  refine CI.of (by decide) (Nat.le_of_ble_eq_true rfl) ?_
  intro p e s m below meth c ls S hr hlk hw hl
  have hl : lv_has ls 4 [(0, .ref (ad 0)), (1, .int x1), (2, .int x2), (3, .int x3)] := hl
  unfold fX12_sell at hf
  refine lv_iload_n S.1 S.2.1 dX12_sell_0 rfl (lv_at hl 1 rfl) ?_
  refine g_Si (rest := []) (MWd_ok D ad cs) S hw (tX12_isPlot (ad := ad) (cs := cs) (σ := σ) rfl) kt_X12_19 ⟨Nat.le_of_ble_eq_true rfl, Nat.le_of_ble_eq_true rfl⟩ rfl hl.1 rfl (Nat.le_of_ble_eq_true rfl) ⟨Nat.zero_le _, Nat.zero_le _⟩ dX12_sell_1 (fun H locs hw => ?_)
  refine lv_if_eq (tgt := 30) S.1 S.2.1 dX12_sell_4 (by decide) (fun hc => ?_) (fun hc => ?_)
  · have hf := itt hf hc
    refine lv_bipush (v := -2) S.1 S.2.1 dX12_sell_30 (by decide) ?_
    exact g_iret (MWd_ok D ad cs) S hr hlk hw dX12_sell_32 (Prod.mk.inj (Option.some.inj hf)).1 (Prod.mk.inj (Option.some.inj hf)).2
  · have hf := itf hf hc
    refine lv_iload_n S.1 S.2.1 dX12_sell_7 rfl (lv_at hl 2 rfl) ?_
    refine g_Si (rest := []) (MWd_ok D ad cs) S hw (tX12_isOwner (ad := ad) (cs := cs) (σ := σ) rfl) kt_X12_23 ⟨Nat.le_of_ble_eq_true rfl, Nat.le_of_ble_eq_true rfl⟩ rfl hl.1 rfl (Nat.le_of_ble_eq_true rfl) ⟨Nat.zero_le _, Nat.zero_le _⟩ dX12_sell_8 (fun H locs hw => ?_)
    refine lv_if_eq (tgt := 30) S.1 S.2.1 dX12_sell_11 (by decide) (fun hc => ?_) (fun hc => ?_)
    · have hf := itt hf hc
      refine lv_bipush (v := -2) S.1 S.2.1 dX12_sell_30 (by decide) ?_
      exact g_iret (MWd_ok D ad cs) S hr hlk hw dX12_sell_32 (Prod.mk.inj (Option.some.inj hf)).1 (Prod.mk.inj (Option.some.inj hf)).2
    · have hf := itf hf hc
      refine lv_iload_n S.1 S.2.1 dX12_sell_14 rfl (lv_at hl 3 rfl) ?_
      refine lv_i2l S.1 S.2.1 dX12_sell_15 rfl ?_
      refine lv_aload_n S.1 S.2.1 dX12_sell_16 rfl (lv_at hl 0 rfl) ?_
      refine mg_WayLeavesModel_today S hw kf_X12_15 dX12_sell_17 ?_
      refine lv_i2l S.1 S.2.1 dX12_sell_20 rfl ?_
      refine lv_ldc2 S.1 S.2.1 S.2.2.2.1 (S.2.2.2.2 _ kc_X12_3) dX12_sell_21 ?_
      refine g_Si (rest := []) (MWd_ok D ad cs) S hw (tX12_isIn (ad := ad) (cs := cs) (σ := σ) rfl) kt_X12_5 ⟨Nat.le_of_ble_eq_true rfl, Nat.le_of_ble_eq_true rfl⟩ rfl hl.1 rfl (Nat.le_of_ble_eq_true rfl) ⟨Nat.zero_le _, Nat.zero_le _⟩ dX12_sell_24 (fun H locs hw => ?_)
      refine lv_if_ne (tgt := 33) S.1 S.2.1 dX12_sell_27 (by decide) (fun hc => ?_) (fun hc => ?_)
      · have hf := itf hf hc
        refine lv_aload_n S.1 S.2.1 dX12_sell_33 rfl (lv_at hl 0 rfl) ?_
        refine mg_WayLeavesModel_sales S hw kf_X12_26 dX12_sell_34 ?_
        refine lv_bipush (v := 40) S.1 S.2.1 dX12_sell_37 (by decide) ?_
        refine lv_icmp_ne (tgt := 45) S.1 S.2.1 dX12_sell_39 (by decide) (fun hc => ?_) (fun hc => ?_)
        · have hf := itf hf hc
          refine lv_aload_n S.1 S.2.1 dX12_sell_45 rfl (lv_at hl 0 rfl) ?_
          refine mg_WayLeavesModel_salePlot S hw kf_X12_29 dX12_sell_46 ?_
          refine lv_aload_n S.1 S.2.1 dX12_sell_49 rfl (lv_at hl 0 rfl) ?_
          refine mg_WayLeavesModel_sales S hw kf_X12_26 dX12_sell_50 ?_
          refine lv_iload_n S.1 S.2.1 dX12_sell_53 rfl (lv_at hl 1 rfl) ?_
          obtain ⟨h1, hf⟩ := gd_ix hf
          obtain ⟨σ2, e3⟩ : ∃ z : St, z = aW σ 1 (σ.1 1) x1 := ⟨_, rfl⟩
          have hf := nm_s e3 hf
          refine g_iast (σ' := σ2) S hw 1 0 me_1 rfl (by rw [e3]; exact ms_1 _) h1 dX12_sell_54 (fun H locs hw => ?_)
          refine lv_aload_n S.1 S.2.1 dX12_sell_55 rfl (lv_at hl 0 rfl) ?_
          refine mg_WayLeavesModel_saleOwner S hw kf_X12_33 dX12_sell_56 ?_
          refine lv_aload_n S.1 S.2.1 dX12_sell_59 rfl (lv_at hl 0 rfl) ?_
          refine mg_WayLeavesModel_sales S hw kf_X12_26 dX12_sell_60 ?_
          refine lv_iload_n S.1 S.2.1 dX12_sell_63 rfl (lv_at hl 2 rfl) ?_
          obtain ⟨h4, hf⟩ := gd_ix hf
          obtain ⟨σ5, e6⟩ : ∃ z : St, z = aW σ2 2 (σ2.1 1) x2 := ⟨_, rfl⟩
          have hf := nm_s e6 hf
          refine g_iast (σ' := σ5) S hw 2 0 me_2 rfl (by rw [e6]; exact ms_2 _) h4 dX12_sell_64 (fun H locs hw => ?_)
          refine lv_aload_n S.1 S.2.1 dX12_sell_65 rfl (lv_at hl 0 rfl) ?_
          refine mg_WayLeavesModel_saleDay S hw kf_X12_36 dX12_sell_66 ?_
          refine lv_aload_n S.1 S.2.1 dX12_sell_69 rfl (lv_at hl 0 rfl) ?_
          refine mg_WayLeavesModel_sales S hw kf_X12_26 dX12_sell_70 ?_
          refine lv_iload_n S.1 S.2.1 dX12_sell_73 rfl (lv_at hl 3 rfl) ?_
          obtain ⟨h7, hf⟩ := gd_ix hf
          obtain ⟨σ8, e9⟩ : ∃ z : St, z = aW σ5 3 (σ5.1 1) x3 := ⟨_, rfl⟩
          have hf := nm_s e9 hf
          refine g_iast (σ' := σ8) S hw 3 0 me_3 rfl (by rw [e9]; exact ms_3 _) h7 dX12_sell_74 (fun H locs hw => ?_)
          refine lv_aload_n S.1 S.2.1 dX12_sell_75 rfl (lv_at hl 0 rfl) ?_
          refine lv_dup S.1 S.2.1 dX12_sell_76 rfl ?_
          refine mg_WayLeavesModel_sales S hw kf_X12_26 dX12_sell_77 ?_
          refine lv_iconst (v := 1) S.1 S.2.1 dX12_sell_80 (by decide) ?_
          refine lv_iadd S.1 S.2.1 dX12_sell_81 ?_
          obtain ⟨σ10, e11⟩ : ∃ z : St, z = sI σ8 1 ((σ8.1 1) + (1 : Int32)) := ⟨_, rfl⟩
          have hf := nm_s e11 hf
          refine mp_WayLeavesModel_sales S hw e11 kf_X12_26 dX12_sell_82 (fun H locs hw => ?_)
          refine lv_aload_n S.1 S.2.1 dX12_sell_85 rfl (lv_at hl 0 rfl) ?_
          refine mg_WayLeavesModel_sales S hw kf_X12_26 dX12_sell_86 ?_
          exact g_iret (MWd_ok D ad cs) S hr hlk hw dX12_sell_89 (Prod.mk.inj (Option.some.inj hf)).1 (Prod.mk.inj (Option.some.inj hf)).2
        · have hf := itt hf hc
          refine lv_bipush (v := -4) S.1 S.2.1 dX12_sell_42 (by decide) ?_
          exact g_iret (MWd_ok D ad cs) S hr hlk hw dX12_sell_44 (Prod.mk.inj (Option.some.inj hf)).1 (Prod.mk.inj (Option.some.inj hf)).2
      · have hf := itt hf hc
        refine lv_bipush (v := -2) S.1 S.2.1 dX12_sell_30 (by decide) ?_
        exact g_iret (MWd_ok D ad cs) S hr hlk hw dX12_sell_32 (Prod.mk.inj (Option.some.inj hf)).1 (Prod.mk.inj (Option.some.inj hf)).2
def fX12_ownerIn_68 (N : Nat) (σ : St) (k8 : Int32 → Int32 → Int32 → Int32 → Int32 → Option Int32) (x1 : Int32) (x2 : Int32) (x3 : Int32) (x4 : Int32) (x5 : Int32) : Option Int32 :=
  nm (x5 + (1 : Int32)) fun v10 => k8 x1 x2 x3 x4 v10
set_option maxHeartbeats 2000000 in
set_option maxRecDepth 20000 in
theorem wX12_ownerIn_68 {r : Int32} {N : Nat} {σ : St} (S : CallFix p m c cX12_ownerIn 6 s av BG RX12) (hr : meth.sig.returnType = some .int) (hlk : meth.locks = false) {k8 : Int32 → Int32 → Int32 → Int32 → Int32 → Option Int32} (hk8 : ∀ (x1 : Int32) (x2 : Int32) (x3 : Int32) (x4 : Int32) (x5 : Int32) (ls : Array Slot) (H : Heap) (locs : List Loc), Hw (MWd D ad cs) s σ H locs → lv_has ls 6 [(0, .ref (ad 0)), (1, .int x1), (2, .int x2), (3, .int x3), (4, .int x4), (5, .int x5)] → k8 x1 x2 x3 x4 x5 = some r → W p l e (RM 0 0) s m av below meth c H locs 0 0 (QI below (MWd D ad cs) av s r σ) (F0 m 8 ls []))  {x1 : Int32} {x2 : Int32} {x3 : Int32} {x4 : Int32} {x5 : Int32} {ls : Array Slot} {H : Heap} {locs : List Loc} (hw : Hw (MWd D ad cs) s σ H locs) (hl : lv_has ls 6 [(0, .ref (ad 0)), (1, .int x1), (2, .int x2), (3, .int x3), (4, .int x4), (5, .int x5)]) (hf : fX12_ownerIn_68 N σ k8 x1 x2 x3 x4 x5 = some r) : W p l e (RM 0 0) s m av below meth c H locs 0 0 (QI below (MWd D ad cs) av s r σ) (F0 m 68 ls []) := by
  unfold fX12_ownerIn_68 at hf
  obtain ⟨v10, e11⟩ : ∃ z : Int32, z = x5 + (1 : Int32) := ⟨_, rfl⟩
  have hf := nm_s e11 hf
  refine lv_iinc (v := v10) (lv' := [(5, .int v10), (0, .ref (ad 0)), (1, .int x1), (2, .int x2), (3, .int x3), (4, .int x4)]) S.1 S.2.1 dX12_ownerIn_68 hl (k := 5) rfl (by rw [e11]; rfl) (by decide) rfl (fun ls hl => ?_)
  refine lv_goto (tgt := 8) S.1 S.2.1 dX12_ownerIn_71 (by decide) ?_
  exact hk8 x1 x2 x3 x4 v10 _ _ _ hw (lv_sub hl [1, 2, 3, 4, 5, 0] rfl) hf
def fX12_ownerIn_8b (N : Nat) (σ : St) (k8 : Int32 → Int32 → Int32 → Int32 → Int32 → Option Int32) (x1 : Int32) (x2 : Int32) (x3 : Int32) (x4 : Int32) (x5 : Int32) : Option Int32 :=
  if (σ.1 1) ≤ x5 then (some x3) else (if ix x5 40 = true then if (aR σ 1 x5) = x1 then (if ix x5 40 = true then if x2 < (aR σ 3 x5) then (fX12_ownerIn_68 N σ k8 x1 x2 x3 x4 x5) else (if ix x5 40 = true then if (aR σ 3 x5) < x4 then (fX12_ownerIn_68 N σ k8 x1 x2 x3 x4 x5) else (if ix x5 40 = true then nm (aR σ 3 x5) fun v5 => if ix x5 40 = true then nm (aR σ 2 x5) fun v8 => fX12_ownerIn_68 N σ k8 x1 x2 v8 v5 x5 else none else none) else none) else none) else (fX12_ownerIn_68 N σ k8 x1 x2 x3 x4 x5) else none)
set_option maxHeartbeats 2000000 in
set_option maxRecDepth 20000 in
theorem wX12_ownerIn_8b {r : Int32} {N : Nat} {σ : St} (S : CallFix p m c cX12_ownerIn 6 s av BG RX12) (hr : meth.sig.returnType = some .int) (hlk : meth.locks = false) {k8 : Int32 → Int32 → Int32 → Int32 → Int32 → Option Int32} (hk8 : ∀ (x1 : Int32) (x2 : Int32) (x3 : Int32) (x4 : Int32) (x5 : Int32) (ls : Array Slot) (H : Heap) (locs : List Loc), Hw (MWd D ad cs) s σ H locs → lv_has ls 6 [(0, .ref (ad 0)), (1, .int x1), (2, .int x2), (3, .int x3), (4, .int x4), (5, .int x5)] → k8 x1 x2 x3 x4 x5 = some r → W p l e (RM 0 0) s m av below meth c H locs 0 0 (QI below (MWd D ad cs) av s r σ) (F0 m 8 ls []))  {x1 : Int32} {x2 : Int32} {x3 : Int32} {x4 : Int32} {x5 : Int32} {ls : Array Slot} {H : Heap} {locs : List Loc} (hw : Hw (MWd D ad cs) s σ H locs) (hl : lv_has ls 6 [(0, .ref (ad 0)), (1, .int x1), (2, .int x2), (3, .int x3), (4, .int x4), (5, .int x5)]) (hf : fX12_ownerIn_8b N σ k8 x1 x2 x3 x4 x5 = some r) : W p l e (RM 0 0) s m av below meth c H locs 0 0 (QI below (MWd D ad cs) av s r σ) (F0 m 8 ls []) := by
  unfold fX12_ownerIn_8b at hf
  refine lv_iload S.1 S.2.1 dX12_ownerIn_8 (lv_at hl 5 rfl) ?_
  refine lv_aload_n S.1 S.2.1 dX12_ownerIn_10 rfl (lv_at hl 0 rfl) ?_
  refine mg_WayLeavesModel_sales S hw kf_X12_26 dX12_ownerIn_11 ?_
  refine lv_icmp_ge (tgt := 74) S.1 S.2.1 dX12_ownerIn_14 (by decide) (fun hc => ?_) (fun hc => ?_)
  · have hf := itt hf hc
    refine lv_iload_n S.1 S.2.1 dX12_ownerIn_74 rfl (lv_at hl 3 rfl) ?_
    exact g_iret (MWd_ok D ad cs) S hr hlk hw dX12_ownerIn_75 (Option.some.inj hf) rfl
  · have hf := itf hf hc
    refine lv_aload_n S.1 S.2.1 dX12_ownerIn_17 rfl (lv_at hl 0 rfl) ?_
    refine mg_WayLeavesModel_salePlot S hw kf_X12_29 dX12_ownerIn_18 ?_
    refine lv_iload S.1 S.2.1 dX12_ownerIn_21 (lv_at hl 5 rfl) ?_
    obtain ⟨h1, hf⟩ := gd_ix hf
    refine g_iald S hw 1 0 me_1 rfl h1 dX12_ownerIn_23 ?_
    refine lv_iload_n S.1 S.2.1 dX12_ownerIn_24 rfl (lv_at hl 1 rfl) ?_
    refine lv_icmp_ne (tgt := 68) S.1 S.2.1 dX12_ownerIn_25 (by decide) (fun hc => ?_) (fun hc => ?_)
    · have hf := itf hf hc
      exact wX12_ownerIn_68 S hr hlk hk8 hw (lv_sub hl [0, 1, 2, 3, 4, 5] rfl) hf
    · have hf := itt hf hc
      refine lv_aload_n S.1 S.2.1 dX12_ownerIn_28 rfl (lv_at hl 0 rfl) ?_
      refine mg_WayLeavesModel_saleDay S hw kf_X12_36 dX12_ownerIn_29 ?_
      refine lv_iload S.1 S.2.1 dX12_ownerIn_32 (lv_at hl 5 rfl) ?_
      obtain ⟨h2, hf⟩ := gd_ix hf
      refine g_iald S hw 3 0 me_3 rfl h2 dX12_ownerIn_34 ?_
      refine lv_iload_n S.1 S.2.1 dX12_ownerIn_35 rfl (lv_at hl 2 rfl) ?_
      refine lv_icmp_gt (tgt := 68) S.1 S.2.1 dX12_ownerIn_36 (by decide) (fun hc => ?_) (fun hc => ?_)
      · have hf := itt hf hc
        exact wX12_ownerIn_68 S hr hlk hk8 hw (lv_sub hl [0, 1, 2, 3, 4, 5] rfl) hf
      · have hf := itf hf hc
        refine lv_aload_n S.1 S.2.1 dX12_ownerIn_39 rfl (lv_at hl 0 rfl) ?_
        refine mg_WayLeavesModel_saleDay S hw kf_X12_36 dX12_ownerIn_40 ?_
        refine lv_iload S.1 S.2.1 dX12_ownerIn_43 (lv_at hl 5 rfl) ?_
        obtain ⟨h3, hf⟩ := gd_ix hf
        refine g_iald S hw 3 0 me_3 rfl h3 dX12_ownerIn_45 ?_
        refine lv_iload S.1 S.2.1 dX12_ownerIn_46 (lv_at hl 4 rfl) ?_
        refine lv_icmp_lt (tgt := 68) S.1 S.2.1 dX12_ownerIn_48 (by decide) (fun hc => ?_) (fun hc => ?_)
        · have hf := itt hf hc
          exact wX12_ownerIn_68 S hr hlk hk8 hw (lv_sub hl [0, 1, 2, 3, 4, 5] rfl) hf
        · have hf := itf hf hc
          refine lv_aload_n S.1 S.2.1 dX12_ownerIn_51 rfl (lv_at hl 0 rfl) ?_
          refine mg_WayLeavesModel_saleDay S hw kf_X12_36 dX12_ownerIn_52 ?_
          refine lv_iload S.1 S.2.1 dX12_ownerIn_55 (lv_at hl 5 rfl) ?_
          obtain ⟨h4, hf⟩ := gd_ix hf
          refine g_iald S hw 3 0 me_3 rfl h4 dX12_ownerIn_57 ?_
          refine lv_topi (fun v5 e6 => ?_)
          have hf := nm_s e6 hf
          refine lv_istore (lv' := [(4, .int v5), (0, .ref (ad 0)), (1, .int x1), (2, .int x2), (3, .int x3), (5, .int x5)]) S.1 S.2.1 dX12_ownerIn_58 hl (by decide) rfl (fun ls hl => ?_)
          refine lv_aload_n S.1 S.2.1 dX12_ownerIn_60 rfl (lv_at hl 1 rfl) ?_
          refine mg_WayLeavesModel_saleOwner S hw kf_X12_33 dX12_ownerIn_61 ?_
          refine lv_iload S.1 S.2.1 dX12_ownerIn_64 (lv_at hl 5 rfl) ?_
          obtain ⟨h7, hf⟩ := gd_ix hf
          refine g_iald S hw 2 0 me_2 rfl h7 dX12_ownerIn_66 ?_
          refine lv_topi (fun v8 e9 => ?_)
          have hf := nm_s e9 hf
          refine lv_istore_n (lv' := [(3, .int v8), (4, .int v5), (0, .ref (ad 0)), (1, .int x1), (2, .int x2), (5, .int x5)]) S.1 S.2.1 dX12_ownerIn_67 rfl hl (by decide) rfl (fun ls hl => ?_)
          exact wX12_ownerIn_68 S hr hlk hk8 hw (lv_sub hl [2, 3, 4, 0, 1, 5] rfl) hf
def fX12_ownerIn_8 (N : Nat) (σ : St) : Nat → Int32 → Int32 → Int32 → Int32 → Int32 → Option Int32
  | 0 => fun _ _ _ _ _ => none
  | n + 1 => fX12_ownerIn_8b N σ (fX12_ownerIn_8 N σ n)
theorem wX12_ownerIn_8 {r : Int32} {N : Nat} {σ : St} (S : CallFix p m c cX12_ownerIn 6 s av BG RX12) (hr : meth.sig.returnType = some .int) (hlk : meth.locks = false) : ∀ (n : Nat), ∀ (x1 : Int32) (x2 : Int32) (x3 : Int32) (x4 : Int32) (x5 : Int32) (ls : Array Slot) (H : Heap) (locs : List Loc), Hw (MWd D ad cs) s σ H locs → lv_has ls 6 [(0, .ref (ad 0)), (1, .int x1), (2, .int x2), (3, .int x3), (4, .int x4), (5, .int x5)] → fX12_ownerIn_8 N σ n x1 x2 x3 x4 x5 = some r → W p l e (RM 0 0) s m av below meth c H locs 0 0 (QI below (MWd D ad cs) av s r σ) (F0 m 8 ls []) := by
  intro n
  induction n with
  | zero => intro _ _ _ _ _ ls H locs hw hl hf; cases hf
  | succ n ih => intro _ _ _ _ _ ls H locs hw hl hf; exact wX12_ownerIn_8b S hr hlk ih hw hl hf
def fX12_ownerIn (N : Nat) (σ : St) (x1 : Int32) (x2 : Int32) : Option Int32 :=
  fX12_ownerIn_8 N σ N x1 x2 (0 : Int32) (-1 : Int32) (0 : Int32)
set_option maxHeartbeats 2000000 in
set_option maxRecDepth 20000 in
theorem tX12_ownerIn {r : Int32} {N : Nat} {σ : St} {x1 : Int32} {x2 : Int32} (hf : fX12_ownerIn N σ x1 x2 = some r) : CI l (MWd D ad cs) yX12_ownerIn cX12_ownerIn 6 (some .int) 0 0 [.ref (ad 0), .int x1, .int x2] σ r σ := by
  refine CI.of (by decide) (Nat.le_of_ble_eq_true rfl) ?_
  intro p e s m below meth c ls S hr hlk hw hl
  have hl : lv_has ls 6 [(0, .ref (ad 0)), (1, .int x1), (2, .int x2)] := hl
  unfold fX12_ownerIn at hf
  refine lv_iconst (v := 0) S.1 S.2.1 dX12_ownerIn_0 (by decide) ?_
  refine lv_istore_n (lv' := [(3, .int (0 : Int32)), (0, .ref (ad 0)), (1, .int x1), (2, .int x2)]) S.1 S.2.1 dX12_ownerIn_1 rfl hl (by decide) rfl (fun ls hl => ?_)
  refine lv_iconst (v := -1) S.1 S.2.1 dX12_ownerIn_2 (by decide) ?_
  refine lv_istore (lv' := [(4, .int (-1 : Int32)), (3, .int (0 : Int32)), (0, .ref (ad 0)), (1, .int x1), (2, .int x2)]) S.1 S.2.1 dX12_ownerIn_3 hl (by decide) rfl (fun ls hl => ?_)
  refine lv_iconst (v := 0) S.1 S.2.1 dX12_ownerIn_5 (by decide) ?_
  refine lv_istore (lv' := [(5, .int (0 : Int32)), (4, .int (-1 : Int32)), (3, .int (0 : Int32)), (0, .ref (ad 0)), (1, .int x1), (2, .int x2)]) S.1 S.2.1 dX12_ownerIn_6 hl (by decide) rfl (fun ls hl => ?_)
  exact wX12_ownerIn_8 S hr hlk N x1 x2 (0 : Int32) (-1 : Int32) (0 : Int32) _ _ _ hw (lv_sub hl [3, 4, 5, 2, 1, 0] rfl) hf
def fX12_owner (N : Nat) (σ : St) (x1 : Int32) (x2 : Int32) : Option Int32 :=
  if (fX12_isPlot x1) = 0 then (some (-2 : Int32)) else (if (fX12_isDay x2) = 0 then (some (-2 : Int32)) else (bd (fX12_ownerIn N σ x1 x2) fun r1 => some r1))
set_option maxHeartbeats 2000000 in
set_option maxRecDepth 20000 in
theorem tX12_owner {r : Int32} {N : Nat} {σ : St} {x1 : Int32} {x2 : Int32} (hf : fX12_owner N σ x1 x2 = some r) : CI l (MWd D ad cs) yX12_owner cX12_owner 3 (some .int) 2 45 [.ref (ad 0), .int x1, .int x2] σ r σ := by
  refine CI.of (by decide) (Nat.le_of_ble_eq_true rfl) ?_
  intro p e s m below meth c ls S hr hlk hw hl
  have hl : lv_has ls 3 [(0, .ref (ad 0)), (1, .int x1), (2, .int x2)] := hl
  unfold fX12_owner at hf
  refine lv_iload_n S.1 S.2.1 dX12_owner_0 rfl (lv_at hl 1 rfl) ?_
  refine g_Si (rest := []) (MWd_ok D ad cs) S hw (tX12_isPlot (ad := ad) (cs := cs) (σ := σ) rfl) kt_X12_19 ⟨Nat.le_of_ble_eq_true rfl, Nat.le_of_ble_eq_true rfl⟩ rfl hl.1 rfl (Nat.le_of_ble_eq_true rfl) ⟨Nat.zero_le _, Nat.zero_le _⟩ dX12_owner_1 (fun H locs hw => ?_)
  refine lv_if_eq (tgt := 23) S.1 S.2.1 dX12_owner_4 (by decide) (fun hc => ?_) (fun hc => ?_)
  · have hf := itt hf hc
    refine lv_bipush (v := -2) S.1 S.2.1 dX12_owner_23 (by decide) ?_
    exact g_iret (MWd_ok D ad cs) S hr hlk hw dX12_owner_25 (Option.some.inj hf) rfl
  · have hf := itf hf hc
    refine lv_iload_n S.1 S.2.1 dX12_owner_7 rfl (lv_at hl 2 rfl) ?_
    refine g_Si (rest := []) (MWd_ok D ad cs) S hw (tX12_isDay (ad := ad) (cs := cs) (σ := σ) rfl) kt_X12_39 ⟨Nat.le_of_ble_eq_true rfl, Nat.le_of_ble_eq_true rfl⟩ rfl hl.1 rfl (Nat.le_of_ble_eq_true rfl) ⟨Nat.zero_le _, Nat.zero_le _⟩ dX12_owner_8 (fun H locs hw => ?_)
    refine lv_if_eq (tgt := 23) S.1 S.2.1 dX12_owner_11 (by decide) (fun hc => ?_) (fun hc => ?_)
    · have hf := itt hf hc
      refine lv_bipush (v := -2) S.1 S.2.1 dX12_owner_23 (by decide) ?_
      exact g_iret (MWd_ok D ad cs) S hr hlk hw dX12_owner_25 (Option.some.inj hf) rfl
    · have hf := itf hf hc
      refine lv_aload_n S.1 S.2.1 dX12_owner_14 rfl (lv_at hl 0 rfl) ?_
      refine lv_iload_n S.1 S.2.1 dX12_owner_15 rfl (lv_at hl 1 rfl) ?_
      refine lv_iload_n S.1 S.2.1 dX12_owner_16 rfl (lv_at hl 2 rfl) ?_
      obtain ⟨r1, g2, hf⟩ := bd_s hf
      refine g_Vi (rest := []) (MWd_ok D ad cs) S hw (tX12_ownerIn g2) kt_X12_42 0 me_0 rfl rfl ⟨Nat.le_of_ble_eq_true rfl, Nat.le_of_ble_eq_true rfl⟩ rfl hl.1 rfl (Nat.le_of_ble_eq_true rfl) ⟨Nat.zero_le _, Nat.zero_le _⟩ dX12_owner_17 (fun H locs hw => ?_)
      refine lv_goto (tgt := 25) S.1 S.2.1 dX12_owner_20 (by decide) ?_
      exact g_iret (MWd_ok D ad cs) S hr hlk hw dX12_owner_25 (Option.some.inj hf) rfl
def fX12_heir (N : Nat) (σ : St) (x1 : Int32) (x2 : Int32) (x3 : Int32) : Option (Int32 × St) :=
  if (fX12_isOwner x1) = 0 then (some ((-2 : Int32), σ)) else (if (fX12_isOwner x2) = 0 then (some ((-2 : Int32), σ)) else (if x1 = x2 then (some ((-2 : Int32), σ)) else (if (fX12_isIn (x3).toInt64 (0 : Int64) (99 : Int64)) = 0 then (some ((-2 : Int32), σ)) else (if ix (((10 : Int32) * x1) + x2) 100 = true then nm (aR σ 4 (((10 : Int32) * x1) + x2)) fun v2 => if ix (((10 : Int32) * x1) + x2) 100 = true then nm (aW σ 4 (((10 : Int32) * x1) + x2) x3) fun σ5 => some (v2, σ5) else none else none))))
set_option maxHeartbeats 2000000 in
set_option maxRecDepth 20000 in
theorem tX12_heir {r : Int32} {σ' : St} {N : Nat} {σ : St} {x1 : Int32} {x2 : Int32} {x3 : Int32} (hf : fX12_heir N σ x1 x2 x3 = some (r, σ')) : CI l (MWd D ad cs) yX12_heir cX12_heir 5 (some .int) 2 45 [.ref (ad 0), .int x1, .int x2, .int x3] σ r σ' := by
  refine CI.of (by decide) (Nat.le_of_ble_eq_true rfl) ?_
  intro p e s m below meth c ls S hr hlk hw hl
  have hl : lv_has ls 5 [(0, .ref (ad 0)), (1, .int x1), (2, .int x2), (3, .int x3)] := hl
  unfold fX12_heir at hf
  refine lv_iload_n S.1 S.2.1 dX12_heir_0 rfl (lv_at hl 1 rfl) ?_
  refine g_Si (rest := []) (MWd_ok D ad cs) S hw (tX12_isOwner (ad := ad) (cs := cs) (σ := σ) rfl) kt_X12_23 ⟨Nat.le_of_ble_eq_true rfl, Nat.le_of_ble_eq_true rfl⟩ rfl hl.1 rfl (Nat.le_of_ble_eq_true rfl) ⟨Nat.zero_le _, Nat.zero_le _⟩ dX12_heir_1 (fun H locs hw => ?_)
  refine lv_if_eq (tgt := 31) S.1 S.2.1 dX12_heir_4 (by decide) (fun hc => ?_) (fun hc => ?_)
  · have hf := itt hf hc
    refine lv_bipush (v := -2) S.1 S.2.1 dX12_heir_31 (by decide) ?_
    exact g_iret (MWd_ok D ad cs) S hr hlk hw dX12_heir_33 (Prod.mk.inj (Option.some.inj hf)).1 (Prod.mk.inj (Option.some.inj hf)).2
  · have hf := itf hf hc
    refine lv_iload_n S.1 S.2.1 dX12_heir_7 rfl (lv_at hl 2 rfl) ?_
    refine g_Si (rest := []) (MWd_ok D ad cs) S hw (tX12_isOwner (ad := ad) (cs := cs) (σ := σ) rfl) kt_X12_23 ⟨Nat.le_of_ble_eq_true rfl, Nat.le_of_ble_eq_true rfl⟩ rfl hl.1 rfl (Nat.le_of_ble_eq_true rfl) ⟨Nat.zero_le _, Nat.zero_le _⟩ dX12_heir_8 (fun H locs hw => ?_)
    refine lv_if_eq (tgt := 31) S.1 S.2.1 dX12_heir_11 (by decide) (fun hc => ?_) (fun hc => ?_)
    · have hf := itt hf hc
      refine lv_bipush (v := -2) S.1 S.2.1 dX12_heir_31 (by decide) ?_
      exact g_iret (MWd_ok D ad cs) S hr hlk hw dX12_heir_33 (Prod.mk.inj (Option.some.inj hf)).1 (Prod.mk.inj (Option.some.inj hf)).2
    · have hf := itf hf hc
      refine lv_iload_n S.1 S.2.1 dX12_heir_14 rfl (lv_at hl 1 rfl) ?_
      refine lv_iload_n S.1 S.2.1 dX12_heir_15 rfl (lv_at hl 2 rfl) ?_
      refine lv_icmp_eq (tgt := 31) S.1 S.2.1 dX12_heir_16 (by decide) (fun hc => ?_) (fun hc => ?_)
      · have hf := itt hf hc
        refine lv_bipush (v := -2) S.1 S.2.1 dX12_heir_31 (by decide) ?_
        exact g_iret (MWd_ok D ad cs) S hr hlk hw dX12_heir_33 (Prod.mk.inj (Option.some.inj hf)).1 (Prod.mk.inj (Option.some.inj hf)).2
      · have hf := itf hf hc
        refine lv_iload_n S.1 S.2.1 dX12_heir_19 rfl (lv_at hl 3 rfl) ?_
        refine lv_i2l S.1 S.2.1 dX12_heir_20 rfl ?_
        refine lv_lconst (v := 0) S.1 S.2.1 dX12_heir_21 (by decide) ?_
        refine lv_ldc2 S.1 S.2.1 S.2.2.2.1 (S.2.2.2.2 _ kc_X12_46) dX12_heir_22 ?_
        refine g_Si (rest := []) (MWd_ok D ad cs) S hw (tX12_isIn (ad := ad) (cs := cs) (σ := σ) rfl) kt_X12_5 ⟨Nat.le_of_ble_eq_true rfl, Nat.le_of_ble_eq_true rfl⟩ rfl hl.1 rfl (Nat.le_of_ble_eq_true rfl) ⟨Nat.zero_le _, Nat.zero_le _⟩ dX12_heir_25 (fun H locs hw => ?_)
        refine lv_if_ne (tgt := 34) S.1 S.2.1 dX12_heir_28 (by decide) (fun hc => ?_) (fun hc => ?_)
        · have hf := itf hf hc
          refine lv_aload_n S.1 S.2.1 dX12_heir_34 rfl (lv_at hl 0 rfl) ?_
          refine mg_WayLeavesModel_shares S hw kf_X12_48 dX12_heir_35 ?_
          refine lv_bipush (v := 10) S.1 S.2.1 dX12_heir_38 (by decide) ?_
          refine lv_iload_n S.1 S.2.1 dX12_heir_40 rfl (lv_at hl 1 rfl) ?_
          refine lv_imul S.1 S.2.1 dX12_heir_41 ?_
          refine lv_iload_n S.1 S.2.1 dX12_heir_42 rfl (lv_at hl 2 rfl) ?_
          refine lv_iadd S.1 S.2.1 dX12_heir_43 ?_
          obtain ⟨h1, hf⟩ := gd_ix hf
          refine g_iald S hw 4 0 me_4 rfl h1 dX12_heir_44 ?_
          refine lv_topi (fun v2 e3 => ?_)
          have hf := nm_s e3 hf
          refine lv_istore (lv' := [(4, .int v2), (0, .ref (ad 0)), (1, .int x1), (2, .int x2), (3, .int x3)]) S.1 S.2.1 dX12_heir_45 hl (by decide) rfl (fun ls hl => ?_)
          refine lv_aload_n S.1 S.2.1 dX12_heir_47 rfl (lv_at hl 1 rfl) ?_
          refine mg_WayLeavesModel_shares S hw kf_X12_48 dX12_heir_48 ?_
          refine lv_bipush (v := 10) S.1 S.2.1 dX12_heir_51 (by decide) ?_
          refine lv_iload_n S.1 S.2.1 dX12_heir_53 rfl (lv_at hl 2 rfl) ?_
          refine lv_imul S.1 S.2.1 dX12_heir_54 ?_
          refine lv_iload_n S.1 S.2.1 dX12_heir_55 rfl (lv_at hl 3 rfl) ?_
          refine lv_iadd S.1 S.2.1 dX12_heir_56 ?_
          refine lv_iload_n S.1 S.2.1 dX12_heir_57 rfl (lv_at hl 4 rfl) ?_
          obtain ⟨h4, hf⟩ := gd_ix hf
          obtain ⟨σ5, e6⟩ : ∃ z : St, z = aW σ 4 (((10 : Int32) * x1) + x2) x3 := ⟨_, rfl⟩
          have hf := nm_s e6 hf
          refine g_iast (σ' := σ5) S hw 4 0 me_4 rfl (by rw [e6]; exact ms_4 _) h4 dX12_heir_58 (fun H locs hw => ?_)
          refine lv_iload S.1 S.2.1 dX12_heir_59 (lv_at hl 0 rfl) ?_
          exact g_iret (MWd_ok D ad cs) S hr hlk hw dX12_heir_61 (Prod.mk.inj (Option.some.inj hf)).1 (Prod.mk.inj (Option.some.inj hf)).2
        · have hf := itt hf hc
          refine lv_bipush (v := -2) S.1 S.2.1 dX12_heir_31 (by decide) ?_
          exact g_iret (MWd_ok D ad cs) S hr hlk hw dX12_heir_33 (Prod.mk.inj (Option.some.inj hf)).1 (Prod.mk.inj (Option.some.inj hf)).2
def fX12_set (N : Nat) (σ : St) (x1 : Int32) (x2 : Int32) (x3 : Int32) : Option (Int32 × St) :=
  if (fX12_isPlot x1) = 0 then (some ((-2 : Int32), σ)) else (if x2 = (0 : Int32) then (if (fX12_isIn (x3).toInt64 (0 : Int64) (60 : Int64)) = 0 then (some ((-2 : Int32), σ)) else (if ix x1 48 = true then nm (aR σ 5 x1) fun v3 => if ix x1 48 = true then nm (aW σ 5 x1 x3) fun σ6 => some (v3, σ6) else none else none)) else (if x2 = (1 : Int32) then (if (fX12_isIn (x3).toInt64 (0 : Int64) (9999 : Int64)) = 0 then (some ((-2 : Int32), σ)) else (if ix x1 48 = true then nm (aR σ 6 x1) fun v10 => if ix x1 48 = true then nm (aW σ 6 x1 x3) fun σ13 => some (v10, σ13) else none else none)) else (if x2 = (2 : Int32) then (if (fX12_isIn (x3).toInt64 (1 : Int64) (999 : Int64)) = 0 then (some ((-2 : Int32), σ)) else (if ix x1 48 = true then nm (aR σ 7 x1) fun v17 => if ix x1 48 = true then nm (aW σ 7 x1 x3) fun σ20 => some (v17, σ20) else none else none)) else (if x2 = (3 : Int32) then (if (fX12_isIn (x3).toInt64 (0 : Int64) (1 : Int64)) = 0 then (some ((-2 : Int32), σ)) else (if ix x1 48 = true then nm (aR σ 8 x1) fun v24 => if ix x1 48 = true then nm (aW σ 8 x1 x3) fun σ27 => some (v24, σ27) else none else none)) else (some ((-2 : Int32), σ))))))
set_option maxHeartbeats 2000000 in
set_option maxRecDepth 20000 in
theorem tX12_set {r : Int32} {σ' : St} {N : Nat} {σ : St} {x1 : Int32} {x2 : Int32} {x3 : Int32} (hf : fX12_set N σ x1 x2 x3 = some (r, σ')) : CI l (MWd D ad cs) yX12_set cX12_set 5 (some .int) 2 45 [.ref (ad 0), .int x1, .int x2, .int x3] σ r σ' := by
  refine CI.of (by decide) (Nat.le_of_ble_eq_true rfl) ?_
  intro p e s m below meth c ls S hr hlk hw hl
  have hl : lv_has ls 5 [(0, .ref (ad 0)), (1, .int x1), (2, .int x2), (3, .int x3)] := hl
  unfold fX12_set at hf
  refine lv_iload_n S.1 S.2.1 dX12_set_0 rfl (lv_at hl 1 rfl) ?_
  refine g_Si (rest := []) (MWd_ok D ad cs) S hw (tX12_isPlot (ad := ad) (cs := cs) (σ := σ) rfl) kt_X12_19 ⟨Nat.le_of_ble_eq_true rfl, Nat.le_of_ble_eq_true rfl⟩ rfl hl.1 rfl (Nat.le_of_ble_eq_true rfl) ⟨Nat.zero_le _, Nat.zero_le _⟩ dX12_set_1 (fun H locs hw => ?_)
  refine lv_if_ne (tgt := 10) S.1 S.2.1 dX12_set_4 (by decide) (fun hc => ?_) (fun hc => ?_)
  · have hf := itf hf hc
    refine lv_iconst (v := 0) S.1 S.2.1 dX12_set_10 (by decide) ?_
    refine lv_istore (lv' := [(4, .int (0 : Int32)), (0, .ref (ad 0)), (1, .int x1), (2, .int x2), (3, .int x3)]) S.1 S.2.1 dX12_set_11 hl (by decide) rfl (fun ls hl => ?_)
    refine lv_iload_n S.1 S.2.1 dX12_set_13 rfl (lv_at hl 3 rfl) ?_
    by_cases h1 : x2 = (0 : Int32)
    · have hf := itt hf h1
      refine lv_tableIn (off := 30) (tgt := 44) S.1 S.2.1 dX12_set_14 (by rw [h1]; decide) (by rw [h1]; decide) (by rw [h1]; rfl) (by decide) ?_
      refine lv_iload_n S.1 S.2.1 dX12_set_44 rfl (lv_at hl 4 rfl) ?_
      refine lv_i2l S.1 S.2.1 dX12_set_45 rfl ?_
      refine lv_lconst (v := 0) S.1 S.2.1 dX12_set_46 (by decide) ?_
      refine lv_ldc2 S.1 S.2.1 S.2.2.2.1 (S.2.2.2.2 _ kc_X12_51) dX12_set_47 ?_
      refine g_Si (rest := []) (MWd_ok D ad cs) S hw (tX12_isIn (ad := ad) (cs := cs) (σ := σ) rfl) kt_X12_5 ⟨Nat.le_of_ble_eq_true rfl, Nat.le_of_ble_eq_true rfl⟩ rfl hl.1 rfl (Nat.le_of_ble_eq_true rfl) ⟨Nat.zero_le _, Nat.zero_le _⟩ dX12_set_50 (fun H locs hw => ?_)
      refine lv_if_ne (tgt := 59) S.1 S.2.1 dX12_set_53 (by decide) (fun hc => ?_) (fun hc => ?_)
      · have hf := itf hf hc
        refine lv_aload_n S.1 S.2.1 dX12_set_59 rfl (lv_at hl 1 rfl) ?_
        refine mg_WayLeavesModel_roof S hw kf_X12_53 dX12_set_60 ?_
        refine lv_iload_n S.1 S.2.1 dX12_set_63 rfl (lv_at hl 2 rfl) ?_
        obtain ⟨h2, hf⟩ := gd_ix hf
        refine g_iald S hw 5 0 me_5 rfl h2 dX12_set_64 ?_
        refine lv_topi (fun v3 e4 => ?_)
        have hf := nm_s e4 hf
        refine lv_istore (lv' := [(4, .int v3), (0, .ref (ad 0)), (1, .int x1), (2, .int x2), (3, .int x3)]) S.1 S.2.1 dX12_set_65 hl (by decide) rfl (fun ls hl => ?_)
        refine lv_aload_n S.1 S.2.1 dX12_set_67 rfl (lv_at hl 1 rfl) ?_
        refine mg_WayLeavesModel_roof S hw kf_X12_53 dX12_set_68 ?_
        refine lv_iload_n S.1 S.2.1 dX12_set_71 rfl (lv_at hl 2 rfl) ?_
        refine lv_iload_n S.1 S.2.1 dX12_set_72 rfl (lv_at hl 4 rfl) ?_
        obtain ⟨h5, hf⟩ := gd_ix hf
        obtain ⟨σ6, e7⟩ : ∃ z : St, z = aW σ 5 x1 x3 := ⟨_, rfl⟩
        have hf := nm_s e7 hf
        refine g_iast (σ' := σ6) S hw 5 0 me_5 rfl (by rw [e7]; exact ms_5 _) h5 dX12_set_73 (fun H locs hw => ?_)
        refine lv_iload S.1 S.2.1 dX12_set_74 (lv_at hl 0 rfl) ?_
        exact g_iret (MWd_ok D ad cs) S hr hlk hw dX12_set_76 (Prod.mk.inj (Option.some.inj hf)).1 (Prod.mk.inj (Option.some.inj hf)).2
      · have hf := itt hf hc
        refine lv_bipush (v := -2) S.1 S.2.1 dX12_set_56 (by decide) ?_
        exact g_iret (MWd_ok D ad cs) S hr hlk hw dX12_set_58 (Prod.mk.inj (Option.some.inj hf)).1 (Prod.mk.inj (Option.some.inj hf)).2
    have hf := itf hf h1
    by_cases h8 : x2 = (1 : Int32)
    · have hf := itt hf h8
      refine lv_tableIn (off := 63) (tgt := 77) S.1 S.2.1 dX12_set_14 (by rw [h8]; decide) (by rw [h8]; decide) (by rw [h8]; rfl) (by decide) ?_
      refine lv_iload_n S.1 S.2.1 dX12_set_77 rfl (lv_at hl 4 rfl) ?_
      refine lv_i2l S.1 S.2.1 dX12_set_78 rfl ?_
      refine lv_lconst (v := 0) S.1 S.2.1 dX12_set_79 (by decide) ?_
      refine lv_ldc2 S.1 S.2.1 S.2.2.2.1 (S.2.2.2.2 _ kc_X12_3) dX12_set_80 ?_
      refine g_Si (rest := []) (MWd_ok D ad cs) S hw (tX12_isIn (ad := ad) (cs := cs) (σ := σ) rfl) kt_X12_5 ⟨Nat.le_of_ble_eq_true rfl, Nat.le_of_ble_eq_true rfl⟩ rfl hl.1 rfl (Nat.le_of_ble_eq_true rfl) ⟨Nat.zero_le _, Nat.zero_le _⟩ dX12_set_83 (fun H locs hw => ?_)
      refine lv_if_ne (tgt := 92) S.1 S.2.1 dX12_set_86 (by decide) (fun hc => ?_) (fun hc => ?_)
      · have hf := itf hf hc
        refine lv_aload_n S.1 S.2.1 dX12_set_92 rfl (lv_at hl 1 rfl) ?_
        refine mg_WayLeavesModel_worthOf S hw kf_X12_56 dX12_set_93 ?_
        refine lv_iload_n S.1 S.2.1 dX12_set_96 rfl (lv_at hl 2 rfl) ?_
        obtain ⟨h9, hf⟩ := gd_ix hf
        refine g_iald S hw 6 0 me_6 rfl h9 dX12_set_97 ?_
        refine lv_topi (fun v10 e11 => ?_)
        have hf := nm_s e11 hf
        refine lv_istore (lv' := [(4, .int v10), (0, .ref (ad 0)), (1, .int x1), (2, .int x2), (3, .int x3)]) S.1 S.2.1 dX12_set_98 hl (by decide) rfl (fun ls hl => ?_)
        refine lv_aload_n S.1 S.2.1 dX12_set_100 rfl (lv_at hl 1 rfl) ?_
        refine mg_WayLeavesModel_worthOf S hw kf_X12_56 dX12_set_101 ?_
        refine lv_iload_n S.1 S.2.1 dX12_set_104 rfl (lv_at hl 2 rfl) ?_
        refine lv_iload_n S.1 S.2.1 dX12_set_105 rfl (lv_at hl 4 rfl) ?_
        obtain ⟨h12, hf⟩ := gd_ix hf
        obtain ⟨σ13, e14⟩ : ∃ z : St, z = aW σ 6 x1 x3 := ⟨_, rfl⟩
        have hf := nm_s e14 hf
        refine g_iast (σ' := σ13) S hw 6 0 me_6 rfl (by rw [e14]; exact ms_6 _) h12 dX12_set_106 (fun H locs hw => ?_)
        refine lv_iload S.1 S.2.1 dX12_set_107 (lv_at hl 0 rfl) ?_
        exact g_iret (MWd_ok D ad cs) S hr hlk hw dX12_set_109 (Prod.mk.inj (Option.some.inj hf)).1 (Prod.mk.inj (Option.some.inj hf)).2
      · have hf := itt hf hc
        refine lv_bipush (v := -2) S.1 S.2.1 dX12_set_89 (by decide) ?_
        exact g_iret (MWd_ok D ad cs) S hr hlk hw dX12_set_91 (Prod.mk.inj (Option.some.inj hf)).1 (Prod.mk.inj (Option.some.inj hf)).2
    have hf := itf hf h8
    by_cases h15 : x2 = (2 : Int32)
    · have hf := itt hf h15
      refine lv_tableIn (off := 96) (tgt := 110) S.1 S.2.1 dX12_set_14 (by rw [h15]; decide) (by rw [h15]; decide) (by rw [h15]; rfl) (by decide) ?_
      refine lv_iload_n S.1 S.2.1 dX12_set_110 rfl (lv_at hl 4 rfl) ?_
      refine lv_i2l S.1 S.2.1 dX12_set_111 rfl ?_
      refine lv_lconst (v := 1) S.1 S.2.1 dX12_set_112 (by decide) ?_
      refine lv_ldc2 S.1 S.2.1 S.2.2.2.1 (S.2.2.2.2 _ kc_X12_59) dX12_set_113 ?_
      refine g_Si (rest := []) (MWd_ok D ad cs) S hw (tX12_isIn (ad := ad) (cs := cs) (σ := σ) rfl) kt_X12_5 ⟨Nat.le_of_ble_eq_true rfl, Nat.le_of_ble_eq_true rfl⟩ rfl hl.1 rfl (Nat.le_of_ble_eq_true rfl) ⟨Nat.zero_le _, Nat.zero_le _⟩ dX12_set_116 (fun H locs hw => ?_)
      refine lv_if_ne (tgt := 125) S.1 S.2.1 dX12_set_119 (by decide) (fun hc => ?_) (fun hc => ?_)
      · have hf := itf hf hc
        refine lv_aload_n S.1 S.2.1 dX12_set_125 rfl (lv_at hl 1 rfl) ?_
        refine mg_WayLeavesModel_cost S hw kf_X12_61 dX12_set_126 ?_
        refine lv_iload_n S.1 S.2.1 dX12_set_129 rfl (lv_at hl 2 rfl) ?_
        obtain ⟨h16, hf⟩ := gd_ix hf
        refine g_iald S hw 7 0 me_7 rfl h16 dX12_set_130 ?_
        refine lv_topi (fun v17 e18 => ?_)
        have hf := nm_s e18 hf
        refine lv_istore (lv' := [(4, .int v17), (0, .ref (ad 0)), (1, .int x1), (2, .int x2), (3, .int x3)]) S.1 S.2.1 dX12_set_131 hl (by decide) rfl (fun ls hl => ?_)
        refine lv_aload_n S.1 S.2.1 dX12_set_133 rfl (lv_at hl 1 rfl) ?_
        refine mg_WayLeavesModel_cost S hw kf_X12_61 dX12_set_134 ?_
        refine lv_iload_n S.1 S.2.1 dX12_set_137 rfl (lv_at hl 2 rfl) ?_
        refine lv_iload_n S.1 S.2.1 dX12_set_138 rfl (lv_at hl 4 rfl) ?_
        obtain ⟨h19, hf⟩ := gd_ix hf
        obtain ⟨σ20, e21⟩ : ∃ z : St, z = aW σ 7 x1 x3 := ⟨_, rfl⟩
        have hf := nm_s e21 hf
        refine g_iast (σ' := σ20) S hw 7 0 me_7 rfl (by rw [e21]; exact ms_7 _) h19 dX12_set_139 (fun H locs hw => ?_)
        refine lv_iload S.1 S.2.1 dX12_set_140 (lv_at hl 0 rfl) ?_
        exact g_iret (MWd_ok D ad cs) S hr hlk hw dX12_set_142 (Prod.mk.inj (Option.some.inj hf)).1 (Prod.mk.inj (Option.some.inj hf)).2
      · have hf := itt hf hc
        refine lv_bipush (v := -2) S.1 S.2.1 dX12_set_122 (by decide) ?_
        exact g_iret (MWd_ok D ad cs) S hr hlk hw dX12_set_124 (Prod.mk.inj (Option.some.inj hf)).1 (Prod.mk.inj (Option.some.inj hf)).2
    have hf := itf hf h15
    by_cases h22 : x2 = (3 : Int32)
    · have hf := itt hf h22
      refine lv_tableIn (off := 129) (tgt := 143) S.1 S.2.1 dX12_set_14 (by rw [h22]; decide) (by rw [h22]; decide) (by rw [h22]; rfl) (by decide) ?_
      refine lv_iload_n S.1 S.2.1 dX12_set_143 rfl (lv_at hl 4 rfl) ?_
      refine lv_i2l S.1 S.2.1 dX12_set_144 rfl ?_
      refine lv_lconst (v := 0) S.1 S.2.1 dX12_set_145 (by decide) ?_
      refine lv_lconst (v := 1) S.1 S.2.1 dX12_set_146 (by decide) ?_
      refine g_Si (rest := []) (MWd_ok D ad cs) S hw (tX12_isIn (ad := ad) (cs := cs) (σ := σ) rfl) kt_X12_5 ⟨Nat.le_of_ble_eq_true rfl, Nat.le_of_ble_eq_true rfl⟩ rfl hl.1 rfl (Nat.le_of_ble_eq_true rfl) ⟨Nat.zero_le _, Nat.zero_le _⟩ dX12_set_147 (fun H locs hw => ?_)
      refine lv_if_ne (tgt := 156) S.1 S.2.1 dX12_set_150 (by decide) (fun hc => ?_) (fun hc => ?_)
      · have hf := itf hf hc
        refine lv_aload_n S.1 S.2.1 dX12_set_156 rfl (lv_at hl 1 rfl) ?_
        refine mg_WayLeavesModel_bar S hw kf_X12_64 dX12_set_157 ?_
        refine lv_iload_n S.1 S.2.1 dX12_set_160 rfl (lv_at hl 2 rfl) ?_
        obtain ⟨h23, hf⟩ := gd_ix hf
        refine g_iald S hw 8 0 me_8 rfl h23 dX12_set_161 ?_
        refine lv_topi (fun v24 e25 => ?_)
        have hf := nm_s e25 hf
        refine lv_istore (lv' := [(4, .int v24), (0, .ref (ad 0)), (1, .int x1), (2, .int x2), (3, .int x3)]) S.1 S.2.1 dX12_set_162 hl (by decide) rfl (fun ls hl => ?_)
        refine lv_aload_n S.1 S.2.1 dX12_set_164 rfl (lv_at hl 1 rfl) ?_
        refine mg_WayLeavesModel_bar S hw kf_X12_64 dX12_set_165 ?_
        refine lv_iload_n S.1 S.2.1 dX12_set_168 rfl (lv_at hl 2 rfl) ?_
        refine lv_iload_n S.1 S.2.1 dX12_set_169 rfl (lv_at hl 4 rfl) ?_
        obtain ⟨h26, hf⟩ := gd_ix hf
        obtain ⟨σ27, e28⟩ : ∃ z : St, z = aW σ 8 x1 x3 := ⟨_, rfl⟩
        have hf := nm_s e28 hf
        refine g_iast (σ' := σ27) S hw 8 0 me_8 rfl (by rw [e28]; exact ms_8 _) h26 dX12_set_170 (fun H locs hw => ?_)
        refine lv_iload S.1 S.2.1 dX12_set_171 (lv_at hl 0 rfl) ?_
        exact g_iret (MWd_ok D ad cs) S hr hlk hw dX12_set_173 (Prod.mk.inj (Option.some.inj hf)).1 (Prod.mk.inj (Option.some.inj hf)).2
      · have hf := itt hf hc
        refine lv_bipush (v := -2) S.1 S.2.1 dX12_set_153 (by decide) ?_
        exact g_iret (MWd_ok D ad cs) S hr hlk hw dX12_set_155 (Prod.mk.inj (Option.some.inj hf)).1 (Prod.mk.inj (Option.some.inj hf)).2
    have hf := itf hf h22
    refine lv_tableOut (tgt := 174) S.1 S.2.1 dX12_set_14 (by have h1 := lv_neT h1 (a := 0) (by decide); have h8 := lv_neT h8 (a := 1) (by decide); have h15 := lv_neT h15 (a := 2) (by decide); have h22 := lv_neT h22 (a := 3) (by decide); omega) (by decide) ?_
    refine lv_bipush (v := -2) S.1 S.2.1 dX12_set_174 (by decide) ?_
    exact g_iret (MWd_ok D ad cs) S hr hlk hw dX12_set_176 (Prod.mk.inj (Option.some.inj hf)).1 (Prod.mk.inj (Option.some.inj hf)).2
  · have hf := itt hf hc
    refine lv_bipush (v := -2) S.1 S.2.1 dX12_set_7 (by decide) ?_
    exact g_iret (MWd_ok D ad cs) S hr hlk hw dX12_set_9 (Prod.mk.inj (Option.some.inj hf)).1 (Prod.mk.inj (Option.some.inj hf)).2
def fX12_highOf (N : Nat) (σ : St) (x1 : Int32) : Option Int32 :=
  if ix x1 48 = true then if ix x1 48 = true then if ix x1 48 = true then some ((aR σ 9 x1) + ((aR σ 10 x1) * (((σ.1 0) - (aR σ 11 x1)) / (365 : Int32)))) else none else none else none
set_option maxHeartbeats 2000000 in
set_option maxRecDepth 20000 in
theorem tX12_highOf {r : Int32} {N : Nat} {σ : St} {x1 : Int32} (hf : fX12_highOf N σ x1 = some r) : CI l (MWd D ad cs) yX12_highOf cX12_highOf 2 (some .int) 0 0 [.ref (ad 0), .int x1] σ r σ := by
  refine CI.of (by decide) (Nat.le_of_ble_eq_true rfl) ?_
  intro p e s m below meth c ls S hr hlk hw hl
  have hl : lv_has ls 2 [(0, .ref (ad 0)), (1, .int x1)] := hl
  unfold fX12_highOf at hf
  refine lv_aload_n S.1 S.2.1 dX12_highOf_0 rfl (lv_at hl 0 rfl) ?_
  refine mg_WayLeavesModel_treeHigh S hw kf_X12_67 dX12_highOf_1 ?_
  refine lv_iload_n S.1 S.2.1 dX12_highOf_4 rfl (lv_at hl 1 rfl) ?_
  obtain ⟨h1, hf⟩ := gd_ix hf
  refine g_iald S hw 9 0 me_9 rfl h1 dX12_highOf_5 ?_
  refine lv_aload_n S.1 S.2.1 dX12_highOf_6 rfl (lv_at hl 0 rfl) ?_
  refine mg_WayLeavesModel_treeGrow S hw kf_X12_70 dX12_highOf_7 ?_
  refine lv_iload_n S.1 S.2.1 dX12_highOf_10 rfl (lv_at hl 1 rfl) ?_
  obtain ⟨h2, hf⟩ := gd_ix hf
  refine g_iald S hw 10 0 me_10 rfl h2 dX12_highOf_11 ?_
  refine lv_aload_n S.1 S.2.1 dX12_highOf_12 rfl (lv_at hl 0 rfl) ?_
  refine mg_WayLeavesModel_today S hw kf_X12_15 dX12_highOf_13 ?_
  refine lv_aload_n S.1 S.2.1 dX12_highOf_16 rfl (lv_at hl 0 rfl) ?_
  refine mg_WayLeavesModel_treeDay S hw kf_X12_73 dX12_highOf_17 ?_
  refine lv_iload_n S.1 S.2.1 dX12_highOf_20 rfl (lv_at hl 1 rfl) ?_
  obtain ⟨h3, hf⟩ := gd_ix hf
  refine g_iald S hw 11 0 me_11 rfl h3 dX12_highOf_21 ?_
  refine lv_isub S.1 S.2.1 dX12_highOf_22 ?_
  refine lv_sipush (v := 365) S.1 S.2.1 dX12_highOf_23 (by decide) ?_
  refine lv_idiv S.1 S.2.1 dX12_highOf_26 (by decide) ?_
  refine lv_imul S.1 S.2.1 dX12_highOf_27 ?_
  refine lv_iadd S.1 S.2.1 dX12_highOf_28 ?_
  exact g_iret (MWd_ok D ad cs) S hr hlk hw dX12_highOf_29 (Option.some.inj hf) rfl
def fX12_trees (N : Nat) (σ : St) (x1 : Int32) (x2 : Int32) (x3 : Int32) : Option (Int32 × St) :=
  if (fX12_isPlot x1) = 0 then (some ((-2 : Int32), σ)) else (if (fX12_isIn (x2).toInt64 (0 : Int64) (40 : Int64)) = 0 then (some ((-2 : Int32), σ)) else (if (fX12_isIn (x3).toInt64 (0 : Int64) (9 : Int64)) = 0 then (some ((-2 : Int32), σ)) else (bd (fX12_highOf N σ x1) fun r1 => if ix x1 48 = true then nm (aW σ 9 x1 x2) fun σ4 => if ix x1 48 = true then nm (aW σ4 10 x1 x3) fun σ7 => if ix x1 48 = true then nm (aW σ7 11 x1 (σ7.1 0)) fun σ10 => some (r1, σ10) else none else none else none)))
set_option maxHeartbeats 2000000 in
set_option maxRecDepth 20000 in
theorem tX12_trees {r : Int32} {σ' : St} {N : Nat} {σ : St} {x1 : Int32} {x2 : Int32} {x3 : Int32} (hf : fX12_trees N σ x1 x2 x3 = some (r, σ')) : CI l (MWd D ad cs) yX12_trees cX12_trees 5 (some .int) 2 45 [.ref (ad 0), .int x1, .int x2, .int x3] σ r σ' := by
  refine CI.of (by decide) (Nat.le_of_ble_eq_true rfl) ?_
  intro p e s m below meth c ls S hr hlk hw hl
  have hl : lv_has ls 5 [(0, .ref (ad 0)), (1, .int x1), (2, .int x2), (3, .int x3)] := hl
  unfold fX12_trees at hf
  refine lv_iload_n S.1 S.2.1 dX12_trees_0 rfl (lv_at hl 1 rfl) ?_
  refine g_Si (rest := []) (MWd_ok D ad cs) S hw (tX12_isPlot (ad := ad) (cs := cs) (σ := σ) rfl) kt_X12_19 ⟨Nat.le_of_ble_eq_true rfl, Nat.le_of_ble_eq_true rfl⟩ rfl hl.1 rfl (Nat.le_of_ble_eq_true rfl) ⟨Nat.zero_le _, Nat.zero_le _⟩ dX12_trees_1 (fun H locs hw => ?_)
  refine lv_if_eq (tgt := 31) S.1 S.2.1 dX12_trees_4 (by decide) (fun hc => ?_) (fun hc => ?_)
  · have hf := itt hf hc
    refine lv_bipush (v := -2) S.1 S.2.1 dX12_trees_31 (by decide) ?_
    exact g_iret (MWd_ok D ad cs) S hr hlk hw dX12_trees_33 (Prod.mk.inj (Option.some.inj hf)).1 (Prod.mk.inj (Option.some.inj hf)).2
  · have hf := itf hf hc
    refine lv_iload_n S.1 S.2.1 dX12_trees_7 rfl (lv_at hl 2 rfl) ?_
    refine lv_i2l S.1 S.2.1 dX12_trees_8 rfl ?_
    refine lv_lconst (v := 0) S.1 S.2.1 dX12_trees_9 (by decide) ?_
    refine lv_ldc2 S.1 S.2.1 S.2.2.2.1 (S.2.2.2.2 _ kc_X12_76) dX12_trees_10 ?_
    refine g_Si (rest := []) (MWd_ok D ad cs) S hw (tX12_isIn (ad := ad) (cs := cs) (σ := σ) rfl) kt_X12_5 ⟨Nat.le_of_ble_eq_true rfl, Nat.le_of_ble_eq_true rfl⟩ rfl hl.1 rfl (Nat.le_of_ble_eq_true rfl) ⟨Nat.zero_le _, Nat.zero_le _⟩ dX12_trees_13 (fun H locs hw => ?_)
    refine lv_if_eq (tgt := 31) S.1 S.2.1 dX12_trees_16 (by decide) (fun hc => ?_) (fun hc => ?_)
    · have hf := itt hf hc
      refine lv_bipush (v := -2) S.1 S.2.1 dX12_trees_31 (by decide) ?_
      exact g_iret (MWd_ok D ad cs) S hr hlk hw dX12_trees_33 (Prod.mk.inj (Option.some.inj hf)).1 (Prod.mk.inj (Option.some.inj hf)).2
    · have hf := itf hf hc
      refine lv_iload_n S.1 S.2.1 dX12_trees_19 rfl (lv_at hl 3 rfl) ?_
      refine lv_i2l S.1 S.2.1 dX12_trees_20 rfl ?_
      refine lv_lconst (v := 0) S.1 S.2.1 dX12_trees_21 (by decide) ?_
      refine lv_ldc2 S.1 S.2.1 S.2.2.2.1 (S.2.2.2.2 _ kc_X12_11) dX12_trees_22 ?_
      refine g_Si (rest := []) (MWd_ok D ad cs) S hw (tX12_isIn (ad := ad) (cs := cs) (σ := σ) rfl) kt_X12_5 ⟨Nat.le_of_ble_eq_true rfl, Nat.le_of_ble_eq_true rfl⟩ rfl hl.1 rfl (Nat.le_of_ble_eq_true rfl) ⟨Nat.zero_le _, Nat.zero_le _⟩ dX12_trees_25 (fun H locs hw => ?_)
      refine lv_if_ne (tgt := 34) S.1 S.2.1 dX12_trees_28 (by decide) (fun hc => ?_) (fun hc => ?_)
      · have hf := itf hf hc
        refine lv_aload_n S.1 S.2.1 dX12_trees_34 rfl (lv_at hl 0 rfl) ?_
        refine lv_iload_n S.1 S.2.1 dX12_trees_35 rfl (lv_at hl 1 rfl) ?_
        obtain ⟨r1, g2, hf⟩ := bd_s hf
        refine g_Vi (rest := []) (MWd_ok D ad cs) S hw (tX12_highOf g2) kt_X12_78 0 me_0 rfl rfl ⟨Nat.le_of_ble_eq_true rfl, Nat.le_of_ble_eq_true rfl⟩ rfl hl.1 rfl (Nat.le_of_ble_eq_true rfl) ⟨Nat.zero_le _, Nat.zero_le _⟩ dX12_trees_36 (fun H locs hw => ?_)
        refine lv_istore (lv' := [(4, .int r1), (0, .ref (ad 0)), (1, .int x1), (2, .int x2), (3, .int x3)]) S.1 S.2.1 dX12_trees_39 hl (by decide) rfl (fun ls hl => ?_)
        refine lv_aload_n S.1 S.2.1 dX12_trees_41 rfl (lv_at hl 1 rfl) ?_
        refine mg_WayLeavesModel_treeHigh S hw kf_X12_67 dX12_trees_42 ?_
        refine lv_iload_n S.1 S.2.1 dX12_trees_45 rfl (lv_at hl 2 rfl) ?_
        refine lv_iload_n S.1 S.2.1 dX12_trees_46 rfl (lv_at hl 3 rfl) ?_
        obtain ⟨h3, hf⟩ := gd_ix hf
        obtain ⟨σ4, e5⟩ : ∃ z : St, z = aW σ 9 x1 x2 := ⟨_, rfl⟩
        have hf := nm_s e5 hf
        refine g_iast (σ' := σ4) S hw 9 0 me_9 rfl (by rw [e5]; exact ms_9 _) h3 dX12_trees_47 (fun H locs hw => ?_)
        refine lv_aload_n S.1 S.2.1 dX12_trees_48 rfl (lv_at hl 1 rfl) ?_
        refine mg_WayLeavesModel_treeGrow S hw kf_X12_70 dX12_trees_49 ?_
        refine lv_iload_n S.1 S.2.1 dX12_trees_52 rfl (lv_at hl 2 rfl) ?_
        refine lv_iload_n S.1 S.2.1 dX12_trees_53 rfl (lv_at hl 4 rfl) ?_
        obtain ⟨h6, hf⟩ := gd_ix hf
        obtain ⟨σ7, e8⟩ : ∃ z : St, z = aW σ4 10 x1 x3 := ⟨_, rfl⟩
        have hf := nm_s e8 hf
        refine g_iast (σ' := σ7) S hw 10 0 me_10 rfl (by rw [e8]; exact ms_10 _) h6 dX12_trees_54 (fun H locs hw => ?_)
        refine lv_aload_n S.1 S.2.1 dX12_trees_55 rfl (lv_at hl 1 rfl) ?_
        refine mg_WayLeavesModel_treeDay S hw kf_X12_73 dX12_trees_56 ?_
        refine lv_iload_n S.1 S.2.1 dX12_trees_59 rfl (lv_at hl 2 rfl) ?_
        refine lv_aload_n S.1 S.2.1 dX12_trees_60 rfl (lv_at hl 1 rfl) ?_
        refine mg_WayLeavesModel_today S hw kf_X12_15 dX12_trees_61 ?_
        obtain ⟨h9, hf⟩ := gd_ix hf
        obtain ⟨σ10, e11⟩ : ∃ z : St, z = aW σ7 11 x1 (σ7.1 0) := ⟨_, rfl⟩
        have hf := nm_s e11 hf
        refine g_iast (σ' := σ10) S hw 11 0 me_11 rfl (by rw [e11]; exact ms_11 _) h9 dX12_trees_64 (fun H locs hw => ?_)
        refine lv_iload S.1 S.2.1 dX12_trees_65 (lv_at hl 0 rfl) ?_
        exact g_iret (MWd_ok D ad cs) S hr hlk hw dX12_trees_67 (Prod.mk.inj (Option.some.inj hf)).1 (Prod.mk.inj (Option.some.inj hf)).2
      · have hf := itt hf hc
        refine lv_bipush (v := -2) S.1 S.2.1 dX12_trees_31 (by decide) ?_
        exact g_iret (MWd_ok D ad cs) S hr hlk hw dX12_trees_33 (Prod.mk.inj (Option.some.inj hf)).1 (Prod.mk.inj (Option.some.inj hf)).2
def fX12_high (N : Nat) (σ : St) (x1 : Int32) : Option Int32 :=
  if (fX12_isPlot x1) = 0 then (some (-2 : Int32)) else (bd (fX12_highOf N σ x1) fun r1 => some r1)
set_option maxHeartbeats 2000000 in
set_option maxRecDepth 20000 in
theorem tX12_high {r : Int32} {N : Nat} {σ : St} {x1 : Int32} (hf : fX12_high N σ x1 = some r) : CI l (MWd D ad cs) yX12_high cX12_high 2 (some .int) 2 45 [.ref (ad 0), .int x1] σ r σ := by
  refine CI.of (by decide) (Nat.le_of_ble_eq_true rfl) ?_
  intro p e s m below meth c ls S hr hlk hw hl
  have hl : lv_has ls 2 [(0, .ref (ad 0)), (1, .int x1)] := hl
  unfold fX12_high at hf
  refine lv_iload_n S.1 S.2.1 dX12_high_0 rfl (lv_at hl 1 rfl) ?_
  refine g_Si (rest := []) (MWd_ok D ad cs) S hw (tX12_isPlot (ad := ad) (cs := cs) (σ := σ) rfl) kt_X12_19 ⟨Nat.le_of_ble_eq_true rfl, Nat.le_of_ble_eq_true rfl⟩ rfl hl.1 rfl (Nat.le_of_ble_eq_true rfl) ⟨Nat.zero_le _, Nat.zero_le _⟩ dX12_high_1 (fun H locs hw => ?_)
  refine lv_if_eq (tgt := 15) S.1 S.2.1 dX12_high_4 (by decide) (fun hc => ?_) (fun hc => ?_)
  · have hf := itt hf hc
    refine lv_bipush (v := -2) S.1 S.2.1 dX12_high_15 (by decide) ?_
    exact g_iret (MWd_ok D ad cs) S hr hlk hw dX12_high_17 (Option.some.inj hf) rfl
  · have hf := itf hf hc
    refine lv_aload_n S.1 S.2.1 dX12_high_7 rfl (lv_at hl 0 rfl) ?_
    refine lv_iload_n S.1 S.2.1 dX12_high_8 rfl (lv_at hl 1 rfl) ?_
    obtain ⟨r1, g2, hf⟩ := bd_s hf
    refine g_Vi (rest := []) (MWd_ok D ad cs) S hw (tX12_highOf g2) kt_X12_78 0 me_0 rfl rfl ⟨Nat.le_of_ble_eq_true rfl, Nat.le_of_ble_eq_true rfl⟩ rfl hl.1 rfl (Nat.le_of_ble_eq_true rfl) ⟨Nat.zero_le _, Nat.zero_le _⟩ dX12_high_9 (fun H locs hw => ?_)
    refine lv_goto (tgt := 17) S.1 S.2.1 dX12_high_12 (by decide) ?_
    exact g_iret (MWd_ok D ad cs) S hr hlk hw dX12_high_17 (Option.some.inj hf) rfl
def fX12_isTower (σ : St) (x1 : Int32) : Int32 :=
  if x1 < 0 then ((0 : Int32)) else (if (σ.1 2) ≤ x1 then ((0 : Int32)) else ((1 : Int32)))
set_option maxHeartbeats 2000000 in
set_option maxRecDepth 20000 in
theorem tX12_isTower {r : Int32} {σ : St} {x1 : Int32} (hf : fX12_isTower σ x1 = r) : CI l (MWd D ad cs) yX12_isTower cX12_isTower 2 (some .boolean) 0 0 [.ref (ad 0), .int x1] σ r σ := by
  refine CI.of (by decide) (Nat.le_of_ble_eq_true rfl) ?_
  intro p e s m below meth c ls S hr hlk hw hl
  have hl : lv_has ls 2 [(0, .ref (ad 0)), (1, .int x1)] := hl
  unfold fX12_isTower at hf
  refine lv_iload_n S.1 S.2.1 dX12_isTower_0 rfl (lv_at hl 1 rfl) ?_
  refine lv_if_lt (tgt := 16) S.1 S.2.1 dX12_isTower_1 (by decide) (fun hc => ?_) (fun hc => ?_)
  · have hf := itt hf hc
    refine lv_iconst (v := 0) S.1 S.2.1 dX12_isTower_16 (by decide) ?_
    exact g_zret (MWd_ok D ad cs) S hr hlk hw rfl dX12_isTower_17 hf rfl
  · have hf := itf hf hc
    refine lv_iload_n S.1 S.2.1 dX12_isTower_4 rfl (lv_at hl 1 rfl) ?_
    refine lv_aload_n S.1 S.2.1 dX12_isTower_5 rfl (lv_at hl 0 rfl) ?_
    refine mg_WayLeavesModel_towers S hw kf_X12_82 dX12_isTower_6 ?_
    refine lv_icmp_ge (tgt := 16) S.1 S.2.1 dX12_isTower_9 (by decide) (fun hc => ?_) (fun hc => ?_)
    · have hf := itt hf hc
      refine lv_iconst (v := 0) S.1 S.2.1 dX12_isTower_16 (by decide) ?_
      exact g_zret (MWd_ok D ad cs) S hr hlk hw rfl dX12_isTower_17 hf rfl
    · have hf := itf hf hc
      refine lv_iconst (v := 1) S.1 S.2.1 dX12_isTower_12 (by decide) ?_
      refine lv_goto (tgt := 17) S.1 S.2.1 dX12_isTower_13 (by decide) ?_
      exact g_zret (MWd_ok D ad cs) S hr hlk hw rfl dX12_isTower_17 hf rfl
theorem zzX12_isTower (σ : St) (x1 : Int32) : narrow .boolean (.int (fX12_isTower σ x1)) = .int (fX12_isTower σ x1) := by
  unfold fX12_isTower
  repeat' split
  all_goals first | rfl
def fX12_isSpan (σ : St) (x1 : Int32) : Int32 :=
  if x1 < 0 then ((0 : Int32)) else (if (σ.1 3) ≤ x1 then ((0 : Int32)) else ((1 : Int32)))
set_option maxHeartbeats 2000000 in
set_option maxRecDepth 20000 in
theorem tX12_isSpan {r : Int32} {σ : St} {x1 : Int32} (hf : fX12_isSpan σ x1 = r) : CI l (MWd D ad cs) yX12_isSpan cX12_isSpan 2 (some .boolean) 0 0 [.ref (ad 0), .int x1] σ r σ := by
  refine CI.of (by decide) (Nat.le_of_ble_eq_true rfl) ?_
  intro p e s m below meth c ls S hr hlk hw hl
  have hl : lv_has ls 2 [(0, .ref (ad 0)), (1, .int x1)] := hl
  unfold fX12_isSpan at hf
  refine lv_iload_n S.1 S.2.1 dX12_isSpan_0 rfl (lv_at hl 1 rfl) ?_
  refine lv_if_lt (tgt := 16) S.1 S.2.1 dX12_isSpan_1 (by decide) (fun hc => ?_) (fun hc => ?_)
  · have hf := itt hf hc
    refine lv_iconst (v := 0) S.1 S.2.1 dX12_isSpan_16 (by decide) ?_
    exact g_zret (MWd_ok D ad cs) S hr hlk hw rfl dX12_isSpan_17 hf rfl
  · have hf := itf hf hc
    refine lv_iload_n S.1 S.2.1 dX12_isSpan_4 rfl (lv_at hl 1 rfl) ?_
    refine lv_aload_n S.1 S.2.1 dX12_isSpan_5 rfl (lv_at hl 0 rfl) ?_
    refine mg_WayLeavesModel_spans S hw kf_X12_85 dX12_isSpan_6 ?_
    refine lv_icmp_ge (tgt := 16) S.1 S.2.1 dX12_isSpan_9 (by decide) (fun hc => ?_) (fun hc => ?_)
    · have hf := itt hf hc
      refine lv_iconst (v := 0) S.1 S.2.1 dX12_isSpan_16 (by decide) ?_
      exact g_zret (MWd_ok D ad cs) S hr hlk hw rfl dX12_isSpan_17 hf rfl
    · have hf := itf hf hc
      refine lv_iconst (v := 1) S.1 S.2.1 dX12_isSpan_12 (by decide) ?_
      refine lv_goto (tgt := 17) S.1 S.2.1 dX12_isSpan_13 (by decide) ?_
      exact g_zret (MWd_ok D ad cs) S hr hlk hw rfl dX12_isSpan_17 hf rfl
theorem zzX12_isSpan (σ : St) (x1 : Int32) : narrow .boolean (.int (fX12_isSpan σ x1)) = .int (fX12_isSpan σ x1) := by
  unfold fX12_isSpan
  repeat' split
  all_goals first | rfl
def fX12_tower (N : Nat) (σ : St) (x1 : Int32) (x2 : Int32) : Option (Int32 × St) :=
  if (fX12_isPlot x1) = 0 then (some ((-2 : Int32), σ)) else (if (fX12_isIn (x2).toInt64 (10 : Int64) (90 : Int64)) = 0 then (some ((-2 : Int32), σ)) else (if (σ.1 2) = (16 : Int32) then (some ((-4 : Int32), σ)) else (if ix (σ.1 2) 16 = true then nm (aW σ 12 (σ.1 2) x1) fun σ2 => if ix (σ2.1 2) 16 = true then nm (aW σ2 13 (σ2.1 2) x2) fun σ5 => nm (sI σ5 2 ((σ5.1 2) + (1 : Int32))) fun σ7 => some (((σ7.1 2) - (1 : Int32)), σ7) else none else none)))
set_option maxHeartbeats 2000000 in
set_option maxRecDepth 20000 in
theorem tX12_tower {r : Int32} {σ' : St} {N : Nat} {σ : St} {x1 : Int32} {x2 : Int32} (hf : fX12_tower N σ x1 x2 = some (r, σ')) : CI l (MWd D ad cs) yX12_tower cX12_tower 3 (some .int) 2 45 [.ref (ad 0), .int x1, .int x2] σ r σ' := by
  refine CI.of (by decide) (Nat.le_of_ble_eq_true rfl) ?_
  intro p e s m below meth c ls S hr hlk hw hl
  have hl : lv_has ls 3 [(0, .ref (ad 0)), (1, .int x1), (2, .int x2)] := hl
  unfold fX12_tower at hf
  refine lv_iload_n S.1 S.2.1 dX12_tower_0 rfl (lv_at hl 1 rfl) ?_
  refine g_Si (rest := []) (MWd_ok D ad cs) S hw (tX12_isPlot (ad := ad) (cs := cs) (σ := σ) rfl) kt_X12_19 ⟨Nat.le_of_ble_eq_true rfl, Nat.le_of_ble_eq_true rfl⟩ rfl hl.1 rfl (Nat.le_of_ble_eq_true rfl) ⟨Nat.zero_le _, Nat.zero_le _⟩ dX12_tower_1 (fun H locs hw => ?_)
  refine lv_if_eq (tgt := 21) S.1 S.2.1 dX12_tower_4 (by decide) (fun hc => ?_) (fun hc => ?_)
  · have hf := itt hf hc
    refine lv_bipush (v := -2) S.1 S.2.1 dX12_tower_21 (by decide) ?_
    exact g_iret (MWd_ok D ad cs) S hr hlk hw dX12_tower_23 (Prod.mk.inj (Option.some.inj hf)).1 (Prod.mk.inj (Option.some.inj hf)).2
  · have hf := itf hf hc
    refine lv_iload_n S.1 S.2.1 dX12_tower_7 rfl (lv_at hl 2 rfl) ?_
    refine lv_i2l S.1 S.2.1 dX12_tower_8 rfl ?_
    refine lv_ldc2 S.1 S.2.1 S.2.2.2.1 (S.2.2.2.2 _ kc_X12_88) dX12_tower_9 ?_
    refine lv_ldc2 S.1 S.2.1 S.2.2.2.1 (S.2.2.2.2 _ kc_X12_90) dX12_tower_12 ?_
    refine g_Si (rest := []) (MWd_ok D ad cs) S hw (tX12_isIn (ad := ad) (cs := cs) (σ := σ) rfl) kt_X12_5 ⟨Nat.le_of_ble_eq_true rfl, Nat.le_of_ble_eq_true rfl⟩ rfl hl.1 rfl (Nat.le_of_ble_eq_true rfl) ⟨Nat.zero_le _, Nat.zero_le _⟩ dX12_tower_15 (fun H locs hw => ?_)
    refine lv_if_ne (tgt := 24) S.1 S.2.1 dX12_tower_18 (by decide) (fun hc => ?_) (fun hc => ?_)
    · have hf := itf hf hc
      refine lv_aload_n S.1 S.2.1 dX12_tower_24 rfl (lv_at hl 0 rfl) ?_
      refine mg_WayLeavesModel_towers S hw kf_X12_82 dX12_tower_25 ?_
      refine lv_bipush (v := 16) S.1 S.2.1 dX12_tower_28 (by decide) ?_
      refine lv_icmp_ne (tgt := 36) S.1 S.2.1 dX12_tower_30 (by decide) (fun hc => ?_) (fun hc => ?_)
      · have hf := itf hf hc
        refine lv_aload_n S.1 S.2.1 dX12_tower_36 rfl (lv_at hl 0 rfl) ?_
        refine mg_WayLeavesModel_towerPlot S hw kf_X12_92 dX12_tower_37 ?_
        refine lv_aload_n S.1 S.2.1 dX12_tower_40 rfl (lv_at hl 0 rfl) ?_
        refine mg_WayLeavesModel_towers S hw kf_X12_82 dX12_tower_41 ?_
        refine lv_iload_n S.1 S.2.1 dX12_tower_44 rfl (lv_at hl 1 rfl) ?_
        obtain ⟨h1, hf⟩ := gd_ix hf
        obtain ⟨σ2, e3⟩ : ∃ z : St, z = aW σ 12 (σ.1 2) x1 := ⟨_, rfl⟩
        have hf := nm_s e3 hf
        refine g_iast (σ' := σ2) S hw 12 0 me_12 rfl (by rw [e3]; exact ms_12 _) h1 dX12_tower_45 (fun H locs hw => ?_)
        refine lv_aload_n S.1 S.2.1 dX12_tower_46 rfl (lv_at hl 0 rfl) ?_
        refine mg_WayLeavesModel_towerHeight S hw kf_X12_95 dX12_tower_47 ?_
        refine lv_aload_n S.1 S.2.1 dX12_tower_50 rfl (lv_at hl 0 rfl) ?_
        refine mg_WayLeavesModel_towers S hw kf_X12_82 dX12_tower_51 ?_
        refine lv_iload_n S.1 S.2.1 dX12_tower_54 rfl (lv_at hl 2 rfl) ?_
        obtain ⟨h4, hf⟩ := gd_ix hf
        obtain ⟨σ5, e6⟩ : ∃ z : St, z = aW σ2 13 (σ2.1 2) x2 := ⟨_, rfl⟩
        have hf := nm_s e6 hf
        refine g_iast (σ' := σ5) S hw 13 0 me_13 rfl (by rw [e6]; exact ms_13 _) h4 dX12_tower_55 (fun H locs hw => ?_)
        refine lv_aload_n S.1 S.2.1 dX12_tower_56 rfl (lv_at hl 0 rfl) ?_
        refine lv_dup S.1 S.2.1 dX12_tower_57 rfl ?_
        refine mg_WayLeavesModel_towers S hw kf_X12_82 dX12_tower_58 ?_
        refine lv_iconst (v := 1) S.1 S.2.1 dX12_tower_61 (by decide) ?_
        refine lv_iadd S.1 S.2.1 dX12_tower_62 ?_
        obtain ⟨σ7, e8⟩ : ∃ z : St, z = sI σ5 2 ((σ5.1 2) + (1 : Int32)) := ⟨_, rfl⟩
        have hf := nm_s e8 hf
        refine mp_WayLeavesModel_towers S hw e8 kf_X12_82 dX12_tower_63 (fun H locs hw => ?_)
        refine lv_aload_n S.1 S.2.1 dX12_tower_66 rfl (lv_at hl 0 rfl) ?_
        refine mg_WayLeavesModel_towers S hw kf_X12_82 dX12_tower_67 ?_
        refine lv_iconst (v := 1) S.1 S.2.1 dX12_tower_70 (by decide) ?_
        refine lv_isub S.1 S.2.1 dX12_tower_71 ?_
        exact g_iret (MWd_ok D ad cs) S hr hlk hw dX12_tower_72 (Prod.mk.inj (Option.some.inj hf)).1 (Prod.mk.inj (Option.some.inj hf)).2
      · have hf := itt hf hc
        refine lv_bipush (v := -4) S.1 S.2.1 dX12_tower_33 (by decide) ?_
        exact g_iret (MWd_ok D ad cs) S hr hlk hw dX12_tower_35 (Prod.mk.inj (Option.some.inj hf)).1 (Prod.mk.inj (Option.some.inj hf)).2
    · have hf := itt hf hc
      refine lv_bipush (v := -2) S.1 S.2.1 dX12_tower_21 (by decide) ?_
      exact g_iret (MWd_ok D ad cs) S hr hlk hw dX12_tower_23 (Prod.mk.inj (Option.some.inj hf)).1 (Prod.mk.inj (Option.some.inj hf)).2
def fX12_span (N : Nat) (σ : St) (x1 : Int32) (x2 : Int32) (x3 : Int32) (x4 : Int32) : Option (Int32 × St) :=
  if (fX12_isTower σ x1) = 0 then (some ((-2 : Int32), σ)) else (if (fX12_isTower σ x2) = 0 then (some ((-2 : Int32), σ)) else (if x1 = x2 then (some ((-2 : Int32), σ)) else (if (fX12_isPlot x3) = 0 then (some ((-2 : Int32), σ)) else (if (fX12_isIn (x4).toInt64 (50 : Int64) (600 : Int64)) = 0 then (some ((-2 : Int32), σ)) else (if (σ.1 3) = (16 : Int32) then (some ((-4 : Int32), σ)) else (if ix (σ.1 3) 16 = true then nm (aW σ 14 (σ.1 3) x1) fun σ2 => if ix (σ2.1 3) 16 = true then nm (aW σ2 15 (σ2.1 3) x2) fun σ5 => if ix (σ5.1 3) 16 = true then nm (aW σ5 16 (σ5.1 3) x3) fun σ8 => if ix (σ8.1 3) 16 = true then nm (aW σ8 17 (σ8.1 3) x4) fun σ11 => if ix (σ11.1 3) 16 = true then nm (aW σ11 18 (σ11.1 3) (20 : Int32)) fun σ14 => if ix (σ14.1 3) 16 = true then nm (aW σ14 19 (σ14.1 3) (1 : Int32)) fun σ17 => nm (sI σ17 3 ((σ17.1 3) + (1 : Int32))) fun σ19 => some (((σ19.1 3) - (1 : Int32)), σ19) else none else none else none else none else none else none))))))
set_option maxHeartbeats 2000000 in
set_option maxRecDepth 20000 in
theorem tX12_span {r : Int32} {σ' : St} {N : Nat} {σ : St} {x1 : Int32} {x2 : Int32} {x3 : Int32} {x4 : Int32} (hf : fX12_span N σ x1 x2 x3 x4 = some (r, σ')) : CI l (MWd D ad cs) yX12_span cX12_span 5 (some .int) 2 45 [.ref (ad 0), .int x1, .int x2, .int x3, .int x4] σ r σ' := by
  refine CI.of (by decide) (Nat.le_of_ble_eq_true rfl) ?_
  intro p e s m below meth c ls S hr hlk hw hl
  have hl : lv_has ls 5 [(0, .ref (ad 0)), (1, .int x1), (2, .int x2), (3, .int x3), (4, .int x4)] := hl
  unfold fX12_span at hf
  refine lv_aload_n S.1 S.2.1 dX12_span_0 rfl (lv_at hl 0 rfl) ?_
  refine lv_iload_n S.1 S.2.1 dX12_span_1 rfl (lv_at hl 1 rfl) ?_
  refine g_Vi (rest := []) (MWd_ok D ad cs) S hw (tX12_isTower (ad := ad) (cs := cs) (σ := σ) rfl) kt_X12_98 0 me_0 rfl rfl ⟨Nat.le_of_ble_eq_true rfl, Nat.le_of_ble_eq_true rfl⟩ rfl hl.1 rfl (Nat.le_of_ble_eq_true rfl) ⟨Nat.zero_le _, Nat.zero_le _⟩ dX12_span_2 (fun H locs hw => ?_)
  refine lv_if_eq (tgt := 43) S.1 S.2.1 dX12_span_5 (by decide) (fun hc => ?_) (fun hc => ?_)
  · have hf := itt hf hc
    refine lv_bipush (v := -2) S.1 S.2.1 dX12_span_43 (by decide) ?_
    exact g_iret (MWd_ok D ad cs) S hr hlk hw dX12_span_45 (Prod.mk.inj (Option.some.inj hf)).1 (Prod.mk.inj (Option.some.inj hf)).2
  · have hf := itf hf hc
    refine lv_aload_n S.1 S.2.1 dX12_span_8 rfl (lv_at hl 0 rfl) ?_
    refine lv_iload_n S.1 S.2.1 dX12_span_9 rfl (lv_at hl 2 rfl) ?_
    refine g_Vi (rest := []) (MWd_ok D ad cs) S hw (tX12_isTower (ad := ad) (cs := cs) (σ := σ) rfl) kt_X12_98 0 me_0 rfl rfl ⟨Nat.le_of_ble_eq_true rfl, Nat.le_of_ble_eq_true rfl⟩ rfl hl.1 rfl (Nat.le_of_ble_eq_true rfl) ⟨Nat.zero_le _, Nat.zero_le _⟩ dX12_span_10 (fun H locs hw => ?_)
    refine lv_if_eq (tgt := 43) S.1 S.2.1 dX12_span_13 (by decide) (fun hc => ?_) (fun hc => ?_)
    · have hf := itt hf hc
      refine lv_bipush (v := -2) S.1 S.2.1 dX12_span_43 (by decide) ?_
      exact g_iret (MWd_ok D ad cs) S hr hlk hw dX12_span_45 (Prod.mk.inj (Option.some.inj hf)).1 (Prod.mk.inj (Option.some.inj hf)).2
    · have hf := itf hf hc
      refine lv_iload_n S.1 S.2.1 dX12_span_16 rfl (lv_at hl 1 rfl) ?_
      refine lv_iload_n S.1 S.2.1 dX12_span_17 rfl (lv_at hl 2 rfl) ?_
      refine lv_icmp_eq (tgt := 43) S.1 S.2.1 dX12_span_18 (by decide) (fun hc => ?_) (fun hc => ?_)
      · have hf := itt hf hc
        refine lv_bipush (v := -2) S.1 S.2.1 dX12_span_43 (by decide) ?_
        exact g_iret (MWd_ok D ad cs) S hr hlk hw dX12_span_45 (Prod.mk.inj (Option.some.inj hf)).1 (Prod.mk.inj (Option.some.inj hf)).2
      · have hf := itf hf hc
        refine lv_iload_n S.1 S.2.1 dX12_span_21 rfl (lv_at hl 3 rfl) ?_
        refine g_Si (rest := []) (MWd_ok D ad cs) S hw (tX12_isPlot (ad := ad) (cs := cs) (σ := σ) rfl) kt_X12_19 ⟨Nat.le_of_ble_eq_true rfl, Nat.le_of_ble_eq_true rfl⟩ rfl hl.1 rfl (Nat.le_of_ble_eq_true rfl) ⟨Nat.zero_le _, Nat.zero_le _⟩ dX12_span_22 (fun H locs hw => ?_)
        refine lv_if_eq (tgt := 43) S.1 S.2.1 dX12_span_25 (by decide) (fun hc => ?_) (fun hc => ?_)
        · have hf := itt hf hc
          refine lv_bipush (v := -2) S.1 S.2.1 dX12_span_43 (by decide) ?_
          exact g_iret (MWd_ok D ad cs) S hr hlk hw dX12_span_45 (Prod.mk.inj (Option.some.inj hf)).1 (Prod.mk.inj (Option.some.inj hf)).2
        · have hf := itf hf hc
          refine lv_iload S.1 S.2.1 dX12_span_28 (lv_at hl 4 rfl) ?_
          refine lv_i2l S.1 S.2.1 dX12_span_30 rfl ?_
          refine lv_ldc2 S.1 S.2.1 S.2.2.2.1 (S.2.2.2.2 _ kc_X12_101) dX12_span_31 ?_
          refine lv_ldc2 S.1 S.2.1 S.2.2.2.1 (S.2.2.2.2 _ kc_X12_103) dX12_span_34 ?_
          refine g_Si (rest := []) (MWd_ok D ad cs) S hw (tX12_isIn (ad := ad) (cs := cs) (σ := σ) rfl) kt_X12_5 ⟨Nat.le_of_ble_eq_true rfl, Nat.le_of_ble_eq_true rfl⟩ rfl hl.1 rfl (Nat.le_of_ble_eq_true rfl) ⟨Nat.zero_le _, Nat.zero_le _⟩ dX12_span_37 (fun H locs hw => ?_)
          refine lv_if_ne (tgt := 46) S.1 S.2.1 dX12_span_40 (by decide) (fun hc => ?_) (fun hc => ?_)
          · have hf := itf hf hc
            refine lv_aload_n S.1 S.2.1 dX12_span_46 rfl (lv_at hl 0 rfl) ?_
            refine mg_WayLeavesModel_spans S hw kf_X12_85 dX12_span_47 ?_
            refine lv_bipush (v := 16) S.1 S.2.1 dX12_span_50 (by decide) ?_
            refine lv_icmp_ne (tgt := 58) S.1 S.2.1 dX12_span_52 (by decide) (fun hc => ?_) (fun hc => ?_)
            · have hf := itf hf hc
              refine lv_aload_n S.1 S.2.1 dX12_span_58 rfl (lv_at hl 0 rfl) ?_
              refine mg_WayLeavesModel_spanA S hw kf_X12_105 dX12_span_59 ?_
              refine lv_aload_n S.1 S.2.1 dX12_span_62 rfl (lv_at hl 0 rfl) ?_
              refine mg_WayLeavesModel_spans S hw kf_X12_85 dX12_span_63 ?_
              refine lv_iload_n S.1 S.2.1 dX12_span_66 rfl (lv_at hl 1 rfl) ?_
              obtain ⟨h1, hf⟩ := gd_ix hf
              obtain ⟨σ2, e3⟩ : ∃ z : St, z = aW σ 14 (σ.1 3) x1 := ⟨_, rfl⟩
              have hf := nm_s e3 hf
              refine g_iast (σ' := σ2) S hw 14 0 me_14 rfl (by rw [e3]; exact ms_14 _) h1 dX12_span_67 (fun H locs hw => ?_)
              refine lv_aload_n S.1 S.2.1 dX12_span_68 rfl (lv_at hl 0 rfl) ?_
              refine mg_WayLeavesModel_spanB S hw kf_X12_108 dX12_span_69 ?_
              refine lv_aload_n S.1 S.2.1 dX12_span_72 rfl (lv_at hl 0 rfl) ?_
              refine mg_WayLeavesModel_spans S hw kf_X12_85 dX12_span_73 ?_
              refine lv_iload_n S.1 S.2.1 dX12_span_76 rfl (lv_at hl 2 rfl) ?_
              obtain ⟨h4, hf⟩ := gd_ix hf
              obtain ⟨σ5, e6⟩ : ∃ z : St, z = aW σ2 15 (σ2.1 3) x2 := ⟨_, rfl⟩
              have hf := nm_s e6 hf
              refine g_iast (σ' := σ5) S hw 15 0 me_15 rfl (by rw [e6]; exact ms_15 _) h4 dX12_span_77 (fun H locs hw => ?_)
              refine lv_aload_n S.1 S.2.1 dX12_span_78 rfl (lv_at hl 0 rfl) ?_
              refine mg_WayLeavesModel_spanPlot S hw kf_X12_111 dX12_span_79 ?_
              refine lv_aload_n S.1 S.2.1 dX12_span_82 rfl (lv_at hl 0 rfl) ?_
              refine mg_WayLeavesModel_spans S hw kf_X12_85 dX12_span_83 ?_
              refine lv_iload_n S.1 S.2.1 dX12_span_86 rfl (lv_at hl 3 rfl) ?_
              obtain ⟨h7, hf⟩ := gd_ix hf
              obtain ⟨σ8, e9⟩ : ∃ z : St, z = aW σ5 16 (σ5.1 3) x3 := ⟨_, rfl⟩
              have hf := nm_s e9 hf
              refine g_iast (σ' := σ8) S hw 16 0 me_16 rfl (by rw [e9]; exact ms_16 _) h7 dX12_span_87 (fun H locs hw => ?_)
              refine lv_aload_n S.1 S.2.1 dX12_span_88 rfl (lv_at hl 0 rfl) ?_
              refine mg_WayLeavesModel_spanLong S hw kf_X12_114 dX12_span_89 ?_
              refine lv_aload_n S.1 S.2.1 dX12_span_92 rfl (lv_at hl 0 rfl) ?_
              refine mg_WayLeavesModel_spans S hw kf_X12_85 dX12_span_93 ?_
              refine lv_iload S.1 S.2.1 dX12_span_96 (lv_at hl 4 rfl) ?_
              obtain ⟨h10, hf⟩ := gd_ix hf
              obtain ⟨σ11, e12⟩ : ∃ z : St, z = aW σ8 17 (σ8.1 3) x4 := ⟨_, rfl⟩
              have hf := nm_s e12 hf
              refine g_iast (σ' := σ11) S hw 17 0 me_17 rfl (by rw [e12]; exact ms_17 _) h10 dX12_span_98 (fun H locs hw => ?_)
              refine lv_aload_n S.1 S.2.1 dX12_span_99 rfl (lv_at hl 0 rfl) ?_
              refine mg_WayLeavesModel_spanHeat S hw kf_X12_117 dX12_span_100 ?_
              refine lv_aload_n S.1 S.2.1 dX12_span_103 rfl (lv_at hl 0 rfl) ?_
              refine mg_WayLeavesModel_spans S hw kf_X12_85 dX12_span_104 ?_
              refine lv_bipush (v := 20) S.1 S.2.1 dX12_span_107 (by decide) ?_
              obtain ⟨h13, hf⟩ := gd_ix hf
              obtain ⟨σ14, e15⟩ : ∃ z : St, z = aW σ11 18 (σ11.1 3) (20 : Int32) := ⟨_, rfl⟩
              have hf := nm_s e15 hf
              refine g_iast (σ' := σ14) S hw 18 0 me_18 rfl (by rw [e15]; exact ms_18 _) h13 dX12_span_109 (fun H locs hw => ?_)
              refine lv_aload_n S.1 S.2.1 dX12_span_110 rfl (lv_at hl 0 rfl) ?_
              refine mg_WayLeavesModel_asking S hw kf_X12_120 dX12_span_111 ?_
              refine lv_aload_n S.1 S.2.1 dX12_span_114 rfl (lv_at hl 0 rfl) ?_
              refine mg_WayLeavesModel_spans S hw kf_X12_85 dX12_span_115 ?_
              refine lv_iconst (v := 1) S.1 S.2.1 dX12_span_118 (by decide) ?_
              obtain ⟨h16, hf⟩ := gd_ix hf
              obtain ⟨σ17, e18⟩ : ∃ z : St, z = aW σ14 19 (σ14.1 3) (1 : Int32) := ⟨_, rfl⟩
              have hf := nm_s e18 hf
              refine g_iast (σ' := σ17) S hw 19 0 me_19 rfl (by rw [e18]; exact ms_19 _) h16 dX12_span_119 (fun H locs hw => ?_)
              refine lv_aload_n S.1 S.2.1 dX12_span_120 rfl (lv_at hl 0 rfl) ?_
              refine lv_dup S.1 S.2.1 dX12_span_121 rfl ?_
              refine mg_WayLeavesModel_spans S hw kf_X12_85 dX12_span_122 ?_
              refine lv_iconst (v := 1) S.1 S.2.1 dX12_span_125 (by decide) ?_
              refine lv_iadd S.1 S.2.1 dX12_span_126 ?_
              obtain ⟨σ19, e20⟩ : ∃ z : St, z = sI σ17 3 ((σ17.1 3) + (1 : Int32)) := ⟨_, rfl⟩
              have hf := nm_s e20 hf
              refine mp_WayLeavesModel_spans S hw e20 kf_X12_85 dX12_span_127 (fun H locs hw => ?_)
              refine lv_aload_n S.1 S.2.1 dX12_span_130 rfl (lv_at hl 0 rfl) ?_
              refine mg_WayLeavesModel_spans S hw kf_X12_85 dX12_span_131 ?_
              refine lv_iconst (v := 1) S.1 S.2.1 dX12_span_134 (by decide) ?_
              refine lv_isub S.1 S.2.1 dX12_span_135 ?_
              exact g_iret (MWd_ok D ad cs) S hr hlk hw dX12_span_136 (Prod.mk.inj (Option.some.inj hf)).1 (Prod.mk.inj (Option.some.inj hf)).2
            · have hf := itt hf hc
              refine lv_bipush (v := -4) S.1 S.2.1 dX12_span_55 (by decide) ?_
              exact g_iret (MWd_ok D ad cs) S hr hlk hw dX12_span_57 (Prod.mk.inj (Option.some.inj hf)).1 (Prod.mk.inj (Option.some.inj hf)).2
          · have hf := itt hf hc
            refine lv_bipush (v := -2) S.1 S.2.1 dX12_span_43 (by decide) ?_
            exact g_iret (MWd_ok D ad cs) S hr hlk hw dX12_span_45 (Prod.mk.inj (Option.some.inj hf)).1 (Prod.mk.inj (Option.some.inj hf)).2
def fX12_heat (N : Nat) (σ : St) (x1 : Int32) (x2 : Int32) : Option (Int32 × St) :=
  if (fX12_isSpan σ x1) = 0 then (some ((-100 : Int32), σ)) else (if (fX12_isIn (x2).toInt64 (-20 : Int64) (90 : Int64)) = 0 then (some ((-100 : Int32), σ)) else (if ix x1 16 = true then nm (aR σ 18 x1) fun v2 => if ix x1 16 = true then nm (aW σ 18 x1 x2) fun σ5 => some (v2, σ5) else none else none))
set_option maxHeartbeats 2000000 in
set_option maxRecDepth 20000 in
theorem tX12_heat {r : Int32} {σ' : St} {N : Nat} {σ : St} {x1 : Int32} {x2 : Int32} (hf : fX12_heat N σ x1 x2 = some (r, σ')) : CI l (MWd D ad cs) yX12_heat cX12_heat 4 (some .int) 1 25 [.ref (ad 0), .int x1, .int x2] σ r σ' := by
  refine CI.of (by decide) (Nat.le_of_ble_eq_true rfl) ?_
  intro p e s m below meth c ls S hr hlk hw hl
  have hl : lv_has ls 4 [(0, .ref (ad 0)), (1, .int x1), (2, .int x2)] := hl
  unfold fX12_heat at hf
  refine lv_aload_n S.1 S.2.1 dX12_heat_0 rfl (lv_at hl 0 rfl) ?_
  refine lv_iload_n S.1 S.2.1 dX12_heat_1 rfl (lv_at hl 1 rfl) ?_
  refine g_Vi (rest := []) (MWd_ok D ad cs) S hw (tX12_isSpan (ad := ad) (cs := cs) (σ := σ) rfl) kt_X12_123 0 me_0 rfl rfl ⟨Nat.le_of_ble_eq_true rfl, Nat.le_of_ble_eq_true rfl⟩ rfl hl.1 rfl (Nat.le_of_ble_eq_true rfl) ⟨Nat.zero_le _, Nat.zero_le _⟩ dX12_heat_2 (fun H locs hw => ?_)
  refine lv_if_eq (tgt := 22) S.1 S.2.1 dX12_heat_5 (by decide) (fun hc => ?_) (fun hc => ?_)
  · have hf := itt hf hc
    refine lv_bipush (v := -100) S.1 S.2.1 dX12_heat_22 (by decide) ?_
    exact g_iret (MWd_ok D ad cs) S hr hlk hw dX12_heat_24 (Prod.mk.inj (Option.some.inj hf)).1 (Prod.mk.inj (Option.some.inj hf)).2
  · have hf := itf hf hc
    refine lv_iload_n S.1 S.2.1 dX12_heat_8 rfl (lv_at hl 2 rfl) ?_
    refine lv_i2l S.1 S.2.1 dX12_heat_9 rfl ?_
    refine lv_ldc2 S.1 S.2.1 S.2.2.2.1 (S.2.2.2.2 _ kc_X12_126) dX12_heat_10 ?_
    refine lv_ldc2 S.1 S.2.1 S.2.2.2.1 (S.2.2.2.2 _ kc_X12_90) dX12_heat_13 ?_
    refine g_Si (rest := []) (MWd_ok D ad cs) S hw (tX12_isIn (ad := ad) (cs := cs) (σ := σ) rfl) kt_X12_5 ⟨Nat.le_of_ble_eq_true rfl, Nat.le_of_ble_eq_true rfl⟩ rfl hl.1 rfl (Nat.le_of_ble_eq_true rfl) ⟨Nat.zero_le _, Nat.zero_le _⟩ dX12_heat_16 (fun H locs hw => ?_)
    refine lv_if_ne (tgt := 25) S.1 S.2.1 dX12_heat_19 (by decide) (fun hc => ?_) (fun hc => ?_)
    · have hf := itf hf hc
      refine lv_aload_n S.1 S.2.1 dX12_heat_25 rfl (lv_at hl 0 rfl) ?_
      refine mg_WayLeavesModel_spanHeat S hw kf_X12_117 dX12_heat_26 ?_
      refine lv_iload_n S.1 S.2.1 dX12_heat_29 rfl (lv_at hl 1 rfl) ?_
      obtain ⟨h1, hf⟩ := gd_ix hf
      refine g_iald S hw 18 0 me_18 rfl h1 dX12_heat_30 ?_
      refine lv_topi (fun v2 e3 => ?_)
      have hf := nm_s e3 hf
      refine lv_istore_n (lv' := [(3, .int v2), (0, .ref (ad 0)), (1, .int x1), (2, .int x2)]) S.1 S.2.1 dX12_heat_31 rfl hl (by decide) rfl (fun ls hl => ?_)
      refine lv_aload_n S.1 S.2.1 dX12_heat_32 rfl (lv_at hl 1 rfl) ?_
      refine mg_WayLeavesModel_spanHeat S hw kf_X12_117 dX12_heat_33 ?_
      refine lv_iload_n S.1 S.2.1 dX12_heat_36 rfl (lv_at hl 2 rfl) ?_
      refine lv_iload_n S.1 S.2.1 dX12_heat_37 rfl (lv_at hl 3 rfl) ?_
      obtain ⟨h4, hf⟩ := gd_ix hf
      obtain ⟨σ5, e6⟩ : ∃ z : St, z = aW σ 18 x1 x2 := ⟨_, rfl⟩
      have hf := nm_s e6 hf
      refine g_iast (σ' := σ5) S hw 18 0 me_18 rfl (by rw [e6]; exact ms_18 _) h4 dX12_heat_38 (fun H locs hw => ?_)
      refine lv_iload_n S.1 S.2.1 dX12_heat_39 rfl (lv_at hl 0 rfl) ?_
      exact g_iret (MWd_ok D ad cs) S hr hlk hw dX12_heat_40 (Prod.mk.inj (Option.some.inj hf)).1 (Prod.mk.inj (Option.some.inj hf)).2
    · have hf := itt hf hc
      refine lv_bipush (v := -100) S.1 S.2.1 dX12_heat_22 (by decide) ?_
      exact g_iret (MWd_ok D ad cs) S hr hlk hw dX12_heat_24 (Prod.mk.inj (Option.some.inj hf)).1 (Prod.mk.inj (Option.some.inj hf)).2
def fX12_sag (N : Nat) (σ : St) (x1 : Int32) : Option Int32 :=
  if ix x1 16 = true then if ix x1 16 = true then if ix x1 16 = true then if ix x1 16 = true then some (if (0 : Int32) < ((((aR σ 17 x1) * (aR σ 17 x1)) / (10000 : Int32)) + (((aR σ 17 x1) * ((aR σ 18 x1) - (20 : Int32))) / (1000 : Int32))) then ((((aR σ 17 x1) * (aR σ 17 x1)) / (10000 : Int32)) + (((aR σ 17 x1) * ((aR σ 18 x1) - (20 : Int32))) / (1000 : Int32))) else (0 : Int32)) else none else none else none else none
set_option maxHeartbeats 2000000 in
set_option maxRecDepth 20000 in
theorem tX12_sag {r : Int32} {N : Nat} {σ : St} {x1 : Int32} (hf : fX12_sag N σ x1 = some r) : CI l (MWd D ad cs) yX12_sag cX12_sag 2 (some .int) 1 21 [.ref (ad 0), .int x1] σ r σ := by
  refine CI.of (by decide) (Nat.le_of_ble_eq_true rfl) ?_
  intro p e s m below meth c ls S hr hlk hw hl
  have hl : lv_has ls 2 [(0, .ref (ad 0)), (1, .int x1)] := hl
  unfold fX12_sag at hf
  refine lv_iconst (v := 0) S.1 S.2.1 dX12_sag_0 (by decide) ?_
  refine lv_aload_n S.1 S.2.1 dX12_sag_1 rfl (lv_at hl 0 rfl) ?_
  refine mg_WayLeavesModel_spanLong S hw kf_X12_114 dX12_sag_2 ?_
  refine lv_iload_n S.1 S.2.1 dX12_sag_5 rfl (lv_at hl 1 rfl) ?_
  obtain ⟨h1, hf⟩ := gd_ix hf
  refine g_iald S hw 17 0 me_17 rfl h1 dX12_sag_6 ?_
  refine lv_aload_n S.1 S.2.1 dX12_sag_7 rfl (lv_at hl 0 rfl) ?_
  refine mg_WayLeavesModel_spanLong S hw kf_X12_114 dX12_sag_8 ?_
  refine lv_iload_n S.1 S.2.1 dX12_sag_11 rfl (lv_at hl 1 rfl) ?_
  obtain ⟨h2, hf⟩ := gd_ix hf
  refine g_iald S hw 17 0 me_17 rfl h2 dX12_sag_12 ?_
  refine lv_imul S.1 S.2.1 dX12_sag_13 ?_
  refine lv_sipush (v := 10000) S.1 S.2.1 dX12_sag_14 (by decide) ?_
  refine lv_idiv S.1 S.2.1 dX12_sag_17 (by decide) ?_
  refine lv_aload_n S.1 S.2.1 dX12_sag_18 rfl (lv_at hl 0 rfl) ?_
  refine mg_WayLeavesModel_spanLong S hw kf_X12_114 dX12_sag_19 ?_
  refine lv_iload_n S.1 S.2.1 dX12_sag_22 rfl (lv_at hl 1 rfl) ?_
  obtain ⟨h3, hf⟩ := gd_ix hf
  refine g_iald S hw 17 0 me_17 rfl h3 dX12_sag_23 ?_
  refine lv_aload_n S.1 S.2.1 dX12_sag_24 rfl (lv_at hl 0 rfl) ?_
  refine mg_WayLeavesModel_spanHeat S hw kf_X12_117 dX12_sag_25 ?_
  refine lv_iload_n S.1 S.2.1 dX12_sag_28 rfl (lv_at hl 1 rfl) ?_
  obtain ⟨h4, hf⟩ := gd_ix hf
  refine g_iald S hw 18 0 me_18 rfl h4 dX12_sag_29 ?_
  refine lv_bipush (v := 20) S.1 S.2.1 dX12_sag_30 (by decide) ?_
  refine lv_isub S.1 S.2.1 dX12_sag_32 ?_
  refine lv_imul S.1 S.2.1 dX12_sag_33 ?_
  refine lv_sipush (v := 1000) S.1 S.2.1 dX12_sag_34 (by decide) ?_
  refine lv_idiv S.1 S.2.1 dX12_sag_37 (by decide) ?_
  refine lv_iadd S.1 S.2.1 dX12_sag_38 ?_
  refine g_mmax S hl.1 kt_X12_128 (Nat.le_of_ble_eq_true rfl) (Nat.le_of_ble_eq_true rfl) (Nat.zero_le _) (Nat.zero_le _) dX12_sag_39 ?_
  exact g_iret (MWd_ok D ad cs) S hr hlk hw dX12_sag_42 (Option.some.inj hf) rfl
def fX12_low (N : Nat) (σ : St) (x1 : Int32) : Option Int32 :=
  if ix x1 16 = true then if ix (aR σ 14 x1) 16 = true then if ix x1 16 = true then if ix (aR σ 15 x1) 16 = true then bd (fX12_sag N σ x1) fun r5 => some ((if (aR σ 13 (aR σ 15 x1)) < (aR σ 13 (aR σ 14 x1)) then (aR σ 13 (aR σ 15 x1)) else (aR σ 13 (aR σ 14 x1))) - r5) else none else none else none else none
set_option maxHeartbeats 2000000 in
set_option maxRecDepth 20000 in
theorem tX12_low {r : Int32} {N : Nat} {σ : St} {x1 : Int32} (hf : fX12_low N σ x1 = some r) : CI l (MWd D ad cs) yX12_low cX12_low 2 (some .int) 2 42 [.ref (ad 0), .int x1] σ r σ := by
  refine CI.of (by decide) (Nat.le_of_ble_eq_true rfl) ?_
  intro p e s m below meth c ls S hr hlk hw hl
  have hl : lv_has ls 2 [(0, .ref (ad 0)), (1, .int x1)] := hl
  unfold fX12_low at hf
  refine lv_aload_n S.1 S.2.1 dX12_low_0 rfl (lv_at hl 0 rfl) ?_
  refine mg_WayLeavesModel_towerHeight S hw kf_X12_95 dX12_low_1 ?_
  refine lv_aload_n S.1 S.2.1 dX12_low_4 rfl (lv_at hl 0 rfl) ?_
  refine mg_WayLeavesModel_spanA S hw kf_X12_105 dX12_low_5 ?_
  refine lv_iload_n S.1 S.2.1 dX12_low_8 rfl (lv_at hl 1 rfl) ?_
  obtain ⟨h1, hf⟩ := gd_ix hf
  refine g_iald S hw 14 0 me_14 rfl h1 dX12_low_9 ?_
  obtain ⟨h2, hf⟩ := gd_ix hf
  refine g_iald S hw 13 0 me_13 rfl h2 dX12_low_10 ?_
  refine lv_aload_n S.1 S.2.1 dX12_low_11 rfl (lv_at hl 0 rfl) ?_
  refine mg_WayLeavesModel_towerHeight S hw kf_X12_95 dX12_low_12 ?_
  refine lv_aload_n S.1 S.2.1 dX12_low_15 rfl (lv_at hl 0 rfl) ?_
  refine mg_WayLeavesModel_spanB S hw kf_X12_108 dX12_low_16 ?_
  refine lv_iload_n S.1 S.2.1 dX12_low_19 rfl (lv_at hl 1 rfl) ?_
  obtain ⟨h3, hf⟩ := gd_ix hf
  refine g_iald S hw 15 0 me_15 rfl h3 dX12_low_20 ?_
  obtain ⟨h4, hf⟩ := gd_ix hf
  refine g_iald S hw 13 0 me_13 rfl h4 dX12_low_21 ?_
  refine g_mmin S hl.1 kt_X12_133 (Nat.le_of_ble_eq_true rfl) (Nat.le_of_ble_eq_true rfl) (Nat.zero_le _) (Nat.zero_le _) dX12_low_22 ?_
  refine lv_aload_n S.1 S.2.1 dX12_low_25 rfl (lv_at hl 0 rfl) ?_
  refine lv_iload_n S.1 S.2.1 dX12_low_26 rfl (lv_at hl 1 rfl) ?_
  obtain ⟨r5, g6, hf⟩ := bd_s hf
  refine g_Vi (rest := [.int (if (aR σ 13 (aR σ 15 x1)) < (aR σ 13 (aR σ 14 x1)) then (aR σ 13 (aR σ 15 x1)) else (aR σ 13 (aR σ 14 x1)))]) (MWd_ok D ad cs) S hw (tX12_sag g6) kt_X12_136 0 me_0 rfl rfl ⟨Nat.le_of_ble_eq_true rfl, Nat.le_of_ble_eq_true rfl⟩ rfl hl.1 rfl (Nat.le_of_ble_eq_true rfl) ⟨Nat.zero_le _, Nat.zero_le _⟩ dX12_low_27 (fun H locs hw => ?_)
  refine lv_isub S.1 S.2.1 dX12_low_30 ?_
  exact g_iret (MWd_ok D ad cs) S hr hlk hw dX12_low_31 (Option.some.inj hf) rfl
def fX12_near (N : Nat) (σ : St) (x1 : Int32) : Option Int32 :=
  bd (fX12_low N σ x1) fun r1 => if ix x1 16 = true then if ix (aR σ 16 x1) 48 = true then if ix x1 16 = true then bd (fX12_highOf N σ (aR σ 16 x1)) fun r6 => some (r1 - (if (aR σ 5 (aR σ 16 x1)) < r6 then r6 else (aR σ 5 (aR σ 16 x1)))) else none else none else none
set_option maxHeartbeats 2000000 in
set_option maxRecDepth 20000 in
theorem tX12_near {r : Int32} {N : Nat} {σ : St} {x1 : Int32} (hf : fX12_near N σ x1 = some r) : CI l (MWd D ad cs) yX12_near cX12_near 2 (some .int) 3 63 [.ref (ad 0), .int x1] σ r σ := by
  refine CI.of (by decide) (Nat.le_of_ble_eq_true rfl) ?_
  intro p e s m below meth c ls S hr hlk hw hl
  have hl : lv_has ls 2 [(0, .ref (ad 0)), (1, .int x1)] := hl
  unfold fX12_near at hf
  refine lv_aload_n S.1 S.2.1 dX12_near_0 rfl (lv_at hl 0 rfl) ?_
  refine lv_iload_n S.1 S.2.1 dX12_near_1 rfl (lv_at hl 1 rfl) ?_
  obtain ⟨r1, g2, hf⟩ := bd_s hf
  refine g_Vi (rest := []) (MWd_ok D ad cs) S hw (tX12_low g2) kt_X12_139 0 me_0 rfl rfl ⟨Nat.le_of_ble_eq_true rfl, Nat.le_of_ble_eq_true rfl⟩ rfl hl.1 rfl (Nat.le_of_ble_eq_true rfl) ⟨Nat.zero_le _, Nat.zero_le _⟩ dX12_near_2 (fun H locs hw => ?_)
  refine lv_aload_n S.1 S.2.1 dX12_near_5 rfl (lv_at hl 0 rfl) ?_
  refine mg_WayLeavesModel_roof S hw kf_X12_53 dX12_near_6 ?_
  refine lv_aload_n S.1 S.2.1 dX12_near_9 rfl (lv_at hl 0 rfl) ?_
  refine mg_WayLeavesModel_spanPlot S hw kf_X12_111 dX12_near_10 ?_
  refine lv_iload_n S.1 S.2.1 dX12_near_13 rfl (lv_at hl 1 rfl) ?_
  obtain ⟨h3, hf⟩ := gd_ix hf
  refine g_iald S hw 16 0 me_16 rfl h3 dX12_near_14 ?_
  obtain ⟨h4, hf⟩ := gd_ix hf
  refine g_iald S hw 5 0 me_5 rfl h4 dX12_near_15 ?_
  refine lv_aload_n S.1 S.2.1 dX12_near_16 rfl (lv_at hl 0 rfl) ?_
  refine lv_aload_n S.1 S.2.1 dX12_near_17 rfl (lv_at hl 0 rfl) ?_
  refine mg_WayLeavesModel_spanPlot S hw kf_X12_111 dX12_near_18 ?_
  refine lv_iload_n S.1 S.2.1 dX12_near_21 rfl (lv_at hl 1 rfl) ?_
  obtain ⟨h5, hf⟩ := gd_ix hf
  refine g_iald S hw 16 0 me_16 rfl h5 dX12_near_22 ?_
  obtain ⟨r6, g7, hf⟩ := bd_s hf
  refine g_Vi (rest := [.int (aR σ 5 (aR σ 16 x1)), .int r1]) (MWd_ok D ad cs) S hw (tX12_highOf g7) kt_X12_78 0 me_0 rfl rfl ⟨Nat.le_of_ble_eq_true rfl, Nat.le_of_ble_eq_true rfl⟩ rfl hl.1 rfl (Nat.le_of_ble_eq_true rfl) ⟨Nat.zero_le _, Nat.zero_le _⟩ dX12_near_23 (fun H locs hw => ?_)
  refine g_mmax S hl.1 kt_X12_128 (Nat.le_of_ble_eq_true rfl) (Nat.le_of_ble_eq_true rfl) (Nat.zero_le _) (Nat.zero_le _) dX12_near_26 ?_
  refine lv_isub S.1 S.2.1 dX12_near_29 ?_
  exact g_iret (MWd_ok D ad cs) S hr hlk hw dX12_near_30 (Option.some.inj hf) rfl
def fX12_lastsOf (N : Nat) (σ : St) (x1 : Int32) : Option Int32 :=
  if ix x1 24 = true then if ix (aR σ 22 x1) 6 = true then if ix x1 24 = true then some ((aR σ 20 (aR σ 22 x1)) * ((1 : Int32) + (aR σ 27 x1))) else none else none else none
set_option maxHeartbeats 2000000 in
set_option maxRecDepth 20000 in
theorem tX12_lastsOf {r : Int32} {N : Nat} {σ : St} {x1 : Int32} (hf : fX12_lastsOf N σ x1 = some r) : CI l (MWd D ad cs) yX12_lastsOf cX12_lastsOf 2 (some .int) 0 0 [.ref (ad 0), .int x1] σ r σ := by
  refine CI.of (by decide) (Nat.le_of_ble_eq_true rfl) ?_
  intro p e s m below meth c ls S hr hlk hw hl
  have hl : lv_has ls 2 [(0, .ref (ad 0)), (1, .int x1)] := hl
  unfold fX12_lastsOf at hf
  refine lv_aload_n S.1 S.2.1 dX12_lastsOf_0 rfl (lv_at hl 0 rfl) ?_
  refine mg_WayLeavesModel_lasts S hw kf_X12_178 dX12_lastsOf_1 ?_
  refine lv_aload_n S.1 S.2.1 dX12_lastsOf_4 rfl (lv_at hl 0 rfl) ?_
  refine mg_WayLeavesModel_kindOf S hw kf_X12_163 dX12_lastsOf_5 ?_
  refine lv_iload_n S.1 S.2.1 dX12_lastsOf_8 rfl (lv_at hl 1 rfl) ?_
  obtain ⟨h1, hf⟩ := gd_ix hf
  refine g_iald S hw 22 0 me_22 rfl h1 dX12_lastsOf_9 ?_
  obtain ⟨h2, hf⟩ := gd_ix hf
  refine g_iald S hw 20 0 me_20 rfl h2 dX12_lastsOf_10 ?_
  refine lv_iconst (v := 1) S.1 S.2.1 dX12_lastsOf_11 (by decide) ?_
  refine lv_aload_n S.1 S.2.1 dX12_lastsOf_12 rfl (lv_at hl 0 rfl) ?_
  refine mg_WayLeavesModel_renewed S hw kf_X12_181 dX12_lastsOf_13 ?_
  refine lv_iload_n S.1 S.2.1 dX12_lastsOf_16 rfl (lv_at hl 1 rfl) ?_
  obtain ⟨h3, hf⟩ := gd_ix hf
  refine g_iald S hw 27 0 me_27 rfl h3 dX12_lastsOf_17 ?_
  refine lv_iadd S.1 S.2.1 dX12_lastsOf_18 ?_
  refine lv_imul S.1 S.2.1 dX12_lastsOf_19 ?_
  exact g_iret (MWd_ok D ad cs) S hr hlk hw dX12_lastsOf_20 (Option.some.inj hf) rfl
def fX12_stands_85 (N : Nat) (σ : St) (x1 : Int32) (x2 : Int32) (x4 : Int32) (y0 : Int32) : Option Int32 :=
  if x4 = 0 then (some (0 : Int32)) else (if y0 = 0 then (some (0 : Int32)) else (if ix x1 24 = true then if (aR σ 29 x1) = (-1 : Int32) then (some (1 : Int32)) else (if ix x1 24 = true then if (aR σ 29 x1) ≤ x2 then (some (0 : Int32)) else (some (1 : Int32)) else none) else none))
set_option maxHeartbeats 2000000 in
set_option maxRecDepth 20000 in
theorem wX12_stands_85 {r : Int32} {N : Nat} {σ : St} (S : CallFix p m c cX12_stands 6 s av BG RX12) (hr : meth.sig.returnType = some .boolean) (hlk : meth.locks = false)  {x1 : Int32} {x2 : Int32} {x4 : Int32} {y0 : Int32} {ls : Array Slot} {H : Heap} {locs : List Loc} (hw : Hw (MWd D ad cs) s σ H locs) (hl : lv_has ls 6 [(0, .ref (ad 0)), (1, .int x1), (2, .int x2), (4, .int x4)]) (hf : fX12_stands_85 N σ x1 x2 x4 y0 = some r) : W p l e (RM 1 25) s m av below meth c H locs 0 0 (QI below (MWd D ad cs) av s r σ) (F0 m 85 ls [.int y0]) := by
  unfold fX12_stands_85 at hf
  refine lv_istore (lv' := [(5, .int y0), (0, .ref (ad 0)), (1, .int x1), (2, .int x2), (4, .int x4)]) S.1 S.2.1 dX12_stands_85 hl (by decide) rfl (fun ls hl => ?_)
  refine lv_iload S.1 S.2.1 dX12_stands_87 (lv_at hl 4 rfl) ?_
  refine lv_if_eq (tgt := 121) S.1 S.2.1 dX12_stands_89 (by decide) (fun hc => ?_) (fun hc => ?_)
  · have hf := itt hf hc
    refine lv_iconst (v := 0) S.1 S.2.1 dX12_stands_121 (by decide) ?_
    exact g_zret (MWd_ok D ad cs) S hr hlk hw rfl dX12_stands_122 (Option.some.inj hf) rfl
  · have hf := itf hf hc
    refine lv_iload S.1 S.2.1 dX12_stands_92 (lv_at hl 0 rfl) ?_
    refine lv_if_eq (tgt := 121) S.1 S.2.1 dX12_stands_94 (by decide) (fun hc => ?_) (fun hc => ?_)
    · have hf := itt hf hc
      refine lv_iconst (v := 0) S.1 S.2.1 dX12_stands_121 (by decide) ?_
      exact g_zret (MWd_ok D ad cs) S hr hlk hw rfl dX12_stands_122 (Option.some.inj hf) rfl
    · have hf := itf hf hc
      refine lv_aload_n S.1 S.2.1 dX12_stands_97 rfl (lv_at hl 1 rfl) ?_
      refine mg_WayLeavesModel_undone S hw kf_X12_175 dX12_stands_98 ?_
      refine lv_iload_n S.1 S.2.1 dX12_stands_101 rfl (lv_at hl 2 rfl) ?_
      obtain ⟨h16, hf⟩ := gd_ix hf
      refine g_iald S hw 29 0 me_29 rfl h16 dX12_stands_102 ?_
      refine lv_iconst (v := -1) S.1 S.2.1 dX12_stands_103 (by decide) ?_
      refine lv_icmp_eq (tgt := 117) S.1 S.2.1 dX12_stands_104 (by decide) (fun hc => ?_) (fun hc => ?_)
      · have hf := itt hf hc
        refine lv_iconst (v := 1) S.1 S.2.1 dX12_stands_117 (by decide) ?_
        refine lv_goto (tgt := 122) S.1 S.2.1 dX12_stands_118 (by decide) ?_
        exact g_zret (MWd_ok D ad cs) S hr hlk hw rfl dX12_stands_122 (Option.some.inj hf) rfl
      · have hf := itf hf hc
        refine lv_iload_n S.1 S.2.1 dX12_stands_107 rfl (lv_at hl 3 rfl) ?_
        refine lv_aload_n S.1 S.2.1 dX12_stands_108 rfl (lv_at hl 1 rfl) ?_
        refine mg_WayLeavesModel_undone S hw kf_X12_175 dX12_stands_109 ?_
        refine lv_iload_n S.1 S.2.1 dX12_stands_112 rfl (lv_at hl 2 rfl) ?_
        obtain ⟨h17, hf⟩ := gd_ix hf
        refine g_iald S hw 29 0 me_29 rfl h17 dX12_stands_113 ?_
        refine lv_icmp_ge (tgt := 121) S.1 S.2.1 dX12_stands_114 (by decide) (fun hc => ?_) (fun hc => ?_)
        · have hf := itt hf hc
          refine lv_iconst (v := 0) S.1 S.2.1 dX12_stands_121 (by decide) ?_
          exact g_zret (MWd_ok D ad cs) S hr hlk hw rfl dX12_stands_122 (Option.some.inj hf) rfl
        · have hf := itf hf hc
          refine lv_iconst (v := 1) S.1 S.2.1 dX12_stands_117 (by decide) ?_
          refine lv_goto (tgt := 122) S.1 S.2.1 dX12_stands_118 (by decide) ?_
          exact g_zret (MWd_ok D ad cs) S hr hlk hw rfl dX12_stands_122 (Option.some.inj hf) rfl
def fX12_stands_80 (N : Nat) (σ : St) (x1 : Int32) (x2 : Int32) (x4 : Int32) : Option Int32 :=
  fX12_stands_85 N σ x1 x2 x4 (1 : Int32)
set_option maxHeartbeats 2000000 in
set_option maxRecDepth 20000 in
theorem wX12_stands_80 {r : Int32} {N : Nat} {σ : St} (S : CallFix p m c cX12_stands 6 s av BG RX12) (hr : meth.sig.returnType = some .boolean) (hlk : meth.locks = false)  {x1 : Int32} {x2 : Int32} {x4 : Int32} {ls : Array Slot} {H : Heap} {locs : List Loc} (hw : Hw (MWd D ad cs) s σ H locs) (hl : lv_has ls 6 [(0, .ref (ad 0)), (1, .int x1), (2, .int x2), (4, .int x4)]) (hf : fX12_stands_80 N σ x1 x2 x4 = some r) : W p l e (RM 1 25) s m av below meth c H locs 0 0 (QI below (MWd D ad cs) av s r σ) (F0 m 80 ls []) := by
  unfold fX12_stands_80 at hf
  refine lv_iconst (v := 1) S.1 S.2.1 dX12_stands_80 (by decide) ?_
  refine lv_goto (tgt := 85) S.1 S.2.1 dX12_stands_81 (by decide) ?_
  exact wX12_stands_85 S hr hlk hw (lv_sub hl [0, 1, 2, 3] rfl) hf
def fX12_stands_43 (N : Nat) (σ : St) (x1 : Int32) (x2 : Int32) (x3 : Int32) (y0 : Int32) : Option Int32 :=
  if ix x1 24 = true then if ix (aR σ 22 x1) 6 = true then if (aR σ 21 (aR σ 22 x1)) = (1 : Int32) then (fX12_stands_80 N σ x1 x2 y0) else (bd (fX12_ownerIn N σ x3 x2) fun r11 => if ix x1 24 = true then bd (fX12_ownerIn N σ x3 (aR σ 25 x1)) fun r14 => if r11 = r14 then (fX12_stands_80 N σ x1 x2 y0) else (fX12_stands_85 N σ x1 x2 y0 (0 : Int32)) else none) else none else none
set_option maxHeartbeats 2000000 in
set_option maxRecDepth 20000 in
theorem wX12_stands_43 {r : Int32} {N : Nat} {σ : St} (S : CallFix p m c cX12_stands 6 s av BG RX12) (hr : meth.sig.returnType = some .boolean) (hlk : meth.locks = false)  {x1 : Int32} {x2 : Int32} {x3 : Int32} {y0 : Int32} {ls : Array Slot} {H : Heap} {locs : List Loc} (hw : Hw (MWd D ad cs) s σ H locs) (hl : lv_has ls 6 [(0, .ref (ad 0)), (1, .int x1), (2, .int x2), (3, .int x3)]) (hf : fX12_stands_43 N σ x1 x2 x3 y0 = some r) : W p l e (RM 1 25) s m av below meth c H locs 0 0 (QI below (MWd D ad cs) av s r σ) (F0 m 43 ls [.int y0]) := by
  unfold fX12_stands_43 at hf
  refine lv_istore (lv' := [(4, .int y0), (0, .ref (ad 0)), (1, .int x1), (2, .int x2), (3, .int x3)]) S.1 S.2.1 dX12_stands_43 hl (by decide) rfl (fun ls hl => ?_)
  refine lv_aload_n S.1 S.2.1 dX12_stands_45 rfl (lv_at hl 1 rfl) ?_
  refine mg_WayLeavesModel_binds S hw kf_X12_187 dX12_stands_46 ?_
  refine lv_aload_n S.1 S.2.1 dX12_stands_49 rfl (lv_at hl 1 rfl) ?_
  refine mg_WayLeavesModel_kindOf S hw kf_X12_163 dX12_stands_50 ?_
  refine lv_iload_n S.1 S.2.1 dX12_stands_53 rfl (lv_at hl 2 rfl) ?_
  obtain ⟨h9, hf⟩ := gd_ix hf
  refine g_iald S hw 22 0 me_22 rfl h9 dX12_stands_54 ?_
  obtain ⟨h10, hf⟩ := gd_ix hf
  refine g_iald S hw 21 0 me_21 rfl h10 dX12_stands_55 ?_
  refine lv_iconst (v := 1) S.1 S.2.1 dX12_stands_56 (by decide) ?_
  refine lv_icmp_eq (tgt := 80) S.1 S.2.1 dX12_stands_57 (by decide) (fun hc => ?_) (fun hc => ?_)
  · have hf := itt hf hc
    exact wX12_stands_80 S hr hlk hw (lv_sub hl [1, 2, 3, 0] rfl) hf
  · have hf := itf hf hc
    refine lv_aload_n S.1 S.2.1 dX12_stands_60 rfl (lv_at hl 1 rfl) ?_
    refine lv_iload_n S.1 S.2.1 dX12_stands_61 rfl (lv_at hl 4 rfl) ?_
    refine lv_iload_n S.1 S.2.1 dX12_stands_62 rfl (lv_at hl 3 rfl) ?_
    obtain ⟨r11, g12, hf⟩ := bd_s hf
    refine g_Vi (rest := []) (MWd_ok D ad cs) S hw (tX12_ownerIn g12) kt_X12_42 0 me_0 rfl rfl ⟨Nat.le_of_ble_eq_true rfl, Nat.le_of_ble_eq_true rfl⟩ rfl hl.1 rfl (Nat.le_of_ble_eq_true rfl) ⟨Nat.zero_le _, Nat.zero_le _⟩ dX12_stands_63 (fun H locs hw => ?_)
    refine lv_aload_n S.1 S.2.1 dX12_stands_66 rfl (lv_at hl 1 rfl) ?_
    refine lv_iload_n S.1 S.2.1 dX12_stands_67 rfl (lv_at hl 4 rfl) ?_
    refine lv_aload_n S.1 S.2.1 dX12_stands_68 rfl (lv_at hl 1 rfl) ?_
    refine mg_WayLeavesModel_begins2 S hw kf_X12_169 dX12_stands_69 ?_
    refine lv_iload_n S.1 S.2.1 dX12_stands_72 rfl (lv_at hl 2 rfl) ?_
    obtain ⟨h13, hf⟩ := gd_ix hf
    refine g_iald S hw 25 0 me_25 rfl h13 dX12_stands_73 ?_
    obtain ⟨r14, g15, hf⟩ := bd_s hf
    refine g_Vi (rest := [.int r11]) (MWd_ok D ad cs) S hw (tX12_ownerIn g15) kt_X12_42 0 me_0 rfl rfl ⟨Nat.le_of_ble_eq_true rfl, Nat.le_of_ble_eq_true rfl⟩ rfl hl.1 rfl (Nat.le_of_ble_eq_true rfl) ⟨Nat.zero_le _, Nat.zero_le _⟩ dX12_stands_74 (fun H locs hw => ?_)
    refine lv_icmp_ne (tgt := 84) S.1 S.2.1 dX12_stands_77 (by decide) (fun hc => ?_) (fun hc => ?_)
    · have hf := itf hf hc
      refine lv_iconst (v := 0) S.1 S.2.1 dX12_stands_84 (by decide) ?_
      exact wX12_stands_85 S hr hlk hw (lv_sub hl [1, 2, 3, 0] rfl) hf
    · have hf := itt hf hc
      exact wX12_stands_80 S hr hlk hw (lv_sub hl [1, 2, 3, 0] rfl) hf
def fX12_stands_42 (N : Nat) (σ : St) (x1 : Int32) (x2 : Int32) (x3 : Int32) : Option Int32 :=
  fX12_stands_43 N σ x1 x2 x3 (0 : Int32)
set_option maxHeartbeats 2000000 in
set_option maxRecDepth 20000 in
theorem wX12_stands_42 {r : Int32} {N : Nat} {σ : St} (S : CallFix p m c cX12_stands 6 s av BG RX12) (hr : meth.sig.returnType = some .boolean) (hlk : meth.locks = false)  {x1 : Int32} {x2 : Int32} {x3 : Int32} {ls : Array Slot} {H : Heap} {locs : List Loc} (hw : Hw (MWd D ad cs) s σ H locs) (hl : lv_has ls 6 [(0, .ref (ad 0)), (1, .int x1), (2, .int x2), (3, .int x3)]) (hf : fX12_stands_42 N σ x1 x2 x3 = some r) : W p l e (RM 1 25) s m av below meth c H locs 0 0 (QI below (MWd D ad cs) av s r σ) (F0 m 42 ls []) := by
  unfold fX12_stands_42 at hf
  refine lv_iconst (v := 0) S.1 S.2.1 dX12_stands_42 (by decide) ?_
  exact wX12_stands_43 S hr hlk hw (lv_sub hl [0, 1, 2, 3] rfl) hf
def fX12_stands (N : Nat) (σ : St) (x1 : Int32) (x2 : Int32) : Option Int32 :=
  if ix x1 24 = true then if ix (aR σ 23 x1) 16 = true then nm (aR σ 16 (aR σ 23 x1)) fun v3 => if ix x1 24 = true then if x2 < (aR σ 25 x1) then (fX12_stands_42 N σ x1 x2 v3) else (if ix x1 24 = true then bd (fX12_lastsOf N σ x1) fun r7 => if ((aR σ 25 x1) + r7) ≤ x2 then (fX12_stands_42 N σ x1 x2 v3) else (fX12_stands_43 N σ x1 x2 v3 (1 : Int32)) else none) else none else none else none
set_option maxHeartbeats 2000000 in
set_option maxRecDepth 20000 in
theorem tX12_stands {r : Int32} {N : Nat} {σ : St} {x1 : Int32} {x2 : Int32} (hf : fX12_stands N σ x1 x2 = some r) : CI l (MWd D ad cs) yX12_stands cX12_stands 6 (some .boolean) 1 25 [.ref (ad 0), .int x1, .int x2] σ r σ := by
  refine CI.of (by decide) (Nat.le_of_ble_eq_true rfl) ?_
  intro p e s m below meth c ls S hr hlk hw hl
  have hl : lv_has ls 6 [(0, .ref (ad 0)), (1, .int x1), (2, .int x2)] := hl
  unfold fX12_stands at hf
  refine lv_aload_n S.1 S.2.1 dX12_stands_0 rfl (lv_at hl 0 rfl) ?_
  refine mg_WayLeavesModel_spanPlot S hw kf_X12_111 dX12_stands_1 ?_
  refine lv_aload_n S.1 S.2.1 dX12_stands_4 rfl (lv_at hl 0 rfl) ?_
  refine mg_WayLeavesModel_spanOf S hw kf_X12_160 dX12_stands_5 ?_
  refine lv_iload_n S.1 S.2.1 dX12_stands_8 rfl (lv_at hl 1 rfl) ?_
  obtain ⟨h1, hf⟩ := gd_ix hf
  refine g_iald S hw 23 0 me_23 rfl h1 dX12_stands_9 ?_
  obtain ⟨h2, hf⟩ := gd_ix hf
  refine g_iald S hw 16 0 me_16 rfl h2 dX12_stands_10 ?_
  refine lv_topi (fun v3 e4 => ?_)
  have hf := nm_s e4 hf
  refine lv_istore_n (lv' := [(3, .int v3), (0, .ref (ad 0)), (1, .int x1), (2, .int x2)]) S.1 S.2.1 dX12_stands_11 rfl hl (by decide) rfl (fun ls hl => ?_)
  refine lv_iload_n S.1 S.2.1 dX12_stands_12 rfl (lv_at hl 3 rfl) ?_
  refine lv_aload_n S.1 S.2.1 dX12_stands_13 rfl (lv_at hl 1 rfl) ?_
  refine mg_WayLeavesModel_begins2 S hw kf_X12_169 dX12_stands_14 ?_
  refine lv_iload_n S.1 S.2.1 dX12_stands_17 rfl (lv_at hl 2 rfl) ?_
  obtain ⟨h5, hf⟩ := gd_ix hf
  refine g_iald S hw 25 0 me_25 rfl h5 dX12_stands_18 ?_
  refine lv_icmp_lt (tgt := 42) S.1 S.2.1 dX12_stands_19 (by decide) (fun hc => ?_) (fun hc => ?_)
  · have hf := itt hf hc
    exact wX12_stands_42 S hr hlk hw (lv_sub hl [1, 2, 3, 0] rfl) hf
  · have hf := itf hf hc
    refine lv_iload_n S.1 S.2.1 dX12_stands_22 rfl (lv_at hl 3 rfl) ?_
    refine lv_aload_n S.1 S.2.1 dX12_stands_23 rfl (lv_at hl 1 rfl) ?_
    refine mg_WayLeavesModel_begins2 S hw kf_X12_169 dX12_stands_24 ?_
    refine lv_iload_n S.1 S.2.1 dX12_stands_27 rfl (lv_at hl 2 rfl) ?_
    obtain ⟨h6, hf⟩ := gd_ix hf
    refine g_iald S hw 25 0 me_25 rfl h6 dX12_stands_28 ?_
    refine lv_aload_n S.1 S.2.1 dX12_stands_29 rfl (lv_at hl 1 rfl) ?_
    refine lv_iload_n S.1 S.2.1 dX12_stands_30 rfl (lv_at hl 2 rfl) ?_
    obtain ⟨r7, g8, hf⟩ := bd_s hf
    refine g_Vi (rest := [.int (aR σ 25 x1), .int x2]) (MWd_ok D ad cs) S hw (tX12_lastsOf g8) kt_X12_184 0 me_0 rfl rfl ⟨Nat.le_of_ble_eq_true rfl, Nat.le_of_ble_eq_true rfl⟩ rfl hl.1 rfl (Nat.le_of_ble_eq_true rfl) ⟨Nat.zero_le _, Nat.zero_le _⟩ dX12_stands_31 (fun H locs hw => ?_)
    refine lv_iadd S.1 S.2.1 dX12_stands_34 ?_
    refine lv_icmp_ge (tgt := 42) S.1 S.2.1 dX12_stands_35 (by decide) (fun hc => ?_) (fun hc => ?_)
    · have hf := itt hf hc
      exact wX12_stands_42 S hr hlk hw (lv_sub hl [1, 2, 3, 0] rfl) hf
    · have hf := itf hf hc
      refine lv_iconst (v := 1) S.1 S.2.1 dX12_stands_38 (by decide) ?_
      refine lv_goto (tgt := 43) S.1 S.2.1 dX12_stands_39 (by decide) ?_
      exact wX12_stands_43 S hr hlk hw (lv_sub hl [1, 2, 3, 0] rfl) hf
def fX12_isInForce_2b (N : Nat) (σ : St) (k2 : Int32 → Int32 → Option Int32) (x2 : Int32) (x3 : Int32) : Option Int32 :=
  if x3 = (-1 : Int32) then (some (1 : Int32)) else (bd (fX12_stands N σ x3 x2) fun r1 => if r1 = 0 then (some (0 : Int32)) else (if ix x3 24 = true then nm (aR σ 26 x3) fun v4 => k2 x2 v4 else none))
set_option maxHeartbeats 2000000 in
set_option maxRecDepth 20000 in
theorem wX12_isInForce_2b {r : Int32} {N : Nat} {σ : St} (S : CallFix p m c cX12_isInForce 4 s av BG RX12) (hr : meth.sig.returnType = some .boolean) (hlk : meth.locks = false) {k2 : Int32 → Int32 → Option Int32} (hk2 : ∀ (x2 : Int32) (x3 : Int32) (ls : Array Slot) (H : Heap) (locs : List Loc), Hw (MWd D ad cs) s σ H locs → lv_has ls 4 [(0, .ref (ad 0)), (2, .int x2), (3, .int x3)] → k2 x2 x3 = some r → W p l e (RM 2 50) s m av below meth c H locs 0 0 (QI below (MWd D ad cs) av s r σ) (F0 m 2 ls []))  {x2 : Int32} {x3 : Int32} {ls : Array Slot} {H : Heap} {locs : List Loc} (hw : Hw (MWd D ad cs) s σ H locs) (hl : lv_has ls 4 [(0, .ref (ad 0)), (2, .int x2), (3, .int x3)]) (hf : fX12_isInForce_2b N σ k2 x2 x3 = some r) : W p l e (RM 2 50) s m av below meth c H locs 0 0 (QI below (MWd D ad cs) av s r σ) (F0 m 2 ls []) := by
  unfold fX12_isInForce_2b at hf
  refine lv_iload_n S.1 S.2.1 dX12_isInForce_2 rfl (lv_at hl 2 rfl) ?_
  refine lv_iconst (v := -1) S.1 S.2.1 dX12_isInForce_3 (by decide) ?_
  refine lv_icmp_eq (tgt := 28) S.1 S.2.1 dX12_isInForce_4 (by decide) (fun hc => ?_) (fun hc => ?_)
  · have hf := itt hf hc
    refine lv_iconst (v := 1) S.1 S.2.1 dX12_isInForce_28 (by decide) ?_
    exact g_zret (MWd_ok D ad cs) S hr hlk hw rfl dX12_isInForce_29 (Option.some.inj hf) rfl
  · have hf := itf hf hc
    refine lv_aload_n S.1 S.2.1 dX12_isInForce_7 rfl (lv_at hl 0 rfl) ?_
    refine lv_iload_n S.1 S.2.1 dX12_isInForce_8 rfl (lv_at hl 2 rfl) ?_
    refine lv_iload_n S.1 S.2.1 dX12_isInForce_9 rfl (lv_at hl 1 rfl) ?_
    obtain ⟨r1, g2, hf⟩ := bd_s hf
    refine g_Vi (rest := []) (MWd_ok D ad cs) S hw (tX12_stands g2) kt_X12_190 0 me_0 rfl rfl ⟨Nat.le_of_ble_eq_true rfl, Nat.le_of_ble_eq_true rfl⟩ rfl hl.1 rfl (Nat.le_of_ble_eq_true rfl) ⟨Nat.zero_le _, Nat.zero_le _⟩ dX12_isInForce_10 (fun H locs hw => ?_)
    refine lv_if_ne (tgt := 18) S.1 S.2.1 dX12_isInForce_13 (by decide) (fun hc => ?_) (fun hc => ?_)
    · have hf := itf hf hc
      refine lv_aload_n S.1 S.2.1 dX12_isInForce_18 rfl (lv_at hl 0 rfl) ?_
      refine mg_WayLeavesModel_hangsOn S hw kf_X12_172 dX12_isInForce_19 ?_
      refine lv_iload_n S.1 S.2.1 dX12_isInForce_22 rfl (lv_at hl 2 rfl) ?_
      obtain ⟨h3, hf⟩ := gd_ix hf
      refine g_iald S hw 26 0 me_26 rfl h3 dX12_isInForce_23 ?_
      refine lv_topi (fun v4 e5 => ?_)
      have hf := nm_s e5 hf
      refine lv_istore_n (lv' := [(3, .int v4), (0, .ref (ad 0)), (2, .int x2)]) S.1 S.2.1 dX12_isInForce_24 rfl hl (by decide) rfl (fun ls hl => ?_)
      refine lv_goto (tgt := 2) S.1 S.2.1 dX12_isInForce_25 (by decide) ?_
      exact hk2 x2 v4 _ _ _ hw (lv_sub hl [1, 2, 0] rfl) hf
    · have hf := itt hf hc
      refine lv_iconst (v := 0) S.1 S.2.1 dX12_isInForce_16 (by decide) ?_
      exact g_zret (MWd_ok D ad cs) S hr hlk hw rfl dX12_isInForce_17 (Option.some.inj hf) rfl
def fX12_isInForce_2 (N : Nat) (σ : St) : Nat → Int32 → Int32 → Option Int32
  | 0 => fun _ _ => none
  | n + 1 => fX12_isInForce_2b N σ (fX12_isInForce_2 N σ n)
theorem wX12_isInForce_2 {r : Int32} {N : Nat} {σ : St} (S : CallFix p m c cX12_isInForce 4 s av BG RX12) (hr : meth.sig.returnType = some .boolean) (hlk : meth.locks = false) : ∀ (n : Nat), ∀ (x2 : Int32) (x3 : Int32) (ls : Array Slot) (H : Heap) (locs : List Loc), Hw (MWd D ad cs) s σ H locs → lv_has ls 4 [(0, .ref (ad 0)), (2, .int x2), (3, .int x3)] → fX12_isInForce_2 N σ n x2 x3 = some r → W p l e (RM 2 50) s m av below meth c H locs 0 0 (QI below (MWd D ad cs) av s r σ) (F0 m 2 ls []) := by
  intro n
  induction n with
  | zero => intro _ _ ls H locs hw hl hf; cases hf
  | succ n ih => intro _ _ ls H locs hw hl hf; exact wX12_isInForce_2b S hr hlk ih hw hl hf
def fX12_isInForce (N : Nat) (σ : St) (x1 : Int32) (x2 : Int32) : Option Int32 :=
  fX12_isInForce_2 N σ N x2 x1
set_option maxHeartbeats 2000000 in
set_option maxRecDepth 20000 in
theorem tX12_isInForce {r : Int32} {N : Nat} {σ : St} {x1 : Int32} {x2 : Int32} (hf : fX12_isInForce N σ x1 x2 = some r) : CI l (MWd D ad cs) yX12_isInForce cX12_isInForce 4 (some .boolean) 2 50 [.ref (ad 0), .int x1, .int x2] σ r σ := by
  refine CI.of (by decide) (Nat.le_of_ble_eq_true rfl) ?_
  intro p e s m below meth c ls S hr hlk hw hl
  have hl : lv_has ls 4 [(0, .ref (ad 0)), (1, .int x1), (2, .int x2)] := hl
  unfold fX12_isInForce at hf
  refine lv_iload_n S.1 S.2.1 dX12_isInForce_0 rfl (lv_at hl 1 rfl) ?_
  refine lv_istore_n (lv' := [(3, .int x1), (0, .ref (ad 0)), (1, .int x1), (2, .int x2)]) S.1 S.2.1 dX12_isInForce_1 rfl hl (by decide) rfl (fun ls hl => ?_)
  exact wX12_isInForce_2 S hr hlk N x2 x1 _ _ _ hw (lv_sub hl [1, 3, 0] rfl) hf
def fX12_hasIn_57 (N : Nat) (σ : St) (k5 : Int32 → Int32 → Int32 → Int32 → Option Int32) (x1 : Int32) (x2 : Int32) (x3 : Int32) (x4 : Int32) : Option Int32 :=
  nm (x4 + (1 : Int32)) fun v5 => k5 x1 x2 x3 v5
set_option maxHeartbeats 2000000 in
set_option maxRecDepth 20000 in
theorem wX12_hasIn_57 {r : Int32} {N : Nat} {σ : St} (S : CallFix p m c cX12_hasIn 5 s av BG RX12) (hr : meth.sig.returnType = some .int) (hlk : meth.locks = false) {k5 : Int32 → Int32 → Int32 → Int32 → Option Int32} (hk5 : ∀ (x1 : Int32) (x2 : Int32) (x3 : Int32) (x4 : Int32) (ls : Array Slot) (H : Heap) (locs : List Loc), Hw (MWd D ad cs) s σ H locs → lv_has ls 5 [(0, .ref (ad 0)), (1, .int x1), (2, .int x2), (3, .int x3), (4, .int x4)] → k5 x1 x2 x3 x4 = some r → W p l e (RM 3 73) s m av below meth c H locs 0 0 (QI below (MWd D ad cs) av s r σ) (F0 m 5 ls []))  {x1 : Int32} {x2 : Int32} {x3 : Int32} {x4 : Int32} {ls : Array Slot} {H : Heap} {locs : List Loc} (hw : Hw (MWd D ad cs) s σ H locs) (hl : lv_has ls 5 [(0, .ref (ad 0)), (1, .int x1), (2, .int x2), (3, .int x3), (4, .int x4)]) (hf : fX12_hasIn_57 N σ k5 x1 x2 x3 x4 = some r) : W p l e (RM 3 73) s m av below meth c H locs 0 0 (QI below (MWd D ad cs) av s r σ) (F0 m 57 ls []) := by
  unfold fX12_hasIn_57 at hf
  obtain ⟨v5, e6⟩ : ∃ z : Int32, z = x4 + (1 : Int32) := ⟨_, rfl⟩
  have hf := nm_s e6 hf
  refine lv_iinc (v := v5) (lv' := [(4, .int v5), (0, .ref (ad 0)), (1, .int x1), (2, .int x2), (3, .int x3)]) S.1 S.2.1 dX12_hasIn_57 hl (k := 4) rfl (by rw [e6]; rfl) (by decide) rfl (fun ls hl => ?_)
  refine lv_goto (tgt := 5) S.1 S.2.1 dX12_hasIn_60 (by decide) ?_
  exact hk5 x1 x2 x3 v5 _ _ _ hw (lv_sub hl [1, 2, 3, 4, 0] rfl) hf
def fX12_hasIn_56 (N : Nat) (σ : St) (k5 : Int32 → Int32 → Int32 → Int32 → Option Int32) (x1 : Int32) (x2 : Int32) (x4 : Int32) (y0 : Int32) : Option Int32 :=
  fX12_hasIn_57 N σ k5 x1 x2 y0 x4
set_option maxHeartbeats 2000000 in
set_option maxRecDepth 20000 in
theorem wX12_hasIn_56 {r : Int32} {N : Nat} {σ : St} (S : CallFix p m c cX12_hasIn 5 s av BG RX12) (hr : meth.sig.returnType = some .int) (hlk : meth.locks = false) {k5 : Int32 → Int32 → Int32 → Int32 → Option Int32} (hk5 : ∀ (x1 : Int32) (x2 : Int32) (x3 : Int32) (x4 : Int32) (ls : Array Slot) (H : Heap) (locs : List Loc), Hw (MWd D ad cs) s σ H locs → lv_has ls 5 [(0, .ref (ad 0)), (1, .int x1), (2, .int x2), (3, .int x3), (4, .int x4)] → k5 x1 x2 x3 x4 = some r → W p l e (RM 3 73) s m av below meth c H locs 0 0 (QI below (MWd D ad cs) av s r σ) (F0 m 5 ls []))  {x1 : Int32} {x2 : Int32} {x4 : Int32} {y0 : Int32} {ls : Array Slot} {H : Heap} {locs : List Loc} (hw : Hw (MWd D ad cs) s σ H locs) (hl : lv_has ls 5 [(0, .ref (ad 0)), (1, .int x1), (2, .int x2), (4, .int x4)]) (hf : fX12_hasIn_56 N σ k5 x1 x2 x4 y0 = some r) : W p l e (RM 3 73) s m av below meth c H locs 0 0 (QI below (MWd D ad cs) av s r σ) (F0 m 56 ls [.int y0]) := by
  unfold fX12_hasIn_56 at hf
  refine lv_istore_n (lv' := [(3, .int y0), (0, .ref (ad 0)), (1, .int x1), (2, .int x2), (4, .int x4)]) S.1 S.2.1 dX12_hasIn_56 rfl hl (by decide) rfl (fun ls hl => ?_)
  exact wX12_hasIn_57 S hr hlk hk5 hw (lv_sub hl [1, 2, 3, 0, 4] rfl) hf
def fX12_hasIn_5b (N : Nat) (σ : St) (k5 : Int32 → Int32 → Int32 → Int32 → Option Int32) (x1 : Int32) (x2 : Int32) (x3 : Int32) (x4 : Int32) : Option Int32 :=
  if (σ.1 4) ≤ x4 then (some x3) else (if ix x4 24 = true then if (aR σ 23 x4) = x1 then (if x3 = (1 : Int32) then (fX12_hasIn_57 N σ k5 x1 x2 x3 x4) else (bd (fX12_isInForce N σ x4 x2) fun r2 => if r2 = 0 then (fX12_hasIn_57 N σ k5 x1 x2 x3 x4) else (if ix x4 24 = true then if (aR σ 22 x4) = (4 : Int32) then (fX12_hasIn_56 N σ k5 x1 x2 x4 (2 : Int32)) else (fX12_hasIn_56 N σ k5 x1 x2 x4 (1 : Int32)) else none))) else (fX12_hasIn_57 N σ k5 x1 x2 x3 x4) else none)
set_option maxHeartbeats 2000000 in
set_option maxRecDepth 20000 in
theorem wX12_hasIn_5b {r : Int32} {N : Nat} {σ : St} (S : CallFix p m c cX12_hasIn 5 s av BG RX12) (hr : meth.sig.returnType = some .int) (hlk : meth.locks = false) {k5 : Int32 → Int32 → Int32 → Int32 → Option Int32} (hk5 : ∀ (x1 : Int32) (x2 : Int32) (x3 : Int32) (x4 : Int32) (ls : Array Slot) (H : Heap) (locs : List Loc), Hw (MWd D ad cs) s σ H locs → lv_has ls 5 [(0, .ref (ad 0)), (1, .int x1), (2, .int x2), (3, .int x3), (4, .int x4)] → k5 x1 x2 x3 x4 = some r → W p l e (RM 3 73) s m av below meth c H locs 0 0 (QI below (MWd D ad cs) av s r σ) (F0 m 5 ls []))  {x1 : Int32} {x2 : Int32} {x3 : Int32} {x4 : Int32} {ls : Array Slot} {H : Heap} {locs : List Loc} (hw : Hw (MWd D ad cs) s σ H locs) (hl : lv_has ls 5 [(0, .ref (ad 0)), (1, .int x1), (2, .int x2), (3, .int x3), (4, .int x4)]) (hf : fX12_hasIn_5b N σ k5 x1 x2 x3 x4 = some r) : W p l e (RM 3 73) s m av below meth c H locs 0 0 (QI below (MWd D ad cs) av s r σ) (F0 m 5 ls []) := by
  unfold fX12_hasIn_5b at hf
  refine lv_iload S.1 S.2.1 dX12_hasIn_5 (lv_at hl 4 rfl) ?_
  refine lv_aload_n S.1 S.2.1 dX12_hasIn_7 rfl (lv_at hl 0 rfl) ?_
  refine mg_WayLeavesModel_leaves S hw kf_X12_150 dX12_hasIn_8 ?_
  refine lv_icmp_ge (tgt := 63) S.1 S.2.1 dX12_hasIn_11 (by decide) (fun hc => ?_) (fun hc => ?_)
  · have hf := itt hf hc
    refine lv_iload_n S.1 S.2.1 dX12_hasIn_63 rfl (lv_at hl 3 rfl) ?_
    exact g_iret (MWd_ok D ad cs) S hr hlk hw dX12_hasIn_64 (Option.some.inj hf) rfl
  · have hf := itf hf hc
    refine lv_aload_n S.1 S.2.1 dX12_hasIn_14 rfl (lv_at hl 0 rfl) ?_
    refine mg_WayLeavesModel_spanOf S hw kf_X12_160 dX12_hasIn_15 ?_
    refine lv_iload S.1 S.2.1 dX12_hasIn_18 (lv_at hl 4 rfl) ?_
    obtain ⟨h1, hf⟩ := gd_ix hf
    refine g_iald S hw 23 0 me_23 rfl h1 dX12_hasIn_20 ?_
    refine lv_iload_n S.1 S.2.1 dX12_hasIn_21 rfl (lv_at hl 1 rfl) ?_
    refine lv_icmp_ne (tgt := 57) S.1 S.2.1 dX12_hasIn_22 (by decide) (fun hc => ?_) (fun hc => ?_)
    · have hf := itf hf hc
      exact wX12_hasIn_57 S hr hlk hk5 hw (lv_sub hl [0, 1, 2, 3, 4] rfl) hf
    · have hf := itt hf hc
      refine lv_iload_n S.1 S.2.1 dX12_hasIn_25 rfl (lv_at hl 3 rfl) ?_
      refine lv_iconst (v := 1) S.1 S.2.1 dX12_hasIn_26 (by decide) ?_
      refine lv_icmp_eq (tgt := 57) S.1 S.2.1 dX12_hasIn_27 (by decide) (fun hc => ?_) (fun hc => ?_)
      · have hf := itt hf hc
        exact wX12_hasIn_57 S hr hlk hk5 hw (lv_sub hl [0, 1, 2, 3, 4] rfl) hf
      · have hf := itf hf hc
        refine lv_aload_n S.1 S.2.1 dX12_hasIn_30 rfl (lv_at hl 0 rfl) ?_
        refine lv_iload S.1 S.2.1 dX12_hasIn_31 (lv_at hl 4 rfl) ?_
        refine lv_iload_n S.1 S.2.1 dX12_hasIn_33 rfl (lv_at hl 2 rfl) ?_
        obtain ⟨r2, g3, hf⟩ := bd_s hf
        refine g_Vi (rest := []) (MWd_ok D ad cs) S hw (tX12_isInForce g3) kt_X12_197 0 me_0 rfl rfl ⟨Nat.le_of_ble_eq_true rfl, Nat.le_of_ble_eq_true rfl⟩ rfl hl.1 rfl (Nat.le_of_ble_eq_true rfl) ⟨Nat.zero_le _, Nat.zero_le _⟩ dX12_hasIn_34 (fun H locs hw => ?_)
        refine lv_if_eq (tgt := 57) S.1 S.2.1 dX12_hasIn_37 (by decide) (fun hc => ?_) (fun hc => ?_)
        · have hf := itt hf hc
          exact wX12_hasIn_57 S hr hlk hk5 hw (lv_sub hl [0, 1, 2, 3, 4] rfl) hf
        · have hf := itf hf hc
          refine lv_aload_n S.1 S.2.1 dX12_hasIn_40 rfl (lv_at hl 0 rfl) ?_
          refine mg_WayLeavesModel_kindOf S hw kf_X12_163 dX12_hasIn_41 ?_
          refine lv_iload S.1 S.2.1 dX12_hasIn_44 (lv_at hl 4 rfl) ?_
          obtain ⟨h4, hf⟩ := gd_ix hf
          refine g_iald S hw 22 0 me_22 rfl h4 dX12_hasIn_46 ?_
          refine lv_iconst (v := 4) S.1 S.2.1 dX12_hasIn_47 (by decide) ?_
          refine lv_icmp_ne (tgt := 55) S.1 S.2.1 dX12_hasIn_48 (by decide) (fun hc => ?_) (fun hc => ?_)
          · have hf := itf hf hc
            refine lv_iconst (v := 1) S.1 S.2.1 dX12_hasIn_55 (by decide) ?_
            exact wX12_hasIn_56 S hr hlk hk5 hw (lv_sub hl [0, 1, 2, 4] rfl) hf
          · have hf := itt hf hc
            refine lv_iconst (v := 2) S.1 S.2.1 dX12_hasIn_51 (by decide) ?_
            refine lv_goto (tgt := 56) S.1 S.2.1 dX12_hasIn_52 (by decide) ?_
            exact wX12_hasIn_56 S hr hlk hk5 hw (lv_sub hl [0, 1, 2, 4] rfl) hf
def fX12_hasIn_5 (N : Nat) (σ : St) : Nat → Int32 → Int32 → Int32 → Int32 → Option Int32
  | 0 => fun _ _ _ _ => none
  | n + 1 => fX12_hasIn_5b N σ (fX12_hasIn_5 N σ n)
theorem wX12_hasIn_5 {r : Int32} {N : Nat} {σ : St} (S : CallFix p m c cX12_hasIn 5 s av BG RX12) (hr : meth.sig.returnType = some .int) (hlk : meth.locks = false) : ∀ (n : Nat), ∀ (x1 : Int32) (x2 : Int32) (x3 : Int32) (x4 : Int32) (ls : Array Slot) (H : Heap) (locs : List Loc), Hw (MWd D ad cs) s σ H locs → lv_has ls 5 [(0, .ref (ad 0)), (1, .int x1), (2, .int x2), (3, .int x3), (4, .int x4)] → fX12_hasIn_5 N σ n x1 x2 x3 x4 = some r → W p l e (RM 3 73) s m av below meth c H locs 0 0 (QI below (MWd D ad cs) av s r σ) (F0 m 5 ls []) := by
  intro n
  induction n with
  | zero => intro _ _ _ _ ls H locs hw hl hf; cases hf
  | succ n ih => intro _ _ _ _ ls H locs hw hl hf; exact wX12_hasIn_5b S hr hlk ih hw hl hf
def fX12_hasIn (N : Nat) (σ : St) (x1 : Int32) (x2 : Int32) : Option Int32 :=
  fX12_hasIn_5 N σ N x1 x2 (0 : Int32) (0 : Int32)
set_option maxHeartbeats 2000000 in
set_option maxRecDepth 20000 in
theorem tX12_hasIn {r : Int32} {N : Nat} {σ : St} {x1 : Int32} {x2 : Int32} (hf : fX12_hasIn N σ x1 x2 = some r) : CI l (MWd D ad cs) yX12_hasIn cX12_hasIn 5 (some .int) 3 73 [.ref (ad 0), .int x1, .int x2] σ r σ := by
  refine CI.of (by decide) (Nat.le_of_ble_eq_true rfl) ?_
  intro p e s m below meth c ls S hr hlk hw hl
  have hl : lv_has ls 5 [(0, .ref (ad 0)), (1, .int x1), (2, .int x2)] := hl
  unfold fX12_hasIn at hf
  refine lv_iconst (v := 0) S.1 S.2.1 dX12_hasIn_0 (by decide) ?_
  refine lv_istore_n (lv' := [(3, .int (0 : Int32)), (0, .ref (ad 0)), (1, .int x1), (2, .int x2)]) S.1 S.2.1 dX12_hasIn_1 rfl hl (by decide) rfl (fun ls hl => ?_)
  refine lv_iconst (v := 0) S.1 S.2.1 dX12_hasIn_2 (by decide) ?_
  refine lv_istore (lv' := [(4, .int (0 : Int32)), (3, .int (0 : Int32)), (0, .ref (ad 0)), (1, .int x1), (2, .int x2)]) S.1 S.2.1 dX12_hasIn_3 hl (by decide) rfl (fun ls hl => ?_)
  exact wX12_hasIn_5 S hr hlk N x1 x2 (0 : Int32) (0 : Int32) _ _ _ hw (lv_sub hl [2, 3, 4, 1, 0] rfl) hf
def fX12_endsAt_30 (N : Nat) (σ : St) (x1 : Int32) (x2 : Int32) (x3 : Int32) (y0 : Int32) : Option Int32 :=
  if y0 = 0 then (some x3) else (bd (fX12_hasIn N σ x1 x2) fun r1 => if r1 = 0 then (some x2) else (some x3))
set_option maxHeartbeats 2000000 in
set_option maxRecDepth 20000 in
theorem wX12_endsAt_30 {r : Int32} {N : Nat} {σ : St} (S : CallFix p m c cX12_endsAt 5 s av BG RX12) (hr : meth.sig.returnType = some .int) (hlk : meth.locks = false)  {x1 : Int32} {x2 : Int32} {x3 : Int32} {y0 : Int32} {ls : Array Slot} {H : Heap} {locs : List Loc} (hw : Hw (MWd D ad cs) s σ H locs) (hl : lv_has ls 5 [(0, .ref (ad 0)), (1, .int x1), (2, .int x2), (3, .int x3)]) (hf : fX12_endsAt_30 N σ x1 x2 x3 y0 = some r) : W p l e (RM 4 97) s m av below meth c H locs 0 0 (QI below (MWd D ad cs) av s r σ) (F0 m 30 ls [.int y0]) := by
  unfold fX12_endsAt_30 at hf
  refine lv_istore (lv' := [(4, .int y0), (0, .ref (ad 0)), (1, .int x1), (2, .int x2), (3, .int x3)]) S.1 S.2.1 dX12_endsAt_30 hl (by decide) rfl (fun ls hl => ?_)
  refine lv_iload S.1 S.2.1 dX12_endsAt_32 (lv_at hl 0 rfl) ?_
  refine lv_if_eq (tgt := 50) S.1 S.2.1 dX12_endsAt_34 (by decide) (fun hc => ?_) (fun hc => ?_)
  · have hf := itt hf hc
    refine lv_iload_n S.1 S.2.1 dX12_endsAt_50 rfl (lv_at hl 4 rfl) ?_
    exact g_iret (MWd_ok D ad cs) S hr hlk hw dX12_endsAt_51 (Option.some.inj hf) rfl
  · have hf := itf hf hc
    refine lv_aload_n S.1 S.2.1 dX12_endsAt_37 rfl (lv_at hl 1 rfl) ?_
    refine lv_iload_n S.1 S.2.1 dX12_endsAt_38 rfl (lv_at hl 2 rfl) ?_
    refine lv_iload_n S.1 S.2.1 dX12_endsAt_39 rfl (lv_at hl 3 rfl) ?_
    obtain ⟨r1, g2, hf⟩ := bd_s hf
    refine g_Vi (rest := []) (MWd_ok D ad cs) S hw (tX12_hasIn g2) kt_X12_207 0 me_0 rfl rfl ⟨Nat.le_of_ble_eq_true rfl, Nat.le_of_ble_eq_true rfl⟩ rfl hl.1 rfl (Nat.le_of_ble_eq_true rfl) ⟨Nat.zero_le _, Nat.zero_le _⟩ dX12_endsAt_40 (fun H locs hw => ?_)
    refine lv_if_ne (tgt := 50) S.1 S.2.1 dX12_endsAt_43 (by decide) (fun hc => ?_) (fun hc => ?_)
    · have hf := itf hf hc
      refine lv_iload_n S.1 S.2.1 dX12_endsAt_50 rfl (lv_at hl 4 rfl) ?_
      exact g_iret (MWd_ok D ad cs) S hr hlk hw dX12_endsAt_51 (Option.some.inj hf) rfl
    · have hf := itt hf hc
      refine lv_iload_n S.1 S.2.1 dX12_endsAt_46 rfl (lv_at hl 3 rfl) ?_
      refine lv_goto (tgt := 51) S.1 S.2.1 dX12_endsAt_47 (by decide) ?_
      exact g_iret (MWd_ok D ad cs) S hr hlk hw dX12_endsAt_51 (Option.some.inj hf) rfl
def fX12_endsAt_29 (N : Nat) (σ : St) (x1 : Int32) (x2 : Int32) (x3 : Int32) : Option Int32 :=
  fX12_endsAt_30 N σ x1 x2 x3 (0 : Int32)
set_option maxHeartbeats 2000000 in
set_option maxRecDepth 20000 in
theorem wX12_endsAt_29 {r : Int32} {N : Nat} {σ : St} (S : CallFix p m c cX12_endsAt 5 s av BG RX12) (hr : meth.sig.returnType = some .int) (hlk : meth.locks = false)  {x1 : Int32} {x2 : Int32} {x3 : Int32} {ls : Array Slot} {H : Heap} {locs : List Loc} (hw : Hw (MWd D ad cs) s σ H locs) (hl : lv_has ls 5 [(0, .ref (ad 0)), (1, .int x1), (2, .int x2), (3, .int x3)]) (hf : fX12_endsAt_29 N σ x1 x2 x3 = some r) : W p l e (RM 4 97) s m av below meth c H locs 0 0 (QI below (MWd D ad cs) av s r σ) (F0 m 29 ls []) := by
  unfold fX12_endsAt_29 at hf
  refine lv_iconst (v := 0) S.1 S.2.1 dX12_endsAt_29 (by decide) ?_
  exact wX12_endsAt_30 S hr hlk hw (lv_sub hl [0, 1, 2, 3] rfl) hf
def fX12_endsAt_25 (N : Nat) (σ : St) (x1 : Int32) (x2 : Int32) (x3 : Int32) : Option Int32 :=
  fX12_endsAt_30 N σ x1 x2 x3 (1 : Int32)
set_option maxHeartbeats 2000000 in
set_option maxRecDepth 20000 in
theorem wX12_endsAt_25 {r : Int32} {N : Nat} {σ : St} (S : CallFix p m c cX12_endsAt 5 s av BG RX12) (hr : meth.sig.returnType = some .int) (hlk : meth.locks = false)  {x1 : Int32} {x2 : Int32} {x3 : Int32} {ls : Array Slot} {H : Heap} {locs : List Loc} (hw : Hw (MWd D ad cs) s σ H locs) (hl : lv_has ls 5 [(0, .ref (ad 0)), (1, .int x1), (2, .int x2), (3, .int x3)]) (hf : fX12_endsAt_25 N σ x1 x2 x3 = some r) : W p l e (RM 4 97) s m av below meth c H locs 0 0 (QI below (MWd D ad cs) av s r σ) (F0 m 25 ls []) := by
  unfold fX12_endsAt_25 at hf
  refine lv_iconst (v := 1) S.1 S.2.1 dX12_endsAt_25 (by decide) ?_
  refine lv_goto (tgt := 30) S.1 S.2.1 dX12_endsAt_26 (by decide) ?_
  exact wX12_endsAt_30 S hr hlk hw (lv_sub hl [0, 1, 2, 3] rfl) hf
def fX12_endsAt (N : Nat) (σ : St) (x1 : Int32) (x2 : Int32) (x3 : Int32) : Option Int32 :=
  if x2 ≤ (σ.1 0) then (fX12_endsAt_29 N σ x1 x2 x3) else (if (9999 : Int32) < x2 then (fX12_endsAt_29 N σ x1 x2 x3) else (if x3 = (-1 : Int32) then (fX12_endsAt_25 N σ x1 x2 x3) else (if x3 ≤ x2 then (fX12_endsAt_29 N σ x1 x2 x3) else (fX12_endsAt_25 N σ x1 x2 x3))))
set_option maxHeartbeats 2000000 in
set_option maxRecDepth 20000 in
theorem tX12_endsAt {r : Int32} {N : Nat} {σ : St} {x1 : Int32} {x2 : Int32} {x3 : Int32} (hf : fX12_endsAt N σ x1 x2 x3 = some r) : CI l (MWd D ad cs) yX12_endsAt cX12_endsAt 5 (some .int) 4 97 [.ref (ad 0), .int x1, .int x2, .int x3] σ r σ := by
  refine CI.of (by decide) (Nat.le_of_ble_eq_true rfl) ?_
  intro p e s m below meth c ls S hr hlk hw hl
  have hl : lv_has ls 5 [(0, .ref (ad 0)), (1, .int x1), (2, .int x2), (3, .int x3)] := hl
  unfold fX12_endsAt at hf
  refine lv_iload_n S.1 S.2.1 dX12_endsAt_0 rfl (lv_at hl 2 rfl) ?_
  refine lv_aload_n S.1 S.2.1 dX12_endsAt_1 rfl (lv_at hl 0 rfl) ?_
  refine mg_WayLeavesModel_today S hw kf_X12_15 dX12_endsAt_2 ?_
  refine lv_icmp_le (tgt := 29) S.1 S.2.1 dX12_endsAt_5 (by decide) (fun hc => ?_) (fun hc => ?_)
  · have hf := itt hf hc
    exact wX12_endsAt_29 S hr hlk hw (lv_sub hl [0, 1, 2, 3] rfl) hf
  · have hf := itf hf hc
    refine lv_iload_n S.1 S.2.1 dX12_endsAt_8 rfl (lv_at hl 2 rfl) ?_
    refine lv_sipush (v := 9999) S.1 S.2.1 dX12_endsAt_9 (by decide) ?_
    refine lv_icmp_gt (tgt := 29) S.1 S.2.1 dX12_endsAt_12 (by decide) (fun hc => ?_) (fun hc => ?_)
    · have hf := itt hf hc
      exact wX12_endsAt_29 S hr hlk hw (lv_sub hl [0, 1, 2, 3] rfl) hf
    · have hf := itf hf hc
      refine lv_iload_n S.1 S.2.1 dX12_endsAt_15 rfl (lv_at hl 3 rfl) ?_
      refine lv_iconst (v := -1) S.1 S.2.1 dX12_endsAt_16 (by decide) ?_
      refine lv_icmp_eq (tgt := 25) S.1 S.2.1 dX12_endsAt_17 (by decide) (fun hc => ?_) (fun hc => ?_)
      · have hf := itt hf hc
        exact wX12_endsAt_25 S hr hlk hw (lv_sub hl [0, 1, 2, 3] rfl) hf
      · have hf := itf hf hc
        refine lv_iload_n S.1 S.2.1 dX12_endsAt_20 rfl (lv_at hl 2 rfl) ?_
        refine lv_iload_n S.1 S.2.1 dX12_endsAt_21 rfl (lv_at hl 3 rfl) ?_
        refine lv_icmp_ge (tgt := 29) S.1 S.2.1 dX12_endsAt_22 (by decide) (fun hc => ?_) (fun hc => ?_)
        · have hf := itt hf hc
          exact wX12_endsAt_29 S hr hlk hw (lv_sub hl [0, 1, 2, 3] rfl) hf
        · have hf := itf hf hc
          exact wX12_endsAt_25 S hr hlk hw (lv_sub hl [0, 1, 2, 3] rfl) hf
def fX12_ends_69b (N : Nat) (σ : St) (k69 : Int32 → Int32 → Int32 → Option Int32) (x1 : Int32) (x2 : Int32) (x3 : Int32) : Option Int32 :=
  if (σ.1 1) ≤ x3 then (some x2) else (if ix x3 40 = true then bd (fX12_endsAt N σ x1 (aR σ 3 x3) x2) fun r14 => nm (x3 + (1 : Int32)) fun v16 => k69 x1 r14 v16 else none)
set_option maxHeartbeats 2000000 in
set_option maxRecDepth 20000 in
theorem wX12_ends_69b {r : Int32} {N : Nat} {σ : St} (S : CallFix p m c cX12_ends 4 s av BG RX12) (hr : meth.sig.returnType = some .int) (hlk : meth.locks = false) {k69 : Int32 → Int32 → Int32 → Option Int32} (hk69 : ∀ (x1 : Int32) (x2 : Int32) (x3 : Int32) (ls : Array Slot) (H : Heap) (locs : List Loc), Hw (MWd D ad cs) s σ H locs → lv_has ls 4 [(0, .ref (ad 0)), (1, .int x1), (2, .int x2), (3, .int x3)] → k69 x1 x2 x3 = some r → W p l e (RM 5 121) s m av below meth c H locs 0 0 (QI below (MWd D ad cs) av s r σ) (F0 m 69 ls []))  {x1 : Int32} {x2 : Int32} {x3 : Int32} {ls : Array Slot} {H : Heap} {locs : List Loc} (hw : Hw (MWd D ad cs) s σ H locs) (hl : lv_has ls 4 [(0, .ref (ad 0)), (1, .int x1), (2, .int x2), (3, .int x3)]) (hf : fX12_ends_69b N σ k69 x1 x2 x3 = some r) : W p l e (RM 5 121) s m av below meth c H locs 0 0 (QI below (MWd D ad cs) av s r σ) (F0 m 69 ls []) := by
  unfold fX12_ends_69b at hf
  refine lv_iload_n S.1 S.2.1 dX12_ends_69 rfl (lv_at hl 3 rfl) ?_
  refine lv_aload_n S.1 S.2.1 dX12_ends_70 rfl (lv_at hl 0 rfl) ?_
  refine mg_WayLeavesModel_sales S hw kf_X12_26 dX12_ends_71 ?_
  refine lv_icmp_ge (tgt := 96) S.1 S.2.1 dX12_ends_74 (by decide) (fun hc => ?_) (fun hc => ?_)
  · have hf := itt hf hc
    refine lv_iload_n S.1 S.2.1 dX12_ends_96 rfl (lv_at hl 2 rfl) ?_
    exact g_iret (MWd_ok D ad cs) S hr hlk hw dX12_ends_97 (Option.some.inj hf) rfl
  · have hf := itf hf hc
    refine lv_aload_n S.1 S.2.1 dX12_ends_77 rfl (lv_at hl 0 rfl) ?_
    refine lv_iload_n S.1 S.2.1 dX12_ends_78 rfl (lv_at hl 1 rfl) ?_
    refine lv_aload_n S.1 S.2.1 dX12_ends_79 rfl (lv_at hl 0 rfl) ?_
    refine mg_WayLeavesModel_saleDay S hw kf_X12_36 dX12_ends_80 ?_
    refine lv_iload_n S.1 S.2.1 dX12_ends_83 rfl (lv_at hl 3 rfl) ?_
    obtain ⟨h13, hf⟩ := gd_ix hf
    refine g_iald S hw 3 0 me_3 rfl h13 dX12_ends_84 ?_
    refine lv_iload_n S.1 S.2.1 dX12_ends_85 rfl (lv_at hl 2 rfl) ?_
    obtain ⟨r14, g15, hf⟩ := bd_s hf
    refine g_Vi (rest := []) (MWd_ok D ad cs) S hw (tX12_endsAt g15) kt_X12_210 0 me_0 rfl rfl ⟨Nat.le_of_ble_eq_true rfl, Nat.le_of_ble_eq_true rfl⟩ rfl hl.1 rfl (Nat.le_of_ble_eq_true rfl) ⟨Nat.zero_le _, Nat.zero_le _⟩ dX12_ends_86 (fun H locs hw => ?_)
    refine lv_istore_n (lv' := [(2, .int r14), (0, .ref (ad 0)), (1, .int x1), (3, .int x3)]) S.1 S.2.1 dX12_ends_89 rfl hl (by decide) rfl (fun ls hl => ?_)
    obtain ⟨v16, e17⟩ : ∃ z : Int32, z = x3 + (1 : Int32) := ⟨_, rfl⟩
    have hf := nm_s e17 hf
    refine lv_iinc (v := v16) (lv' := [(3, .int v16), (2, .int r14), (0, .ref (ad 0)), (1, .int x1)]) S.1 S.2.1 dX12_ends_90 hl (k := 3) rfl (by rw [e17]; rfl) (by decide) rfl (fun ls hl => ?_)
    refine lv_goto (tgt := 69) S.1 S.2.1 dX12_ends_93 (by decide) ?_
    exact hk69 x1 r14 v16 _ _ _ hw (lv_sub hl [2, 3, 1, 0] rfl) hf
def fX12_ends_69 (N : Nat) (σ : St) : Nat → Int32 → Int32 → Int32 → Option Int32
  | 0 => fun _ _ _ => none
  | n + 1 => fX12_ends_69b N σ (fX12_ends_69 N σ n)
theorem wX12_ends_69 {r : Int32} {N : Nat} {σ : St} (S : CallFix p m c cX12_ends 4 s av BG RX12) (hr : meth.sig.returnType = some .int) (hlk : meth.locks = false) : ∀ (n : Nat), ∀ (x1 : Int32) (x2 : Int32) (x3 : Int32) (ls : Array Slot) (H : Heap) (locs : List Loc), Hw (MWd D ad cs) s σ H locs → lv_has ls 4 [(0, .ref (ad 0)), (1, .int x1), (2, .int x2), (3, .int x3)] → fX12_ends_69 N σ n x1 x2 x3 = some r → W p l e (RM 5 121) s m av below meth c H locs 0 0 (QI below (MWd D ad cs) av s r σ) (F0 m 69 ls []) := by
  intro n
  induction n with
  | zero => intro _ _ _ ls H locs hw hl hf; cases hf
  | succ n ih => intro _ _ _ ls H locs hw hl hf; exact wX12_ends_69b S hr hlk ih hw hl hf
def fX12_ends_21b (N : Nat) (σ : St) (k21 : Int32 → Int32 → Int32 → Option Int32) (x1 : Int32) (x2 : Int32) (x3 : Int32) : Option Int32 :=
  if (σ.1 4) ≤ x3 then (fX12_ends_69 N σ N x1 x2 (0 : Int32)) else (if ix x3 24 = true then bd (fX12_lastsOf N σ x3) fun r4 => bd (fX12_endsAt N σ x1 ((aR σ 25 x3) + r4) x2) fun r6 => if ix x3 24 = true then bd (fX12_endsAt N σ x1 (aR σ 29 x3) r6) fun r9 => nm (x3 + (1 : Int32)) fun v11 => k21 x1 r9 v11 else none else none)
set_option maxHeartbeats 2000000 in
set_option maxRecDepth 20000 in
theorem wX12_ends_21b {r : Int32} {N : Nat} {σ : St} (S : CallFix p m c cX12_ends 4 s av BG RX12) (hr : meth.sig.returnType = some .int) (hlk : meth.locks = false) {k21 : Int32 → Int32 → Int32 → Option Int32} (hk21 : ∀ (x1 : Int32) (x2 : Int32) (x3 : Int32) (ls : Array Slot) (H : Heap) (locs : List Loc), Hw (MWd D ad cs) s σ H locs → lv_has ls 4 [(0, .ref (ad 0)), (1, .int x1), (2, .int x2), (3, .int x3)] → k21 x1 x2 x3 = some r → W p l e (RM 5 121) s m av below meth c H locs 0 0 (QI below (MWd D ad cs) av s r σ) (F0 m 21 ls []))  {x1 : Int32} {x2 : Int32} {x3 : Int32} {ls : Array Slot} {H : Heap} {locs : List Loc} (hw : Hw (MWd D ad cs) s σ H locs) (hl : lv_has ls 4 [(0, .ref (ad 0)), (1, .int x1), (2, .int x2), (3, .int x3)]) (hf : fX12_ends_21b N σ k21 x1 x2 x3 = some r) : W p l e (RM 5 121) s m av below meth c H locs 0 0 (QI below (MWd D ad cs) av s r σ) (F0 m 21 ls []) := by
  unfold fX12_ends_21b at hf
  refine lv_iload_n S.1 S.2.1 dX12_ends_21 rfl (lv_at hl 3 rfl) ?_
  refine lv_aload_n S.1 S.2.1 dX12_ends_22 rfl (lv_at hl 0 rfl) ?_
  refine mg_WayLeavesModel_leaves S hw kf_X12_150 dX12_ends_23 ?_
  refine lv_icmp_ge (tgt := 67) S.1 S.2.1 dX12_ends_26 (by decide) (fun hc => ?_) (fun hc => ?_)
  · have hf := itt hf hc
    refine lv_iconst (v := 0) S.1 S.2.1 dX12_ends_67 (by decide) ?_
    refine lv_istore_n (lv' := [(3, .int (0 : Int32)), (0, .ref (ad 0)), (1, .int x1), (2, .int x2)]) S.1 S.2.1 dX12_ends_68 rfl hl (by decide) rfl (fun ls hl => ?_)
    exact wX12_ends_69 S hr hlk N x1 x2 (0 : Int32) _ _ _ hw (lv_sub hl [1, 2, 3, 0] rfl) hf
  · have hf := itf hf hc
    refine lv_aload_n S.1 S.2.1 dX12_ends_29 rfl (lv_at hl 0 rfl) ?_
    refine lv_iload_n S.1 S.2.1 dX12_ends_30 rfl (lv_at hl 1 rfl) ?_
    refine lv_aload_n S.1 S.2.1 dX12_ends_31 rfl (lv_at hl 0 rfl) ?_
    refine mg_WayLeavesModel_begins2 S hw kf_X12_169 dX12_ends_32 ?_
    refine lv_iload_n S.1 S.2.1 dX12_ends_35 rfl (lv_at hl 3 rfl) ?_
    obtain ⟨h3, hf⟩ := gd_ix hf
    refine g_iald S hw 25 0 me_25 rfl h3 dX12_ends_36 ?_
    refine lv_aload_n S.1 S.2.1 dX12_ends_37 rfl (lv_at hl 0 rfl) ?_
    refine lv_iload_n S.1 S.2.1 dX12_ends_38 rfl (lv_at hl 3 rfl) ?_
    obtain ⟨r4, g5, hf⟩ := bd_s hf
    refine g_Vi (rest := [.int (aR σ 25 x3), .int x1, .ref (ad 0)]) (MWd_ok D ad cs) S hw (tX12_lastsOf g5) kt_X12_184 0 me_0 rfl rfl ⟨Nat.le_of_ble_eq_true rfl, Nat.le_of_ble_eq_true rfl⟩ rfl hl.1 rfl (Nat.le_of_ble_eq_true rfl) ⟨Nat.zero_le _, Nat.zero_le _⟩ dX12_ends_39 (fun H locs hw => ?_)
    refine lv_iadd S.1 S.2.1 dX12_ends_42 ?_
    refine lv_iload_n S.1 S.2.1 dX12_ends_43 rfl (lv_at hl 2 rfl) ?_
    obtain ⟨r6, g7, hf⟩ := bd_s hf
    refine g_Vi (rest := []) (MWd_ok D ad cs) S hw (tX12_endsAt g7) kt_X12_210 0 me_0 rfl rfl ⟨Nat.le_of_ble_eq_true rfl, Nat.le_of_ble_eq_true rfl⟩ rfl hl.1 rfl (Nat.le_of_ble_eq_true rfl) ⟨Nat.zero_le _, Nat.zero_le _⟩ dX12_ends_44 (fun H locs hw => ?_)
    refine lv_istore_n (lv' := [(2, .int r6), (0, .ref (ad 0)), (1, .int x1), (3, .int x3)]) S.1 S.2.1 dX12_ends_47 rfl hl (by decide) rfl (fun ls hl => ?_)
    refine lv_aload_n S.1 S.2.1 dX12_ends_48 rfl (lv_at hl 1 rfl) ?_
    refine lv_iload_n S.1 S.2.1 dX12_ends_49 rfl (lv_at hl 2 rfl) ?_
    refine lv_aload_n S.1 S.2.1 dX12_ends_50 rfl (lv_at hl 1 rfl) ?_
    refine mg_WayLeavesModel_undone S hw kf_X12_175 dX12_ends_51 ?_
    refine lv_iload_n S.1 S.2.1 dX12_ends_54 rfl (lv_at hl 3 rfl) ?_
    obtain ⟨h8, hf⟩ := gd_ix hf
    refine g_iald S hw 29 0 me_29 rfl h8 dX12_ends_55 ?_
    refine lv_iload_n S.1 S.2.1 dX12_ends_56 rfl (lv_at hl 0 rfl) ?_
    obtain ⟨r9, g10, hf⟩ := bd_s hf
    refine g_Vi (rest := []) (MWd_ok D ad cs) S hw (tX12_endsAt g10) kt_X12_210 0 me_0 rfl rfl ⟨Nat.le_of_ble_eq_true rfl, Nat.le_of_ble_eq_true rfl⟩ rfl hl.1 rfl (Nat.le_of_ble_eq_true rfl) ⟨Nat.zero_le _, Nat.zero_le _⟩ dX12_ends_57 (fun H locs hw => ?_)
    refine lv_istore_n (lv' := [(2, .int r9), (0, .ref (ad 0)), (1, .int x1), (3, .int x3)]) S.1 S.2.1 dX12_ends_60 rfl hl (by decide) rfl (fun ls hl => ?_)
    obtain ⟨v11, e12⟩ : ∃ z : Int32, z = x3 + (1 : Int32) := ⟨_, rfl⟩
    have hf := nm_s e12 hf
    refine lv_iinc (v := v11) (lv' := [(3, .int v11), (2, .int r9), (0, .ref (ad 0)), (1, .int x1)]) S.1 S.2.1 dX12_ends_61 hl (k := 3) rfl (by rw [e12]; rfl) (by decide) rfl (fun ls hl => ?_)
    refine lv_goto (tgt := 21) S.1 S.2.1 dX12_ends_64 (by decide) ?_
    exact hk21 x1 r9 v11 _ _ _ hw (lv_sub hl [2, 3, 1, 0] rfl) hf
def fX12_ends_21 (N : Nat) (σ : St) : Nat → Int32 → Int32 → Int32 → Option Int32
  | 0 => fun _ _ _ => none
  | n + 1 => fX12_ends_21b N σ (fX12_ends_21 N σ n)
theorem wX12_ends_21 {r : Int32} {N : Nat} {σ : St} (S : CallFix p m c cX12_ends 4 s av BG RX12) (hr : meth.sig.returnType = some .int) (hlk : meth.locks = false) : ∀ (n : Nat), ∀ (x1 : Int32) (x2 : Int32) (x3 : Int32) (ls : Array Slot) (H : Heap) (locs : List Loc), Hw (MWd D ad cs) s σ H locs → lv_has ls 4 [(0, .ref (ad 0)), (1, .int x1), (2, .int x2), (3, .int x3)] → fX12_ends_21 N σ n x1 x2 x3 = some r → W p l e (RM 5 121) s m av below meth c H locs 0 0 (QI below (MWd D ad cs) av s r σ) (F0 m 21 ls []) := by
  intro n
  induction n with
  | zero => intro _ _ _ ls H locs hw hl hf; cases hf
  | succ n ih => intro _ _ _ ls H locs hw hl hf; exact wX12_ends_21b S hr hlk ih hw hl hf
def fX12_ends (N : Nat) (σ : St) (x1 : Int32) : Option Int32 :=
  bd (fX12_hasIn N σ x1 (σ.1 0)) fun r1 => if r1 = 0 then (some (σ.1 0)) else (fX12_ends_21 N σ N x1 (-1 : Int32) (0 : Int32))
set_option maxHeartbeats 2000000 in
set_option maxRecDepth 20000 in
theorem tX12_ends {r : Int32} {N : Nat} {σ : St} {x1 : Int32} (hf : fX12_ends N σ x1 = some r) : CI l (MWd D ad cs) yX12_ends cX12_ends 4 (some .int) 5 121 [.ref (ad 0), .int x1] σ r σ := by
  refine CI.of (by decide) (Nat.le_of_ble_eq_true rfl) ?_
  intro p e s m below meth c ls S hr hlk hw hl
  have hl : lv_has ls 4 [(0, .ref (ad 0)), (1, .int x1)] := hl
  unfold fX12_ends at hf
  refine lv_aload_n S.1 S.2.1 dX12_ends_0 rfl (lv_at hl 0 rfl) ?_
  refine lv_iload_n S.1 S.2.1 dX12_ends_1 rfl (lv_at hl 1 rfl) ?_
  refine lv_aload_n S.1 S.2.1 dX12_ends_2 rfl (lv_at hl 0 rfl) ?_
  refine mg_WayLeavesModel_today S hw kf_X12_15 dX12_ends_3 ?_
  obtain ⟨r1, g2, hf⟩ := bd_s hf
  refine g_Vi (rest := []) (MWd_ok D ad cs) S hw (tX12_hasIn g2) kt_X12_207 0 me_0 rfl rfl ⟨Nat.le_of_ble_eq_true rfl, Nat.le_of_ble_eq_true rfl⟩ rfl hl.1 rfl (Nat.le_of_ble_eq_true rfl) ⟨Nat.zero_le _, Nat.zero_le _⟩ dX12_ends_6 (fun H locs hw => ?_)
  refine lv_if_ne (tgt := 17) S.1 S.2.1 dX12_ends_9 (by decide) (fun hc => ?_) (fun hc => ?_)
  · have hf := itf hf hc
    refine lv_iconst (v := -1) S.1 S.2.1 dX12_ends_17 (by decide) ?_
    refine lv_istore_n (lv' := [(2, .int (-1 : Int32)), (0, .ref (ad 0)), (1, .int x1)]) S.1 S.2.1 dX12_ends_18 rfl hl (by decide) rfl (fun ls hl => ?_)
    refine lv_iconst (v := 0) S.1 S.2.1 dX12_ends_19 (by decide) ?_
    refine lv_istore_n (lv' := [(3, .int (0 : Int32)), (2, .int (-1 : Int32)), (0, .ref (ad 0)), (1, .int x1)]) S.1 S.2.1 dX12_ends_20 rfl hl (by decide) rfl (fun ls hl => ?_)
    exact wX12_ends_21 S hr hlk N x1 (-1 : Int32) (0 : Int32) _ _ _ hw (lv_sub hl [2, 3, 1, 0] rfl) hf
  · have hf := itt hf hc
    refine lv_aload_n S.1 S.2.1 dX12_ends_12 rfl (lv_at hl 0 rfl) ?_
    refine mg_WayLeavesModel_today S hw kf_X12_15 dX12_ends_13 ?_
    exact g_iret (MWd_ok D ad cs) S hr hlk hw dX12_ends_16 (Option.some.inj hf) rfl
def fX12_spanTold (N : Nat) (σ : St) (x1 : Int32) (x2 : Int32) : Option Int64 :=
  if (fX12_isSpan σ x1) = 0 then (some (-4611686018427387904 : Int64)) else (if x2 = (0 : Int32) then (if ix x1 16 = true then some (((aR σ 16 x1)).toInt64) else none) else (if x2 = (1 : Int32) then (if ix x1 16 = true then some (((aR σ 17 x1)).toInt64) else none) else (if x2 = (2 : Int32) then (bd (fX12_sag N σ x1) fun r6 => some ((r6).toInt64)) else (if x2 = (3 : Int32) then (bd (fX12_low N σ x1) fun r9 => some ((r9).toInt64)) else (if x2 = (4 : Int32) then (bd (fX12_near N σ x1) fun r12 => some ((r12).toInt64)) else (if x2 = (5 : Int32) then (bd (fX12_near N σ x1) fun r15 => if (6 : Int32) ≤ r15 then (some (0 : Int64)) else (some (1 : Int64))) else (if x2 = (6 : Int32) then (bd (fX12_ends N σ x1) fun r18 => some ((r18).toInt64)) else (if x2 = (7 : Int32) then (if ix x1 16 = true then some (((aR σ 19 x1)).toInt64) else none) else (some (-4611686018427387904 : Int64))))))))))
set_option maxHeartbeats 2000000 in
set_option maxRecDepth 20000 in
theorem tX12_spanTold {r : Int64} {N : Nat} {σ : St} {x1 : Int32} {x2 : Int32} (hf : fX12_spanTold N σ x1 x2 = some r) : CJ l (MWd D ad cs) yX12_spanTold cX12_spanTold 3 (some .long) 6 144 [.ref (ad 0), .int x1, .int x2] σ r σ := by
  refine CJ.of (by decide) (Nat.le_of_ble_eq_true rfl) ?_
  intro p e s m below meth c ls S hr hlk hw hl
  have hl : lv_has ls 3 [(0, .ref (ad 0)), (1, .int x1), (2, .int x2)] := hl
  unfold fX12_spanTold at hf
  refine lv_aload_n S.1 S.2.1 dX12_spanTold_0 rfl (lv_at hl 0 rfl) ?_
  refine lv_iload_n S.1 S.2.1 dX12_spanTold_1 rfl (lv_at hl 1 rfl) ?_
  refine g_Vi (rest := []) (MWd_ok D ad cs) S hw (tX12_isSpan (ad := ad) (cs := cs) (σ := σ) rfl) kt_X12_123 0 me_0 rfl rfl ⟨Nat.le_of_ble_eq_true rfl, Nat.le_of_ble_eq_true rfl⟩ rfl hl.1 rfl (Nat.le_of_ble_eq_true rfl) ⟨Nat.zero_le _, Nat.zero_le _⟩ dX12_spanTold_2 (fun H locs hw => ?_)
  refine lv_if_ne (tgt := 12) S.1 S.2.1 dX12_spanTold_5 (by decide) (fun hc => ?_) (fun hc => ?_)
  · have hf := itf hf hc
    refine lv_iload_n S.1 S.2.1 dX12_spanTold_12 rfl (lv_at hl 2 rfl) ?_
    by_cases h1 : x2 = (0 : Int32)
    · have hf := itt hf h1
      refine lv_tableIn (off := 47) (tgt := 60) S.1 S.2.1 dX12_spanTold_13 (by rw [h1]; decide) (by rw [h1]; decide) (by rw [h1]; rfl) (by decide) ?_
      refine lv_aload_n S.1 S.2.1 dX12_spanTold_60 rfl (lv_at hl 0 rfl) ?_
      refine mg_WayLeavesModel_spanPlot S hw kf_X12_111 dX12_spanTold_61 ?_
      refine lv_iload_n S.1 S.2.1 dX12_spanTold_64 rfl (lv_at hl 1 rfl) ?_
      obtain ⟨h2, hf⟩ := gd_ix hf
      refine g_iald S hw 16 0 me_16 rfl h2 dX12_spanTold_65 ?_
      refine lv_i2l S.1 S.2.1 dX12_spanTold_66 rfl ?_
      exact g_jret (MWd_ok D ad cs) S hr hlk hw dX12_spanTold_67 (Option.some.inj hf) rfl
    have hf := itf hf h1
    by_cases h3 : x2 = (1 : Int32)
    · have hf := itt hf h3
      refine lv_tableIn (off := 55) (tgt := 68) S.1 S.2.1 dX12_spanTold_13 (by rw [h3]; decide) (by rw [h3]; decide) (by rw [h3]; rfl) (by decide) ?_
      refine lv_aload_n S.1 S.2.1 dX12_spanTold_68 rfl (lv_at hl 0 rfl) ?_
      refine mg_WayLeavesModel_spanLong S hw kf_X12_114 dX12_spanTold_69 ?_
      refine lv_iload_n S.1 S.2.1 dX12_spanTold_72 rfl (lv_at hl 1 rfl) ?_
      obtain ⟨h4, hf⟩ := gd_ix hf
      refine g_iald S hw 17 0 me_17 rfl h4 dX12_spanTold_73 ?_
      refine lv_i2l S.1 S.2.1 dX12_spanTold_74 rfl ?_
      exact g_jret (MWd_ok D ad cs) S hr hlk hw dX12_spanTold_75 (Option.some.inj hf) rfl
    have hf := itf hf h3
    by_cases h5 : x2 = (2 : Int32)
    · have hf := itt hf h5
      refine lv_tableIn (off := 63) (tgt := 76) S.1 S.2.1 dX12_spanTold_13 (by rw [h5]; decide) (by rw [h5]; decide) (by rw [h5]; rfl) (by decide) ?_
      refine lv_aload_n S.1 S.2.1 dX12_spanTold_76 rfl (lv_at hl 0 rfl) ?_
      refine lv_iload_n S.1 S.2.1 dX12_spanTold_77 rfl (lv_at hl 1 rfl) ?_
      obtain ⟨r6, g7, hf⟩ := bd_s hf
      refine g_Vi (rest := []) (MWd_ok D ad cs) S hw (tX12_sag g7) kt_X12_136 0 me_0 rfl rfl ⟨Nat.le_of_ble_eq_true rfl, Nat.le_of_ble_eq_true rfl⟩ rfl hl.1 rfl (Nat.le_of_ble_eq_true rfl) ⟨Nat.zero_le _, Nat.zero_le _⟩ dX12_spanTold_78 (fun H locs hw => ?_)
      refine lv_i2l S.1 S.2.1 dX12_spanTold_81 rfl ?_
      exact g_jret (MWd_ok D ad cs) S hr hlk hw dX12_spanTold_82 (Option.some.inj hf) rfl
    have hf := itf hf h5
    by_cases h8 : x2 = (3 : Int32)
    · have hf := itt hf h8
      refine lv_tableIn (off := 70) (tgt := 83) S.1 S.2.1 dX12_spanTold_13 (by rw [h8]; decide) (by rw [h8]; decide) (by rw [h8]; rfl) (by decide) ?_
      refine lv_aload_n S.1 S.2.1 dX12_spanTold_83 rfl (lv_at hl 0 rfl) ?_
      refine lv_iload_n S.1 S.2.1 dX12_spanTold_84 rfl (lv_at hl 1 rfl) ?_
      obtain ⟨r9, g10, hf⟩ := bd_s hf
      refine g_Vi (rest := []) (MWd_ok D ad cs) S hw (tX12_low g10) kt_X12_139 0 me_0 rfl rfl ⟨Nat.le_of_ble_eq_true rfl, Nat.le_of_ble_eq_true rfl⟩ rfl hl.1 rfl (Nat.le_of_ble_eq_true rfl) ⟨Nat.zero_le _, Nat.zero_le _⟩ dX12_spanTold_85 (fun H locs hw => ?_)
      refine lv_i2l S.1 S.2.1 dX12_spanTold_88 rfl ?_
      exact g_jret (MWd_ok D ad cs) S hr hlk hw dX12_spanTold_89 (Option.some.inj hf) rfl
    have hf := itf hf h8
    by_cases h11 : x2 = (4 : Int32)
    · have hf := itt hf h11
      refine lv_tableIn (off := 77) (tgt := 90) S.1 S.2.1 dX12_spanTold_13 (by rw [h11]; decide) (by rw [h11]; decide) (by rw [h11]; rfl) (by decide) ?_
      refine lv_aload_n S.1 S.2.1 dX12_spanTold_90 rfl (lv_at hl 0 rfl) ?_
      refine lv_iload_n S.1 S.2.1 dX12_spanTold_91 rfl (lv_at hl 1 rfl) ?_
      obtain ⟨r12, g13, hf⟩ := bd_s hf
      refine g_Vi (rest := []) (MWd_ok D ad cs) S hw (tX12_near g13) kt_X12_144 0 me_0 rfl rfl ⟨Nat.le_of_ble_eq_true rfl, Nat.le_of_ble_eq_true rfl⟩ rfl hl.1 rfl (Nat.le_of_ble_eq_true rfl) ⟨Nat.zero_le _, Nat.zero_le _⟩ dX12_spanTold_92 (fun H locs hw => ?_)
      refine lv_i2l S.1 S.2.1 dX12_spanTold_95 rfl ?_
      exact g_jret (MWd_ok D ad cs) S hr hlk hw dX12_spanTold_96 (Option.some.inj hf) rfl
    have hf := itf hf h11
    by_cases h14 : x2 = (5 : Int32)
    · have hf := itt hf h14
      refine lv_tableIn (off := 84) (tgt := 97) S.1 S.2.1 dX12_spanTold_13 (by rw [h14]; decide) (by rw [h14]; decide) (by rw [h14]; rfl) (by decide) ?_
      refine lv_aload_n S.1 S.2.1 dX12_spanTold_97 rfl (lv_at hl 0 rfl) ?_
      refine lv_iload_n S.1 S.2.1 dX12_spanTold_98 rfl (lv_at hl 1 rfl) ?_
      obtain ⟨r15, g16, hf⟩ := bd_s hf
      refine g_Vi (rest := []) (MWd_ok D ad cs) S hw (tX12_near g16) kt_X12_144 0 me_0 rfl rfl ⟨Nat.le_of_ble_eq_true rfl, Nat.le_of_ble_eq_true rfl⟩ rfl hl.1 rfl (Nat.le_of_ble_eq_true rfl) ⟨Nat.zero_le _, Nat.zero_le _⟩ dX12_spanTold_99 (fun H locs hw => ?_)
      refine lv_bipush (v := 6) S.1 S.2.1 dX12_spanTold_102 (by decide) ?_
      refine lv_icmp_ge (tgt := 111) S.1 S.2.1 dX12_spanTold_104 (by decide) (fun hc => ?_) (fun hc => ?_)
      · have hf := itt hf hc
        refine lv_lconst (v := 0) S.1 S.2.1 dX12_spanTold_111 (by decide) ?_
        exact g_jret (MWd_ok D ad cs) S hr hlk hw dX12_spanTold_112 (Option.some.inj hf) rfl
      · have hf := itf hf hc
        refine lv_lconst (v := 1) S.1 S.2.1 dX12_spanTold_107 (by decide) ?_
        refine lv_goto (tgt := 112) S.1 S.2.1 dX12_spanTold_108 (by decide) ?_
        exact g_jret (MWd_ok D ad cs) S hr hlk hw dX12_spanTold_112 (Option.some.inj hf) rfl
    have hf := itf hf h14
    by_cases h17 : x2 = (6 : Int32)
    · have hf := itt hf h17
      refine lv_tableIn (off := 100) (tgt := 113) S.1 S.2.1 dX12_spanTold_13 (by rw [h17]; decide) (by rw [h17]; decide) (by rw [h17]; rfl) (by decide) ?_
      refine lv_aload_n S.1 S.2.1 dX12_spanTold_113 rfl (lv_at hl 0 rfl) ?_
      refine lv_iload_n S.1 S.2.1 dX12_spanTold_114 rfl (lv_at hl 1 rfl) ?_
      obtain ⟨r18, g19, hf⟩ := bd_s hf
      refine g_Vi (rest := []) (MWd_ok D ad cs) S hw (tX12_ends g19) kt_X12_147 0 me_0 rfl rfl ⟨Nat.le_of_ble_eq_true rfl, Nat.le_of_ble_eq_true rfl⟩ rfl hl.1 rfl (Nat.le_of_ble_eq_true rfl) ⟨Nat.zero_le _, Nat.zero_le _⟩ dX12_spanTold_115 (fun H locs hw => ?_)
      refine lv_i2l S.1 S.2.1 dX12_spanTold_118 rfl ?_
      exact g_jret (MWd_ok D ad cs) S hr hlk hw dX12_spanTold_119 (Option.some.inj hf) rfl
    have hf := itf hf h17
    by_cases h20 : x2 = (7 : Int32)
    · have hf := itt hf h20
      refine lv_tableIn (off := 107) (tgt := 120) S.1 S.2.1 dX12_spanTold_13 (by rw [h20]; decide) (by rw [h20]; decide) (by rw [h20]; rfl) (by decide) ?_
      refine lv_aload_n S.1 S.2.1 dX12_spanTold_120 rfl (lv_at hl 0 rfl) ?_
      refine mg_WayLeavesModel_asking S hw kf_X12_120 dX12_spanTold_121 ?_
      refine lv_iload_n S.1 S.2.1 dX12_spanTold_124 rfl (lv_at hl 1 rfl) ?_
      obtain ⟨h21, hf⟩ := gd_ix hf
      refine g_iald S hw 19 0 me_19 rfl h21 dX12_spanTold_125 ?_
      refine lv_i2l S.1 S.2.1 dX12_spanTold_126 rfl ?_
      exact g_jret (MWd_ok D ad cs) S hr hlk hw dX12_spanTold_127 (Option.some.inj hf) rfl
    have hf := itf hf h20
    refine lv_tableOut (tgt := 128) S.1 S.2.1 dX12_spanTold_13 (by have h1 := lv_neT h1 (a := 0) (by decide); have h3 := lv_neT h3 (a := 1) (by decide); have h5 := lv_neT h5 (a := 2) (by decide); have h8 := lv_neT h8 (a := 3) (by decide); have h11 := lv_neT h11 (a := 4) (by decide); have h14 := lv_neT h14 (a := 5) (by decide); have h17 := lv_neT h17 (a := 6) (by decide); have h20 := lv_neT h20 (a := 7) (by decide); omega) (by decide) ?_
    refine lv_ldc2 S.1 S.2.1 S.2.2.2.1 (S.2.2.2.2 _ kc_X12_142) dX12_spanTold_128 ?_
    exact g_jret (MWd_ok D ad cs) S hr hlk hw dX12_spanTold_131 (Option.some.inj hf) rfl
  · have hf := itt hf hc
    refine lv_ldc2 S.1 S.2.1 S.2.2.2.1 (S.2.2.2.2 _ kc_X12_142) dX12_spanTold_8 ?_
    exact g_jret (MWd_ok D ad cs) S hr hlk hw dX12_spanTold_11 (Option.some.inj hf) rfl
def fX12_isLeave (σ : St) (x1 : Int32) : Int32 :=
  if x1 < 0 then ((0 : Int32)) else (if (σ.1 4) ≤ x1 then ((0 : Int32)) else ((1 : Int32)))
set_option maxHeartbeats 2000000 in
set_option maxRecDepth 20000 in
theorem tX12_isLeave {r : Int32} {σ : St} {x1 : Int32} (hf : fX12_isLeave σ x1 = r) : CI l (MWd D ad cs) yX12_isLeave cX12_isLeave 2 (some .boolean) 0 0 [.ref (ad 0), .int x1] σ r σ := by
  refine CI.of (by decide) (Nat.le_of_ble_eq_true rfl) ?_
  intro p e s m below meth c ls S hr hlk hw hl
  have hl : lv_has ls 2 [(0, .ref (ad 0)), (1, .int x1)] := hl
  unfold fX12_isLeave at hf
  refine lv_iload_n S.1 S.2.1 dX12_isLeave_0 rfl (lv_at hl 1 rfl) ?_
  refine lv_if_lt (tgt := 16) S.1 S.2.1 dX12_isLeave_1 (by decide) (fun hc => ?_) (fun hc => ?_)
  · have hf := itt hf hc
    refine lv_iconst (v := 0) S.1 S.2.1 dX12_isLeave_16 (by decide) ?_
    exact g_zret (MWd_ok D ad cs) S hr hlk hw rfl dX12_isLeave_17 hf rfl
  · have hf := itf hf hc
    refine lv_iload_n S.1 S.2.1 dX12_isLeave_4 rfl (lv_at hl 1 rfl) ?_
    refine lv_aload_n S.1 S.2.1 dX12_isLeave_5 rfl (lv_at hl 0 rfl) ?_
    refine mg_WayLeavesModel_leaves S hw kf_X12_150 dX12_isLeave_6 ?_
    refine lv_icmp_ge (tgt := 16) S.1 S.2.1 dX12_isLeave_9 (by decide) (fun hc => ?_) (fun hc => ?_)
    · have hf := itt hf hc
      refine lv_iconst (v := 0) S.1 S.2.1 dX12_isLeave_16 (by decide) ?_
      exact g_zret (MWd_ok D ad cs) S hr hlk hw rfl dX12_isLeave_17 hf rfl
    · have hf := itf hf hc
      refine lv_iconst (v := 1) S.1 S.2.1 dX12_isLeave_12 (by decide) ?_
      refine lv_goto (tgt := 17) S.1 S.2.1 dX12_isLeave_13 (by decide) ?_
      exact g_zret (MWd_ok D ad cs) S hr hlk hw rfl dX12_isLeave_17 hf rfl
theorem zzX12_isLeave (σ : St) (x1 : Int32) : narrow .boolean (.int (fX12_isLeave σ x1)) = .int (fX12_isLeave σ x1) := by
  unfold fX12_isLeave
  repeat' split
  all_goals first | rfl
def fX12_leave_80 (N : Nat) (σ : St) (x1 : Int32) (x2 : Int32) (x3 : Int32) (x4 : Int32) (x5 : Int32) (y0 : Int32) : Option (Int32 × St) :=
  if y0 = 0 then (some ((-2 : Int32), σ)) else (if (σ.1 4) = (24 : Int32) then (some ((-4 : Int32), σ)) else (if ix (σ.1 4) 24 = true then nm (aW σ 22 (σ.1 4) x1) fun σ3 => if ix (σ3.1 4) 24 = true then nm (aW σ3 23 (σ3.1 4) x2) fun σ6 => if ix (σ6.1 4) 24 = true then nm (aW σ6 24 (σ6.1 4) x3) fun σ9 => if ix (σ9.1 4) 24 = true then nm (aW σ9 25 (σ9.1 4) x4) fun σ12 => if ix (σ12.1 4) 24 = true then nm (aW σ12 26 (σ12.1 4) x5) fun σ15 => if ix (σ15.1 4) 24 = true then nm (aW σ15 29 (σ15.1 4) (-1 : Int32)) fun σ18 => nm (sI σ18 4 ((σ18.1 4) + (1 : Int32))) fun σ20 => some (((σ20.1 4) - (1 : Int32)), σ20) else none else none else none else none else none else none))
set_option maxHeartbeats 2000000 in
set_option maxRecDepth 20000 in
theorem wX12_leave_80 {r : Int32} {σ' : St} {N : Nat} (S : CallFix p m c cX12_leave 7 s av BG RX12) (hr : meth.sig.returnType = some .int) (hlk : meth.locks = false)  {σ : St} {x1 : Int32} {x2 : Int32} {x3 : Int32} {x4 : Int32} {x5 : Int32} {y0 : Int32} {ls : Array Slot} {H : Heap} {locs : List Loc} (hw : Hw (MWd D ad cs) s σ H locs) (hl : lv_has ls 7 [(0, .ref (ad 0)), (1, .int x1), (2, .int x2), (3, .int x3), (4, .int x4), (5, .int x5)]) (hf : fX12_leave_80 N σ x1 x2 x3 x4 x5 y0 = some (r, σ')) : W p l e (RM 1 25) s m av below meth c H locs 0 0 (QI below (MWd D ad cs) av s r σ') (F0 m 80 ls [.int y0]) := by
  unfold fX12_leave_80 at hf
  refine lv_istore (lv' := [(6, .int y0), (0, .ref (ad 0)), (1, .int x1), (2, .int x2), (3, .int x3), (4, .int x4), (5, .int x5)]) S.1 S.2.1 dX12_leave_80 hl (by decide) rfl (fun ls hl => ?_)
  refine lv_iload S.1 S.2.1 dX12_leave_82 (lv_at hl 0 rfl) ?_
  refine lv_if_ne (tgt := 90) S.1 S.2.1 dX12_leave_84 (by decide) (fun hc => ?_) (fun hc => ?_)
  · have hf := itf hf hc
    refine lv_aload_n S.1 S.2.1 dX12_leave_90 rfl (lv_at hl 1 rfl) ?_
    refine mg_WayLeavesModel_leaves S hw kf_X12_150 dX12_leave_91 ?_
    refine lv_bipush (v := 24) S.1 S.2.1 dX12_leave_94 (by decide) ?_
    refine lv_icmp_ne (tgt := 102) S.1 S.2.1 dX12_leave_96 (by decide) (fun hc => ?_) (fun hc => ?_)
    · have hf := itf hf hc
      refine lv_aload_n S.1 S.2.1 dX12_leave_102 rfl (lv_at hl 1 rfl) ?_
      refine mg_WayLeavesModel_kindOf S hw kf_X12_163 dX12_leave_103 ?_
      refine lv_aload_n S.1 S.2.1 dX12_leave_106 rfl (lv_at hl 1 rfl) ?_
      refine mg_WayLeavesModel_leaves S hw kf_X12_150 dX12_leave_107 ?_
      refine lv_iload_n S.1 S.2.1 dX12_leave_110 rfl (lv_at hl 2 rfl) ?_
      obtain ⟨h2, hf⟩ := gd_ix hf
      obtain ⟨σ3, e4⟩ : ∃ z : St, z = aW σ 22 (σ.1 4) x1 := ⟨_, rfl⟩
      have hf := nm_s e4 hf
      refine g_iast (σ' := σ3) S hw 22 0 me_22 rfl (by rw [e4]; exact ms_22 _) h2 dX12_leave_111 (fun H locs hw => ?_)
      refine lv_aload_n S.1 S.2.1 dX12_leave_112 rfl (lv_at hl 1 rfl) ?_
      refine mg_WayLeavesModel_spanOf S hw kf_X12_160 dX12_leave_113 ?_
      refine lv_aload_n S.1 S.2.1 dX12_leave_116 rfl (lv_at hl 1 rfl) ?_
      refine mg_WayLeavesModel_leaves S hw kf_X12_150 dX12_leave_117 ?_
      refine lv_iload_n S.1 S.2.1 dX12_leave_120 rfl (lv_at hl 3 rfl) ?_
      obtain ⟨h5, hf⟩ := gd_ix hf
      obtain ⟨σ6, e7⟩ : ∃ z : St, z = aW σ3 23 (σ3.1 4) x2 := ⟨_, rfl⟩
      have hf := nm_s e7 hf
      refine g_iast (σ' := σ6) S hw 23 0 me_23 rfl (by rw [e7]; exact ms_23 _) h5 dX12_leave_121 (fun H locs hw => ?_)
      refine lv_aload_n S.1 S.2.1 dX12_leave_122 rfl (lv_at hl 1 rfl) ?_
      refine mg_WayLeavesModel_sumOf S hw kf_X12_166 dX12_leave_123 ?_
      refine lv_aload_n S.1 S.2.1 dX12_leave_126 rfl (lv_at hl 1 rfl) ?_
      refine mg_WayLeavesModel_leaves S hw kf_X12_150 dX12_leave_127 ?_
      refine lv_iload_n S.1 S.2.1 dX12_leave_130 rfl (lv_at hl 4 rfl) ?_
      obtain ⟨h8, hf⟩ := gd_ix hf
      obtain ⟨σ9, e10⟩ : ∃ z : St, z = aW σ6 24 (σ6.1 4) x3 := ⟨_, rfl⟩
      have hf := nm_s e10 hf
      refine g_iast (σ' := σ9) S hw 24 0 me_24 rfl (by rw [e10]; exact ms_24 _) h8 dX12_leave_131 (fun H locs hw => ?_)
      refine lv_aload_n S.1 S.2.1 dX12_leave_132 rfl (lv_at hl 1 rfl) ?_
      refine mg_WayLeavesModel_begins2 S hw kf_X12_169 dX12_leave_133 ?_
      refine lv_aload_n S.1 S.2.1 dX12_leave_136 rfl (lv_at hl 1 rfl) ?_
      refine mg_WayLeavesModel_leaves S hw kf_X12_150 dX12_leave_137 ?_
      refine lv_iload S.1 S.2.1 dX12_leave_140 (lv_at hl 5 rfl) ?_
      obtain ⟨h11, hf⟩ := gd_ix hf
      obtain ⟨σ12, e13⟩ : ∃ z : St, z = aW σ9 25 (σ9.1 4) x4 := ⟨_, rfl⟩
      have hf := nm_s e13 hf
      refine g_iast (σ' := σ12) S hw 25 0 me_25 rfl (by rw [e13]; exact ms_25 _) h11 dX12_leave_142 (fun H locs hw => ?_)
      refine lv_aload_n S.1 S.2.1 dX12_leave_143 rfl (lv_at hl 1 rfl) ?_
      refine mg_WayLeavesModel_hangsOn S hw kf_X12_172 dX12_leave_144 ?_
      refine lv_aload_n S.1 S.2.1 dX12_leave_147 rfl (lv_at hl 1 rfl) ?_
      refine mg_WayLeavesModel_leaves S hw kf_X12_150 dX12_leave_148 ?_
      refine lv_iload S.1 S.2.1 dX12_leave_151 (lv_at hl 6 rfl) ?_
      obtain ⟨h14, hf⟩ := gd_ix hf
      obtain ⟨σ15, e16⟩ : ∃ z : St, z = aW σ12 26 (σ12.1 4) x5 := ⟨_, rfl⟩
      have hf := nm_s e16 hf
      refine g_iast (σ' := σ15) S hw 26 0 me_26 rfl (by rw [e16]; exact ms_26 _) h14 dX12_leave_153 (fun H locs hw => ?_)
      refine lv_aload_n S.1 S.2.1 dX12_leave_154 rfl (lv_at hl 1 rfl) ?_
      refine mg_WayLeavesModel_undone S hw kf_X12_175 dX12_leave_155 ?_
      refine lv_aload_n S.1 S.2.1 dX12_leave_158 rfl (lv_at hl 1 rfl) ?_
      refine mg_WayLeavesModel_leaves S hw kf_X12_150 dX12_leave_159 ?_
      refine lv_iconst (v := -1) S.1 S.2.1 dX12_leave_162 (by decide) ?_
      obtain ⟨h17, hf⟩ := gd_ix hf
      obtain ⟨σ18, e19⟩ : ∃ z : St, z = aW σ15 29 (σ15.1 4) (-1 : Int32) := ⟨_, rfl⟩
      have hf := nm_s e19 hf
      refine g_iast (σ' := σ18) S hw 29 0 me_29 rfl (by rw [e19]; exact ms_29 _) h17 dX12_leave_163 (fun H locs hw => ?_)
      refine lv_aload_n S.1 S.2.1 dX12_leave_164 rfl (lv_at hl 1 rfl) ?_
      refine lv_dup S.1 S.2.1 dX12_leave_165 rfl ?_
      refine mg_WayLeavesModel_leaves S hw kf_X12_150 dX12_leave_166 ?_
      refine lv_iconst (v := 1) S.1 S.2.1 dX12_leave_169 (by decide) ?_
      refine lv_iadd S.1 S.2.1 dX12_leave_170 ?_
      obtain ⟨σ20, e21⟩ : ∃ z : St, z = sI σ18 4 ((σ18.1 4) + (1 : Int32)) := ⟨_, rfl⟩
      have hf := nm_s e21 hf
      refine mp_WayLeavesModel_leaves S hw e21 kf_X12_150 dX12_leave_171 (fun H locs hw => ?_)
      refine lv_aload_n S.1 S.2.1 dX12_leave_174 rfl (lv_at hl 1 rfl) ?_
      refine mg_WayLeavesModel_leaves S hw kf_X12_150 dX12_leave_175 ?_
      refine lv_iconst (v := 1) S.1 S.2.1 dX12_leave_178 (by decide) ?_
      refine lv_isub S.1 S.2.1 dX12_leave_179 ?_
      exact g_iret (MWd_ok D ad cs) S hr hlk hw dX12_leave_180 (Prod.mk.inj (Option.some.inj hf)).1 (Prod.mk.inj (Option.some.inj hf)).2
    · have hf := itt hf hc
      refine lv_bipush (v := -4) S.1 S.2.1 dX12_leave_99 (by decide) ?_
      exact g_iret (MWd_ok D ad cs) S hr hlk hw dX12_leave_101 (Prod.mk.inj (Option.some.inj hf)).1 (Prod.mk.inj (Option.some.inj hf)).2
  · have hf := itt hf hc
    refine lv_bipush (v := -2) S.1 S.2.1 dX12_leave_87 (by decide) ?_
    exact g_iret (MWd_ok D ad cs) S hr hlk hw dX12_leave_89 (Prod.mk.inj (Option.some.inj hf)).1 (Prod.mk.inj (Option.some.inj hf)).2
def fX12_leave_79 (N : Nat) (σ : St) (x1 : Int32) (x2 : Int32) (x3 : Int32) (x4 : Int32) (x5 : Int32) : Option (Int32 × St) :=
  fX12_leave_80 N σ x1 x2 x3 x4 x5 (0 : Int32)
set_option maxHeartbeats 2000000 in
set_option maxRecDepth 20000 in
theorem wX12_leave_79 {r : Int32} {σ' : St} {N : Nat} (S : CallFix p m c cX12_leave 7 s av BG RX12) (hr : meth.sig.returnType = some .int) (hlk : meth.locks = false)  {σ : St} {x1 : Int32} {x2 : Int32} {x3 : Int32} {x4 : Int32} {x5 : Int32} {ls : Array Slot} {H : Heap} {locs : List Loc} (hw : Hw (MWd D ad cs) s σ H locs) (hl : lv_has ls 7 [(0, .ref (ad 0)), (1, .int x1), (2, .int x2), (3, .int x3), (4, .int x4), (5, .int x5)]) (hf : fX12_leave_79 N σ x1 x2 x3 x4 x5 = some (r, σ')) : W p l e (RM 1 25) s m av below meth c H locs 0 0 (QI below (MWd D ad cs) av s r σ') (F0 m 79 ls []) := by
  unfold fX12_leave_79 at hf
  refine lv_iconst (v := 0) S.1 S.2.1 dX12_leave_79 (by decide) ?_
  exact wX12_leave_80 S hr hlk hw (lv_sub hl [0, 1, 2, 3, 4, 5] rfl) hf
def fX12_leave_75 (N : Nat) (σ : St) (x1 : Int32) (x2 : Int32) (x3 : Int32) (x4 : Int32) (x5 : Int32) : Option (Int32 × St) :=
  fX12_leave_80 N σ x1 x2 x3 x4 x5 (1 : Int32)
set_option maxHeartbeats 2000000 in
set_option maxRecDepth 20000 in
theorem wX12_leave_75 {r : Int32} {σ' : St} {N : Nat} (S : CallFix p m c cX12_leave 7 s av BG RX12) (hr : meth.sig.returnType = some .int) (hlk : meth.locks = false)  {σ : St} {x1 : Int32} {x2 : Int32} {x3 : Int32} {x4 : Int32} {x5 : Int32} {ls : Array Slot} {H : Heap} {locs : List Loc} (hw : Hw (MWd D ad cs) s σ H locs) (hl : lv_has ls 7 [(0, .ref (ad 0)), (1, .int x1), (2, .int x2), (3, .int x3), (4, .int x4), (5, .int x5)]) (hf : fX12_leave_75 N σ x1 x2 x3 x4 x5 = some (r, σ')) : W p l e (RM 1 25) s m av below meth c H locs 0 0 (QI below (MWd D ad cs) av s r σ') (F0 m 75 ls []) := by
  unfold fX12_leave_75 at hf
  refine lv_iconst (v := 1) S.1 S.2.1 dX12_leave_75 (by decide) ?_
  refine lv_goto (tgt := 80) S.1 S.2.1 dX12_leave_76 (by decide) ?_
  exact wX12_leave_80 S hr hlk hw (lv_sub hl [0, 1, 2, 3, 4, 5] rfl) hf
def fX12_leave (N : Nat) (σ : St) (x1 : Int32) (x2 : Int32) (x3 : Int32) (x4 : Int32) (x5 : Int32) : Option (Int32 × St) :=
  if (fX12_isIn (x1).toInt64 (0 : Int64) (5 : Int64)) = 0 then (fX12_leave_79 N σ x1 x2 x3 x4 x5) else (if (fX12_isSpan σ x2) = 0 then (fX12_leave_79 N σ x1 x2 x3 x4 x5) else (if (fX12_isIn (x3).toInt64 (0 : Int64) (99999 : Int64)) = 0 then (fX12_leave_79 N σ x1 x2 x3 x4 x5) else (if (fX12_isIn (x4).toInt64 ((σ.1 0)).toInt64 (9999 : Int64)) = 0 then (fX12_leave_79 N σ x1 x2 x3 x4 x5) else (if x5 = (-1 : Int32) then (fX12_leave_75 N σ x1 x2 x3 x4 x5) else (if (fX12_isLeave σ x5) = 0 then (fX12_leave_79 N σ x1 x2 x3 x4 x5) else (if ix x5 24 = true then if (aR σ 23 x5) = x2 then (fX12_leave_75 N σ x1 x2 x3 x4 x5) else (fX12_leave_79 N σ x1 x2 x3 x4 x5) else none))))))
set_option maxHeartbeats 2000000 in
set_option maxRecDepth 20000 in
theorem tX12_leave {r : Int32} {σ' : St} {N : Nat} {σ : St} {x1 : Int32} {x2 : Int32} {x3 : Int32} {x4 : Int32} {x5 : Int32} (hf : fX12_leave N σ x1 x2 x3 x4 x5 = some (r, σ')) : CI l (MWd D ad cs) yX12_leave cX12_leave 7 (some .int) 1 25 [.ref (ad 0), .int x1, .int x2, .int x3, .int x4, .int x5] σ r σ' := by
  refine CI.of (by decide) (Nat.le_of_ble_eq_true rfl) ?_
  intro p e s m below meth c ls S hr hlk hw hl
  have hl : lv_has ls 7 [(0, .ref (ad 0)), (1, .int x1), (2, .int x2), (3, .int x3), (4, .int x4), (5, .int x5)] := hl
  unfold fX12_leave at hf
  refine lv_iload_n S.1 S.2.1 dX12_leave_0 rfl (lv_at hl 1 rfl) ?_
  refine lv_i2l S.1 S.2.1 dX12_leave_1 rfl ?_
  refine lv_lconst (v := 0) S.1 S.2.1 dX12_leave_2 (by decide) ?_
  refine lv_ldc2 S.1 S.2.1 S.2.2.2.1 (S.2.2.2.2 _ kc_X12_153) dX12_leave_3 ?_
  refine g_Si (rest := []) (MWd_ok D ad cs) S hw (tX12_isIn (ad := ad) (cs := cs) (σ := σ) rfl) kt_X12_5 ⟨Nat.le_of_ble_eq_true rfl, Nat.le_of_ble_eq_true rfl⟩ rfl hl.1 rfl (Nat.le_of_ble_eq_true rfl) ⟨Nat.zero_le _, Nat.zero_le _⟩ dX12_leave_6 (fun H locs hw => ?_)
  refine lv_if_eq (tgt := 79) S.1 S.2.1 dX12_leave_9 (by decide) (fun hc => ?_) (fun hc => ?_)
  · have hf := itt hf hc
    exact wX12_leave_79 S hr hlk hw (lv_sub hl [0, 1, 2, 3, 4, 5] rfl) hf
  · have hf := itf hf hc
    refine lv_aload_n S.1 S.2.1 dX12_leave_12 rfl (lv_at hl 0 rfl) ?_
    refine lv_iload_n S.1 S.2.1 dX12_leave_13 rfl (lv_at hl 2 rfl) ?_
    refine g_Vi (rest := []) (MWd_ok D ad cs) S hw (tX12_isSpan (ad := ad) (cs := cs) (σ := σ) rfl) kt_X12_123 0 me_0 rfl rfl ⟨Nat.le_of_ble_eq_true rfl, Nat.le_of_ble_eq_true rfl⟩ rfl hl.1 rfl (Nat.le_of_ble_eq_true rfl) ⟨Nat.zero_le _, Nat.zero_le _⟩ dX12_leave_14 (fun H locs hw => ?_)
    refine lv_if_eq (tgt := 79) S.1 S.2.1 dX12_leave_17 (by decide) (fun hc => ?_) (fun hc => ?_)
    · have hf := itt hf hc
      exact wX12_leave_79 S hr hlk hw (lv_sub hl [0, 1, 2, 3, 4, 5] rfl) hf
    · have hf := itf hf hc
      refine lv_iload_n S.1 S.2.1 dX12_leave_20 rfl (lv_at hl 3 rfl) ?_
      refine lv_i2l S.1 S.2.1 dX12_leave_21 rfl ?_
      refine lv_lconst (v := 0) S.1 S.2.1 dX12_leave_22 (by decide) ?_
      refine lv_ldc2 S.1 S.2.1 S.2.2.2.1 (S.2.2.2.2 _ kc_X12_155) dX12_leave_23 ?_
      refine g_Si (rest := []) (MWd_ok D ad cs) S hw (tX12_isIn (ad := ad) (cs := cs) (σ := σ) rfl) kt_X12_5 ⟨Nat.le_of_ble_eq_true rfl, Nat.le_of_ble_eq_true rfl⟩ rfl hl.1 rfl (Nat.le_of_ble_eq_true rfl) ⟨Nat.zero_le _, Nat.zero_le _⟩ dX12_leave_26 (fun H locs hw => ?_)
      refine lv_if_eq (tgt := 79) S.1 S.2.1 dX12_leave_29 (by decide) (fun hc => ?_) (fun hc => ?_)
      · have hf := itt hf hc
        exact wX12_leave_79 S hr hlk hw (lv_sub hl [0, 1, 2, 3, 4, 5] rfl) hf
      · have hf := itf hf hc
        refine lv_iload S.1 S.2.1 dX12_leave_32 (lv_at hl 4 rfl) ?_
        refine lv_i2l S.1 S.2.1 dX12_leave_34 rfl ?_
        refine lv_aload_n S.1 S.2.1 dX12_leave_35 rfl (lv_at hl 0 rfl) ?_
        refine mg_WayLeavesModel_today S hw kf_X12_15 dX12_leave_36 ?_
        refine lv_i2l S.1 S.2.1 dX12_leave_39 rfl ?_
        refine lv_ldc2 S.1 S.2.1 S.2.2.2.1 (S.2.2.2.2 _ kc_X12_3) dX12_leave_40 ?_
        refine g_Si (rest := []) (MWd_ok D ad cs) S hw (tX12_isIn (ad := ad) (cs := cs) (σ := σ) rfl) kt_X12_5 ⟨Nat.le_of_ble_eq_true rfl, Nat.le_of_ble_eq_true rfl⟩ rfl hl.1 rfl (Nat.le_of_ble_eq_true rfl) ⟨Nat.zero_le _, Nat.zero_le _⟩ dX12_leave_43 (fun H locs hw => ?_)
        refine lv_if_eq (tgt := 79) S.1 S.2.1 dX12_leave_46 (by decide) (fun hc => ?_) (fun hc => ?_)
        · have hf := itt hf hc
          exact wX12_leave_79 S hr hlk hw (lv_sub hl [0, 1, 2, 3, 4, 5] rfl) hf
        · have hf := itf hf hc
          refine lv_iload S.1 S.2.1 dX12_leave_49 (lv_at hl 5 rfl) ?_
          refine lv_iconst (v := -1) S.1 S.2.1 dX12_leave_51 (by decide) ?_
          refine lv_icmp_eq (tgt := 75) S.1 S.2.1 dX12_leave_52 (by decide) (fun hc => ?_) (fun hc => ?_)
          · have hf := itt hf hc
            exact wX12_leave_75 S hr hlk hw (lv_sub hl [0, 1, 2, 3, 4, 5] rfl) hf
          · have hf := itf hf hc
            refine lv_aload_n S.1 S.2.1 dX12_leave_55 rfl (lv_at hl 0 rfl) ?_
            refine lv_iload S.1 S.2.1 dX12_leave_56 (lv_at hl 5 rfl) ?_
            refine g_Vi (rest := []) (MWd_ok D ad cs) S hw (tX12_isLeave (ad := ad) (cs := cs) (σ := σ) rfl) kt_X12_157 0 me_0 rfl rfl ⟨Nat.le_of_ble_eq_true rfl, Nat.le_of_ble_eq_true rfl⟩ rfl hl.1 rfl (Nat.le_of_ble_eq_true rfl) ⟨Nat.zero_le _, Nat.zero_le _⟩ dX12_leave_58 (fun H locs hw => ?_)
            refine lv_if_eq (tgt := 79) S.1 S.2.1 dX12_leave_61 (by decide) (fun hc => ?_) (fun hc => ?_)
            · have hf := itt hf hc
              exact wX12_leave_79 S hr hlk hw (lv_sub hl [0, 1, 2, 3, 4, 5] rfl) hf
            · have hf := itf hf hc
              refine lv_aload_n S.1 S.2.1 dX12_leave_64 rfl (lv_at hl 0 rfl) ?_
              refine mg_WayLeavesModel_spanOf S hw kf_X12_160 dX12_leave_65 ?_
              refine lv_iload S.1 S.2.1 dX12_leave_68 (lv_at hl 5 rfl) ?_
              obtain ⟨h1, hf⟩ := gd_ix hf
              refine g_iald S hw 23 0 me_23 rfl h1 dX12_leave_70 ?_
              refine lv_iload_n S.1 S.2.1 dX12_leave_71 rfl (lv_at hl 2 rfl) ?_
              refine lv_icmp_ne (tgt := 79) S.1 S.2.1 dX12_leave_72 (by decide) (fun hc => ?_) (fun hc => ?_)
              · have hf := itf hf hc
                exact wX12_leave_79 S hr hlk hw (lv_sub hl [0, 1, 2, 3, 4, 5] rfl) hf
              · have hf := itt hf hc
                exact wX12_leave_75 S hr hlk hw (lv_sub hl [0, 1, 2, 3, 4, 5] rfl) hf
def fX12_yearlyOf (N : Nat) (σ : St) (x1 : Int32) : Option Int32 :=
  if ix x1 24 = true then nm ((aR σ 24 x1) / (15 : Int32)) fun v2 => if ix x1 24 = true then nm (aR σ 22 x1) fun v5 => if v5 = (0 : Int32) then (some v2) else (if v5 = (1 : Int32) then (some (0 : Int32)) else (if v5 = (2 : Int32) then (some ((2 : Int32) * v2)) else (if v5 = (3 : Int32) then (if ix x1 24 = true then some ((aR σ 24 x1) / (100 : Int32)) else none) else (if v5 = (4 : Int32) then (some (((2 : Int32) * v2) / (2 : Int32))) else (some ((2 : Int32) * v2)))))) else none else none
set_option maxHeartbeats 2000000 in
set_option maxRecDepth 20000 in
theorem tX12_yearlyOf {r : Int32} {N : Nat} {σ : St} {x1 : Int32} (hf : fX12_yearlyOf N σ x1 = some r) : CI l (MWd D ad cs) yX12_yearlyOf cX12_yearlyOf 3 (some .int) 0 0 [.ref (ad 0), .int x1] σ r σ := by
  refine CI.of (by decide) (Nat.le_of_ble_eq_true rfl) ?_
  intro p e s m below meth c ls S hr hlk hw hl
  have hl : lv_has ls 3 [(0, .ref (ad 0)), (1, .int x1)] := hl
  unfold fX12_yearlyOf at hf
  refine lv_aload_n S.1 S.2.1 dX12_yearlyOf_0 rfl (lv_at hl 0 rfl) ?_
  refine mg_WayLeavesModel_sumOf S hw kf_X12_166 dX12_yearlyOf_1 ?_
  refine lv_iload_n S.1 S.2.1 dX12_yearlyOf_4 rfl (lv_at hl 1 rfl) ?_
  obtain ⟨h1, hf⟩ := gd_ix hf
  refine g_iald S hw 24 0 me_24 rfl h1 dX12_yearlyOf_5 ?_
  refine lv_bipush (v := 15) S.1 S.2.1 dX12_yearlyOf_6 (by decide) ?_
  refine lv_idiv S.1 S.2.1 dX12_yearlyOf_8 (by decide) ?_
  refine lv_topi (fun v2 e3 => ?_)
  have hf := nm_s e3 hf
  refine lv_istore_n (lv' := [(2, .int v2), (0, .ref (ad 0)), (1, .int x1)]) S.1 S.2.1 dX12_yearlyOf_9 rfl hl (by decide) rfl (fun ls hl => ?_)
  refine lv_aload_n S.1 S.2.1 dX12_yearlyOf_10 rfl (lv_at hl 1 rfl) ?_
  refine mg_WayLeavesModel_kindOf S hw kf_X12_163 dX12_yearlyOf_11 ?_
  refine lv_iload_n S.1 S.2.1 dX12_yearlyOf_14 rfl (lv_at hl 2 rfl) ?_
  obtain ⟨h4, hf⟩ := gd_ix hf
  refine g_iald S hw 22 0 me_22 rfl h4 dX12_yearlyOf_15 ?_
  refine lv_topi (fun v5 e6 => ?_)
  have hf := nm_s e6 hf
  by_cases h7 : v5 = (0 : Int32)
  · have hf := itt hf h7
    refine lv_tableIn (off := 36) (tgt := 52) S.1 S.2.1 dX12_yearlyOf_16 (by rw [h7]; decide) (by rw [h7]; decide) (by rw [h7]; rfl) (by decide) ?_
    refine lv_iload_n S.1 S.2.1 dX12_yearlyOf_52 rfl (lv_at hl 0 rfl) ?_
    exact g_iret (MWd_ok D ad cs) S hr hlk hw dX12_yearlyOf_53 (Option.some.inj hf) rfl
  have hf := itf hf h7
  by_cases h8 : v5 = (1 : Int32)
  · have hf := itt hf h8
    refine lv_tableIn (off := 38) (tgt := 54) S.1 S.2.1 dX12_yearlyOf_16 (by rw [h8]; decide) (by rw [h8]; decide) (by rw [h8]; rfl) (by decide) ?_
    refine lv_iconst (v := 0) S.1 S.2.1 dX12_yearlyOf_54 (by decide) ?_
    exact g_iret (MWd_ok D ad cs) S hr hlk hw dX12_yearlyOf_55 (Option.some.inj hf) rfl
  have hf := itf hf h8
  by_cases h9 : v5 = (2 : Int32)
  · have hf := itt hf h9
    refine lv_tableIn (off := 56) (tgt := 72) S.1 S.2.1 dX12_yearlyOf_16 (by rw [h9]; decide) (by rw [h9]; decide) (by rw [h9]; rfl) (by decide) ?_
    refine lv_iconst (v := 2) S.1 S.2.1 dX12_yearlyOf_72 (by decide) ?_
    refine lv_iload_n S.1 S.2.1 dX12_yearlyOf_73 rfl (lv_at hl 0 rfl) ?_
    refine lv_imul S.1 S.2.1 dX12_yearlyOf_74 ?_
    exact g_iret (MWd_ok D ad cs) S hr hlk hw dX12_yearlyOf_75 (Option.some.inj hf) rfl
  have hf := itf hf h9
  by_cases h10 : v5 = (3 : Int32)
  · have hf := itt hf h10
    refine lv_tableIn (off := 40) (tgt := 56) S.1 S.2.1 dX12_yearlyOf_16 (by rw [h10]; decide) (by rw [h10]; decide) (by rw [h10]; rfl) (by decide) ?_
    refine lv_aload_n S.1 S.2.1 dX12_yearlyOf_56 rfl (lv_at hl 1 rfl) ?_
    refine mg_WayLeavesModel_sumOf S hw kf_X12_166 dX12_yearlyOf_57 ?_
    refine lv_iload_n S.1 S.2.1 dX12_yearlyOf_60 rfl (lv_at hl 2 rfl) ?_
    obtain ⟨h11, hf⟩ := gd_ix hf
    refine g_iald S hw 24 0 me_24 rfl h11 dX12_yearlyOf_61 ?_
    refine lv_bipush (v := 100) S.1 S.2.1 dX12_yearlyOf_62 (by decide) ?_
    refine lv_idiv S.1 S.2.1 dX12_yearlyOf_64 (by decide) ?_
    exact g_iret (MWd_ok D ad cs) S hr hlk hw dX12_yearlyOf_65 (Option.some.inj hf) rfl
  have hf := itf hf h10
  by_cases h12 : v5 = (4 : Int32)
  · have hf := itt hf h12
    refine lv_tableIn (off := 50) (tgt := 66) S.1 S.2.1 dX12_yearlyOf_16 (by rw [h12]; decide) (by rw [h12]; decide) (by rw [h12]; rfl) (by decide) ?_
    refine lv_iconst (v := 2) S.1 S.2.1 dX12_yearlyOf_66 (by decide) ?_
    refine lv_iload_n S.1 S.2.1 dX12_yearlyOf_67 rfl (lv_at hl 0 rfl) ?_
    refine lv_imul S.1 S.2.1 dX12_yearlyOf_68 ?_
    refine lv_iconst (v := 2) S.1 S.2.1 dX12_yearlyOf_69 (by decide) ?_
    refine lv_idiv S.1 S.2.1 dX12_yearlyOf_70 (by decide) ?_
    exact g_iret (MWd_ok D ad cs) S hr hlk hw dX12_yearlyOf_71 (Option.some.inj hf) rfl
  have hf := itf hf h12
  refine lv_tableOut (tgt := 72) S.1 S.2.1 dX12_yearlyOf_16 (by have h7 := lv_neT h7 (a := 0) (by decide); have h8 := lv_neT h8 (a := 1) (by decide); have h9 := lv_neT h9 (a := 2) (by decide); have h10 := lv_neT h10 (a := 3) (by decide); have h12 := lv_neT h12 (a := 4) (by decide); omega) (by decide) ?_
  refine lv_iconst (v := 2) S.1 S.2.1 dX12_yearlyOf_72 (by decide) ?_
  refine lv_iload_n S.1 S.2.1 dX12_yearlyOf_73 rfl (lv_at hl 0 rfl) ?_
  refine lv_imul S.1 S.2.1 dX12_yearlyOf_74 ?_
  exact g_iret (MWd_ok D ad cs) S hr hlk hw dX12_yearlyOf_75 (Option.some.inj hf) rfl
end METH
