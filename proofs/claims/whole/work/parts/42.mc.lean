/-! METHODS (printed by wip/whole/emit.py) -/
section METH
variable {p : Program} {l : Launch} {e : Env} {s : State} {m : MethodId} {av : Array Value} {below : List Frame} {meth : Method} {c : Code} {D : va_G} {ad : Nat → Nat} {cs : Nat → ClassId} {ts adK adV : Nat → Nat}
def fX12_closes (N : Nat) (σ : St) : Option (Int32 × St) :=
  if (fX12_isSign σ (41 : Int32)) = 0 then (some ((0 : Int32), σ)) else (if (σ.1 14) = 0 then (some ((0 : Int32), σ)) else (bd (fX12_doAll N σ (1 : Int32)) fun σ1 => nm (sI σ1 12 ((σ1.1 12) - (1 : Int32))) fun σ3 => nm (sI σ3 14 ((σ3.1 14) - (1 : Int32))) fun σ5 => nm (sI σ5 13 ((σ5.1 13) - (1 : Int32))) fun σ7 => bd (fX12_doAll N σ7 (7 : Int32)) fun σ9 => some ((1 : Int32), σ9)))
set_option maxHeartbeats 2000000 in
set_option maxRecDepth 20000 in
theorem tX12_closes {r : Int32} {σ' : St} {N : Nat} {σ : St} (hf : fX12_closes N σ = some (r, σ')) : CI l (MWd D ad cs) yX12_closes cX12_closes 1 (some .boolean) 2 42 [.ref (ad 0)] σ r σ' := by
  refine CI.of (by decide) (Nat.le_of_ble_eq_true rfl) ?_
  intro p e s m below meth c ls S hr hlk hw hl
  have hl : lv_has ls 1 [(0, .ref (ad 0))] := hl
  unfold fX12_closes at hf
  refine lv_aload_n S.1 S.2.1 dX12_closes_0 rfl (lv_at hl 0 rfl) ?_
  refine lv_bipush (v := 41) S.1 S.2.1 dX12_closes_1 (by decide) ?_
  refine g_Vi (rest := []) (MWd_ok D ad cs) S hw (tX12_isSign (ad := ad) (cs := cs) (σ := σ) rfl) kt_X12_291 0 me_0 rfl rfl ⟨Nat.le_of_ble_eq_true rfl, Nat.le_of_ble_eq_true rfl⟩ rfl hl.1 rfl (Nat.le_of_ble_eq_true rfl) ⟨Nat.zero_le _, Nat.zero_le _⟩ dX12_closes_3 (fun H locs hw => ?_)
  refine lv_if_eq (tgt := 16) S.1 S.2.1 dX12_closes_6 (by decide) (fun hc => ?_) (fun hc => ?_)
  · have hf := itt hf hc
    refine lv_iconst (v := 0) S.1 S.2.1 dX12_closes_16 (by decide) ?_
    exact g_zret (MWd_ok D ad cs) S hr hlk hw rfl dX12_closes_17 (Prod.mk.inj (Option.some.inj hf)).1 (Prod.mk.inj (Option.some.inj hf)).2
  · have hf := itf hf hc
    refine lv_aload_n S.1 S.2.1 dX12_closes_9 rfl (lv_at hl 0 rfl) ?_
    refine mg_WayLeavesModel_depth S hw kf_X12_300 dX12_closes_10 ?_
    refine lv_if_ne (tgt := 18) S.1 S.2.1 dX12_closes_13 (by decide) (fun hc => ?_) (fun hc => ?_)
    · have hf := itf hf hc
      refine lv_aload_n S.1 S.2.1 dX12_closes_18 rfl (lv_at hl 0 rfl) ?_
      refine lv_iconst (v := 1) S.1 S.2.1 dX12_closes_19 (by decide) ?_
      obtain ⟨σ1, g2, hf⟩ := bd_s hf
      refine g_Vv (rest := []) (MWd_ok D ad cs) S hw (tX12_doAll g2) kt_X12_303 0 me_0 rfl rfl ⟨Nat.le_of_ble_eq_true rfl, Nat.le_of_ble_eq_true rfl⟩ rfl hl.1 rfl (Nat.le_of_ble_eq_true rfl) ⟨Nat.zero_le _, Nat.zero_le _⟩ dX12_closes_20 (fun H locs hw => ?_)
      refine lv_aload_n S.1 S.2.1 dX12_closes_23 rfl (lv_at hl 0 rfl) ?_
      refine lv_dup S.1 S.2.1 dX12_closes_24 rfl ?_
      refine mg_WayLeavesModel_waiting S hw kf_X12_275 dX12_closes_25 ?_
      refine lv_iconst (v := 1) S.1 S.2.1 dX12_closes_28 (by decide) ?_
      refine lv_isub S.1 S.2.1 dX12_closes_29 ?_
      obtain ⟨σ3, e4⟩ : ∃ z : St, z = sI σ1 12 ((σ1.1 12) - (1 : Int32)) := ⟨_, rfl⟩
      have hf := nm_s e4 hf
      refine mp_WayLeavesModel_waiting S hw e4 kf_X12_275 dX12_closes_30 (fun H locs hw => ?_)
      refine lv_aload_n S.1 S.2.1 dX12_closes_33 rfl (lv_at hl 0 rfl) ?_
      refine lv_dup S.1 S.2.1 dX12_closes_34 rfl ?_
      refine mg_WayLeavesModel_depth S hw kf_X12_300 dX12_closes_35 ?_
      refine lv_iconst (v := 1) S.1 S.2.1 dX12_closes_38 (by decide) ?_
      refine lv_isub S.1 S.2.1 dX12_closes_39 ?_
      obtain ⟨σ5, e6⟩ : ∃ z : St, z = sI σ3 14 ((σ3.1 14) - (1 : Int32)) := ⟨_, rfl⟩
      have hf := nm_s e6 hf
      refine mp_WayLeavesModel_depth S hw e6 kf_X12_300 dX12_closes_40 (fun H locs hw => ?_)
      refine lv_aload_n S.1 S.2.1 dX12_closes_43 rfl (lv_at hl 0 rfl) ?_
      refine lv_dup S.1 S.2.1 dX12_closes_44 rfl ?_
      refine mg_WayLeavesModel_open S hw kf_X12_284 dX12_closes_45 ?_
      refine lv_iconst (v := 1) S.1 S.2.1 dX12_closes_48 (by decide) ?_
      refine lv_isub S.1 S.2.1 dX12_closes_49 ?_
      obtain ⟨σ7, e8⟩ : ∃ z : St, z = sI σ5 13 ((σ5.1 13) - (1 : Int32)) := ⟨_, rfl⟩
      have hf := nm_s e8 hf
      refine mp_WayLeavesModel_open S hw e8 kf_X12_284 dX12_closes_50 (fun H locs hw => ?_)
      refine lv_aload_n S.1 S.2.1 dX12_closes_53 rfl (lv_at hl 0 rfl) ?_
      refine lv_bipush (v := 7) S.1 S.2.1 dX12_closes_54 (by decide) ?_
      obtain ⟨σ9, g10, hf⟩ := bd_s hf
      refine g_Vv (rest := []) (MWd_ok D ad cs) S hw (tX12_doAll g10) kt_X12_303 0 me_0 rfl rfl ⟨Nat.le_of_ble_eq_true rfl, Nat.le_of_ble_eq_true rfl⟩ rfl hl.1 rfl (Nat.le_of_ble_eq_true rfl) ⟨Nat.zero_le _, Nat.zero_le _⟩ dX12_closes_56 (fun H locs hw => ?_)
      refine lv_iconst (v := 1) S.1 S.2.1 dX12_closes_59 (by decide) ?_
      exact g_zret (MWd_ok D ad cs) S hr hlk hw rfl dX12_closes_60 (Prod.mk.inj (Option.some.inj hf)).1 (Prod.mk.inj (Option.some.inj hf)).2
    · have hf := itt hf hc
      refine lv_iconst (v := 0) S.1 S.2.1 dX12_closes_16 (by decide) ?_
      exact g_zret (MWd_ok D ad cs) S hr hlk hw rfl dX12_closes_17 (Prod.mk.inj (Option.some.inj hf)).1 (Prod.mk.inj (Option.some.inj hf)).2
def fX12_ahead_35 (N : Nat) (σ : St) (y0 : Int32) : Option (Int32 × St) :=
  if y0 = 0 then (some ((0 : Int32), σ)) else (if (σ.1 13) = (5 : Int32) then (some ((0 : Int32), σ)) else (nm (sI σ 13 ((σ.1 13) + (1 : Int32))) fun σ1 => if (fX12_isSign σ1 (40 : Int32)) = 0 then (if (σ1.1 9) = (4 : Int32) then (bd (fX12_await N σ1 (13 : Int32)) fun σ5 => some ((1 : Int32), σ5)) else (bd (fX12_await N σ1 (14 : Int32)) fun σ3 => some ((1 : Int32), σ3))) else (bd (fX12_await N σ1 (15 : Int32)) fun σ7 => nm (sI σ7 14 ((σ7.1 14) + (1 : Int32))) fun σ9 => if ix (σ9.1 14) 8 = true then nm (aW σ9 37 (σ9.1 14) (vp_nar .boolean (0 : Int32))) fun σ12 => some ((1 : Int32), σ12) else none)))
set_option maxHeartbeats 2000000 in
set_option maxRecDepth 20000 in
theorem wX12_ahead_35 {r : Int32} {σ' : St} {N : Nat} (S : CallFix p m c cX12_ahead 3 s av BG RX12) (hr : meth.sig.returnType = some .boolean) (hlk : meth.locks = false)  {σ : St} {y0 : Int32} {ls : Array Slot} {H : Heap} {locs : List Loc} (hw : Hw (MWd D ad cs) s σ H locs) (hl : lv_has ls 3 [(0, .ref (ad 0))]) (hf : fX12_ahead_35 N σ y0 = some (r, σ')) : W p l e (RM 1 21) s m av below meth c H locs 0 0 (QI below (MWd D ad cs) av s r σ') (F0 m 35 ls [.int y0]) := by
  unfold fX12_ahead_35 at hf
  refine lv_istore_n (lv' := [(2, .int y0), (0, .ref (ad 0))]) S.1 S.2.1 dX12_ahead_35 rfl hl (by decide) rfl (fun ls hl => ?_)
  refine lv_iload_n S.1 S.2.1 dX12_ahead_36 rfl (lv_at hl 0 rfl) ?_
  refine lv_if_eq (tgt := 48) S.1 S.2.1 dX12_ahead_37 (by decide) (fun hc => ?_) (fun hc => ?_)
  · have hf := itt hf hc
    refine lv_iconst (v := 0) S.1 S.2.1 dX12_ahead_48 (by decide) ?_
    exact g_zret (MWd_ok D ad cs) S hr hlk hw rfl dX12_ahead_49 (Prod.mk.inj (Option.some.inj hf)).1 (Prod.mk.inj (Option.some.inj hf)).2
  · have hf := itf hf hc
    refine lv_aload_n S.1 S.2.1 dX12_ahead_40 rfl (lv_at hl 1 rfl) ?_
    refine mg_WayLeavesModel_open S hw kf_X12_284 dX12_ahead_41 ?_
    refine lv_iconst (v := 5) S.1 S.2.1 dX12_ahead_44 (by decide) ?_
    refine lv_icmp_ne (tgt := 50) S.1 S.2.1 dX12_ahead_45 (by decide) (fun hc => ?_) (fun hc => ?_)
    · have hf := itf hf hc
      refine lv_aload_n S.1 S.2.1 dX12_ahead_50 rfl (lv_at hl 1 rfl) ?_
      refine lv_dup S.1 S.2.1 dX12_ahead_51 rfl ?_
      refine mg_WayLeavesModel_open S hw kf_X12_284 dX12_ahead_52 ?_
      refine lv_iconst (v := 1) S.1 S.2.1 dX12_ahead_55 (by decide) ?_
      refine lv_iadd S.1 S.2.1 dX12_ahead_56 ?_
      obtain ⟨σ1, e2⟩ : ∃ z : St, z = sI σ 13 ((σ.1 13) + (1 : Int32)) := ⟨_, rfl⟩
      have hf := nm_s e2 hf
      refine mp_WayLeavesModel_open S hw e2 kf_X12_284 dX12_ahead_57 (fun H locs hw => ?_)
      refine lv_aload_n S.1 S.2.1 dX12_ahead_60 rfl (lv_at hl 1 rfl) ?_
      refine lv_bipush (v := 40) S.1 S.2.1 dX12_ahead_61 (by decide) ?_
      refine g_Vi (rest := []) (MWd_ok D ad cs) S hw (tX12_isSign (ad := ad) (cs := cs) (σ := σ1) rfl) kt_X12_291 0 me_0 rfl rfl ⟨Nat.le_of_ble_eq_true rfl, Nat.le_of_ble_eq_true rfl⟩ rfl hl.1 rfl (Nat.le_of_ble_eq_true rfl) ⟨Nat.zero_le _, Nat.zero_le _⟩ dX12_ahead_63 (fun H locs hw => ?_)
      refine lv_if_eq (tgt := 98) S.1 S.2.1 dX12_ahead_66 (by decide) (fun hc => ?_) (fun hc => ?_)
      · have hf := itt hf hc
        refine lv_aload_n S.1 S.2.1 dX12_ahead_98 rfl (lv_at hl 1 rfl) ?_
        refine lv_aload_n S.1 S.2.1 dX12_ahead_99 rfl (lv_at hl 1 rfl) ?_
        refine mg_WayLeavesModel_token S hw kf_X12_241 dX12_ahead_100 ?_
        refine lv_iconst (v := 4) S.1 S.2.1 dX12_ahead_103 (by decide) ?_
        refine lv_icmp_ne (tgt := 112) S.1 S.2.1 dX12_ahead_104 (by decide) (fun hc => ?_) (fun hc => ?_)
        · have hf := itf hf hc
          refine lv_bipush (v := 14) S.1 S.2.1 dX12_ahead_112 (by decide) ?_
          obtain ⟨σ3, g4, hf⟩ := bd_s hf
          refine g_Vv (rest := []) (MWd_ok D ad cs) S hw (tX12_await g4) kt_X12_306 0 me_0 rfl rfl ⟨Nat.le_of_ble_eq_true rfl, Nat.le_of_ble_eq_true rfl⟩ rfl hl.1 rfl (Nat.le_of_ble_eq_true rfl) ⟨Nat.zero_le _, Nat.zero_le _⟩ dX12_ahead_114 (fun H locs hw => ?_)
          refine lv_iconst (v := 1) S.1 S.2.1 dX12_ahead_117 (by decide) ?_
          exact g_zret (MWd_ok D ad cs) S hr hlk hw rfl dX12_ahead_118 (Prod.mk.inj (Option.some.inj hf)).1 (Prod.mk.inj (Option.some.inj hf)).2
        · have hf := itt hf hc
          refine lv_bipush (v := 13) S.1 S.2.1 dX12_ahead_107 (by decide) ?_
          refine lv_goto (tgt := 114) S.1 S.2.1 dX12_ahead_109 (by decide) ?_
          obtain ⟨σ5, g6, hf⟩ := bd_s hf
          refine g_Vv (rest := []) (MWd_ok D ad cs) S hw (tX12_await g6) kt_X12_306 0 me_0 rfl rfl ⟨Nat.le_of_ble_eq_true rfl, Nat.le_of_ble_eq_true rfl⟩ rfl hl.1 rfl (Nat.le_of_ble_eq_true rfl) ⟨Nat.zero_le _, Nat.zero_le _⟩ dX12_ahead_114 (fun H locs hw => ?_)
          refine lv_iconst (v := 1) S.1 S.2.1 dX12_ahead_117 (by decide) ?_
          exact g_zret (MWd_ok D ad cs) S hr hlk hw rfl dX12_ahead_118 (Prod.mk.inj (Option.some.inj hf)).1 (Prod.mk.inj (Option.some.inj hf)).2
      · have hf := itf hf hc
        refine lv_aload_n S.1 S.2.1 dX12_ahead_69 rfl (lv_at hl 1 rfl) ?_
        refine lv_bipush (v := 15) S.1 S.2.1 dX12_ahead_70 (by decide) ?_
        obtain ⟨σ7, g8, hf⟩ := bd_s hf
        refine g_Vv (rest := []) (MWd_ok D ad cs) S hw (tX12_await g8) kt_X12_306 0 me_0 rfl rfl ⟨Nat.le_of_ble_eq_true rfl, Nat.le_of_ble_eq_true rfl⟩ rfl hl.1 rfl (Nat.le_of_ble_eq_true rfl) ⟨Nat.zero_le _, Nat.zero_le _⟩ dX12_ahead_72 (fun H locs hw => ?_)
        refine lv_aload_n S.1 S.2.1 dX12_ahead_75 rfl (lv_at hl 1 rfl) ?_
        refine lv_dup S.1 S.2.1 dX12_ahead_76 rfl ?_
        refine mg_WayLeavesModel_depth S hw kf_X12_300 dX12_ahead_77 ?_
        refine lv_iconst (v := 1) S.1 S.2.1 dX12_ahead_80 (by decide) ?_
        refine lv_iadd S.1 S.2.1 dX12_ahead_81 ?_
        obtain ⟨σ9, e10⟩ : ∃ z : St, z = sI σ7 14 ((σ7.1 14) + (1 : Int32)) := ⟨_, rfl⟩
        have hf := nm_s e10 hf
        refine mp_WayLeavesModel_depth S hw e10 kf_X12_300 dX12_ahead_82 (fun H locs hw => ?_)
        refine lv_aload_n S.1 S.2.1 dX12_ahead_85 rfl (lv_at hl 1 rfl) ?_
        refine mg_WayLeavesModel_compared S hw kf_X12_297 dX12_ahead_86 ?_
        refine lv_aload_n S.1 S.2.1 dX12_ahead_89 rfl (lv_at hl 1 rfl) ?_
        refine mg_WayLeavesModel_depth S hw kf_X12_300 dX12_ahead_90 ?_
        refine lv_iconst (v := 0) S.1 S.2.1 dX12_ahead_93 (by decide) ?_
        obtain ⟨h11, hf⟩ := gd_ix hf
        obtain ⟨σ12, e13⟩ : ∃ z : St, z = aW σ9 37 (σ9.1 14) (vp_nar .boolean (0 : Int32)) := ⟨_, rfl⟩
        have hf := nm_s e13 hf
        refine g_zast (σ' := σ12) S hw 37 2 me_37 rfl (by rw [e13]; exact ms_37 _) h11 dX12_ahead_94 (fun H locs hw => ?_)
        refine lv_goto (tgt := 117) S.1 S.2.1 dX12_ahead_95 (by decide) ?_
        refine lv_iconst (v := 1) S.1 S.2.1 dX12_ahead_117 (by decide) ?_
        exact g_zret (MWd_ok D ad cs) S hr hlk hw rfl dX12_ahead_118 (Prod.mk.inj (Option.some.inj hf)).1 (Prod.mk.inj (Option.some.inj hf)).2
    · have hf := itt hf hc
      refine lv_iconst (v := 0) S.1 S.2.1 dX12_ahead_48 (by decide) ?_
      exact g_zret (MWd_ok D ad cs) S hr hlk hw rfl dX12_ahead_49 (Prod.mk.inj (Option.some.inj hf)).1 (Prod.mk.inj (Option.some.inj hf)).2
def fX12_ahead_30 (N : Nat) (σ : St) : Option (Int32 × St) :=
  fX12_ahead_35 N σ (1 : Int32)
set_option maxHeartbeats 2000000 in
set_option maxRecDepth 20000 in
theorem wX12_ahead_30 {r : Int32} {σ' : St} {N : Nat} (S : CallFix p m c cX12_ahead 3 s av BG RX12) (hr : meth.sig.returnType = some .boolean) (hlk : meth.locks = false)  {σ : St} {ls : Array Slot} {H : Heap} {locs : List Loc} (hw : Hw (MWd D ad cs) s σ H locs) (hl : lv_has ls 3 [(0, .ref (ad 0))]) (hf : fX12_ahead_30 N σ = some (r, σ')) : W p l e (RM 1 21) s m av below meth c H locs 0 0 (QI below (MWd D ad cs) av s r σ') (F0 m 30 ls []) := by
  unfold fX12_ahead_30 at hf
  refine lv_iconst (v := 1) S.1 S.2.1 dX12_ahead_30 (by decide) ?_
  refine lv_goto (tgt := 35) S.1 S.2.1 dX12_ahead_31 (by decide) ?_
  exact wX12_ahead_35 S hr hlk hw (lv_sub hl [0] rfl) hf
def fX12_ahead_34 (N : Nat) (σ : St) : Option (Int32 × St) :=
  fX12_ahead_35 N σ (0 : Int32)
set_option maxHeartbeats 2000000 in
set_option maxRecDepth 20000 in
theorem wX12_ahead_34 {r : Int32} {σ' : St} {N : Nat} (S : CallFix p m c cX12_ahead 3 s av BG RX12) (hr : meth.sig.returnType = some .boolean) (hlk : meth.locks = false)  {σ : St} {ls : Array Slot} {H : Heap} {locs : List Loc} (hw : Hw (MWd D ad cs) s σ H locs) (hl : lv_has ls 3 [(0, .ref (ad 0))]) (hf : fX12_ahead_34 N σ = some (r, σ')) : W p l e (RM 1 21) s m av below meth c H locs 0 0 (QI below (MWd D ad cs) av s r σ') (F0 m 34 ls []) := by
  unfold fX12_ahead_34 at hf
  refine lv_iconst (v := 0) S.1 S.2.1 dX12_ahead_34 (by decide) ?_
  exact wX12_ahead_35 S hr hlk hw (lv_sub hl [0] rfl) hf
def fX12_ahead (N : Nat) (σ : St) (x1 : Int32) : Option (Int32 × St) :=
  if (fX12_isSign σ (40 : Int32)) = 0 then (if (fX12_isSign σ (45 : Int32)) = 0 then (if x1 = 0 then (fX12_ahead_34 N σ) else (if (fX12_isKey σ (4 : Int32)) = 0 then (fX12_ahead_34 N σ) else (fX12_ahead_30 N σ))) else (fX12_ahead_30 N σ)) else (fX12_ahead_30 N σ)
set_option maxHeartbeats 2000000 in
set_option maxRecDepth 20000 in
theorem tX12_ahead {r : Int32} {σ' : St} {N : Nat} {σ : St} {x1 : Int32} (hf : fX12_ahead N σ x1 = some (r, σ')) : CI l (MWd D ad cs) yX12_ahead cX12_ahead 3 (some .boolean) 1 21 [.ref (ad 0), .int x1] σ r σ' := by
  refine CI.of (by decide) (Nat.le_of_ble_eq_true rfl) ?_
  intro p e s m below meth c ls S hr hlk hw hl
  have hl : lv_has ls 3 [(0, .ref (ad 0)), (1, .int x1)] := hl
  unfold fX12_ahead at hf
  refine lv_aload_n S.1 S.2.1 dX12_ahead_0 rfl (lv_at hl 0 rfl) ?_
  refine lv_bipush (v := 40) S.1 S.2.1 dX12_ahead_1 (by decide) ?_
  refine g_Vi (rest := []) (MWd_ok D ad cs) S hw (tX12_isSign (ad := ad) (cs := cs) (σ := σ) rfl) kt_X12_291 0 me_0 rfl rfl ⟨Nat.le_of_ble_eq_true rfl, Nat.le_of_ble_eq_true rfl⟩ rfl hl.1 rfl (Nat.le_of_ble_eq_true rfl) ⟨Nat.zero_le _, Nat.zero_le _⟩ dX12_ahead_3 (fun H locs hw => ?_)
  refine lv_if_ne (tgt := 30) S.1 S.2.1 dX12_ahead_6 (by decide) (fun hc => ?_) (fun hc => ?_)
  · have hf := itf hf hc
    exact wX12_ahead_30 S hr hlk hw (lv_sub hl [0] rfl) hf
  · have hf := itt hf hc
    refine lv_aload_n S.1 S.2.1 dX12_ahead_9 rfl (lv_at hl 0 rfl) ?_
    refine lv_bipush (v := 45) S.1 S.2.1 dX12_ahead_10 (by decide) ?_
    refine g_Vi (rest := []) (MWd_ok D ad cs) S hw (tX12_isSign (ad := ad) (cs := cs) (σ := σ) rfl) kt_X12_291 0 me_0 rfl rfl ⟨Nat.le_of_ble_eq_true rfl, Nat.le_of_ble_eq_true rfl⟩ rfl hl.1 rfl (Nat.le_of_ble_eq_true rfl) ⟨Nat.zero_le _, Nat.zero_le _⟩ dX12_ahead_12 (fun H locs hw => ?_)
    refine lv_if_ne (tgt := 30) S.1 S.2.1 dX12_ahead_15 (by decide) (fun hc => ?_) (fun hc => ?_)
    · have hf := itf hf hc
      exact wX12_ahead_30 S hr hlk hw (lv_sub hl [0] rfl) hf
    · have hf := itt hf hc
      refine lv_iload_n S.1 S.2.1 dX12_ahead_18 rfl (lv_at hl 1 rfl) ?_
      refine lv_if_eq (tgt := 34) S.1 S.2.1 dX12_ahead_19 (by decide) (fun hc => ?_) (fun hc => ?_)
      · have hf := itt hf hc
        exact wX12_ahead_34 S hr hlk hw (lv_sub hl [0] rfl) hf
      · have hf := itf hf hc
        refine lv_aload_n S.1 S.2.1 dX12_ahead_22 rfl (lv_at hl 0 rfl) ?_
        refine lv_iconst (v := 4) S.1 S.2.1 dX12_ahead_23 (by decide) ?_
        refine g_Vi (rest := []) (MWd_ok D ad cs) S hw (tX12_isKey (ad := ad) (cs := cs) (σ := σ) rfl) kt_X12_294 0 me_0 rfl rfl ⟨Nat.le_of_ble_eq_true rfl, Nat.le_of_ble_eq_true rfl⟩ rfl hl.1 rfl (Nat.le_of_ble_eq_true rfl) ⟨Nat.zero_le _, Nat.zero_le _⟩ dX12_ahead_24 (fun H locs hw => ?_)
        refine lv_if_eq (tgt := 34) S.1 S.2.1 dX12_ahead_27 (by decide) (fun hc => ?_) (fun hc => ?_)
        · have hf := itt hf hc
          exact wX12_ahead_34 S hr hlk hw (lv_sub hl [0] rfl) hf
        · have hf := itf hf hc
          exact wX12_ahead_30 S hr hlk hw (lv_sub hl [0] rfl) hf
def fX12_readE_208 (N : Nat) (k40 : St → Int32 → Int32 → Int32 → Option (Int32 × St)) (σ : St) (x1 : Int32) (x2 : Int32) (x3 : Int32) : Option (Int32 × St) :=
  bd (fX12_next N σ) fun σ34 => k40 σ34 x1 x2 x3
set_option maxHeartbeats 2000000 in
set_option maxRecDepth 20000 in
theorem wX12_readE_208 {r : Int32} {σ' : St} {N : Nat} (S : CallFix p m c cX12_readE 5 s av BG RX12) (hr : meth.sig.returnType = some .boolean) (hlk : meth.locks = false) {k40 : St → Int32 → Int32 → Int32 → Option (Int32 × St)} (hk40 : ∀ (σ : St) (x1 : Int32) (x2 : Int32) (x3 : Int32) (ls : Array Slot) (H : Heap) (locs : List Loc), Hw (MWd D ad cs) s σ H locs → lv_has ls 5 [(0, .ref (ad 0)), (1, .int x1), (2, .int x2), (3, .int x3)] → k40 σ x1 x2 x3 = some (r, σ') → W p l e (RM 3 66) s m av below meth c H locs 0 0 (QI below (MWd D ad cs) av s r σ') (F0 m 40 ls []))  {σ : St} {x1 : Int32} {x2 : Int32} {x3 : Int32} {ls : Array Slot} {H : Heap} {locs : List Loc} (hw : Hw (MWd D ad cs) s σ H locs) (hl : lv_has ls 5 [(0, .ref (ad 0)), (1, .int x1), (2, .int x2), (3, .int x3)]) (hf : fX12_readE_208 N k40 σ x1 x2 x3 = some (r, σ')) : W p l e (RM 3 66) s m av below meth c H locs 0 0 (QI below (MWd D ad cs) av s r σ') (F0 m 208 ls []) := by
  unfold fX12_readE_208 at hf
  refine lv_aload_n S.1 S.2.1 dX12_readE_208 rfl (lv_at hl 0 rfl) ?_
  obtain ⟨σ34, g35, hf⟩ := bd_s hf
  refine g_Vv (rest := []) (MWd_ok D ad cs) S hw (tX12_next g35) kt_X12_323 0 me_0 rfl rfl ⟨Nat.le_of_ble_eq_true rfl, Nat.le_of_ble_eq_true rfl⟩ rfl hl.1 rfl (Nat.le_of_ble_eq_true rfl) ⟨Nat.zero_le _, Nat.zero_le _⟩ dX12_readE_209 (fun H locs hw => ?_)
  refine lv_goto (tgt := 40) S.1 S.2.1 dX12_readE_212 (by decide) ?_
  exact hk40 σ34 x1 x2 x3 _ _ _ hw (lv_sub hl [0, 1, 2, 3] rfl) hf
def fX12_readE_82 (N : Nat) (k40 : St → Int32 → Int32 → Int32 → Option (Int32 × St)) (σ : St) (x1 : Int32) (x3 : Int32) (y1 : Int32) : Option (Int32 × St) :=
  bd (fX12_emit N σ y1) fun σ30 => bd (fX12_doAll N σ30 (7 : Int32)) fun σ32 => fX12_readE_208 N k40 σ32 x1 (0 : Int32) x3
set_option maxHeartbeats 2000000 in
set_option maxRecDepth 20000 in
theorem wX12_readE_82 {r : Int32} {σ' : St} {N : Nat} (S : CallFix p m c cX12_readE 5 s av BG RX12) (hr : meth.sig.returnType = some .boolean) (hlk : meth.locks = false) {k40 : St → Int32 → Int32 → Int32 → Option (Int32 × St)} (hk40 : ∀ (σ : St) (x1 : Int32) (x2 : Int32) (x3 : Int32) (ls : Array Slot) (H : Heap) (locs : List Loc), Hw (MWd D ad cs) s σ H locs → lv_has ls 5 [(0, .ref (ad 0)), (1, .int x1), (2, .int x2), (3, .int x3)] → k40 σ x1 x2 x3 = some (r, σ') → W p l e (RM 3 66) s m av below meth c H locs 0 0 (QI below (MWd D ad cs) av s r σ') (F0 m 40 ls []))  {σ : St} {x1 : Int32} {x3 : Int32} {y1 : Int32} {ls : Array Slot} {H : Heap} {locs : List Loc} (hw : Hw (MWd D ad cs) s σ H locs) (hl : lv_has ls 5 [(0, .ref (ad 0)), (1, .int x1), (3, .int x3)]) (hf : fX12_readE_82 N k40 σ x1 x3 y1 = some (r, σ')) : W p l e (RM 3 66) s m av below meth c H locs 0 0 (QI below (MWd D ad cs) av s r σ') (F0 m 82 ls [.int y1, .ref (ad 0)]) := by
  unfold fX12_readE_82 at hf
  obtain ⟨σ30, g31, hf⟩ := bd_s hf
  refine g_Vv (rest := []) (MWd_ok D ad cs) S hw (tX12_emit g31) kt_X12_287 0 me_0 rfl rfl ⟨Nat.le_of_ble_eq_true rfl, Nat.le_of_ble_eq_true rfl⟩ rfl hl.1 rfl (Nat.le_of_ble_eq_true rfl) ⟨Nat.zero_le _, Nat.zero_le _⟩ dX12_readE_82 (fun H locs hw => ?_)
  refine lv_aload_n S.1 S.2.1 dX12_readE_85 rfl (lv_at hl 0 rfl) ?_
  refine lv_bipush (v := 7) S.1 S.2.1 dX12_readE_86 (by decide) ?_
  obtain ⟨σ32, g33, hf⟩ := bd_s hf
  refine g_Vv (rest := []) (MWd_ok D ad cs) S hw (tX12_doAll g33) kt_X12_303 0 me_0 rfl rfl ⟨Nat.le_of_ble_eq_true rfl, Nat.le_of_ble_eq_true rfl⟩ rfl hl.1 rfl (Nat.le_of_ble_eq_true rfl) ⟨Nat.zero_le _, Nat.zero_le _⟩ dX12_readE_88 (fun H locs hw => ?_)
  refine lv_iconst (v := 0) S.1 S.2.1 dX12_readE_91 (by decide) ?_
  refine lv_istore_n (lv' := [(2, .int (0 : Int32)), (0, .ref (ad 0)), (1, .int x1), (3, .int x3)]) S.1 S.2.1 dX12_readE_92 rfl hl (by decide) rfl (fun ls hl => ?_)
  refine lv_goto (tgt := 208) S.1 S.2.1 dX12_readE_93 (by decide) ?_
  exact wX12_readE_208 S hr hlk hk40 hw (lv_sub hl [1, 2, 0, 3] rfl) hf
def fX12_readE_60 (N : Nat) (k40 : St → Int32 → Int32 → Int32 → Option (Int32 × St)) (σ : St) (x1 : Int32) (x3 : Int32) : Option (Int32 × St) :=
  if (σ.1 9) = (1 : Int32) then (fX12_readE_82 N k40 σ x1 x3 ((-1 : Int32) - (σ.1 10))) else (fX12_readE_82 N k40 σ x1 x3 (σ.1 10))
set_option maxHeartbeats 2000000 in
set_option maxRecDepth 20000 in
theorem wX12_readE_60 {r : Int32} {σ' : St} {N : Nat} (S : CallFix p m c cX12_readE 5 s av BG RX12) (hr : meth.sig.returnType = some .boolean) (hlk : meth.locks = false) {k40 : St → Int32 → Int32 → Int32 → Option (Int32 × St)} (hk40 : ∀ (σ : St) (x1 : Int32) (x2 : Int32) (x3 : Int32) (ls : Array Slot) (H : Heap) (locs : List Loc), Hw (MWd D ad cs) s σ H locs → lv_has ls 5 [(0, .ref (ad 0)), (1, .int x1), (2, .int x2), (3, .int x3)] → k40 σ x1 x2 x3 = some (r, σ') → W p l e (RM 3 66) s m av below meth c H locs 0 0 (QI below (MWd D ad cs) av s r σ') (F0 m 40 ls []))  {σ : St} {x1 : Int32} {x3 : Int32} {ls : Array Slot} {H : Heap} {locs : List Loc} (hw : Hw (MWd D ad cs) s σ H locs) (hl : lv_has ls 5 [(0, .ref (ad 0)), (1, .int x1), (3, .int x3)]) (hf : fX12_readE_60 N k40 σ x1 x3 = some (r, σ')) : W p l e (RM 3 66) s m av below meth c H locs 0 0 (QI below (MWd D ad cs) av s r σ') (F0 m 60 ls []) := by
  unfold fX12_readE_60 at hf
  refine lv_aload_n S.1 S.2.1 dX12_readE_60 rfl (lv_at hl 0 rfl) ?_
  refine lv_aload_n S.1 S.2.1 dX12_readE_61 rfl (lv_at hl 0 rfl) ?_
  refine mg_WayLeavesModel_token S hw kf_X12_241 dX12_readE_62 ?_
  refine lv_iconst (v := 1) S.1 S.2.1 dX12_readE_65 (by decide) ?_
  refine lv_icmp_ne (tgt := 78) S.1 S.2.1 dX12_readE_66 (by decide) (fun hc => ?_) (fun hc => ?_)
  · have hf := itf hf hc
    refine lv_aload_n S.1 S.2.1 dX12_readE_78 rfl (lv_at hl 0 rfl) ?_
    refine mg_WayLeavesModel_worth S hw kf_X12_254 dX12_readE_79 ?_
    exact wX12_readE_82 S hr hlk hk40 hw (lv_sub hl [0, 1, 2] rfl) hf
  · have hf := itt hf hc
    refine lv_iconst (v := -1) S.1 S.2.1 dX12_readE_69 (by decide) ?_
    refine lv_aload_n S.1 S.2.1 dX12_readE_70 rfl (lv_at hl 0 rfl) ?_
    refine mg_WayLeavesModel_worth S hw kf_X12_254 dX12_readE_71 ?_
    refine lv_isub S.1 S.2.1 dX12_readE_74 ?_
    refine lv_goto (tgt := 82) S.1 S.2.1 dX12_readE_75 (by decide) ?_
    exact wX12_readE_82 S hr hlk hk40 hw (lv_sub hl [0, 1, 2] rfl) hf
def fX12_readE_128 (N : Nat) (k40 : St → Int32 → Int32 → Int32 → Option (Int32 × St)) (σ : St) (x1 : Int32) (x2 : Int32) (y0 : Int32) : Option (Int32 × St) :=
  fX12_readE_208 N k40 σ x1 x2 y0
set_option maxHeartbeats 2000000 in
set_option maxRecDepth 20000 in
theorem wX12_readE_128 {r : Int32} {σ' : St} {N : Nat} (S : CallFix p m c cX12_readE 5 s av BG RX12) (hr : meth.sig.returnType = some .boolean) (hlk : meth.locks = false) {k40 : St → Int32 → Int32 → Int32 → Option (Int32 × St)} (hk40 : ∀ (σ : St) (x1 : Int32) (x2 : Int32) (x3 : Int32) (ls : Array Slot) (H : Heap) (locs : List Loc), Hw (MWd D ad cs) s σ H locs → lv_has ls 5 [(0, .ref (ad 0)), (1, .int x1), (2, .int x2), (3, .int x3)] → k40 σ x1 x2 x3 = some (r, σ') → W p l e (RM 3 66) s m av below meth c H locs 0 0 (QI below (MWd D ad cs) av s r σ') (F0 m 40 ls []))  {σ : St} {x1 : Int32} {x2 : Int32} {y0 : Int32} {ls : Array Slot} {H : Heap} {locs : List Loc} (hw : Hw (MWd D ad cs) s σ H locs) (hl : lv_has ls 5 [(0, .ref (ad 0)), (1, .int x1), (2, .int x2)]) (hf : fX12_readE_128 N k40 σ x1 x2 y0 = some (r, σ')) : W p l e (RM 3 66) s m av below meth c H locs 0 0 (QI below (MWd D ad cs) av s r σ') (F0 m 128 ls [.int y0]) := by
  unfold fX12_readE_128 at hf
  refine lv_istore_n (lv' := [(3, .int y0), (0, .ref (ad 0)), (1, .int x1), (2, .int x2)]) S.1 S.2.1 dX12_readE_128 rfl hl (by decide) rfl (fun ls hl => ?_)
  refine lv_goto (tgt := 208) S.1 S.2.1 dX12_readE_129 (by decide) ?_
  exact wX12_readE_208 S hr hlk hk40 hw (lv_sub hl [1, 2, 3, 0] rfl) hf
def fX12_readE_195 (N : Nat) (k40 : St → Int32 → Int32 → Int32 → Option (Int32 × St)) (σ : St) (x1 : Int32) (x2 : Int32) (y0 : Int32) : Option (Int32 × St) :=
  fX12_readE_208 N k40 σ x1 x2 y0
set_option maxHeartbeats 2000000 in
set_option maxRecDepth 20000 in
theorem wX12_readE_195 {r : Int32} {σ' : St} {N : Nat} (S : CallFix p m c cX12_readE 5 s av BG RX12) (hr : meth.sig.returnType = some .boolean) (hlk : meth.locks = false) {k40 : St → Int32 → Int32 → Int32 → Option (Int32 × St)} (hk40 : ∀ (σ : St) (x1 : Int32) (x2 : Int32) (x3 : Int32) (ls : Array Slot) (H : Heap) (locs : List Loc), Hw (MWd D ad cs) s σ H locs → lv_has ls 5 [(0, .ref (ad 0)), (1, .int x1), (2, .int x2), (3, .int x3)] → k40 σ x1 x2 x3 = some (r, σ') → W p l e (RM 3 66) s m av below meth c H locs 0 0 (QI below (MWd D ad cs) av s r σ') (F0 m 40 ls []))  {σ : St} {x1 : Int32} {x2 : Int32} {y0 : Int32} {ls : Array Slot} {H : Heap} {locs : List Loc} (hw : Hw (MWd D ad cs) s σ H locs) (hl : lv_has ls 5 [(0, .ref (ad 0)), (1, .int x1), (2, .int x2)]) (hf : fX12_readE_195 N k40 σ x1 x2 y0 = some (r, σ')) : W p l e (RM 3 66) s m av below meth c H locs 0 0 (QI below (MWd D ad cs) av s r σ') (F0 m 195 ls [.int y0]) := by
  unfold fX12_readE_195 at hf
  refine lv_istore_n (lv' := [(3, .int y0), (0, .ref (ad 0)), (1, .int x1), (2, .int x2)]) S.1 S.2.1 dX12_readE_195 rfl hl (by decide) rfl (fun ls hl => ?_)
  refine lv_goto (tgt := 208) S.1 S.2.1 dX12_readE_196 (by decide) ?_
  exact wX12_readE_208 S hr hlk hk40 hw (lv_sub hl [1, 2, 3, 0] rfl) hf
def fX12_readE_190 (N : Nat) (k40 : St → Int32 → Int32 → Int32 → Option (Int32 × St)) (σ : St) (x1 : Int32) (x2 : Int32) : Option (Int32 × St) :=
  fX12_readE_195 N k40 σ x1 x2 (1 : Int32)
set_option maxHeartbeats 2000000 in
set_option maxRecDepth 20000 in
theorem wX12_readE_190 {r : Int32} {σ' : St} {N : Nat} (S : CallFix p m c cX12_readE 5 s av BG RX12) (hr : meth.sig.returnType = some .boolean) (hlk : meth.locks = false) {k40 : St → Int32 → Int32 → Int32 → Option (Int32 × St)} (hk40 : ∀ (σ : St) (x1 : Int32) (x2 : Int32) (x3 : Int32) (ls : Array Slot) (H : Heap) (locs : List Loc), Hw (MWd D ad cs) s σ H locs → lv_has ls 5 [(0, .ref (ad 0)), (1, .int x1), (2, .int x2), (3, .int x3)] → k40 σ x1 x2 x3 = some (r, σ') → W p l e (RM 3 66) s m av below meth c H locs 0 0 (QI below (MWd D ad cs) av s r σ') (F0 m 40 ls []))  {σ : St} {x1 : Int32} {x2 : Int32} {ls : Array Slot} {H : Heap} {locs : List Loc} (hw : Hw (MWd D ad cs) s σ H locs) (hl : lv_has ls 5 [(0, .ref (ad 0)), (1, .int x1), (2, .int x2)]) (hf : fX12_readE_190 N k40 σ x1 x2 = some (r, σ')) : W p l e (RM 3 66) s m av below meth c H locs 0 0 (QI below (MWd D ad cs) av s r σ') (F0 m 190 ls []) := by
  unfold fX12_readE_190 at hf
  refine lv_iconst (v := 1) S.1 S.2.1 dX12_readE_190 (by decide) ?_
  refine lv_goto (tgt := 195) S.1 S.2.1 dX12_readE_191 (by decide) ?_
  exact wX12_readE_195 S hr hlk hk40 hw (lv_sub hl [0, 1, 2] rfl) hf
def fX12_readE_165 (N : Nat) (k40 : St → Int32 → Int32 → Int32 → Option (Int32 × St)) (σ : St) (x1 : Int32) (x2 : Int32) (x3 : Int32) : Option (Int32 × St) :=
  bd2 (fX12_between N σ) fun r26 σ24 => if r26 = 0 then (bd2 (fX12_closes N σ24) fun r29 σ27 => if r29 = 0 then (some ((0 : Int32), σ27)) else (fX12_readE_208 N k40 σ27 x1 x2 x3)) else (if (fX12_isKey σ24 (3 : Int32)) = 0 then (if (fX12_isKey σ24 (2 : Int32)) = 0 then (fX12_readE_195 N k40 σ24 x1 (1 : Int32) (0 : Int32)) else (fX12_readE_190 N k40 σ24 x1 (1 : Int32))) else (fX12_readE_190 N k40 σ24 x1 (1 : Int32)))
set_option maxHeartbeats 2000000 in
set_option maxRecDepth 20000 in
theorem wX12_readE_165 {r : Int32} {σ' : St} {N : Nat} (S : CallFix p m c cX12_readE 5 s av BG RX12) (hr : meth.sig.returnType = some .boolean) (hlk : meth.locks = false) {k40 : St → Int32 → Int32 → Int32 → Option (Int32 × St)} (hk40 : ∀ (σ : St) (x1 : Int32) (x2 : Int32) (x3 : Int32) (ls : Array Slot) (H : Heap) (locs : List Loc), Hw (MWd D ad cs) s σ H locs → lv_has ls 5 [(0, .ref (ad 0)), (1, .int x1), (2, .int x2), (3, .int x3)] → k40 σ x1 x2 x3 = some (r, σ') → W p l e (RM 3 66) s m av below meth c H locs 0 0 (QI below (MWd D ad cs) av s r σ') (F0 m 40 ls []))  {σ : St} {x1 : Int32} {x2 : Int32} {x3 : Int32} {ls : Array Slot} {H : Heap} {locs : List Loc} (hw : Hw (MWd D ad cs) s σ H locs) (hl : lv_has ls 5 [(0, .ref (ad 0)), (1, .int x1), (2, .int x2), (3, .int x3)]) (hf : fX12_readE_165 N k40 σ x1 x2 x3 = some (r, σ')) : W p l e (RM 3 66) s m av below meth c H locs 0 0 (QI below (MWd D ad cs) av s r σ') (F0 m 165 ls []) := by
  unfold fX12_readE_165 at hf
  refine lv_aload_n S.1 S.2.1 dX12_readE_165 rfl (lv_at hl 0 rfl) ?_
  obtain ⟨r26, σ24, g25, hf⟩ := bd2_s hf
  refine g_Vi (rest := []) (MWd_ok D ad cs) S hw (tX12_between g25) kt_X12_316 0 me_0 rfl rfl ⟨Nat.le_of_ble_eq_true rfl, Nat.le_of_ble_eq_true rfl⟩ rfl hl.1 rfl (Nat.le_of_ble_eq_true rfl) ⟨Nat.zero_le _, Nat.zero_le _⟩ dX12_readE_166 (fun H locs hw => ?_)
  refine lv_if_eq (tgt := 199) S.1 S.2.1 dX12_readE_169 (by decide) (fun hc => ?_) (fun hc => ?_)
  · have hf := itt hf hc
    refine lv_aload_n S.1 S.2.1 dX12_readE_199 rfl (lv_at hl 0 rfl) ?_
    obtain ⟨r29, σ27, g28, hf⟩ := bd2_s hf
    refine g_Vi (rest := []) (MWd_ok D ad cs) S hw (tX12_closes g28) kt_X12_320 0 me_0 rfl rfl ⟨Nat.le_of_ble_eq_true rfl, Nat.le_of_ble_eq_true rfl⟩ rfl hl.1 rfl (Nat.le_of_ble_eq_true rfl) ⟨Nat.zero_le _, Nat.zero_le _⟩ dX12_readE_200 (fun H locs hw => ?_)
    refine lv_if_ne (tgt := 208) S.1 S.2.1 dX12_readE_203 (by decide) (fun hc => ?_) (fun hc => ?_)
    · have hf := itf hf hc
      exact wX12_readE_208 S hr hlk hk40 hw (lv_sub hl [0, 1, 2, 3] rfl) hf
    · have hf := itt hf hc
      refine lv_iconst (v := 0) S.1 S.2.1 dX12_readE_206 (by decide) ?_
      exact g_zret (MWd_ok D ad cs) S hr hlk hw rfl dX12_readE_207 (Prod.mk.inj (Option.some.inj hf)).1 (Prod.mk.inj (Option.some.inj hf)).2
  · have hf := itf hf hc
    refine lv_iconst (v := 1) S.1 S.2.1 dX12_readE_172 (by decide) ?_
    refine lv_istore_n (lv' := [(2, .int (1 : Int32)), (0, .ref (ad 0)), (1, .int x1), (3, .int x3)]) S.1 S.2.1 dX12_readE_173 rfl hl (by decide) rfl (fun ls hl => ?_)
    refine lv_aload_n S.1 S.2.1 dX12_readE_174 rfl (lv_at hl 1 rfl) ?_
    refine lv_iconst (v := 3) S.1 S.2.1 dX12_readE_175 (by decide) ?_
    refine g_Vi (rest := []) (MWd_ok D ad cs) S hw (tX12_isKey (ad := ad) (cs := cs) (σ := σ24) rfl) kt_X12_294 0 me_0 rfl rfl ⟨Nat.le_of_ble_eq_true rfl, Nat.le_of_ble_eq_true rfl⟩ rfl hl.1 rfl (Nat.le_of_ble_eq_true rfl) ⟨Nat.zero_le _, Nat.zero_le _⟩ dX12_readE_176 (fun H locs hw => ?_)
    refine lv_if_ne (tgt := 190) S.1 S.2.1 dX12_readE_179 (by decide) (fun hc => ?_) (fun hc => ?_)
    · have hf := itf hf hc
      exact wX12_readE_190 S hr hlk hk40 hw (lv_sub hl [1, 2, 0] rfl) hf
    · have hf := itt hf hc
      refine lv_aload_n S.1 S.2.1 dX12_readE_182 rfl (lv_at hl 1 rfl) ?_
      refine lv_iconst (v := 2) S.1 S.2.1 dX12_readE_183 (by decide) ?_
      refine g_Vi (rest := []) (MWd_ok D ad cs) S hw (tX12_isKey (ad := ad) (cs := cs) (σ := σ24) rfl) kt_X12_294 0 me_0 rfl rfl ⟨Nat.le_of_ble_eq_true rfl, Nat.le_of_ble_eq_true rfl⟩ rfl hl.1 rfl (Nat.le_of_ble_eq_true rfl) ⟨Nat.zero_le _, Nat.zero_le _⟩ dX12_readE_184 (fun H locs hw => ?_)
      refine lv_if_eq (tgt := 194) S.1 S.2.1 dX12_readE_187 (by decide) (fun hc => ?_) (fun hc => ?_)
      · have hf := itt hf hc
        refine lv_iconst (v := 0) S.1 S.2.1 dX12_readE_194 (by decide) ?_
        exact wX12_readE_195 S hr hlk hk40 hw (lv_sub hl [1, 2, 0] rfl) hf
      · have hf := itf hf hc
        exact wX12_readE_190 S hr hlk hk40 hw (lv_sub hl [1, 2, 0] rfl) hf
def fX12_readE_96 (N : Nat) (k40 : St → Int32 → Int32 → Int32 → Option (Int32 × St)) (σ : St) (x1 : Int32) (x2 : Int32) (x3 : Int32) : Option (Int32 × St) :=
  if x2 = 0 then (if (fX12_isSign σ (59 : Int32)) = 0 then (fX12_readE_165 N k40 σ x1 x2 x3) else (if (σ.1 14) = 0 then (bd (fX12_doAll N σ (1 : Int32)) fun σ14 => if ix x1 12 = true then nm (aW σ14 33 x1 (σ14.1 16)) fun σ17 => some ((1 : Int32), σ17) else none) else (fX12_readE_165 N k40 σ x1 x2 x3))) else (nm (fX12_isSign σ (45 : Int32)) fun v19 => bd2 (fX12_ahead N σ x3) fun r23 σ21 => if r23 = 0 then (some ((0 : Int32), σ21)) else (if v19 = 0 then (fX12_readE_128 N k40 σ21 x1 x2 (1 : Int32)) else (fX12_readE_128 N k40 σ21 x1 x2 (0 : Int32))))
set_option maxHeartbeats 2000000 in
set_option maxRecDepth 20000 in
theorem wX12_readE_96 {r : Int32} {σ' : St} {N : Nat} (S : CallFix p m c cX12_readE 5 s av BG RX12) (hr : meth.sig.returnType = some .boolean) (hlk : meth.locks = false) {k40 : St → Int32 → Int32 → Int32 → Option (Int32 × St)} (hk40 : ∀ (σ : St) (x1 : Int32) (x2 : Int32) (x3 : Int32) (ls : Array Slot) (H : Heap) (locs : List Loc), Hw (MWd D ad cs) s σ H locs → lv_has ls 5 [(0, .ref (ad 0)), (1, .int x1), (2, .int x2), (3, .int x3)] → k40 σ x1 x2 x3 = some (r, σ') → W p l e (RM 3 66) s m av below meth c H locs 0 0 (QI below (MWd D ad cs) av s r σ') (F0 m 40 ls []))  {σ : St} {x1 : Int32} {x2 : Int32} {x3 : Int32} {ls : Array Slot} {H : Heap} {locs : List Loc} (hw : Hw (MWd D ad cs) s σ H locs) (hl : lv_has ls 5 [(0, .ref (ad 0)), (1, .int x1), (2, .int x2), (3, .int x3)]) (hf : fX12_readE_96 N k40 σ x1 x2 x3 = some (r, σ')) : W p l e (RM 3 66) s m av below meth c H locs 0 0 (QI below (MWd D ad cs) av s r σ') (F0 m 96 ls []) := by
  unfold fX12_readE_96 at hf
  refine lv_iload_n S.1 S.2.1 dX12_readE_96 rfl (lv_at hl 2 rfl) ?_
  refine lv_if_eq (tgt := 132) S.1 S.2.1 dX12_readE_97 (by decide) (fun hc => ?_) (fun hc => ?_)
  · have hf := itt hf hc
    refine lv_aload_n S.1 S.2.1 dX12_readE_132 rfl (lv_at hl 0 rfl) ?_
    refine lv_bipush (v := 59) S.1 S.2.1 dX12_readE_133 (by decide) ?_
    refine g_Vi (rest := []) (MWd_ok D ad cs) S hw (tX12_isSign (ad := ad) (cs := cs) (σ := σ) rfl) kt_X12_291 0 me_0 rfl rfl ⟨Nat.le_of_ble_eq_true rfl, Nat.le_of_ble_eq_true rfl⟩ rfl hl.1 rfl (Nat.le_of_ble_eq_true rfl) ⟨Nat.zero_le _, Nat.zero_le _⟩ dX12_readE_135 (fun H locs hw => ?_)
    refine lv_if_eq (tgt := 165) S.1 S.2.1 dX12_readE_138 (by decide) (fun hc => ?_) (fun hc => ?_)
    · have hf := itt hf hc
      exact wX12_readE_165 S hr hlk hk40 hw (lv_sub hl [0, 1, 2, 3] rfl) hf
    · have hf := itf hf hc
      refine lv_aload_n S.1 S.2.1 dX12_readE_141 rfl (lv_at hl 0 rfl) ?_
      refine mg_WayLeavesModel_depth S hw kf_X12_300 dX12_readE_142 ?_
      refine lv_if_ne (tgt := 165) S.1 S.2.1 dX12_readE_145 (by decide) (fun hc => ?_) (fun hc => ?_)
      · have hf := itf hf hc
        exact wX12_readE_165 S hr hlk hk40 hw (lv_sub hl [0, 1, 2, 3] rfl) hf
      · have hf := itt hf hc
        refine lv_aload_n S.1 S.2.1 dX12_readE_148 rfl (lv_at hl 0 rfl) ?_
        refine lv_iconst (v := 1) S.1 S.2.1 dX12_readE_149 (by decide) ?_
        obtain ⟨σ14, g15, hf⟩ := bd_s hf
        refine g_Vv (rest := []) (MWd_ok D ad cs) S hw (tX12_doAll g15) kt_X12_303 0 me_0 rfl rfl ⟨Nat.le_of_ble_eq_true rfl, Nat.le_of_ble_eq_true rfl⟩ rfl hl.1 rfl (Nat.le_of_ble_eq_true rfl) ⟨Nat.zero_le _, Nat.zero_le _⟩ dX12_readE_150 (fun H locs hw => ?_)
        refine lv_aload_n S.1 S.2.1 dX12_readE_153 rfl (lv_at hl 0 rfl) ?_
        refine mg_WayLeavesModel_codeMany S hw kf_X12_313 dX12_readE_154 ?_
        refine lv_iload_n S.1 S.2.1 dX12_readE_157 rfl (lv_at hl 1 rfl) ?_
        refine lv_aload_n S.1 S.2.1 dX12_readE_158 rfl (lv_at hl 0 rfl) ?_
        refine mg_WayLeavesModel_made S hw kf_X12_272 dX12_readE_159 ?_
        obtain ⟨h16, hf⟩ := gd_ix hf
        obtain ⟨σ17, e18⟩ : ∃ z : St, z = aW σ14 33 x1 (σ14.1 16) := ⟨_, rfl⟩
        have hf := nm_s e18 hf
        refine g_iast (σ' := σ17) S hw 33 0 me_33 rfl (by rw [e18]; exact ms_33 _) h16 dX12_readE_162 (fun H locs hw => ?_)
        refine lv_iconst (v := 1) S.1 S.2.1 dX12_readE_163 (by decide) ?_
        exact g_zret (MWd_ok D ad cs) S hr hlk hw rfl dX12_readE_164 (Prod.mk.inj (Option.some.inj hf)).1 (Prod.mk.inj (Option.some.inj hf)).2
  · have hf := itf hf hc
    refine lv_aload_n S.1 S.2.1 dX12_readE_100 rfl (lv_at hl 0 rfl) ?_
    refine lv_bipush (v := 45) S.1 S.2.1 dX12_readE_101 (by decide) ?_
    refine g_Vi (rest := []) (MWd_ok D ad cs) S hw (tX12_isSign (ad := ad) (cs := cs) (σ := σ) rfl) kt_X12_291 0 me_0 rfl rfl ⟨Nat.le_of_ble_eq_true rfl, Nat.le_of_ble_eq_true rfl⟩ rfl hl.1 rfl (Nat.le_of_ble_eq_true rfl) ⟨Nat.zero_le _, Nat.zero_le _⟩ dX12_readE_103 (fun H locs hw => ?_)
    refine lv_topi (fun v19 e20 => ?_)
    have hf := nm_s e20 hf
    refine lv_istore (lv' := [(4, .int v19), (0, .ref (ad 0)), (1, .int x1), (2, .int x2), (3, .int x3)]) S.1 S.2.1 dX12_readE_106 hl (by decide) rfl (fun ls hl => ?_)
    refine lv_aload_n S.1 S.2.1 dX12_readE_108 rfl (lv_at hl 1 rfl) ?_
    refine lv_iload_n S.1 S.2.1 dX12_readE_109 rfl (lv_at hl 4 rfl) ?_
    obtain ⟨r23, σ21, g22, hf⟩ := bd2_s hf
    refine g_Vi (rest := []) (MWd_ok D ad cs) S hw (tX12_ahead g22) kt_X12_309 0 me_0 rfl rfl ⟨Nat.le_of_ble_eq_true rfl, Nat.le_of_ble_eq_true rfl⟩ rfl hl.1 rfl (Nat.le_of_ble_eq_true rfl) ⟨Nat.zero_le _, Nat.zero_le _⟩ dX12_readE_110 (fun H locs hw => ?_)
    refine lv_if_ne (tgt := 118) S.1 S.2.1 dX12_readE_113 (by decide) (fun hc => ?_) (fun hc => ?_)
    · have hf := itf hf hc
      refine lv_iload S.1 S.2.1 dX12_readE_118 (lv_at hl 0 rfl) ?_
      refine lv_if_ne (tgt := 127) S.1 S.2.1 dX12_readE_120 (by decide) (fun hc => ?_) (fun hc => ?_)
      · have hf := itf hf hc
        refine lv_iconst (v := 0) S.1 S.2.1 dX12_readE_127 (by decide) ?_
        exact wX12_readE_128 S hr hlk hk40 hw (lv_sub hl [1, 2, 3] rfl) hf
      · have hf := itt hf hc
        refine lv_iconst (v := 1) S.1 S.2.1 dX12_readE_123 (by decide) ?_
        refine lv_goto (tgt := 128) S.1 S.2.1 dX12_readE_124 (by decide) ?_
        exact wX12_readE_128 S hr hlk hk40 hw (lv_sub hl [1, 2, 3] rfl) hf
    · have hf := itt hf hc
      refine lv_iconst (v := 0) S.1 S.2.1 dX12_readE_116 (by decide) ?_
      exact g_zret (MWd_ok D ad cs) S hr hlk hw rfl dX12_readE_117 (Prod.mk.inj (Option.some.inj hf)).1 (Prod.mk.inj (Option.some.inj hf)).2
def fX12_readE_40b (N : Nat) (k40 : St → Int32 → Int32 → Int32 → Option (Int32 × St)) (σ : St) (x1 : Int32) (x2 : Int32) (x3 : Int32) : Option (Int32 × St) :=
  if x2 = 0 then (fX12_readE_96 N k40 σ x1 x2 x3) else (if (σ.1 9) = (1 : Int32) then (fX12_readE_60 N k40 σ x1 x3) else (if (σ.1 9) = (2 : Int32) then (fX12_readE_60 N k40 σ x1 x3) else (fX12_readE_96 N k40 σ x1 x2 x3)))
set_option maxHeartbeats 2000000 in
set_option maxRecDepth 20000 in
theorem wX12_readE_40b {r : Int32} {σ' : St} {N : Nat} (S : CallFix p m c cX12_readE 5 s av BG RX12) (hr : meth.sig.returnType = some .boolean) (hlk : meth.locks = false) {k40 : St → Int32 → Int32 → Int32 → Option (Int32 × St)} (hk40 : ∀ (σ : St) (x1 : Int32) (x2 : Int32) (x3 : Int32) (ls : Array Slot) (H : Heap) (locs : List Loc), Hw (MWd D ad cs) s σ H locs → lv_has ls 5 [(0, .ref (ad 0)), (1, .int x1), (2, .int x2), (3, .int x3)] → k40 σ x1 x2 x3 = some (r, σ') → W p l e (RM 3 66) s m av below meth c H locs 0 0 (QI below (MWd D ad cs) av s r σ') (F0 m 40 ls []))  {σ : St} {x1 : Int32} {x2 : Int32} {x3 : Int32} {ls : Array Slot} {H : Heap} {locs : List Loc} (hw : Hw (MWd D ad cs) s σ H locs) (hl : lv_has ls 5 [(0, .ref (ad 0)), (1, .int x1), (2, .int x2), (3, .int x3)]) (hf : fX12_readE_40b N k40 σ x1 x2 x3 = some (r, σ')) : W p l e (RM 3 66) s m av below meth c H locs 0 0 (QI below (MWd D ad cs) av s r σ') (F0 m 40 ls []) := by
  unfold fX12_readE_40b at hf
  refine lv_iload_n S.1 S.2.1 dX12_readE_40 rfl (lv_at hl 2 rfl) ?_
  refine lv_if_eq (tgt := 96) S.1 S.2.1 dX12_readE_41 (by decide) (fun hc => ?_) (fun hc => ?_)
  · have hf := itt hf hc
    exact wX12_readE_96 S hr hlk hk40 hw (lv_sub hl [0, 1, 2, 3] rfl) hf
  · have hf := itf hf hc
    refine lv_aload_n S.1 S.2.1 dX12_readE_44 rfl (lv_at hl 0 rfl) ?_
    refine mg_WayLeavesModel_token S hw kf_X12_241 dX12_readE_45 ?_
    refine lv_iconst (v := 1) S.1 S.2.1 dX12_readE_48 (by decide) ?_
    refine lv_icmp_eq (tgt := 60) S.1 S.2.1 dX12_readE_49 (by decide) (fun hc => ?_) (fun hc => ?_)
    · have hf := itt hf hc
      exact wX12_readE_60 S hr hlk hk40 hw (lv_sub hl [0, 1, 3] rfl) hf
    · have hf := itf hf hc
      refine lv_aload_n S.1 S.2.1 dX12_readE_52 rfl (lv_at hl 0 rfl) ?_
      refine mg_WayLeavesModel_token S hw kf_X12_241 dX12_readE_53 ?_
      refine lv_iconst (v := 2) S.1 S.2.1 dX12_readE_56 (by decide) ?_
      refine lv_icmp_ne (tgt := 96) S.1 S.2.1 dX12_readE_57 (by decide) (fun hc => ?_) (fun hc => ?_)
      · have hf := itf hf hc
        exact wX12_readE_96 S hr hlk hk40 hw (lv_sub hl [0, 1, 2, 3] rfl) hf
      · have hf := itt hf hc
        exact wX12_readE_60 S hr hlk hk40 hw (lv_sub hl [0, 1, 3] rfl) hf
def fX12_readE_40 (N : Nat) : Nat → St → Int32 → Int32 → Int32 → Option (Int32 × St)
  | 0 => fun _ _ _ _ => none
  | n + 1 => fX12_readE_40b N (fX12_readE_40 N n)
theorem wX12_readE_40 {r : Int32} {σ' : St} {N : Nat} (S : CallFix p m c cX12_readE 5 s av BG RX12) (hr : meth.sig.returnType = some .boolean) (hlk : meth.locks = false) : ∀ (n : Nat), ∀ (σ : St) (x1 : Int32) (x2 : Int32) (x3 : Int32) (ls : Array Slot) (H : Heap) (locs : List Loc), Hw (MWd D ad cs) s σ H locs → lv_has ls 5 [(0, .ref (ad 0)), (1, .int x1), (2, .int x2), (3, .int x3)] → fX12_readE_40 N n σ x1 x2 x3 = some (r, σ') → W p l e (RM 3 66) s m av below meth c H locs 0 0 (QI below (MWd D ad cs) av s r σ') (F0 m 40 ls []) := by
  intro n
  induction n with
  | zero => intro _ _ _ _ ls H locs hw hl hf; cases hf
  | succ n ih => intro _ _ _ _ ls H locs hw hl hf; exact wX12_readE_40b S hr hlk ih hw hl hf
def fX12_readE (N : Nat) (σ : St) (x1 : Int32) : Option (Int32 × St) :=
  nm (sI σ 15 ((160 : Int32) * x1)) fun σ1 => nm (sI σ1 16 (0 : Int32)) fun σ3 => nm (sI σ3 12 (0 : Int32)) fun σ5 => nm (sI σ5 13 (0 : Int32)) fun σ7 => nm (sI σ7 14 (0 : Int32)) fun σ9 => if ix (0 : Int32) 8 = true then nm (aW σ9 37 (0 : Int32) (vp_nar .boolean (0 : Int32))) fun σ12 => fX12_readE_40 N N σ12 x1 (1 : Int32) (1 : Int32) else none
set_option maxHeartbeats 2000000 in
set_option maxRecDepth 20000 in
theorem tX12_readE {r : Int32} {σ' : St} {N : Nat} {σ : St} {x1 : Int32} (hf : fX12_readE N σ x1 = some (r, σ')) : CI l (MWd D ad cs) yX12_readE cX12_readE 5 (some .boolean) 3 66 [.ref (ad 0), .int x1] σ r σ' := by
  refine CI.of (by decide) (Nat.le_of_ble_eq_true rfl) ?_
  intro p e s m below meth c ls S hr hlk hw hl
  have hl : lv_has ls 5 [(0, .ref (ad 0)), (1, .int x1)] := hl
  unfold fX12_readE at hf
  refine lv_aload_n S.1 S.2.1 dX12_readE_0 rfl (lv_at hl 0 rfl) ?_
  refine lv_sipush (v := 160) S.1 S.2.1 dX12_readE_1 (by decide) ?_
  refine lv_iload_n S.1 S.2.1 dX12_readE_4 rfl (lv_at hl 1 rfl) ?_
  refine lv_imul S.1 S.2.1 dX12_readE_5 ?_
  obtain ⟨σ1, e2⟩ : ∃ z : St, z = sI σ 15 ((160 : Int32) * x1) := ⟨_, rfl⟩
  have hf := nm_s e2 hf
  refine mp_WayLeavesModel_codeAt S hw e2 kf_X12_269 dX12_readE_6 (fun H locs hw => ?_)
  refine lv_aload_n S.1 S.2.1 dX12_readE_9 rfl (lv_at hl 0 rfl) ?_
  refine lv_iconst (v := 0) S.1 S.2.1 dX12_readE_10 (by decide) ?_
  obtain ⟨σ3, e4⟩ : ∃ z : St, z = sI σ1 16 (0 : Int32) := ⟨_, rfl⟩
  have hf := nm_s e4 hf
  refine mp_WayLeavesModel_made S hw e4 kf_X12_272 dX12_readE_11 (fun H locs hw => ?_)
  refine lv_aload_n S.1 S.2.1 dX12_readE_14 rfl (lv_at hl 0 rfl) ?_
  refine lv_iconst (v := 0) S.1 S.2.1 dX12_readE_15 (by decide) ?_
  obtain ⟨σ5, e6⟩ : ∃ z : St, z = sI σ3 12 (0 : Int32) := ⟨_, rfl⟩
  have hf := nm_s e6 hf
  refine mp_WayLeavesModel_waiting S hw e6 kf_X12_275 dX12_readE_16 (fun H locs hw => ?_)
  refine lv_aload_n S.1 S.2.1 dX12_readE_19 rfl (lv_at hl 0 rfl) ?_
  refine lv_iconst (v := 0) S.1 S.2.1 dX12_readE_20 (by decide) ?_
  obtain ⟨σ7, e8⟩ : ∃ z : St, z = sI σ5 13 (0 : Int32) := ⟨_, rfl⟩
  have hf := nm_s e8 hf
  refine mp_WayLeavesModel_open S hw e8 kf_X12_284 dX12_readE_21 (fun H locs hw => ?_)
  refine lv_aload_n S.1 S.2.1 dX12_readE_24 rfl (lv_at hl 0 rfl) ?_
  refine lv_iconst (v := 0) S.1 S.2.1 dX12_readE_25 (by decide) ?_
  obtain ⟨σ9, e10⟩ : ∃ z : St, z = sI σ7 14 (0 : Int32) := ⟨_, rfl⟩
  have hf := nm_s e10 hf
  refine mp_WayLeavesModel_depth S hw e10 kf_X12_300 dX12_readE_26 (fun H locs hw => ?_)
  refine lv_aload_n S.1 S.2.1 dX12_readE_29 rfl (lv_at hl 0 rfl) ?_
  refine mg_WayLeavesModel_compared S hw kf_X12_297 dX12_readE_30 ?_
  refine lv_iconst (v := 0) S.1 S.2.1 dX12_readE_33 (by decide) ?_
  refine lv_iconst (v := 0) S.1 S.2.1 dX12_readE_34 (by decide) ?_
  obtain ⟨h11, hf⟩ := gd_ix hf
  obtain ⟨σ12, e13⟩ : ∃ z : St, z = aW σ9 37 (0 : Int32) (vp_nar .boolean (0 : Int32)) := ⟨_, rfl⟩
  have hf := nm_s e13 hf
  refine g_zast (σ' := σ12) S hw 37 2 me_37 rfl (by rw [e13]; exact ms_37 _) h11 dX12_readE_35 (fun H locs hw => ?_)
  refine lv_iconst (v := 1) S.1 S.2.1 dX12_readE_36 (by decide) ?_
  refine lv_istore_n (lv' := [(2, .int (1 : Int32)), (0, .ref (ad 0)), (1, .int x1)]) S.1 S.2.1 dX12_readE_37 rfl hl (by decide) rfl (fun ls hl => ?_)
  refine lv_iconst (v := 1) S.1 S.2.1 dX12_readE_38 (by decide) ?_
  refine lv_istore_n (lv' := [(3, .int (1 : Int32)), (2, .int (1 : Int32)), (0, .ref (ad 0)), (1, .int x1)]) S.1 S.2.1 dX12_readE_39 rfl hl (by decide) rfl (fun ls hl => ?_)
  exact wX12_readE_40 S hr hlk N σ12 x1 (1 : Int32) (1 : Int32) _ _ _ hw (lv_sub hl [2, 3, 1, 0] rfl) hf
def fX12_readAll_7b (N : Nat) (k7 : St → Int32 → Int32 → Option (Int32 × St)) (σ : St) (x1 : Int32) (x2 : Int32) : Option (Int32 × St) :=
  if (2 : Int32) ≤ x2 then (bd (fX12_next N σ) fun σ3 => if (σ3.1 9) = 0 then (some ((-1 : Int32), σ3)) else (some ((σ3.1 11), σ3))) else (bd (fX12_next N σ) fun σ5 => if (fX12_isKey σ5 x2) = 0 then (some ((σ5.1 11), σ5)) else (bd (fX12_next N σ5) fun σ7 => bd2 (fX12_readE N σ7 (((2 : Int32) * x1) + x2)) fun r11 σ9 => if r11 = 0 then (some ((σ9.1 11), σ9)) else (nm (x2 + (1 : Int32)) fun v12 => k7 σ9 x1 v12)))
set_option maxHeartbeats 2000000 in
set_option maxRecDepth 20000 in
theorem wX12_readAll_7b {r : Int32} {σ' : St} {N : Nat} (S : CallFix p m c cX12_readAll 3 s av BG RX12) (hr : meth.sig.returnType = some .int) (hlk : meth.locks = false) {k7 : St → Int32 → Int32 → Option (Int32 × St)} (hk7 : ∀ (σ : St) (x1 : Int32) (x2 : Int32) (ls : Array Slot) (H : Heap) (locs : List Loc), Hw (MWd D ad cs) s σ H locs → lv_has ls 3 [(0, .ref (ad 0)), (1, .int x1), (2, .int x2)] → k7 σ x1 x2 = some (r, σ') → W p l e (RM 4 90) s m av below meth c H locs 0 0 (QI below (MWd D ad cs) av s r σ') (F0 m 7 ls []))  {σ : St} {x1 : Int32} {x2 : Int32} {ls : Array Slot} {H : Heap} {locs : List Loc} (hw : Hw (MWd D ad cs) s σ H locs) (hl : lv_has ls 3 [(0, .ref (ad 0)), (1, .int x1), (2, .int x2)]) (hf : fX12_readAll_7b N k7 σ x1 x2 = some (r, σ')) : W p l e (RM 4 90) s m av below meth c H locs 0 0 (QI below (MWd D ad cs) av s r σ') (F0 m 7 ls []) := by
  unfold fX12_readAll_7b at hf
  refine lv_iload_n S.1 S.2.1 dX12_readAll_7 rfl (lv_at hl 2 rfl) ?_
  refine lv_iconst (v := 2) S.1 S.2.1 dX12_readAll_8 (by decide) ?_
  refine lv_icmp_ge (tgt := 56) S.1 S.2.1 dX12_readAll_9 (by decide) (fun hc => ?_) (fun hc => ?_)
  · have hf := itt hf hc
    refine lv_aload_n S.1 S.2.1 dX12_readAll_56 rfl (lv_at hl 0 rfl) ?_
    obtain ⟨σ3, g4, hf⟩ := bd_s hf
    refine g_Vv (rest := []) (MWd_ok D ad cs) S hw (tX12_next g4) kt_X12_323 0 me_0 rfl rfl ⟨Nat.le_of_ble_eq_true rfl, Nat.le_of_ble_eq_true rfl⟩ rfl hl.1 rfl (Nat.le_of_ble_eq_true rfl) ⟨Nat.zero_le _, Nat.zero_le _⟩ dX12_readAll_57 (fun H locs hw => ?_)
    refine lv_aload_n S.1 S.2.1 dX12_readAll_60 rfl (lv_at hl 0 rfl) ?_
    refine mg_WayLeavesModel_token S hw kf_X12_241 dX12_readAll_61 ?_
    refine lv_if_ne (tgt := 71) S.1 S.2.1 dX12_readAll_64 (by decide) (fun hc => ?_) (fun hc => ?_)
    · have hf := itf hf hc
      refine lv_aload_n S.1 S.2.1 dX12_readAll_71 rfl (lv_at hl 0 rfl) ?_
      refine mg_WayLeavesModel_place S hw kf_X12_247 dX12_readAll_72 ?_
      exact g_iret (MWd_ok D ad cs) S hr hlk hw dX12_readAll_75 (Prod.mk.inj (Option.some.inj hf)).1 (Prod.mk.inj (Option.some.inj hf)).2
    · have hf := itt hf hc
      refine lv_iconst (v := -1) S.1 S.2.1 dX12_readAll_67 (by decide) ?_
      refine lv_goto (tgt := 75) S.1 S.2.1 dX12_readAll_68 (by decide) ?_
      exact g_iret (MWd_ok D ad cs) S hr hlk hw dX12_readAll_75 (Prod.mk.inj (Option.some.inj hf)).1 (Prod.mk.inj (Option.some.inj hf)).2
  · have hf := itf hf hc
    refine lv_aload_n S.1 S.2.1 dX12_readAll_12 rfl (lv_at hl 0 rfl) ?_
    obtain ⟨σ5, g6, hf⟩ := bd_s hf
    refine g_Vv (rest := []) (MWd_ok D ad cs) S hw (tX12_next g6) kt_X12_323 0 me_0 rfl rfl ⟨Nat.le_of_ble_eq_true rfl, Nat.le_of_ble_eq_true rfl⟩ rfl hl.1 rfl (Nat.le_of_ble_eq_true rfl) ⟨Nat.zero_le _, Nat.zero_le _⟩ dX12_readAll_13 (fun H locs hw => ?_)
    refine lv_aload_n S.1 S.2.1 dX12_readAll_16 rfl (lv_at hl 0 rfl) ?_
    refine lv_iload_n S.1 S.2.1 dX12_readAll_17 rfl (lv_at hl 2 rfl) ?_
    refine g_Vi (rest := []) (MWd_ok D ad cs) S hw (tX12_isKey (ad := ad) (cs := cs) (σ := σ5) rfl) kt_X12_294 0 me_0 rfl rfl ⟨Nat.le_of_ble_eq_true rfl, Nat.le_of_ble_eq_true rfl⟩ rfl hl.1 rfl (Nat.le_of_ble_eq_true rfl) ⟨Nat.zero_le _, Nat.zero_le _⟩ dX12_readAll_18 (fun H locs hw => ?_)
    refine lv_if_ne (tgt := 29) S.1 S.2.1 dX12_readAll_21 (by decide) (fun hc => ?_) (fun hc => ?_)
    · have hf := itf hf hc
      refine lv_aload_n S.1 S.2.1 dX12_readAll_29 rfl (lv_at hl 0 rfl) ?_
      obtain ⟨σ7, g8, hf⟩ := bd_s hf
      refine g_Vv (rest := []) (MWd_ok D ad cs) S hw (tX12_next g8) kt_X12_323 0 me_0 rfl rfl ⟨Nat.le_of_ble_eq_true rfl, Nat.le_of_ble_eq_true rfl⟩ rfl hl.1 rfl (Nat.le_of_ble_eq_true rfl) ⟨Nat.zero_le _, Nat.zero_le _⟩ dX12_readAll_30 (fun H locs hw => ?_)
      refine lv_aload_n S.1 S.2.1 dX12_readAll_33 rfl (lv_at hl 0 rfl) ?_
      refine lv_iconst (v := 2) S.1 S.2.1 dX12_readAll_34 (by decide) ?_
      refine lv_iload_n S.1 S.2.1 dX12_readAll_35 rfl (lv_at hl 1 rfl) ?_
      refine lv_imul S.1 S.2.1 dX12_readAll_36 ?_
      refine lv_iload_n S.1 S.2.1 dX12_readAll_37 rfl (lv_at hl 2 rfl) ?_
      refine lv_iadd S.1 S.2.1 dX12_readAll_38 ?_
      obtain ⟨r11, σ9, g10, hf⟩ := bd2_s hf
      refine g_Vi (rest := []) (MWd_ok D ad cs) S hw (tX12_readE g10) kt_X12_326 0 me_0 rfl rfl ⟨Nat.le_of_ble_eq_true rfl, Nat.le_of_ble_eq_true rfl⟩ rfl hl.1 rfl (Nat.le_of_ble_eq_true rfl) ⟨Nat.zero_le _, Nat.zero_le _⟩ dX12_readAll_39 (fun H locs hw => ?_)
      refine lv_if_ne (tgt := 50) S.1 S.2.1 dX12_readAll_42 (by decide) (fun hc => ?_) (fun hc => ?_)
      · have hf := itf hf hc
        obtain ⟨v12, e13⟩ : ∃ z : Int32, z = x2 + (1 : Int32) := ⟨_, rfl⟩
        have hf := nm_s e13 hf
        refine lv_iinc (v := v12) (lv' := [(2, .int v12), (0, .ref (ad 0)), (1, .int x1)]) S.1 S.2.1 dX12_readAll_50 hl (k := 2) rfl (by rw [e13]; rfl) (by decide) rfl (fun ls hl => ?_)
        refine lv_goto (tgt := 7) S.1 S.2.1 dX12_readAll_53 (by decide) ?_
        exact hk7 σ9 x1 v12 _ _ _ hw (lv_sub hl [1, 2, 0] rfl) hf
      · have hf := itt hf hc
        refine lv_aload_n S.1 S.2.1 dX12_readAll_45 rfl (lv_at hl 0 rfl) ?_
        refine mg_WayLeavesModel_place S hw kf_X12_247 dX12_readAll_46 ?_
        exact g_iret (MWd_ok D ad cs) S hr hlk hw dX12_readAll_49 (Prod.mk.inj (Option.some.inj hf)).1 (Prod.mk.inj (Option.some.inj hf)).2
    · have hf := itt hf hc
      refine lv_aload_n S.1 S.2.1 dX12_readAll_24 rfl (lv_at hl 0 rfl) ?_
      refine mg_WayLeavesModel_place S hw kf_X12_247 dX12_readAll_25 ?_
      exact g_iret (MWd_ok D ad cs) S hr hlk hw dX12_readAll_28 (Prod.mk.inj (Option.some.inj hf)).1 (Prod.mk.inj (Option.some.inj hf)).2
def fX12_readAll_7 (N : Nat) : Nat → St → Int32 → Int32 → Option (Int32 × St)
  | 0 => fun _ _ _ => none
  | n + 1 => fX12_readAll_7b N (fX12_readAll_7 N n)
theorem wX12_readAll_7 {r : Int32} {σ' : St} {N : Nat} (S : CallFix p m c cX12_readAll 3 s av BG RX12) (hr : meth.sig.returnType = some .int) (hlk : meth.locks = false) : ∀ (n : Nat), ∀ (σ : St) (x1 : Int32) (x2 : Int32) (ls : Array Slot) (H : Heap) (locs : List Loc), Hw (MWd D ad cs) s σ H locs → lv_has ls 3 [(0, .ref (ad 0)), (1, .int x1), (2, .int x2)] → fX12_readAll_7 N n σ x1 x2 = some (r, σ') → W p l e (RM 4 90) s m av below meth c H locs 0 0 (QI below (MWd D ad cs) av s r σ') (F0 m 7 ls []) := by
  intro n
  induction n with
  | zero => intro _ _ _ ls H locs hw hl hf; cases hf
  | succ n ih => intro _ _ _ ls H locs hw hl hf; exact wX12_readAll_7b S hr hlk ih hw hl hf
def fX12_readAll (N : Nat) (σ : St) (x1 : Int32) : Option (Int32 × St) :=
  nm (sI σ 8 (0 : Int32)) fun σ1 => fX12_readAll_7 N N σ1 x1 (0 : Int32)
set_option maxHeartbeats 2000000 in
set_option maxRecDepth 20000 in
theorem tX12_readAll {r : Int32} {σ' : St} {N : Nat} {σ : St} {x1 : Int32} (hf : fX12_readAll N σ x1 = some (r, σ')) : CI l (MWd D ad cs) yX12_readAll cX12_readAll 3 (some .int) 4 90 [.ref (ad 0), .int x1] σ r σ' := by
  refine CI.of (by decide) (Nat.le_of_ble_eq_true rfl) ?_
  intro p e s m below meth c ls S hr hlk hw hl
  have hl : lv_has ls 3 [(0, .ref (ad 0)), (1, .int x1)] := hl
  unfold fX12_readAll at hf
  refine lv_aload_n S.1 S.2.1 dX12_readAll_0 rfl (lv_at hl 0 rfl) ?_
  refine lv_iconst (v := 0) S.1 S.2.1 dX12_readAll_1 (by decide) ?_
  obtain ⟨σ1, e2⟩ : ∃ z : St, z = sI σ 8 (0 : Int32) := ⟨_, rfl⟩
  have hf := nm_s e2 hf
  refine mp_WayLeavesModel_at S hw e2 kf_X12_235 dX12_readAll_2 (fun H locs hw => ?_)
  refine lv_iconst (v := 0) S.1 S.2.1 dX12_readAll_5 (by decide) ?_
  refine lv_istore_n (lv' := [(2, .int (0 : Int32)), (0, .ref (ad 0)), (1, .int x1)]) S.1 S.2.1 dX12_readAll_6 rfl hl (by decide) rfl (fun ls hl => ?_)
  exact wX12_readAll_7 S hr hlk N σ1 x1 (0 : Int32) _ _ _ hw (lv_sub hl [1, 2, 0] rfl) hf
def fX12_text (N : Nat) (σ : St) : Option (Int32 × St) :=
  if (σ.1 6) = (6 : Int32) then (some ((-4 : Int32), σ)) else (bd2 (fX12_readAll N σ (σ.1 6)) fun r3 σ1 => nm (sI σ1 5 (0 : Int32)) fun σ4 => if r3 = (-1 : Int32) then (nm (sI σ4 6 ((σ4.1 6) + (1 : Int32))) fun σ6 => some (((σ6.1 6) - (1 : Int32)), σ6)) else (some (((-100 : Int32) - r3), σ4)))
set_option maxHeartbeats 2000000 in
set_option maxRecDepth 20000 in
theorem tX12_text {r : Int32} {σ' : St} {N : Nat} {σ : St} (hf : fX12_text N σ = some (r, σ')) : CI l (MWd D ad cs) yX12_text cX12_text 2 (some .int) 5 112 [.ref (ad 0)] σ r σ' := by
  refine CI.of (by decide) (Nat.le_of_ble_eq_true rfl) ?_
  intro p e s m below meth c ls S hr hlk hw hl
  have hl : lv_has ls 2 [(0, .ref (ad 0))] := hl
  unfold fX12_text at hf
  refine lv_aload_n S.1 S.2.1 dX12_text_0 rfl (lv_at hl 0 rfl) ?_
  refine mg_WayLeavesModel_texts S hw kf_X12_329 dX12_text_1 ?_
  refine lv_bipush (v := 6) S.1 S.2.1 dX12_text_4 (by decide) ?_
  refine lv_icmp_ne (tgt := 12) S.1 S.2.1 dX12_text_6 (by decide) (fun hc => ?_) (fun hc => ?_)
  · have hf := itf hf hc
    refine lv_aload_n S.1 S.2.1 dX12_text_12 rfl (lv_at hl 0 rfl) ?_
    refine lv_aload_n S.1 S.2.1 dX12_text_13 rfl (lv_at hl 0 rfl) ?_
    refine mg_WayLeavesModel_texts S hw kf_X12_329 dX12_text_14 ?_
    obtain ⟨r3, σ1, g2, hf⟩ := bd2_s hf
    refine g_Vi (rest := []) (MWd_ok D ad cs) S hw (tX12_readAll g2) kt_X12_332 0 me_0 rfl rfl ⟨Nat.le_of_ble_eq_true rfl, Nat.le_of_ble_eq_true rfl⟩ rfl hl.1 rfl (Nat.le_of_ble_eq_true rfl) ⟨Nat.zero_le _, Nat.zero_le _⟩ dX12_text_17 (fun H locs hw => ?_)
    refine lv_istore_n (lv' := [(1, .int r3), (0, .ref (ad 0))]) S.1 S.2.1 dX12_text_20 rfl hl (by decide) rfl (fun ls hl => ?_)
    refine lv_aload_n S.1 S.2.1 dX12_text_21 rfl (lv_at hl 1 rfl) ?_
    refine lv_iconst (v := 0) S.1 S.2.1 dX12_text_22 (by decide) ?_
    obtain ⟨σ4, e5⟩ : ∃ z : St, z = sI σ1 5 (0 : Int32) := ⟨_, rfl⟩
    have hf := nm_s e5 hf
    refine mp_WayLeavesModel_taped S hw e5 kf_X12_228 dX12_text_23 (fun H locs hw => ?_)
    refine lv_iload_n S.1 S.2.1 dX12_text_26 rfl (lv_at hl 0 rfl) ?_
    refine lv_iconst (v := -1) S.1 S.2.1 dX12_text_27 (by decide) ?_
    refine lv_icmp_eq (tgt := 36) S.1 S.2.1 dX12_text_28 (by decide) (fun hc => ?_) (fun hc => ?_)
    · have hf := itt hf hc
      refine lv_aload_n S.1 S.2.1 dX12_text_36 rfl (lv_at hl 1 rfl) ?_
      refine lv_dup S.1 S.2.1 dX12_text_37 rfl ?_
      refine mg_WayLeavesModel_texts S hw kf_X12_329 dX12_text_38 ?_
      refine lv_iconst (v := 1) S.1 S.2.1 dX12_text_41 (by decide) ?_
      refine lv_iadd S.1 S.2.1 dX12_text_42 ?_
      obtain ⟨σ6, e7⟩ : ∃ z : St, z = sI σ4 6 ((σ4.1 6) + (1 : Int32)) := ⟨_, rfl⟩
      have hf := nm_s e7 hf
      refine mp_WayLeavesModel_texts S hw e7 kf_X12_329 dX12_text_43 (fun H locs hw => ?_)
      refine lv_aload_n S.1 S.2.1 dX12_text_46 rfl (lv_at hl 1 rfl) ?_
      refine mg_WayLeavesModel_texts S hw kf_X12_329 dX12_text_47 ?_
      refine lv_iconst (v := 1) S.1 S.2.1 dX12_text_50 (by decide) ?_
      refine lv_isub S.1 S.2.1 dX12_text_51 ?_
      exact g_iret (MWd_ok D ad cs) S hr hlk hw dX12_text_52 (Prod.mk.inj (Option.some.inj hf)).1 (Prod.mk.inj (Option.some.inj hf)).2
    · have hf := itf hf hc
      refine lv_bipush (v := -100) S.1 S.2.1 dX12_text_31 (by decide) ?_
      refine lv_iload_n S.1 S.2.1 dX12_text_33 rfl (lv_at hl 0 rfl) ?_
      refine lv_isub S.1 S.2.1 dX12_text_34 ?_
      exact g_iret (MWd_ok D ad cs) S hr hlk hw dX12_text_35 (Prod.mk.inj (Option.some.inj hf)).1 (Prod.mk.inj (Option.some.inj hf)).2
  · have hf := itt hf hc
    refine lv_bipush (v := -4) S.1 S.2.1 dX12_text_9 (by decide) ?_
    exact g_iret (MWd_ok D ad cs) S hr hlk hw dX12_text_11 (Prod.mk.inj (Option.some.inj hf)).1 (Prod.mk.inj (Option.some.inj hf)).2
def fX12_force (N : Nat) (σ : St) (x1 : Int32) : Option (Int32 × St) :=
  if (fX12_isIn (x1).toInt64 (0 : Int64) (((σ.1 6) - (1 : Int32))).toInt64) = 0 then (some ((-2 : Int32), σ)) else (nm (sI σ 7 x1) fun σ1 => some ((σ.1 7), σ1))
set_option maxHeartbeats 2000000 in
set_option maxRecDepth 20000 in
theorem tX12_force {r : Int32} {σ' : St} {N : Nat} {σ : St} {x1 : Int32} (hf : fX12_force N σ x1 = some (r, σ')) : CI l (MWd D ad cs) yX12_force cX12_force 3 (some .int) 1 25 [.ref (ad 0), .int x1] σ r σ' := by
  refine CI.of (by decide) (Nat.le_of_ble_eq_true rfl) ?_
  intro p e s m below meth c ls S hr hlk hw hl
  have hl : lv_has ls 3 [(0, .ref (ad 0)), (1, .int x1)] := hl
  unfold fX12_force at hf
  refine lv_iload_n S.1 S.2.1 dX12_force_0 rfl (lv_at hl 1 rfl) ?_
  refine lv_i2l S.1 S.2.1 dX12_force_1 rfl ?_
  refine lv_lconst (v := 0) S.1 S.2.1 dX12_force_2 (by decide) ?_
  refine lv_aload_n S.1 S.2.1 dX12_force_3 rfl (lv_at hl 0 rfl) ?_
  refine mg_WayLeavesModel_texts S hw kf_X12_329 dX12_force_4 ?_
  refine lv_iconst (v := 1) S.1 S.2.1 dX12_force_7 (by decide) ?_
  refine lv_isub S.1 S.2.1 dX12_force_8 ?_
  refine lv_i2l S.1 S.2.1 dX12_force_9 rfl ?_
  refine g_Si (rest := []) (MWd_ok D ad cs) S hw (tX12_isIn (ad := ad) (cs := cs) (σ := σ) rfl) kt_X12_5 ⟨Nat.le_of_ble_eq_true rfl, Nat.le_of_ble_eq_true rfl⟩ rfl hl.1 rfl (Nat.le_of_ble_eq_true rfl) ⟨Nat.zero_le _, Nat.zero_le _⟩ dX12_force_10 (fun H locs hw => ?_)
  refine lv_if_ne (tgt := 19) S.1 S.2.1 dX12_force_13 (by decide) (fun hc => ?_) (fun hc => ?_)
  · have hf := itf hf hc
    refine lv_aload_n S.1 S.2.1 dX12_force_19 rfl (lv_at hl 0 rfl) ?_
    refine mg_WayLeavesModel_rule S hw kf_X12_335 dX12_force_20 ?_
    refine lv_istore_n (lv' := [(2, .int (σ.1 7)), (0, .ref (ad 0)), (1, .int x1)]) S.1 S.2.1 dX12_force_23 rfl hl (by decide) rfl (fun ls hl => ?_)
    refine lv_aload_n S.1 S.2.1 dX12_force_24 rfl (lv_at hl 1 rfl) ?_
    refine lv_iload_n S.1 S.2.1 dX12_force_25 rfl (lv_at hl 2 rfl) ?_
    obtain ⟨σ1, e2⟩ : ∃ z : St, z = sI σ 7 x1 := ⟨_, rfl⟩
    have hf := nm_s e2 hf
    refine mp_WayLeavesModel_rule S hw e2 kf_X12_335 dX12_force_26 (fun H locs hw => ?_)
    refine lv_iload_n S.1 S.2.1 dX12_force_29 rfl (lv_at hl 0 rfl) ?_
    exact g_iret (MWd_ok D ad cs) S hr hlk hw dX12_force_30 (Prod.mk.inj (Option.some.inj hf)).1 (Prod.mk.inj (Option.some.inj hf)).2
  · have hf := itt hf hc
    refine lv_bipush (v := -2) S.1 S.2.1 dX12_force_16 (by decide) ?_
    exact g_iret (MWd_ok D ad cs) S hr hlk hw dX12_force_18 (Prod.mk.inj (Option.some.inj hf)).1 (Prod.mk.inj (Option.some.inj hf)).2
def fX12_nameOf (N : Nat) (σ : St) (x1 : Int32) (x2 : Int32) : Option Int32 :=
  if x1 = (0 : Int32) then (some (σ.1 0)) else (if x1 = (1 : Int32) then (if ix x2 16 = true then some (aR σ 17 x2) else none) else (if x1 = (2 : Int32) then (bd (fX12_near N σ x2) fun r5 => some r5) else (if x1 = (3 : Int32) then (if ix x2 16 = true then bd (fX12_highOf N σ (aR σ 16 x2)) fun r9 => some r9 else none) else (if x1 = (4 : Int32) then (if ix x2 16 = true then if ix (aR σ 16 x2) 48 = true then some (aR σ 5 (aR σ 16 x2)) else none else none) else (if ix x2 16 = true then if ix (aR σ 16 x2) 48 = true then some (aR σ 6 (aR σ 16 x2)) else none else none)))))
set_option maxHeartbeats 2000000 in
set_option maxRecDepth 20000 in
theorem tX12_nameOf {r : Int32} {N : Nat} {σ : St} {x1 : Int32} {x2 : Int32} (hf : fX12_nameOf N σ x1 x2 = some r) : CI l (MWd D ad cs) yX12_nameOf cX12_nameOf 3 (some .int) 4 84 [.ref (ad 0), .int x1, .int x2] σ r σ := by
  refine CI.of (by decide) (Nat.le_of_ble_eq_true rfl) ?_
  intro p e s m below meth c ls S hr hlk hw hl
  have hl : lv_has ls 3 [(0, .ref (ad 0)), (1, .int x1), (2, .int x2)] := hl
  unfold fX12_nameOf at hf
  refine lv_iload_n S.1 S.2.1 dX12_nameOf_0 rfl (lv_at hl 1 rfl) ?_
  by_cases h1 : x1 = (0 : Int32)
  · have hf := itt hf h1
    refine lv_tableIn (off := 35) (tgt := 36) S.1 S.2.1 dX12_nameOf_1 (by rw [h1]; decide) (by rw [h1]; decide) (by rw [h1]; rfl) (by decide) ?_
    refine lv_aload_n S.1 S.2.1 dX12_nameOf_36 rfl (lv_at hl 0 rfl) ?_
    refine mg_WayLeavesModel_today S hw kf_X12_15 dX12_nameOf_37 ?_
    exact g_iret (MWd_ok D ad cs) S hr hlk hw dX12_nameOf_40 (Option.some.inj hf) rfl
  have hf := itf hf h1
  by_cases h2 : x1 = (1 : Int32)
  · have hf := itt hf h2
    refine lv_tableIn (off := 40) (tgt := 41) S.1 S.2.1 dX12_nameOf_1 (by rw [h2]; decide) (by rw [h2]; decide) (by rw [h2]; rfl) (by decide) ?_
    refine lv_aload_n S.1 S.2.1 dX12_nameOf_41 rfl (lv_at hl 0 rfl) ?_
    refine mg_WayLeavesModel_spanLong S hw kf_X12_114 dX12_nameOf_42 ?_
    refine lv_iload_n S.1 S.2.1 dX12_nameOf_45 rfl (lv_at hl 2 rfl) ?_
    obtain ⟨h3, hf⟩ := gd_ix hf
    refine g_iald S hw 17 0 me_17 rfl h3 dX12_nameOf_46 ?_
    exact g_iret (MWd_ok D ad cs) S hr hlk hw dX12_nameOf_47 (Option.some.inj hf) rfl
  have hf := itf hf h2
  by_cases h4 : x1 = (2 : Int32)
  · have hf := itt hf h4
    refine lv_tableIn (off := 47) (tgt := 48) S.1 S.2.1 dX12_nameOf_1 (by rw [h4]; decide) (by rw [h4]; decide) (by rw [h4]; rfl) (by decide) ?_
    refine lv_aload_n S.1 S.2.1 dX12_nameOf_48 rfl (lv_at hl 0 rfl) ?_
    refine lv_iload_n S.1 S.2.1 dX12_nameOf_49 rfl (lv_at hl 2 rfl) ?_
    obtain ⟨r5, g6, hf⟩ := bd_s hf
    refine g_Vi (rest := []) (MWd_ok D ad cs) S hw (tX12_near g6) kt_X12_144 0 me_0 rfl rfl ⟨Nat.le_of_ble_eq_true rfl, Nat.le_of_ble_eq_true rfl⟩ rfl hl.1 rfl (Nat.le_of_ble_eq_true rfl) ⟨Nat.zero_le _, Nat.zero_le _⟩ dX12_nameOf_50 (fun H locs hw => ?_)
    exact g_iret (MWd_ok D ad cs) S hr hlk hw dX12_nameOf_53 (Option.some.inj hf) rfl
  have hf := itf hf h4
  by_cases h7 : x1 = (3 : Int32)
  · have hf := itt hf h7
    refine lv_tableIn (off := 53) (tgt := 54) S.1 S.2.1 dX12_nameOf_1 (by rw [h7]; decide) (by rw [h7]; decide) (by rw [h7]; rfl) (by decide) ?_
    refine lv_aload_n S.1 S.2.1 dX12_nameOf_54 rfl (lv_at hl 0 rfl) ?_
    refine lv_aload_n S.1 S.2.1 dX12_nameOf_55 rfl (lv_at hl 0 rfl) ?_
    refine mg_WayLeavesModel_spanPlot S hw kf_X12_111 dX12_nameOf_56 ?_
    refine lv_iload_n S.1 S.2.1 dX12_nameOf_59 rfl (lv_at hl 2 rfl) ?_
    obtain ⟨h8, hf⟩ := gd_ix hf
    refine g_iald S hw 16 0 me_16 rfl h8 dX12_nameOf_60 ?_
    obtain ⟨r9, g10, hf⟩ := bd_s hf
    refine g_Vi (rest := []) (MWd_ok D ad cs) S hw (tX12_highOf g10) kt_X12_78 0 me_0 rfl rfl ⟨Nat.le_of_ble_eq_true rfl, Nat.le_of_ble_eq_true rfl⟩ rfl hl.1 rfl (Nat.le_of_ble_eq_true rfl) ⟨Nat.zero_le _, Nat.zero_le _⟩ dX12_nameOf_61 (fun H locs hw => ?_)
    exact g_iret (MWd_ok D ad cs) S hr hlk hw dX12_nameOf_64 (Option.some.inj hf) rfl
  have hf := itf hf h7
  by_cases h11 : x1 = (4 : Int32)
  · have hf := itt hf h11
    refine lv_tableIn (off := 64) (tgt := 65) S.1 S.2.1 dX12_nameOf_1 (by rw [h11]; decide) (by rw [h11]; decide) (by rw [h11]; rfl) (by decide) ?_
    refine lv_aload_n S.1 S.2.1 dX12_nameOf_65 rfl (lv_at hl 0 rfl) ?_
    refine mg_WayLeavesModel_roof S hw kf_X12_53 dX12_nameOf_66 ?_
    refine lv_aload_n S.1 S.2.1 dX12_nameOf_69 rfl (lv_at hl 0 rfl) ?_
    refine mg_WayLeavesModel_spanPlot S hw kf_X12_111 dX12_nameOf_70 ?_
    refine lv_iload_n S.1 S.2.1 dX12_nameOf_73 rfl (lv_at hl 2 rfl) ?_
    obtain ⟨h12, hf⟩ := gd_ix hf
    refine g_iald S hw 16 0 me_16 rfl h12 dX12_nameOf_74 ?_
    obtain ⟨h13, hf⟩ := gd_ix hf
    refine g_iald S hw 5 0 me_5 rfl h13 dX12_nameOf_75 ?_
    exact g_iret (MWd_ok D ad cs) S hr hlk hw dX12_nameOf_76 (Option.some.inj hf) rfl
  have hf := itf hf h11
  refine lv_tableOut (tgt := 77) S.1 S.2.1 dX12_nameOf_1 (by have h1 := lv_neT h1 (a := 0) (by decide); have h2 := lv_neT h2 (a := 1) (by decide); have h4 := lv_neT h4 (a := 2) (by decide); have h7 := lv_neT h7 (a := 3) (by decide); have h11 := lv_neT h11 (a := 4) (by decide); omega) (by decide) ?_
  refine lv_aload_n S.1 S.2.1 dX12_nameOf_77 rfl (lv_at hl 0 rfl) ?_
  refine mg_WayLeavesModel_worthOf S hw kf_X12_56 dX12_nameOf_78 ?_
  refine lv_aload_n S.1 S.2.1 dX12_nameOf_81 rfl (lv_at hl 0 rfl) ?_
  refine mg_WayLeavesModel_spanPlot S hw kf_X12_111 dX12_nameOf_82 ?_
  refine lv_iload_n S.1 S.2.1 dX12_nameOf_85 rfl (lv_at hl 2 rfl) ?_
  obtain ⟨h14, hf⟩ := gd_ix hf
  refine g_iald S hw 16 0 me_16 rfl h14 dX12_nameOf_86 ?_
  obtain ⟨h15, hf⟩ := gd_ix hf
  refine g_iald S hw 6 0 me_6 rfl h15 dX12_nameOf_87 ?_
  exact g_iret (MWd_ok D ad cs) S hr hlk hw dX12_nameOf_88 (Option.some.inj hf) rfl
def fX12_done (x0 : Int32) (x1 : Int32) (x2 : Int32) : Int32 :=
  if x0 = (6 : Int32) then ((x1 + x2)) else (if x0 = (7 : Int32) then ((x1 - x2)) else (if x0 = (8 : Int32) then ((x1 * x2)) else (if x0 = (9 : Int32) then (if x2 ≤ x1 then ((0 : Int32)) else ((1 : Int32))) else (if x0 = (10 : Int32) then (if x1 = x2 then ((1 : Int32)) else ((0 : Int32))) else (if x0 = (11 : Int32) then (if x1 = 0 then ((0 : Int32)) else (if x2 = 0 then ((0 : Int32)) else ((1 : Int32)))) else (if x1 = 0 then (if x2 = 0 then ((0 : Int32)) else ((1 : Int32))) else ((1 : Int32))))))))
set_option maxHeartbeats 2000000 in
set_option maxRecDepth 20000 in
theorem tX12_done {r : Int32} {σ : St} {x0 : Int32} {x1 : Int32} {x2 : Int32} (hf : fX12_done x0 x1 x2 = r) : CI l (MWd D ad cs) yX12_done cX12_done 3 (some .int) 0 0 [.int x0, .int x1, .int x2] σ r σ := by
  refine CI.of (by decide) (Nat.le_of_ble_eq_true rfl) ?_
  intro p e s m below meth c ls S hr hlk hw hl
  have hl : lv_has ls 3 [(0, .int x0), (1, .int x1), (2, .int x2)] := hl
  unfold fX12_done at hf
  refine lv_iload_n S.1 S.2.1 dX12_done_0 rfl (lv_at hl 0 rfl) ?_
  by_cases h1 : x0 = (6 : Int32)
  · have hf := itt hf h1
    refine lv_tableIn (off := 39) (tgt := 40) S.1 S.2.1 dX12_done_1 (by rw [h1]; decide) (by rw [h1]; decide) (by rw [h1]; rfl) (by decide) ?_
    refine lv_iload_n S.1 S.2.1 dX12_done_40 rfl (lv_at hl 1 rfl) ?_
    refine lv_iload_n S.1 S.2.1 dX12_done_41 rfl (lv_at hl 2 rfl) ?_
    refine lv_iadd S.1 S.2.1 dX12_done_42 ?_
    exact g_iret (MWd_ok D ad cs) S hr hlk hw dX12_done_43 hf rfl
  have hf := itf hf h1
  by_cases h2 : x0 = (7 : Int32)
  · have hf := itt hf h2
    refine lv_tableIn (off := 43) (tgt := 44) S.1 S.2.1 dX12_done_1 (by rw [h2]; decide) (by rw [h2]; decide) (by rw [h2]; rfl) (by decide) ?_
    refine lv_iload_n S.1 S.2.1 dX12_done_44 rfl (lv_at hl 1 rfl) ?_
    refine lv_iload_n S.1 S.2.1 dX12_done_45 rfl (lv_at hl 2 rfl) ?_
    refine lv_isub S.1 S.2.1 dX12_done_46 ?_
    exact g_iret (MWd_ok D ad cs) S hr hlk hw dX12_done_47 hf rfl
  have hf := itf hf h2
  by_cases h3 : x0 = (8 : Int32)
  · have hf := itt hf h3
    refine lv_tableIn (off := 47) (tgt := 48) S.1 S.2.1 dX12_done_1 (by rw [h3]; decide) (by rw [h3]; decide) (by rw [h3]; rfl) (by decide) ?_
    refine lv_iload_n S.1 S.2.1 dX12_done_48 rfl (lv_at hl 1 rfl) ?_
    refine lv_iload_n S.1 S.2.1 dX12_done_49 rfl (lv_at hl 2 rfl) ?_
    refine lv_imul S.1 S.2.1 dX12_done_50 ?_
    exact g_iret (MWd_ok D ad cs) S hr hlk hw dX12_done_51 hf rfl
  have hf := itf hf h3
  by_cases h4 : x0 = (9 : Int32)
  · have hf := itt hf h4
    refine lv_tableIn (off := 51) (tgt := 52) S.1 S.2.1 dX12_done_1 (by rw [h4]; decide) (by rw [h4]; decide) (by rw [h4]; rfl) (by decide) ?_
    refine lv_iload_n S.1 S.2.1 dX12_done_52 rfl (lv_at hl 1 rfl) ?_
    refine lv_iload_n S.1 S.2.1 dX12_done_53 rfl (lv_at hl 2 rfl) ?_
    refine lv_icmp_ge (tgt := 61) S.1 S.2.1 dX12_done_54 (by decide) (fun hc => ?_) (fun hc => ?_)
    · have hf := itt hf hc
      refine lv_iconst (v := 0) S.1 S.2.1 dX12_done_61 (by decide) ?_
      exact g_iret (MWd_ok D ad cs) S hr hlk hw dX12_done_62 hf rfl
    · have hf := itf hf hc
      refine lv_iconst (v := 1) S.1 S.2.1 dX12_done_57 (by decide) ?_
      refine lv_goto (tgt := 62) S.1 S.2.1 dX12_done_58 (by decide) ?_
      exact g_iret (MWd_ok D ad cs) S hr hlk hw dX12_done_62 hf rfl
  have hf := itf hf h4
  by_cases h5 : x0 = (10 : Int32)
  · have hf := itt hf h5
    refine lv_tableIn (off := 62) (tgt := 63) S.1 S.2.1 dX12_done_1 (by rw [h5]; decide) (by rw [h5]; decide) (by rw [h5]; rfl) (by decide) ?_
    refine lv_iload_n S.1 S.2.1 dX12_done_63 rfl (lv_at hl 1 rfl) ?_
    refine lv_iload_n S.1 S.2.1 dX12_done_64 rfl (lv_at hl 2 rfl) ?_
    refine lv_icmp_ne (tgt := 72) S.1 S.2.1 dX12_done_65 (by decide) (fun hc => ?_) (fun hc => ?_)
    · have hf := itf hf hc
      refine lv_iconst (v := 0) S.1 S.2.1 dX12_done_72 (by decide) ?_
      exact g_iret (MWd_ok D ad cs) S hr hlk hw dX12_done_73 hf rfl
    · have hf := itt hf hc
      refine lv_iconst (v := 1) S.1 S.2.1 dX12_done_68 (by decide) ?_
      refine lv_goto (tgt := 73) S.1 S.2.1 dX12_done_69 (by decide) ?_
      exact g_iret (MWd_ok D ad cs) S hr hlk hw dX12_done_73 hf rfl
  have hf := itf hf h5
  by_cases h6 : x0 = (11 : Int32)
  · have hf := itt hf h6
    refine lv_tableIn (off := 73) (tgt := 74) S.1 S.2.1 dX12_done_1 (by rw [h6]; decide) (by rw [h6]; decide) (by rw [h6]; rfl) (by decide) ?_
    refine lv_iload_n S.1 S.2.1 dX12_done_74 rfl (lv_at hl 1 rfl) ?_
    refine lv_if_eq (tgt := 86) S.1 S.2.1 dX12_done_75 (by decide) (fun hc => ?_) (fun hc => ?_)
    · have hf := itt hf hc
      refine lv_iconst (v := 0) S.1 S.2.1 dX12_done_86 (by decide) ?_
      exact g_iret (MWd_ok D ad cs) S hr hlk hw dX12_done_87 hf rfl
    · have hf := itf hf hc
      refine lv_iload_n S.1 S.2.1 dX12_done_78 rfl (lv_at hl 2 rfl) ?_
      refine lv_if_eq (tgt := 86) S.1 S.2.1 dX12_done_79 (by decide) (fun hc => ?_) (fun hc => ?_)
      · have hf := itt hf hc
        refine lv_iconst (v := 0) S.1 S.2.1 dX12_done_86 (by decide) ?_
        exact g_iret (MWd_ok D ad cs) S hr hlk hw dX12_done_87 hf rfl
      · have hf := itf hf hc
        refine lv_iconst (v := 1) S.1 S.2.1 dX12_done_82 (by decide) ?_
        refine lv_goto (tgt := 87) S.1 S.2.1 dX12_done_83 (by decide) ?_
        exact g_iret (MWd_ok D ad cs) S hr hlk hw dX12_done_87 hf rfl
  have hf := itf hf h6
  refine lv_tableOut (tgt := 88) S.1 S.2.1 dX12_done_1 (by have h1 := lv_neT h1 (a := 6) (by decide); have h2 := lv_neT h2 (a := 7) (by decide); have h3 := lv_neT h3 (a := 8) (by decide); have h4 := lv_neT h4 (a := 9) (by decide); have h5 := lv_neT h5 (a := 10) (by decide); have h6 := lv_neT h6 (a := 11) (by decide); omega) (by decide) ?_
  refine lv_iload_n S.1 S.2.1 dX12_done_88 rfl (lv_at hl 1 rfl) ?_
  refine lv_if_ne (tgt := 96) S.1 S.2.1 dX12_done_89 (by decide) (fun hc => ?_) (fun hc => ?_)
  · have hf := itf hf hc
    refine lv_iconst (v := 1) S.1 S.2.1 dX12_done_96 (by decide) ?_
    refine lv_goto (tgt := 101) S.1 S.2.1 dX12_done_97 (by decide) ?_
    exact g_iret (MWd_ok D ad cs) S hr hlk hw dX12_done_101 hf rfl
  · have hf := itt hf hc
    refine lv_iload_n S.1 S.2.1 dX12_done_92 rfl (lv_at hl 2 rfl) ?_
    refine lv_if_eq (tgt := 100) S.1 S.2.1 dX12_done_93 (by decide) (fun hc => ?_) (fun hc => ?_)
    · have hf := itt hf hc
      refine lv_iconst (v := 0) S.1 S.2.1 dX12_done_100 (by decide) ?_
      exact g_iret (MWd_ok D ad cs) S hr hlk hw dX12_done_101 hf rfl
    · have hf := itf hf hc
      refine lv_iconst (v := 1) S.1 S.2.1 dX12_done_96 (by decide) ?_
      refine lv_goto (tgt := 101) S.1 S.2.1 dX12_done_97 (by decide) ?_
      exact g_iret (MWd_ok D ad cs) S hr hlk hw dX12_done_101 hf rfl
def fX12_partOf_188 (N : Nat) (k15 : St → Int32 → Int32 → Int32 → Int32 → Option (Int32 × St)) (σ : St) (x2 : Int32) (x3 : Int32) (x4 : Int32) (x5 : Int32) : Option (Int32 × St) :=
  nm (x5 + (1 : Int32)) fun v32 => k15 σ x2 x3 x4 v32
set_option maxHeartbeats 2000000 in
set_option maxRecDepth 20000 in
theorem wX12_partOf_188 {r : Int32} {σ' : St} {N : Nat} (S : CallFix p m c cX12_partOf 7 s av BG RX12) (hr : meth.sig.returnType = some .int) (hlk : meth.locks = false) {k15 : St → Int32 → Int32 → Int32 → Int32 → Option (Int32 × St)} (hk15 : ∀ (σ : St) (x2 : Int32) (x3 : Int32) (x4 : Int32) (x5 : Int32) (ls : Array Slot) (H : Heap) (locs : List Loc), Hw (MWd D ad cs) s σ H locs → lv_has ls 7 [(0, .ref (ad 0)), (2, .int x2), (3, .int x3), (4, .int x4), (5, .int x5)] → k15 σ x2 x3 x4 x5 = some (r, σ') → W p l e (RM 5 106) s m av below meth c H locs 0 0 (QI below (MWd D ad cs) av s r σ') (F0 m 15 ls []))  {σ : St} {x2 : Int32} {x3 : Int32} {x4 : Int32} {x5 : Int32} {ls : Array Slot} {H : Heap} {locs : List Loc} (hw : Hw (MWd D ad cs) s σ H locs) (hl : lv_has ls 7 [(0, .ref (ad 0)), (2, .int x2), (3, .int x3), (4, .int x4), (5, .int x5)]) (hf : fX12_partOf_188 N k15 σ x2 x3 x4 x5 = some (r, σ')) : W p l e (RM 5 106) s m av below meth c H locs 0 0 (QI below (MWd D ad cs) av s r σ') (F0 m 188 ls []) := by
  unfold fX12_partOf_188 at hf
  obtain ⟨v32, e33⟩ : ∃ z : Int32, z = x5 + (1 : Int32) := ⟨_, rfl⟩
  have hf := nm_s e33 hf
  refine lv_iinc (v := v32) (lv' := [(5, .int v32), (0, .ref (ad 0)), (2, .int x2), (3, .int x3), (4, .int x4)]) S.1 S.2.1 dX12_partOf_188 hl (k := 4) rfl (by rw [e33]; rfl) (by decide) rfl (fun ls hl => ?_)
  refine lv_goto (tgt := 15) S.1 S.2.1 dX12_partOf_191 (by decide) ?_
  exact hk15 σ x2 x3 x4 v32 _ _ _ hw (lv_sub hl [1, 2, 3, 4, 0] rfl) hf
def fX12_partOf_122 (N : Nat) (k15 : St → Int32 → Int32 → Int32 → Int32 → Option (Int32 × St)) (σ : St) (x2 : Int32) (x3 : Int32) (x4 : Int32) (x5 : Int32) (y1 : Int32) (y2 : Int32) : Option (Int32 × St) :=
  if ix y1 170 = true then nm (aW σ 38 y1 y2) fun σ35 => fX12_partOf_188 N k15 σ35 x2 x3 x4 x5 else none
set_option maxHeartbeats 2000000 in
set_option maxRecDepth 20000 in
theorem wX12_partOf_122 {r : Int32} {σ' : St} {N : Nat} (S : CallFix p m c cX12_partOf 7 s av BG RX12) (hr : meth.sig.returnType = some .int) (hlk : meth.locks = false) {k15 : St → Int32 → Int32 → Int32 → Int32 → Option (Int32 × St)} (hk15 : ∀ (σ : St) (x2 : Int32) (x3 : Int32) (x4 : Int32) (x5 : Int32) (ls : Array Slot) (H : Heap) (locs : List Loc), Hw (MWd D ad cs) s σ H locs → lv_has ls 7 [(0, .ref (ad 0)), (2, .int x2), (3, .int x3), (4, .int x4), (5, .int x5)] → k15 σ x2 x3 x4 x5 = some (r, σ') → W p l e (RM 5 106) s m av below meth c H locs 0 0 (QI below (MWd D ad cs) av s r σ') (F0 m 15 ls []))  {σ : St} {x2 : Int32} {x3 : Int32} {x4 : Int32} {x5 : Int32} {y1 : Int32} {y2 : Int32} {ls : Array Slot} {H : Heap} {locs : List Loc} (hw : Hw (MWd D ad cs) s σ H locs) (hl : lv_has ls 7 [(0, .ref (ad 0)), (2, .int x2), (3, .int x3), (4, .int x4), (5, .int x5)]) (hf : fX12_partOf_122 N k15 σ x2 x3 x4 x5 y1 y2 = some (r, σ')) : W p l e (RM 5 106) s m av below meth c H locs 0 0 (QI below (MWd D ad cs) av s r σ') (F0 m 122 ls [.int y2, .int y1, .ref (ad 38)]) := by
  unfold fX12_partOf_122 at hf
  obtain ⟨h34, hf⟩ := gd_ix hf
  obtain ⟨σ35, e36⟩ : ∃ z : St, z = aW σ 38 y1 y2 := ⟨_, rfl⟩
  have hf := nm_s e36 hf
  refine g_iast (σ' := σ35) S hw 38 0 me_38 rfl (by rw [e36]; exact ms_38 _) h34 dX12_partOf_122 (fun H locs hw => ?_)
  refine lv_goto (tgt := 188) S.1 S.2.1 dX12_partOf_123 (by decide) ?_
  exact wX12_partOf_188 S hr hlk hk15 hw (lv_sub hl [0, 1, 2, 3, 4] rfl) hf
def fX12_partOf_15b (N : Nat) (k15 : St → Int32 → Int32 → Int32 → Int32 → Option (Int32 × St)) (σ : St) (x2 : Int32) (x3 : Int32) (x4 : Int32) (x5 : Int32) : Option (Int32 × St) :=
  if ix x3 12 = true then if (aR σ 33 x3) ≤ x5 then (if ix (0 : Int32) 170 = true then some ((aR σ 38 (0 : Int32)), σ) else none) else (if ix (((160 : Int32) * x3) + x5) 1920 = true then nm (aR σ 32 (((160 : Int32) * x3) + x5)) fun v6 => if 0 ≤ v6 then (if (6 : Int32) ≤ v6 then (if v6 = (13 : Int32) then (if ix (x4 - (1 : Int32)) 170 = true then if (aR σ 38 (x4 - (1 : Int32))) = 0 then (fX12_partOf_122 N k15 σ x2 x3 x4 x5 (x4 - (1 : Int32)) (1 : Int32)) else (fX12_partOf_122 N k15 σ x2 x3 x4 x5 (x4 - (1 : Int32)) (0 : Int32)) else none) else (if v6 = (14 : Int32) then (if ix (x4 - (1 : Int32)) 170 = true then if ix (x4 - (1 : Int32)) 170 = true then nm (aW σ 38 (x4 - (1 : Int32)) (-(aR σ 38 (x4 - (1 : Int32))))) fun σ17 => fX12_partOf_188 N k15 σ17 x2 x3 x4 x5 else none else none) else (nm (x4 + (-1 : Int32)) fun v8 => if ix (v8 - (1 : Int32)) 170 = true then if ix v8 170 = true then if ix (v8 - (1 : Int32)) 170 = true then nm (aW σ 38 (v8 - (1 : Int32)) (fX12_done v6 (aR σ 38 (v8 - (1 : Int32))) (aR σ 38 v8))) fun σ13 => fX12_partOf_188 N k15 σ13 x2 x3 v8 x5 else none else none else none))) else (bd (fX12_nameOf N σ v6 x2) fun r20 => if ix x4 170 = true then nm (aW σ 38 x4 r20) fun σ23 => nm (x4 + (1 : Int32)) fun v25 => fX12_partOf_188 N k15 σ23 x2 x3 v25 x5 else none)) else (if ix x4 170 = true then nm (aW σ 38 x4 ((-1 : Int32) - v6)) fun σ28 => nm (x4 + (1 : Int32)) fun v30 => fX12_partOf_188 N k15 σ28 x2 x3 v30 x5 else none) else none) else none
set_option maxHeartbeats 2000000 in
set_option maxRecDepth 20000 in
theorem wX12_partOf_15b {r : Int32} {σ' : St} {N : Nat} (S : CallFix p m c cX12_partOf 7 s av BG RX12) (hr : meth.sig.returnType = some .int) (hlk : meth.locks = false) {k15 : St → Int32 → Int32 → Int32 → Int32 → Option (Int32 × St)} (hk15 : ∀ (σ : St) (x2 : Int32) (x3 : Int32) (x4 : Int32) (x5 : Int32) (ls : Array Slot) (H : Heap) (locs : List Loc), Hw (MWd D ad cs) s σ H locs → lv_has ls 7 [(0, .ref (ad 0)), (2, .int x2), (3, .int x3), (4, .int x4), (5, .int x5)] → k15 σ x2 x3 x4 x5 = some (r, σ') → W p l e (RM 5 106) s m av below meth c H locs 0 0 (QI below (MWd D ad cs) av s r σ') (F0 m 15 ls []))  {σ : St} {x2 : Int32} {x3 : Int32} {x4 : Int32} {x5 : Int32} {ls : Array Slot} {H : Heap} {locs : List Loc} (hw : Hw (MWd D ad cs) s σ H locs) (hl : lv_has ls 7 [(0, .ref (ad 0)), (2, .int x2), (3, .int x3), (4, .int x4), (5, .int x5)]) (hf : fX12_partOf_15b N k15 σ x2 x3 x4 x5 = some (r, σ')) : W p l e (RM 5 106) s m av below meth c H locs 0 0 (QI below (MWd D ad cs) av s r σ') (F0 m 15 ls []) := by
  unfold fX12_partOf_15b at hf
  refine lv_iload S.1 S.2.1 dX12_partOf_15 (lv_at hl 4 rfl) ?_
  refine lv_aload_n S.1 S.2.1 dX12_partOf_17 rfl (lv_at hl 0 rfl) ?_
  refine mg_WayLeavesModel_codeMany S hw kf_X12_313 dX12_partOf_18 ?_
  refine lv_iload_n S.1 S.2.1 dX12_partOf_21 rfl (lv_at hl 2 rfl) ?_
  obtain ⟨h3, hf⟩ := gd_ix hf
  refine g_iald S hw 33 0 me_33 rfl h3 dX12_partOf_22 ?_
  refine lv_icmp_ge (tgt := 194) S.1 S.2.1 dX12_partOf_23 (by decide) (fun hc => ?_) (fun hc => ?_)
  · have hf := itt hf hc
    refine lv_aload_n S.1 S.2.1 dX12_partOf_194 rfl (lv_at hl 0 rfl) ?_
    refine mg_WayLeavesModel_stack S hw kf_X12_338 dX12_partOf_195 ?_
    refine lv_iconst (v := 0) S.1 S.2.1 dX12_partOf_198 (by decide) ?_
    obtain ⟨h4, hf⟩ := gd_ix hf
    refine g_iald S hw 38 0 me_38 rfl h4 dX12_partOf_199 ?_
    exact g_iret (MWd_ok D ad cs) S hr hlk hw dX12_partOf_200 (Prod.mk.inj (Option.some.inj hf)).1 (Prod.mk.inj (Option.some.inj hf)).2
  · have hf := itf hf hc
    refine lv_aload_n S.1 S.2.1 dX12_partOf_26 rfl (lv_at hl 0 rfl) ?_
    refine mg_WayLeavesModel_codes S hw kf_X12_266 dX12_partOf_27 ?_
    refine lv_sipush (v := 160) S.1 S.2.1 dX12_partOf_30 (by decide) ?_
    refine lv_iload_n S.1 S.2.1 dX12_partOf_33 rfl (lv_at hl 2 rfl) ?_
    refine lv_imul S.1 S.2.1 dX12_partOf_34 ?_
    refine lv_iload S.1 S.2.1 dX12_partOf_35 (lv_at hl 4 rfl) ?_
    refine lv_iadd S.1 S.2.1 dX12_partOf_37 ?_
    obtain ⟨h5, hf⟩ := gd_ix hf
    refine g_iald S hw 32 0 me_32 rfl h5 dX12_partOf_38 ?_
    refine lv_topi (fun v6 e7 => ?_)
    have hf := nm_s e7 hf
    refine lv_istore (lv' := [(6, .int v6), (0, .ref (ad 0)), (2, .int x2), (3, .int x3), (4, .int x4), (5, .int x5)]) S.1 S.2.1 dX12_partOf_39 hl (by decide) rfl (fun ls hl => ?_)
    refine lv_iload S.1 S.2.1 dX12_partOf_41 (lv_at hl 0 rfl) ?_
    refine lv_if_ge (tgt := 63) S.1 S.2.1 dX12_partOf_43 (by decide) (fun hc => ?_) (fun hc => ?_)
    · have hf := itt hf hc
      refine lv_iload S.1 S.2.1 dX12_partOf_63 (lv_at hl 0 rfl) ?_
      refine lv_bipush (v := 6) S.1 S.2.1 dX12_partOf_65 (by decide) ?_
      refine lv_icmp_ge (tgt := 90) S.1 S.2.1 dX12_partOf_67 (by decide) (fun hc => ?_) (fun hc => ?_)
      · have hf := itt hf hc
        refine lv_iload S.1 S.2.1 dX12_partOf_90 (lv_at hl 0 rfl) ?_
        refine lv_bipush (v := 13) S.1 S.2.1 dX12_partOf_92 (by decide) ?_
        refine lv_icmp_ne (tgt := 126) S.1 S.2.1 dX12_partOf_94 (by decide) (fun hc => ?_) (fun hc => ?_)
        · have hf := itf hf hc
          refine lv_iload S.1 S.2.1 dX12_partOf_126 (lv_at hl 0 rfl) ?_
          refine lv_bipush (v := 14) S.1 S.2.1 dX12_partOf_128 (by decide) ?_
          refine lv_icmp_ne (tgt := 155) S.1 S.2.1 dX12_partOf_130 (by decide) (fun hc => ?_) (fun hc => ?_)
          · have hf := itf hf hc
            obtain ⟨v8, e9⟩ : ∃ z : Int32, z = x4 + (-1 : Int32) := ⟨_, rfl⟩
            have hf := nm_s e9 hf
            refine lv_iinc (v := v8) (lv' := [(4, .int v8), (6, .int v6), (0, .ref (ad 0)), (2, .int x2), (3, .int x3), (5, .int x5)]) S.1 S.2.1 dX12_partOf_155 hl (k := 4) rfl (by rw [e9]; rfl) (by decide) rfl (fun ls hl => ?_)
            refine lv_aload_n S.1 S.2.1 dX12_partOf_158 rfl (lv_at hl 2 rfl) ?_
            refine mg_WayLeavesModel_stack S hw kf_X12_338 dX12_partOf_159 ?_
            refine lv_iload S.1 S.2.1 dX12_partOf_162 (lv_at hl 0 rfl) ?_
            refine lv_iconst (v := 1) S.1 S.2.1 dX12_partOf_164 (by decide) ?_
            refine lv_isub S.1 S.2.1 dX12_partOf_165 ?_
            refine lv_iload S.1 S.2.1 dX12_partOf_166 (lv_at hl 1 rfl) ?_
            refine lv_aload_n S.1 S.2.1 dX12_partOf_168 rfl (lv_at hl 2 rfl) ?_
            refine mg_WayLeavesModel_stack S hw kf_X12_338 dX12_partOf_169 ?_
            refine lv_iload S.1 S.2.1 dX12_partOf_172 (lv_at hl 0 rfl) ?_
            refine lv_iconst (v := 1) S.1 S.2.1 dX12_partOf_174 (by decide) ?_
            refine lv_isub S.1 S.2.1 dX12_partOf_175 ?_
            obtain ⟨h10, hf⟩ := gd_ix hf
            refine g_iald S hw 38 0 me_38 rfl h10 dX12_partOf_176 ?_
            refine lv_aload_n S.1 S.2.1 dX12_partOf_177 rfl (lv_at hl 2 rfl) ?_
            refine mg_WayLeavesModel_stack S hw kf_X12_338 dX12_partOf_178 ?_
            refine lv_iload S.1 S.2.1 dX12_partOf_181 (lv_at hl 0 rfl) ?_
            obtain ⟨h11, hf⟩ := gd_ix hf
            refine g_iald S hw 38 0 me_38 rfl h11 dX12_partOf_183 ?_
            refine g_Si (rest := [.int (v8 - (1 : Int32)), .ref (ad 38)]) (MWd_ok D ad cs) S hw (tX12_done (ad := ad) (cs := cs) (σ := σ) rfl) kt_X12_344 ⟨Nat.le_of_ble_eq_true rfl, Nat.le_of_ble_eq_true rfl⟩ rfl hl.1 rfl (Nat.le_of_ble_eq_true rfl) ⟨Nat.zero_le _, Nat.zero_le _⟩ dX12_partOf_184 (fun H locs hw => ?_)
            obtain ⟨h12, hf⟩ := gd_ix hf
            obtain ⟨σ13, e14⟩ : ∃ z : St, z = aW σ 38 (v8 - (1 : Int32)) (fX12_done v6 (aR σ 38 (v8 - (1 : Int32))) (aR σ 38 v8)) := ⟨_, rfl⟩
            have hf := nm_s e14 hf
            refine g_iast (σ' := σ13) S hw 38 0 me_38 rfl (by rw [e14]; exact ms_38 _) h12 dX12_partOf_187 (fun H locs hw => ?_)
            exact wX12_partOf_188 S hr hlk hk15 hw (lv_sub hl [2, 3, 4, 0, 5] rfl) hf
          · have hf := itt hf hc
            refine lv_aload_n S.1 S.2.1 dX12_partOf_133 rfl (lv_at hl 1 rfl) ?_
            refine mg_WayLeavesModel_stack S hw kf_X12_338 dX12_partOf_134 ?_
            refine lv_iload S.1 S.2.1 dX12_partOf_137 (lv_at hl 4 rfl) ?_
            refine lv_iconst (v := 1) S.1 S.2.1 dX12_partOf_139 (by decide) ?_
            refine lv_isub S.1 S.2.1 dX12_partOf_140 ?_
            refine lv_aload_n S.1 S.2.1 dX12_partOf_141 rfl (lv_at hl 1 rfl) ?_
            refine mg_WayLeavesModel_stack S hw kf_X12_338 dX12_partOf_142 ?_
            refine lv_iload S.1 S.2.1 dX12_partOf_145 (lv_at hl 4 rfl) ?_
            refine lv_iconst (v := 1) S.1 S.2.1 dX12_partOf_147 (by decide) ?_
            refine lv_isub S.1 S.2.1 dX12_partOf_148 ?_
            obtain ⟨h15, hf⟩ := gd_ix hf
            refine g_iald S hw 38 0 me_38 rfl h15 dX12_partOf_149 ?_
            refine lv_ineg S.1 S.2.1 dX12_partOf_150 ?_
            obtain ⟨h16, hf⟩ := gd_ix hf
            obtain ⟨σ17, e18⟩ : ∃ z : St, z = aW σ 38 (x4 - (1 : Int32)) (-(aR σ 38 (x4 - (1 : Int32)))) := ⟨_, rfl⟩
            have hf := nm_s e18 hf
            refine g_iast (σ' := σ17) S hw 38 0 me_38 rfl (by rw [e18]; exact ms_38 _) h16 dX12_partOf_151 (fun H locs hw => ?_)
            refine lv_goto (tgt := 188) S.1 S.2.1 dX12_partOf_152 (by decide) ?_
            exact wX12_partOf_188 S hr hlk hk15 hw (lv_sub hl [1, 2, 3, 4, 5] rfl) hf
        · have hf := itt hf hc
          refine lv_aload_n S.1 S.2.1 dX12_partOf_97 rfl (lv_at hl 1 rfl) ?_
          refine mg_WayLeavesModel_stack S hw kf_X12_338 dX12_partOf_98 ?_
          refine lv_iload S.1 S.2.1 dX12_partOf_101 (lv_at hl 4 rfl) ?_
          refine lv_iconst (v := 1) S.1 S.2.1 dX12_partOf_103 (by decide) ?_
          refine lv_isub S.1 S.2.1 dX12_partOf_104 ?_
          refine lv_aload_n S.1 S.2.1 dX12_partOf_105 rfl (lv_at hl 1 rfl) ?_
          refine mg_WayLeavesModel_stack S hw kf_X12_338 dX12_partOf_106 ?_
          refine lv_iload S.1 S.2.1 dX12_partOf_109 (lv_at hl 4 rfl) ?_
          refine lv_iconst (v := 1) S.1 S.2.1 dX12_partOf_111 (by decide) ?_
          refine lv_isub S.1 S.2.1 dX12_partOf_112 ?_
          obtain ⟨h19, hf⟩ := gd_ix hf
          refine g_iald S hw 38 0 me_38 rfl h19 dX12_partOf_113 ?_
          refine lv_if_ne (tgt := 121) S.1 S.2.1 dX12_partOf_114 (by decide) (fun hc => ?_) (fun hc => ?_)
          · have hf := itf hf hc
            refine lv_iconst (v := 0) S.1 S.2.1 dX12_partOf_121 (by decide) ?_
            exact wX12_partOf_122 S hr hlk hk15 hw (lv_sub hl [1, 2, 3, 4, 5] rfl) hf
          · have hf := itt hf hc
            refine lv_iconst (v := 1) S.1 S.2.1 dX12_partOf_117 (by decide) ?_
            refine lv_goto (tgt := 122) S.1 S.2.1 dX12_partOf_118 (by decide) ?_
            exact wX12_partOf_122 S hr hlk hk15 hw (lv_sub hl [1, 2, 3, 4, 5] rfl) hf
      · have hf := itf hf hc
        refine lv_aload_n S.1 S.2.1 dX12_partOf_70 rfl (lv_at hl 1 rfl) ?_
        refine mg_WayLeavesModel_stack S hw kf_X12_338 dX12_partOf_71 ?_
        refine lv_iload S.1 S.2.1 dX12_partOf_74 (lv_at hl 4 rfl) ?_
        refine lv_aload_n S.1 S.2.1 dX12_partOf_76 rfl (lv_at hl 1 rfl) ?_
        refine lv_iload S.1 S.2.1 dX12_partOf_77 (lv_at hl 0 rfl) ?_
        refine lv_iload_n S.1 S.2.1 dX12_partOf_79 rfl (lv_at hl 2 rfl) ?_
        obtain ⟨r20, g21, hf⟩ := bd_s hf
        refine g_Vi (rest := [.int x4, .ref (ad 38)]) (MWd_ok D ad cs) S hw (tX12_nameOf g21) kt_X12_341 0 me_0 rfl rfl ⟨Nat.le_of_ble_eq_true rfl, Nat.le_of_ble_eq_true rfl⟩ rfl hl.1 rfl (Nat.le_of_ble_eq_true rfl) ⟨Nat.zero_le _, Nat.zero_le _⟩ dX12_partOf_80 (fun H locs hw => ?_)
        obtain ⟨h22, hf⟩ := gd_ix hf
        obtain ⟨σ23, e24⟩ : ∃ z : St, z = aW σ 38 x4 r20 := ⟨_, rfl⟩
        have hf := nm_s e24 hf
        refine g_iast (σ' := σ23) S hw 38 0 me_38 rfl (by rw [e24]; exact ms_38 _) h22 dX12_partOf_83 (fun H locs hw => ?_)
        obtain ⟨v25, e26⟩ : ∃ z : Int32, z = x4 + (1 : Int32) := ⟨_, rfl⟩
        have hf := nm_s e26 hf
        refine lv_iinc (v := v25) (lv' := [(4, .int v25), (6, .int v6), (0, .ref (ad 0)), (2, .int x2), (3, .int x3), (5, .int x5)]) S.1 S.2.1 dX12_partOf_84 hl (k := 4) rfl (by rw [e26]; rfl) (by decide) rfl (fun ls hl => ?_)
        refine lv_goto (tgt := 188) S.1 S.2.1 dX12_partOf_87 (by decide) ?_
        exact wX12_partOf_188 S hr hlk hk15 hw (lv_sub hl [2, 3, 4, 0, 5] rfl) hf
    · have hf := itf hf hc
      refine lv_aload_n S.1 S.2.1 dX12_partOf_46 rfl (lv_at hl 1 rfl) ?_
      refine mg_WayLeavesModel_stack S hw kf_X12_338 dX12_partOf_47 ?_
      refine lv_iload S.1 S.2.1 dX12_partOf_50 (lv_at hl 4 rfl) ?_
      refine lv_iconst (v := -1) S.1 S.2.1 dX12_partOf_52 (by decide) ?_
      refine lv_iload S.1 S.2.1 dX12_partOf_53 (lv_at hl 0 rfl) ?_
      refine lv_isub S.1 S.2.1 dX12_partOf_55 ?_
      obtain ⟨h27, hf⟩ := gd_ix hf
      obtain ⟨σ28, e29⟩ : ∃ z : St, z = aW σ 38 x4 ((-1 : Int32) - v6) := ⟨_, rfl⟩
      have hf := nm_s e29 hf
      refine g_iast (σ' := σ28) S hw 38 0 me_38 rfl (by rw [e29]; exact ms_38 _) h27 dX12_partOf_56 (fun H locs hw => ?_)
      obtain ⟨v30, e31⟩ : ∃ z : Int32, z = x4 + (1 : Int32) := ⟨_, rfl⟩
      have hf := nm_s e31 hf
      refine lv_iinc (v := v30) (lv' := [(4, .int v30), (6, .int v6), (0, .ref (ad 0)), (2, .int x2), (3, .int x3), (5, .int x5)]) S.1 S.2.1 dX12_partOf_57 hl (k := 4) rfl (by rw [e31]; rfl) (by decide) rfl (fun ls hl => ?_)
      refine lv_goto (tgt := 188) S.1 S.2.1 dX12_partOf_60 (by decide) ?_
      exact wX12_partOf_188 S hr hlk hk15 hw (lv_sub hl [2, 3, 4, 0, 5] rfl) hf
def fX12_partOf_15 (N : Nat) : Nat → St → Int32 → Int32 → Int32 → Int32 → Option (Int32 × St)
  | 0 => fun _ _ _ _ _ => none
  | n + 1 => fX12_partOf_15b N (fX12_partOf_15 N n)
theorem wX12_partOf_15 {r : Int32} {σ' : St} {N : Nat} (S : CallFix p m c cX12_partOf 7 s av BG RX12) (hr : meth.sig.returnType = some .int) (hlk : meth.locks = false) : ∀ (n : Nat), ∀ (σ : St) (x2 : Int32) (x3 : Int32) (x4 : Int32) (x5 : Int32) (ls : Array Slot) (H : Heap) (locs : List Loc), Hw (MWd D ad cs) s σ H locs → lv_has ls 7 [(0, .ref (ad 0)), (2, .int x2), (3, .int x3), (4, .int x4), (5, .int x5)] → fX12_partOf_15 N n σ x2 x3 x4 x5 = some (r, σ') → W p l e (RM 5 106) s m av below meth c H locs 0 0 (QI below (MWd D ad cs) av s r σ') (F0 m 15 ls []) := by
  intro n
  induction n with
  | zero => intro _ _ _ _ _ ls H locs hw hl hf; cases hf
  | succ n ih => intro _ _ _ _ _ ls H locs hw hl hf; exact wX12_partOf_15b S hr hlk ih hw hl hf
def fX12_partOf (N : Nat) (σ : St) (x1 : Int32) (x2 : Int32) : Option (Int32 × St) :=
  nm (((2 : Int32) * (σ.1 7)) + x1) fun v1 => fX12_partOf_15 N N σ x2 v1 (0 : Int32) (0 : Int32)
set_option maxHeartbeats 2000000 in
set_option maxRecDepth 20000 in
theorem tX12_partOf {r : Int32} {σ' : St} {N : Nat} {σ : St} {x1 : Int32} {x2 : Int32} (hf : fX12_partOf N σ x1 x2 = some (r, σ')) : CI l (MWd D ad cs) yX12_partOf cX12_partOf 7 (some .int) 5 106 [.ref (ad 0), .int x1, .int x2] σ r σ' := by
  refine CI.of (by decide) (Nat.le_of_ble_eq_true rfl) ?_
  intro p e s m below meth c ls S hr hlk hw hl
  have hl : lv_has ls 7 [(0, .ref (ad 0)), (1, .int x1), (2, .int x2)] := hl
  unfold fX12_partOf at hf
  refine lv_iconst (v := 2) S.1 S.2.1 dX12_partOf_0 (by decide) ?_
  refine lv_aload_n S.1 S.2.1 dX12_partOf_1 rfl (lv_at hl 0 rfl) ?_
  refine mg_WayLeavesModel_rule S hw kf_X12_335 dX12_partOf_2 ?_
  refine lv_imul S.1 S.2.1 dX12_partOf_5 ?_
  refine lv_iload_n S.1 S.2.1 dX12_partOf_6 rfl (lv_at hl 1 rfl) ?_
  refine lv_iadd S.1 S.2.1 dX12_partOf_7 ?_
  refine lv_topi (fun v1 e2 => ?_)
  have hf := nm_s e2 hf
  refine lv_istore_n (lv' := [(3, .int v1), (0, .ref (ad 0)), (1, .int x1), (2, .int x2)]) S.1 S.2.1 dX12_partOf_8 rfl hl (by decide) rfl (fun ls hl => ?_)
  refine lv_iconst (v := 0) S.1 S.2.1 dX12_partOf_9 (by decide) ?_
  refine lv_istore (lv' := [(4, .int (0 : Int32)), (3, .int v1), (0, .ref (ad 0)), (1, .int x1), (2, .int x2)]) S.1 S.2.1 dX12_partOf_10 hl (by decide) rfl (fun ls hl => ?_)
  refine lv_iconst (v := 0) S.1 S.2.1 dX12_partOf_12 (by decide) ?_
  refine lv_istore (lv' := [(5, .int (0 : Int32)), (4, .int (0 : Int32)), (3, .int v1), (0, .ref (ad 0)), (1, .int x1), (2, .int x2)]) S.1 S.2.1 dX12_partOf_13 hl (by decide) rfl (fun ls hl => ?_)
  exact wX12_partOf_15 S hr hlk N σ x2 v1 (0 : Int32) (0 : Int32) _ _ _ hw (lv_sub hl [3, 5, 2, 1, 0] rfl) hf
def fX12_says (N : Nat) (σ : St) (x1 : Int32) (x2 : Int32) : Option (Int64 × St) :=
  if (fX12_isSpan σ x1) = 0 then (some ((-4611686018427387904 : Int64), σ)) else (if (fX12_isIn (x2).toInt64 (0 : Int64) (1 : Int64)) = 0 then (some ((-4611686018427387904 : Int64), σ)) else (bd2 (fX12_partOf N σ x2 x1) fun r3 σ1 => some ((r3).toInt64, σ1)))
set_option maxHeartbeats 2000000 in
set_option maxRecDepth 20000 in
theorem tX12_says {r : Int64} {σ' : St} {N : Nat} {σ : St} {x1 : Int32} {x2 : Int32} (hf : fX12_says N σ x1 x2 = some (r, σ')) : CJ l (MWd D ad cs) yX12_says cX12_says 3 (some .long) 6 132 [.ref (ad 0), .int x1, .int x2] σ r σ' := by
  refine CJ.of (by decide) (Nat.le_of_ble_eq_true rfl) ?_
  intro p e s m below meth c ls S hr hlk hw hl
  have hl : lv_has ls 3 [(0, .ref (ad 0)), (1, .int x1), (2, .int x2)] := hl
  unfold fX12_says at hf
  refine lv_aload_n S.1 S.2.1 dX12_says_0 rfl (lv_at hl 0 rfl) ?_
  refine lv_iload_n S.1 S.2.1 dX12_says_1 rfl (lv_at hl 1 rfl) ?_
  refine g_Vi (rest := []) (MWd_ok D ad cs) S hw (tX12_isSpan (ad := ad) (cs := cs) (σ := σ) rfl) kt_X12_123 0 me_0 rfl rfl ⟨Nat.le_of_ble_eq_true rfl, Nat.le_of_ble_eq_true rfl⟩ rfl hl.1 rfl (Nat.le_of_ble_eq_true rfl) ⟨Nat.zero_le _, Nat.zero_le _⟩ dX12_says_2 (fun H locs hw => ?_)
  refine lv_if_eq (tgt := 28) S.1 S.2.1 dX12_says_5 (by decide) (fun hc => ?_) (fun hc => ?_)
  · have hf := itt hf hc
    refine lv_ldc2 S.1 S.2.1 S.2.2.2.1 (S.2.2.2.2 _ kc_X12_142) dX12_says_28 ?_
    exact g_jret (MWd_ok D ad cs) S hr hlk hw dX12_says_31 (Prod.mk.inj (Option.some.inj hf)).1 (Prod.mk.inj (Option.some.inj hf)).2
  · have hf := itf hf hc
    refine lv_iload_n S.1 S.2.1 dX12_says_8 rfl (lv_at hl 2 rfl) ?_
    refine lv_i2l S.1 S.2.1 dX12_says_9 rfl ?_
    refine lv_lconst (v := 0) S.1 S.2.1 dX12_says_10 (by decide) ?_
    refine lv_lconst (v := 1) S.1 S.2.1 dX12_says_11 (by decide) ?_
    refine g_Si (rest := []) (MWd_ok D ad cs) S hw (tX12_isIn (ad := ad) (cs := cs) (σ := σ) rfl) kt_X12_5 ⟨Nat.le_of_ble_eq_true rfl, Nat.le_of_ble_eq_true rfl⟩ rfl hl.1 rfl (Nat.le_of_ble_eq_true rfl) ⟨Nat.zero_le _, Nat.zero_le _⟩ dX12_says_12 (fun H locs hw => ?_)
    refine lv_if_eq (tgt := 28) S.1 S.2.1 dX12_says_15 (by decide) (fun hc => ?_) (fun hc => ?_)
    · have hf := itt hf hc
      refine lv_ldc2 S.1 S.2.1 S.2.2.2.1 (S.2.2.2.2 _ kc_X12_142) dX12_says_28 ?_
      exact g_jret (MWd_ok D ad cs) S hr hlk hw dX12_says_31 (Prod.mk.inj (Option.some.inj hf)).1 (Prod.mk.inj (Option.some.inj hf)).2
    · have hf := itf hf hc
      refine lv_aload_n S.1 S.2.1 dX12_says_18 rfl (lv_at hl 0 rfl) ?_
      refine lv_iload_n S.1 S.2.1 dX12_says_19 rfl (lv_at hl 2 rfl) ?_
      refine lv_iload_n S.1 S.2.1 dX12_says_20 rfl (lv_at hl 1 rfl) ?_
      obtain ⟨r3, σ1, g2, hf⟩ := bd2_s hf
      refine g_Vi (rest := []) (MWd_ok D ad cs) S hw (tX12_partOf g2) kt_X12_403 0 me_0 rfl rfl ⟨Nat.le_of_ble_eq_true rfl, Nat.le_of_ble_eq_true rfl⟩ rfl hl.1 rfl (Nat.le_of_ble_eq_true rfl) ⟨Nat.zero_le _, Nat.zero_le _⟩ dX12_says_21 (fun H locs hw => ?_)
      refine lv_i2l S.1 S.2.1 dX12_says_24 rfl ?_
      refine lv_goto (tgt := 31) S.1 S.2.1 dX12_says_25 (by decide) ?_
      exact g_jret (MWd_ok D ad cs) S hr hlk hw dX12_says_31 (Prod.mk.inj (Option.some.inj hf)).1 (Prod.mk.inj (Option.some.inj hf)).2
def fX12_claim (N : Nat) (σ : St) (x1 : Int32) (x2 : Int32) (x3 : Int32) : Option (Int32 × St) :=
  if (fX12_isOwner x1) = 0 then (some ((-2 : Int32), σ)) else (if (fX12_isSpan σ x2) = 0 then (some ((-2 : Int32), σ)) else (if (fX12_isIn (x3).toInt64 (0 : Int64) (99999 : Int64)) = 0 then (some ((-2 : Int32), σ)) else (if (σ.1 17) = (30 : Int32) then (some ((-4 : Int32), σ)) else (if ix (σ.1 17) 30 = true then nm (aW σ 39 (σ.1 17) x1) fun σ2 => if ix (σ2.1 17) 30 = true then nm (aW σ2 40 (σ2.1 17) x2) fun σ5 => if ix (σ5.1 17) 30 = true then nm (aW σ5 41 (σ5.1 17) x3) fun σ8 => nm (sI σ8 17 ((σ8.1 17) + (1 : Int32))) fun σ10 => some (((σ10.1 17) - (1 : Int32)), σ10) else none else none else none))))
set_option maxHeartbeats 2000000 in
set_option maxRecDepth 20000 in
theorem tX12_claim {r : Int32} {σ' : St} {N : Nat} {σ : St} {x1 : Int32} {x2 : Int32} {x3 : Int32} (hf : fX12_claim N σ x1 x2 x3 = some (r, σ')) : CI l (MWd D ad cs) yX12_claim cX12_claim 4 (some .int) 2 45 [.ref (ad 0), .int x1, .int x2, .int x3] σ r σ' := by
  refine CI.of (by decide) (Nat.le_of_ble_eq_true rfl) ?_
  intro p e s m below meth c ls S hr hlk hw hl
  have hl : lv_has ls 4 [(0, .ref (ad 0)), (1, .int x1), (2, .int x2), (3, .int x3)] := hl
  unfold fX12_claim at hf
  refine lv_iload_n S.1 S.2.1 dX12_claim_0 rfl (lv_at hl 1 rfl) ?_
  refine g_Si (rest := []) (MWd_ok D ad cs) S hw (tX12_isOwner (ad := ad) (cs := cs) (σ := σ) rfl) kt_X12_23 ⟨Nat.le_of_ble_eq_true rfl, Nat.le_of_ble_eq_true rfl⟩ rfl hl.1 rfl (Nat.le_of_ble_eq_true rfl) ⟨Nat.zero_le _, Nat.zero_le _⟩ dX12_claim_1 (fun H locs hw => ?_)
  refine lv_if_eq (tgt := 27) S.1 S.2.1 dX12_claim_4 (by decide) (fun hc => ?_) (fun hc => ?_)
  · have hf := itt hf hc
    refine lv_bipush (v := -2) S.1 S.2.1 dX12_claim_27 (by decide) ?_
    exact g_iret (MWd_ok D ad cs) S hr hlk hw dX12_claim_29 (Prod.mk.inj (Option.some.inj hf)).1 (Prod.mk.inj (Option.some.inj hf)).2
  · have hf := itf hf hc
    refine lv_aload_n S.1 S.2.1 dX12_claim_7 rfl (lv_at hl 0 rfl) ?_
    refine lv_iload_n S.1 S.2.1 dX12_claim_8 rfl (lv_at hl 2 rfl) ?_
    refine g_Vi (rest := []) (MWd_ok D ad cs) S hw (tX12_isSpan (ad := ad) (cs := cs) (σ := σ) rfl) kt_X12_123 0 me_0 rfl rfl ⟨Nat.le_of_ble_eq_true rfl, Nat.le_of_ble_eq_true rfl⟩ rfl hl.1 rfl (Nat.le_of_ble_eq_true rfl) ⟨Nat.zero_le _, Nat.zero_le _⟩ dX12_claim_9 (fun H locs hw => ?_)
    refine lv_if_eq (tgt := 27) S.1 S.2.1 dX12_claim_12 (by decide) (fun hc => ?_) (fun hc => ?_)
    · have hf := itt hf hc
      refine lv_bipush (v := -2) S.1 S.2.1 dX12_claim_27 (by decide) ?_
      exact g_iret (MWd_ok D ad cs) S hr hlk hw dX12_claim_29 (Prod.mk.inj (Option.some.inj hf)).1 (Prod.mk.inj (Option.some.inj hf)).2
    · have hf := itf hf hc
      refine lv_iload_n S.1 S.2.1 dX12_claim_15 rfl (lv_at hl 3 rfl) ?_
      refine lv_i2l S.1 S.2.1 dX12_claim_16 rfl ?_
      refine lv_lconst (v := 0) S.1 S.2.1 dX12_claim_17 (by decide) ?_
      refine lv_ldc2 S.1 S.2.1 S.2.2.2.1 (S.2.2.2.2 _ kc_X12_155) dX12_claim_18 ?_
      refine g_Si (rest := []) (MWd_ok D ad cs) S hw (tX12_isIn (ad := ad) (cs := cs) (σ := σ) rfl) kt_X12_5 ⟨Nat.le_of_ble_eq_true rfl, Nat.le_of_ble_eq_true rfl⟩ rfl hl.1 rfl (Nat.le_of_ble_eq_true rfl) ⟨Nat.zero_le _, Nat.zero_le _⟩ dX12_claim_21 (fun H locs hw => ?_)
      refine lv_if_ne (tgt := 30) S.1 S.2.1 dX12_claim_24 (by decide) (fun hc => ?_) (fun hc => ?_)
      · have hf := itf hf hc
        refine lv_aload_n S.1 S.2.1 dX12_claim_30 rfl (lv_at hl 0 rfl) ?_
        refine mg_WayLeavesModel_claims S hw kf_X12_406 dX12_claim_31 ?_
        refine lv_bipush (v := 30) S.1 S.2.1 dX12_claim_34 (by decide) ?_
        refine lv_icmp_ne (tgt := 42) S.1 S.2.1 dX12_claim_36 (by decide) (fun hc => ?_) (fun hc => ?_)
        · have hf := itf hf hc
          refine lv_aload_n S.1 S.2.1 dX12_claim_42 rfl (lv_at hl 0 rfl) ?_
          refine mg_WayLeavesModel_claimOwner S hw kf_X12_352 dX12_claim_43 ?_
          refine lv_aload_n S.1 S.2.1 dX12_claim_46 rfl (lv_at hl 0 rfl) ?_
          refine mg_WayLeavesModel_claims S hw kf_X12_406 dX12_claim_47 ?_
          refine lv_iload_n S.1 S.2.1 dX12_claim_50 rfl (lv_at hl 1 rfl) ?_
          obtain ⟨h1, hf⟩ := gd_ix hf
          obtain ⟨σ2, e3⟩ : ∃ z : St, z = aW σ 39 (σ.1 17) x1 := ⟨_, rfl⟩
          have hf := nm_s e3 hf
          refine g_iast (σ' := σ2) S hw 39 0 me_39 rfl (by rw [e3]; exact ms_39 _) h1 dX12_claim_51 (fun H locs hw => ?_)
          refine lv_aload_n S.1 S.2.1 dX12_claim_52 rfl (lv_at hl 0 rfl) ?_
          refine mg_WayLeavesModel_claimSpan S hw kf_X12_355 dX12_claim_53 ?_
          refine lv_aload_n S.1 S.2.1 dX12_claim_56 rfl (lv_at hl 0 rfl) ?_
          refine mg_WayLeavesModel_claims S hw kf_X12_406 dX12_claim_57 ?_
          refine lv_iload_n S.1 S.2.1 dX12_claim_60 rfl (lv_at hl 2 rfl) ?_
          obtain ⟨h4, hf⟩ := gd_ix hf
          obtain ⟨σ5, e6⟩ : ∃ z : St, z = aW σ2 40 (σ2.1 17) x2 := ⟨_, rfl⟩
          have hf := nm_s e6 hf
          refine g_iast (σ' := σ5) S hw 40 0 me_40 rfl (by rw [e6]; exact ms_40 _) h4 dX12_claim_61 (fun H locs hw => ?_)
          refine lv_aload_n S.1 S.2.1 dX12_claim_62 rfl (lv_at hl 0 rfl) ?_
          refine mg_WayLeavesModel_claimMuch S hw kf_X12_358 dX12_claim_63 ?_
          refine lv_aload_n S.1 S.2.1 dX12_claim_66 rfl (lv_at hl 0 rfl) ?_
          refine mg_WayLeavesModel_claims S hw kf_X12_406 dX12_claim_67 ?_
          refine lv_iload_n S.1 S.2.1 dX12_claim_70 rfl (lv_at hl 3 rfl) ?_
          obtain ⟨h7, hf⟩ := gd_ix hf
          obtain ⟨σ8, e9⟩ : ∃ z : St, z = aW σ5 41 (σ5.1 17) x3 := ⟨_, rfl⟩
          have hf := nm_s e9 hf
          refine g_iast (σ' := σ8) S hw 41 0 me_41 rfl (by rw [e9]; exact ms_41 _) h7 dX12_claim_71 (fun H locs hw => ?_)
          refine lv_aload_n S.1 S.2.1 dX12_claim_72 rfl (lv_at hl 0 rfl) ?_
          refine lv_dup S.1 S.2.1 dX12_claim_73 rfl ?_
          refine mg_WayLeavesModel_claims S hw kf_X12_406 dX12_claim_74 ?_
          refine lv_iconst (v := 1) S.1 S.2.1 dX12_claim_77 (by decide) ?_
          refine lv_iadd S.1 S.2.1 dX12_claim_78 ?_
          obtain ⟨σ10, e11⟩ : ∃ z : St, z = sI σ8 17 ((σ8.1 17) + (1 : Int32)) := ⟨_, rfl⟩
          have hf := nm_s e11 hf
          refine mp_WayLeavesModel_claims S hw e11 kf_X12_406 dX12_claim_79 (fun H locs hw => ?_)
          refine lv_aload_n S.1 S.2.1 dX12_claim_82 rfl (lv_at hl 0 rfl) ?_
          refine mg_WayLeavesModel_claims S hw kf_X12_406 dX12_claim_83 ?_
          refine lv_iconst (v := 1) S.1 S.2.1 dX12_claim_86 (by decide) ?_
          refine lv_isub S.1 S.2.1 dX12_claim_87 ?_
          exact g_iret (MWd_ok D ad cs) S hr hlk hw dX12_claim_88 (Prod.mk.inj (Option.some.inj hf)).1 (Prod.mk.inj (Option.some.inj hf)).2
        · have hf := itt hf hc
          refine lv_bipush (v := -4) S.1 S.2.1 dX12_claim_39 (by decide) ?_
          exact g_iret (MWd_ok D ad cs) S hr hlk hw dX12_claim_41 (Prod.mk.inj (Option.some.inj hf)).1 (Prod.mk.inj (Option.some.inj hf)).2
      · have hf := itt hf hc
        refine lv_bipush (v := -2) S.1 S.2.1 dX12_claim_27 (by decide) ?_
        exact g_iret (MWd_ok D ad cs) S hr hlk hw dX12_claim_29 (Prod.mk.inj (Option.some.inj hf)).1 (Prod.mk.inj (Option.some.inj hf)).2
def fX12_isDoubled_48 (N : Nat) (σ : St) (k4 : Int32 → Int32 → Int32 → Option Int32) (x1 : Int32) (x3 : Int32) (y0 : Int32) : Option Int32 :=
  nm (x3 + (1 : Int32)) fun v6 => k4 x1 y0 v6
set_option maxHeartbeats 2000000 in
set_option maxRecDepth 20000 in
theorem wX12_isDoubled_48 {r : Int32} {N : Nat} {σ : St} (S : CallFix p m c cX12_isDoubled 4 s av BG RX12) (hr : meth.sig.returnType = some .boolean) (hlk : meth.locks = false) {k4 : Int32 → Int32 → Int32 → Option Int32} (hk4 : ∀ (x1 : Int32) (x2 : Int32) (x3 : Int32) (ls : Array Slot) (H : Heap) (locs : List Loc), Hw (MWd D ad cs) s σ H locs → lv_has ls 4 [(0, .ref (ad 0)), (1, .int x1), (2, .int x2), (3, .int x3)] → k4 x1 x2 x3 = some r → W p l e (RM 0 0) s m av below meth c H locs 0 0 (QI below (MWd D ad cs) av s r σ) (F0 m 4 ls []))  {x1 : Int32} {x3 : Int32} {y0 : Int32} {ls : Array Slot} {H : Heap} {locs : List Loc} (hw : Hw (MWd D ad cs) s σ H locs) (hl : lv_has ls 4 [(0, .ref (ad 0)), (1, .int x1), (3, .int x3)]) (hf : fX12_isDoubled_48 N σ k4 x1 x3 y0 = some r) : W p l e (RM 0 0) s m av below meth c H locs 0 0 (QI below (MWd D ad cs) av s r σ) (F0 m 48 ls [.int y0]) := by
  unfold fX12_isDoubled_48 at hf
  refine lv_istore_n (lv' := [(2, .int y0), (0, .ref (ad 0)), (1, .int x1), (3, .int x3)]) S.1 S.2.1 dX12_isDoubled_48 rfl hl (by decide) rfl (fun ls hl => ?_)
  obtain ⟨v6, e7⟩ : ∃ z : Int32, z = x3 + (1 : Int32) := ⟨_, rfl⟩
  have hf := nm_s e7 hf
  refine lv_iinc (v := v6) (lv' := [(3, .int v6), (2, .int y0), (0, .ref (ad 0)), (1, .int x1)]) S.1 S.2.1 dX12_isDoubled_49 hl (k := 3) rfl (by rw [e7]; rfl) (by decide) rfl (fun ls hl => ?_)
  refine lv_goto (tgt := 4) S.1 S.2.1 dX12_isDoubled_52 (by decide) ?_
  exact hk4 x1 y0 v6 _ _ _ hw (lv_sub hl [2, 3, 1, 0] rfl) hf
def fX12_isDoubled_43 (N : Nat) (σ : St) (k4 : Int32 → Int32 → Int32 → Option Int32) (x1 : Int32) (x3 : Int32) : Option Int32 :=
  fX12_isDoubled_48 N σ k4 x1 x3 (1 : Int32)
set_option maxHeartbeats 2000000 in
set_option maxRecDepth 20000 in
theorem wX12_isDoubled_43 {r : Int32} {N : Nat} {σ : St} (S : CallFix p m c cX12_isDoubled 4 s av BG RX12) (hr : meth.sig.returnType = some .boolean) (hlk : meth.locks = false) {k4 : Int32 → Int32 → Int32 → Option Int32} (hk4 : ∀ (x1 : Int32) (x2 : Int32) (x3 : Int32) (ls : Array Slot) (H : Heap) (locs : List Loc), Hw (MWd D ad cs) s σ H locs → lv_has ls 4 [(0, .ref (ad 0)), (1, .int x1), (2, .int x2), (3, .int x3)] → k4 x1 x2 x3 = some r → W p l e (RM 0 0) s m av below meth c H locs 0 0 (QI below (MWd D ad cs) av s r σ) (F0 m 4 ls []))  {x1 : Int32} {x3 : Int32} {ls : Array Slot} {H : Heap} {locs : List Loc} (hw : Hw (MWd D ad cs) s σ H locs) (hl : lv_has ls 4 [(0, .ref (ad 0)), (1, .int x1), (3, .int x3)]) (hf : fX12_isDoubled_43 N σ k4 x1 x3 = some r) : W p l e (RM 0 0) s m av below meth c H locs 0 0 (QI below (MWd D ad cs) av s r σ) (F0 m 43 ls []) := by
  unfold fX12_isDoubled_43 at hf
  refine lv_iconst (v := 1) S.1 S.2.1 dX12_isDoubled_43 (by decide) ?_
  refine lv_goto (tgt := 48) S.1 S.2.1 dX12_isDoubled_44 (by decide) ?_
  exact wX12_isDoubled_48 S hr hlk hk4 hw (lv_sub hl [0, 1, 2] rfl) hf
def fX12_isDoubled_47 (N : Nat) (σ : St) (k4 : Int32 → Int32 → Int32 → Option Int32) (x1 : Int32) (x3 : Int32) : Option Int32 :=
  fX12_isDoubled_48 N σ k4 x1 x3 (0 : Int32)
set_option maxHeartbeats 2000000 in
set_option maxRecDepth 20000 in
theorem wX12_isDoubled_47 {r : Int32} {N : Nat} {σ : St} (S : CallFix p m c cX12_isDoubled 4 s av BG RX12) (hr : meth.sig.returnType = some .boolean) (hlk : meth.locks = false) {k4 : Int32 → Int32 → Int32 → Option Int32} (hk4 : ∀ (x1 : Int32) (x2 : Int32) (x3 : Int32) (ls : Array Slot) (H : Heap) (locs : List Loc), Hw (MWd D ad cs) s σ H locs → lv_has ls 4 [(0, .ref (ad 0)), (1, .int x1), (2, .int x2), (3, .int x3)] → k4 x1 x2 x3 = some r → W p l e (RM 0 0) s m av below meth c H locs 0 0 (QI below (MWd D ad cs) av s r σ) (F0 m 4 ls []))  {x1 : Int32} {x3 : Int32} {ls : Array Slot} {H : Heap} {locs : List Loc} (hw : Hw (MWd D ad cs) s σ H locs) (hl : lv_has ls 4 [(0, .ref (ad 0)), (1, .int x1), (3, .int x3)]) (hf : fX12_isDoubled_47 N σ k4 x1 x3 = some r) : W p l e (RM 0 0) s m av below meth c H locs 0 0 (QI below (MWd D ad cs) av s r σ) (F0 m 47 ls []) := by
  unfold fX12_isDoubled_47 at hf
  refine lv_iconst (v := 0) S.1 S.2.1 dX12_isDoubled_47 (by decide) ?_
  exact wX12_isDoubled_48 S hr hlk hk4 hw (lv_sub hl [0, 1, 2] rfl) hf
def fX12_isDoubled_4b (N : Nat) (σ : St) (k4 : Int32 → Int32 → Int32 → Option Int32) (x1 : Int32) (x2 : Int32) (x3 : Int32) : Option Int32 :=
  if x1 ≤ x3 then (if bz x2 = true then some x2 else none) else (if x2 = 0 then (if ix x3 30 = true then if ix x1 30 = true then if (aR σ 39 x3) = (aR σ 39 x1) then (if ix x3 30 = true then if ix x1 30 = true then if (aR σ 40 x3) = (aR σ 40 x1) then (fX12_isDoubled_43 N σ k4 x1 x3) else (fX12_isDoubled_47 N σ k4 x1 x3) else none else none) else (fX12_isDoubled_47 N σ k4 x1 x3) else none else none) else (fX12_isDoubled_43 N σ k4 x1 x3))
set_option maxHeartbeats 2000000 in
set_option maxRecDepth 20000 in
theorem wX12_isDoubled_4b {r : Int32} {N : Nat} {σ : St} (S : CallFix p m c cX12_isDoubled 4 s av BG RX12) (hr : meth.sig.returnType = some .boolean) (hlk : meth.locks = false) {k4 : Int32 → Int32 → Int32 → Option Int32} (hk4 : ∀ (x1 : Int32) (x2 : Int32) (x3 : Int32) (ls : Array Slot) (H : Heap) (locs : List Loc), Hw (MWd D ad cs) s σ H locs → lv_has ls 4 [(0, .ref (ad 0)), (1, .int x1), (2, .int x2), (3, .int x3)] → k4 x1 x2 x3 = some r → W p l e (RM 0 0) s m av below meth c H locs 0 0 (QI below (MWd D ad cs) av s r σ) (F0 m 4 ls []))  {x1 : Int32} {x2 : Int32} {x3 : Int32} {ls : Array Slot} {H : Heap} {locs : List Loc} (hw : Hw (MWd D ad cs) s σ H locs) (hl : lv_has ls 4 [(0, .ref (ad 0)), (1, .int x1), (2, .int x2), (3, .int x3)]) (hf : fX12_isDoubled_4b N σ k4 x1 x2 x3 = some r) : W p l e (RM 0 0) s m av below meth c H locs 0 0 (QI below (MWd D ad cs) av s r σ) (F0 m 4 ls []) := by
  unfold fX12_isDoubled_4b at hf
  refine lv_iload_n S.1 S.2.1 dX12_isDoubled_4 rfl (lv_at hl 3 rfl) ?_
  refine lv_iload_n S.1 S.2.1 dX12_isDoubled_5 rfl (lv_at hl 1 rfl) ?_
  refine lv_icmp_ge (tgt := 55) S.1 S.2.1 dX12_isDoubled_6 (by decide) (fun hc => ?_) (fun hc => ?_)
  · have hf := itt hf hc
    refine lv_iload_n S.1 S.2.1 dX12_isDoubled_55 rfl (lv_at hl 2 rfl) ?_
    obtain ⟨h1, hf⟩ := gd_t hf
    exact g_zret (MWd_ok D ad cs) S hr hlk hw (bz_n h1) dX12_isDoubled_56 (Option.some.inj hf) rfl
  · have hf := itf hf hc
    refine lv_iload_n S.1 S.2.1 dX12_isDoubled_9 rfl (lv_at hl 2 rfl) ?_
    refine lv_if_ne (tgt := 43) S.1 S.2.1 dX12_isDoubled_10 (by decide) (fun hc => ?_) (fun hc => ?_)
    · have hf := itf hf hc
      exact wX12_isDoubled_43 S hr hlk hk4 hw (lv_sub hl [0, 1, 3] rfl) hf
    · have hf := itt hf hc
      refine lv_aload_n S.1 S.2.1 dX12_isDoubled_13 rfl (lv_at hl 0 rfl) ?_
      refine mg_WayLeavesModel_claimOwner S hw kf_X12_352 dX12_isDoubled_14 ?_
      refine lv_iload_n S.1 S.2.1 dX12_isDoubled_17 rfl (lv_at hl 3 rfl) ?_
      obtain ⟨h2, hf⟩ := gd_ix hf
      refine g_iald S hw 39 0 me_39 rfl h2 dX12_isDoubled_18 ?_
      refine lv_aload_n S.1 S.2.1 dX12_isDoubled_19 rfl (lv_at hl 0 rfl) ?_
      refine mg_WayLeavesModel_claimOwner S hw kf_X12_352 dX12_isDoubled_20 ?_
      refine lv_iload_n S.1 S.2.1 dX12_isDoubled_23 rfl (lv_at hl 1 rfl) ?_
      obtain ⟨h3, hf⟩ := gd_ix hf
      refine g_iald S hw 39 0 me_39 rfl h3 dX12_isDoubled_24 ?_
      refine lv_icmp_ne (tgt := 47) S.1 S.2.1 dX12_isDoubled_25 (by decide) (fun hc => ?_) (fun hc => ?_)
      · have hf := itf hf hc
        exact wX12_isDoubled_47 S hr hlk hk4 hw (lv_sub hl [0, 1, 3] rfl) hf
      · have hf := itt hf hc
        refine lv_aload_n S.1 S.2.1 dX12_isDoubled_28 rfl (lv_at hl 0 rfl) ?_
        refine mg_WayLeavesModel_claimSpan S hw kf_X12_355 dX12_isDoubled_29 ?_
        refine lv_iload_n S.1 S.2.1 dX12_isDoubled_32 rfl (lv_at hl 3 rfl) ?_
        obtain ⟨h4, hf⟩ := gd_ix hf
        refine g_iald S hw 40 0 me_40 rfl h4 dX12_isDoubled_33 ?_
        refine lv_aload_n S.1 S.2.1 dX12_isDoubled_34 rfl (lv_at hl 0 rfl) ?_
        refine mg_WayLeavesModel_claimSpan S hw kf_X12_355 dX12_isDoubled_35 ?_
        refine lv_iload_n S.1 S.2.1 dX12_isDoubled_38 rfl (lv_at hl 1 rfl) ?_
        obtain ⟨h5, hf⟩ := gd_ix hf
        refine g_iald S hw 40 0 me_40 rfl h5 dX12_isDoubled_39 ?_
        refine lv_icmp_ne (tgt := 47) S.1 S.2.1 dX12_isDoubled_40 (by decide) (fun hc => ?_) (fun hc => ?_)
        · have hf := itf hf hc
          exact wX12_isDoubled_47 S hr hlk hk4 hw (lv_sub hl [0, 1, 3] rfl) hf
        · have hf := itt hf hc
          exact wX12_isDoubled_43 S hr hlk hk4 hw (lv_sub hl [0, 1, 3] rfl) hf
def fX12_isDoubled_4 (N : Nat) (σ : St) : Nat → Int32 → Int32 → Int32 → Option Int32
  | 0 => fun _ _ _ => none
  | n + 1 => fX12_isDoubled_4b N σ (fX12_isDoubled_4 N σ n)
theorem wX12_isDoubled_4 {r : Int32} {N : Nat} {σ : St} (S : CallFix p m c cX12_isDoubled 4 s av BG RX12) (hr : meth.sig.returnType = some .boolean) (hlk : meth.locks = false) : ∀ (n : Nat), ∀ (x1 : Int32) (x2 : Int32) (x3 : Int32) (ls : Array Slot) (H : Heap) (locs : List Loc), Hw (MWd D ad cs) s σ H locs → lv_has ls 4 [(0, .ref (ad 0)), (1, .int x1), (2, .int x2), (3, .int x3)] → fX12_isDoubled_4 N σ n x1 x2 x3 = some r → W p l e (RM 0 0) s m av below meth c H locs 0 0 (QI below (MWd D ad cs) av s r σ) (F0 m 4 ls []) := by
  intro n
  induction n with
  | zero => intro _ _ _ ls H locs hw hl hf; cases hf
  | succ n ih => intro _ _ _ ls H locs hw hl hf; exact wX12_isDoubled_4b S hr hlk ih hw hl hf
def fX12_isDoubled (N : Nat) (σ : St) (x1 : Int32) : Option Int32 :=
  fX12_isDoubled_4 N σ N x1 (0 : Int32) (0 : Int32)
set_option maxHeartbeats 2000000 in
set_option maxRecDepth 20000 in
theorem tX12_isDoubled {r : Int32} {N : Nat} {σ : St} {x1 : Int32} (hf : fX12_isDoubled N σ x1 = some r) : CI l (MWd D ad cs) yX12_isDoubled cX12_isDoubled 4 (some .boolean) 0 0 [.ref (ad 0), .int x1] σ r σ := by
  refine CI.of (by decide) (Nat.le_of_ble_eq_true rfl) ?_
  intro p e s m below meth c ls S hr hlk hw hl
  have hl : lv_has ls 4 [(0, .ref (ad 0)), (1, .int x1)] := hl
  unfold fX12_isDoubled at hf
  refine lv_iconst (v := 0) S.1 S.2.1 dX12_isDoubled_0 (by decide) ?_
  refine lv_istore_n (lv' := [(2, .int (0 : Int32)), (0, .ref (ad 0)), (1, .int x1)]) S.1 S.2.1 dX12_isDoubled_1 rfl hl (by decide) rfl (fun ls hl => ?_)
  refine lv_iconst (v := 0) S.1 S.2.1 dX12_isDoubled_2 (by decide) ?_
  refine lv_istore_n (lv' := [(3, .int (0 : Int32)), (2, .int (0 : Int32)), (0, .ref (ad 0)), (1, .int x1)]) S.1 S.2.1 dX12_isDoubled_3 rfl hl (by decide) rfl (fun ls hl => ?_)
  exact wX12_isDoubled_4 S hr hlk N x1 (0 : Int32) (0 : Int32) _ _ _ hw (lv_sub hl [2, 3, 1, 0] rfl) hf
def fX12_doubled_28 (N : Nat) (σ : St) (k4 : Int32 → Int32 → Option Int32) (x2 : Int32) (y0 : Int32) (y1 : Int32) : Option Int32 :=
  nm (y0 ||| y1) fun v3 => nm (x2 + (1 : Int32)) fun v5 => k4 v3 v5
set_option maxHeartbeats 2000000 in
set_option maxRecDepth 20000 in
theorem wX12_doubled_28 {r : Int32} {N : Nat} {σ : St} (S : CallFix p m c cX12_doubled 3 s av BG RX12) (hr : meth.sig.returnType = some .int) (hlk : meth.locks = false) {k4 : Int32 → Int32 → Option Int32} (hk4 : ∀ (x1 : Int32) (x2 : Int32) (ls : Array Slot) (H : Heap) (locs : List Loc), Hw (MWd D ad cs) s σ H locs → lv_has ls 3 [(0, .ref (ad 0)), (1, .int x1), (2, .int x2)] → k4 x1 x2 = some r → W p l e (RM 1 23) s m av below meth c H locs 0 0 (QI below (MWd D ad cs) av s r σ) (F0 m 4 ls []))  {x2 : Int32} {y0 : Int32} {y1 : Int32} {ls : Array Slot} {H : Heap} {locs : List Loc} (hw : Hw (MWd D ad cs) s σ H locs) (hl : lv_has ls 3 [(0, .ref (ad 0)), (2, .int x2)]) (hf : fX12_doubled_28 N σ k4 x2 y0 y1 = some r) : W p l e (RM 1 23) s m av below meth c H locs 0 0 (QI below (MWd D ad cs) av s r σ) (F0 m 28 ls [.int y1, .int y0]) := by
  unfold fX12_doubled_28 at hf
  refine lv_ior S.1 S.2.1 dX12_doubled_28 ?_
  refine lv_topi (fun v3 e4 => ?_)
  have hf := nm_s e4 hf
  refine lv_istore_n (lv' := [(1, .int v3), (0, .ref (ad 0)), (2, .int x2)]) S.1 S.2.1 dX12_doubled_29 rfl hl (by decide) rfl (fun ls hl => ?_)
  obtain ⟨v5, e6⟩ : ∃ z : Int32, z = x2 + (1 : Int32) := ⟨_, rfl⟩
  have hf := nm_s e6 hf
  refine lv_iinc (v := v5) (lv' := [(2, .int v5), (1, .int v3), (0, .ref (ad 0))]) S.1 S.2.1 dX12_doubled_30 hl (k := 2) rfl (by rw [e6]; rfl) (by decide) rfl (fun ls hl => ?_)
  refine lv_goto (tgt := 4) S.1 S.2.1 dX12_doubled_33 (by decide) ?_
  exact hk4 v3 v5 _ _ _ hw (lv_sub hl [2, 1, 0] rfl) hf
def fX12_doubled_4b (N : Nat) (σ : St) (k4 : Int32 → Int32 → Option Int32) (x1 : Int32) (x2 : Int32) : Option Int32 :=
  if (σ.1 17) ≤ x2 then (some x1) else (bd (fX12_isDoubled N σ x2) fun r1 => if r1 = 0 then (fX12_doubled_28 N σ k4 x2 x1 (0 : Int32)) else (fX12_doubled_28 N σ k4 x2 x1 ((1 : Int32) <<< (x2 &&& 31))))
set_option maxHeartbeats 2000000 in
set_option maxRecDepth 20000 in
theorem wX12_doubled_4b {r : Int32} {N : Nat} {σ : St} (S : CallFix p m c cX12_doubled 3 s av BG RX12) (hr : meth.sig.returnType = some .int) (hlk : meth.locks = false) {k4 : Int32 → Int32 → Option Int32} (hk4 : ∀ (x1 : Int32) (x2 : Int32) (ls : Array Slot) (H : Heap) (locs : List Loc), Hw (MWd D ad cs) s σ H locs → lv_has ls 3 [(0, .ref (ad 0)), (1, .int x1), (2, .int x2)] → k4 x1 x2 = some r → W p l e (RM 1 23) s m av below meth c H locs 0 0 (QI below (MWd D ad cs) av s r σ) (F0 m 4 ls []))  {x1 : Int32} {x2 : Int32} {ls : Array Slot} {H : Heap} {locs : List Loc} (hw : Hw (MWd D ad cs) s σ H locs) (hl : lv_has ls 3 [(0, .ref (ad 0)), (1, .int x1), (2, .int x2)]) (hf : fX12_doubled_4b N σ k4 x1 x2 = some r) : W p l e (RM 1 23) s m av below meth c H locs 0 0 (QI below (MWd D ad cs) av s r σ) (F0 m 4 ls []) := by
  unfold fX12_doubled_4b at hf
  refine lv_iload_n S.1 S.2.1 dX12_doubled_4 rfl (lv_at hl 2 rfl) ?_
  refine lv_aload_n S.1 S.2.1 dX12_doubled_5 rfl (lv_at hl 0 rfl) ?_
  refine mg_WayLeavesModel_claims S hw kf_X12_406 dX12_doubled_6 ?_
  refine lv_icmp_ge (tgt := 36) S.1 S.2.1 dX12_doubled_9 (by decide) (fun hc => ?_) (fun hc => ?_)
  · have hf := itt hf hc
    refine lv_iload_n S.1 S.2.1 dX12_doubled_36 rfl (lv_at hl 1 rfl) ?_
    exact g_iret (MWd_ok D ad cs) S hr hlk hw dX12_doubled_37 (Option.some.inj hf) rfl
  · have hf := itf hf hc
    refine lv_iload_n S.1 S.2.1 dX12_doubled_12 rfl (lv_at hl 1 rfl) ?_
    refine lv_aload_n S.1 S.2.1 dX12_doubled_13 rfl (lv_at hl 0 rfl) ?_
    refine lv_iload_n S.1 S.2.1 dX12_doubled_14 rfl (lv_at hl 2 rfl) ?_
    obtain ⟨r1, g2, hf⟩ := bd_s hf
    refine g_Vi (rest := [.int x1]) (MWd_ok D ad cs) S hw (tX12_isDoubled g2) kt_X12_409 0 me_0 rfl rfl ⟨Nat.le_of_ble_eq_true rfl, Nat.le_of_ble_eq_true rfl⟩ rfl hl.1 rfl (Nat.le_of_ble_eq_true rfl) ⟨Nat.zero_le _, Nat.zero_le _⟩ dX12_doubled_15 (fun H locs hw => ?_)
    refine lv_if_eq (tgt := 27) S.1 S.2.1 dX12_doubled_18 (by decide) (fun hc => ?_) (fun hc => ?_)
    · have hf := itt hf hc
      refine lv_iconst (v := 0) S.1 S.2.1 dX12_doubled_27 (by decide) ?_
      exact wX12_doubled_28 S hr hlk hk4 hw (lv_sub hl [0, 2] rfl) hf
    · have hf := itf hf hc
      refine lv_iconst (v := 1) S.1 S.2.1 dX12_doubled_21 (by decide) ?_
      refine lv_iload_n S.1 S.2.1 dX12_doubled_22 rfl (lv_at hl 2 rfl) ?_
      refine lv_ishl S.1 S.2.1 dX12_doubled_23 ?_
      refine lv_goto (tgt := 28) S.1 S.2.1 dX12_doubled_24 (by decide) ?_
      exact wX12_doubled_28 S hr hlk hk4 hw (lv_sub hl [0, 2] rfl) hf
def fX12_doubled_4 (N : Nat) (σ : St) : Nat → Int32 → Int32 → Option Int32
  | 0 => fun _ _ => none
  | n + 1 => fX12_doubled_4b N σ (fX12_doubled_4 N σ n)
theorem wX12_doubled_4 {r : Int32} {N : Nat} {σ : St} (S : CallFix p m c cX12_doubled 3 s av BG RX12) (hr : meth.sig.returnType = some .int) (hlk : meth.locks = false) : ∀ (n : Nat), ∀ (x1 : Int32) (x2 : Int32) (ls : Array Slot) (H : Heap) (locs : List Loc), Hw (MWd D ad cs) s σ H locs → lv_has ls 3 [(0, .ref (ad 0)), (1, .int x1), (2, .int x2)] → fX12_doubled_4 N σ n x1 x2 = some r → W p l e (RM 1 23) s m av below meth c H locs 0 0 (QI below (MWd D ad cs) av s r σ) (F0 m 4 ls []) := by
  intro n
  induction n with
  | zero => intro _ _ ls H locs hw hl hf; cases hf
  | succ n ih => intro _ _ ls H locs hw hl hf; exact wX12_doubled_4b S hr hlk ih hw hl hf
def fX12_doubled (N : Nat) (σ : St) : Option Int32 :=
  fX12_doubled_4 N σ N (0 : Int32) (0 : Int32)
set_option maxHeartbeats 2000000 in
set_option maxRecDepth 20000 in
theorem tX12_doubled {r : Int32} {N : Nat} {σ : St} (hf : fX12_doubled N σ = some r) : CI l (MWd D ad cs) yX12_doubled cX12_doubled 3 (some .int) 1 23 [.ref (ad 0)] σ r σ := by
  refine CI.of (by decide) (Nat.le_of_ble_eq_true rfl) ?_
  intro p e s m below meth c ls S hr hlk hw hl
  have hl : lv_has ls 3 [(0, .ref (ad 0))] := hl
  unfold fX12_doubled at hf
  refine lv_iconst (v := 0) S.1 S.2.1 dX12_doubled_0 (by decide) ?_
  refine lv_istore_n (lv' := [(1, .int (0 : Int32)), (0, .ref (ad 0))]) S.1 S.2.1 dX12_doubled_1 rfl hl (by decide) rfl (fun ls hl => ?_)
  refine lv_iconst (v := 0) S.1 S.2.1 dX12_doubled_2 (by decide) ?_
  refine lv_istore_n (lv' := [(2, .int (0 : Int32)), (1, .int (0 : Int32)), (0, .ref (ad 0))]) S.1 S.2.1 dX12_doubled_3 rfl hl (by decide) rfl (fun ls hl => ?_)
  exact wX12_doubled_4 S hr hlk N (0 : Int32) (0 : Int32) _ _ _ hw (lv_sub hl [2, 1, 0] rfl) hf
def fX12_due_90 (N : Nat) (k17 : St → Int32 → Int32 → Option (Int64 × St)) (σ : St) (x1 : Int32) (x2 : Int32) : Option (Int64 × St) :=
  nm (x2 + (1 : Int32)) fun v20 => k17 σ x1 v20
set_option maxHeartbeats 2000000 in
set_option maxRecDepth 20000 in
theorem wX12_due_90 {r : Int64} {σ' : St} {N : Nat} (S : CallFix p m c cX12_due 3 s av BG RX12) (hr : meth.sig.returnType = some .long) (hlk : meth.locks = false) {k17 : St → Int32 → Int32 → Option (Int64 × St)} (hk17 : ∀ (σ : St) (x1 : Int32) (x2 : Int32) (ls : Array Slot) (H : Heap) (locs : List Loc), Hw (MWd D ad cs) s σ H locs → lv_has ls 3 [(0, .ref (ad 0)), (1, .int x1), (2, .int x2)] → k17 σ x1 x2 = some (r, σ') → W p l e (RM 6 132) s m av below meth c H locs 0 0 (QJ below (MWd D ad cs) av s r σ') (F0 m 17 ls []))  {σ : St} {x1 : Int32} {x2 : Int32} {ls : Array Slot} {H : Heap} {locs : List Loc} (hw : Hw (MWd D ad cs) s σ H locs) (hl : lv_has ls 3 [(0, .ref (ad 0)), (1, .int x1), (2, .int x2)]) (hf : fX12_due_90 N k17 σ x1 x2 = some (r, σ')) : W p l e (RM 6 132) s m av below meth c H locs 0 0 (QJ below (MWd D ad cs) av s r σ') (F0 m 90 ls []) := by
  unfold fX12_due_90 at hf
  obtain ⟨v20, e21⟩ : ∃ z : Int32, z = x2 + (1 : Int32) := ⟨_, rfl⟩
  have hf := nm_s e21 hf
  refine lv_iinc (v := v20) (lv' := [(2, .int v20), (0, .ref (ad 0)), (1, .int x1)]) S.1 S.2.1 dX12_due_90 hl (k := 2) rfl (by rw [e21]; rfl) (by decide) rfl (fun ls hl => ?_)
  refine lv_goto (tgt := 17) S.1 S.2.1 dX12_due_93 (by decide) ?_
  exact hk17 σ x1 v20 _ _ _ hw (lv_sub hl [1, 2, 0] rfl) hf
def fX12_due_17b (N : Nat) (k17 : St → Int32 → Int32 → Option (Int64 × St)) (σ : St) (x1 : Int32) (x2 : Int32) : Option (Int64 × St) :=
  if (σ.1 17) ≤ x2 then (bd (fX12_parted N σ x1) fun r3 => some (r3, σ)) else (bd (fX12_isDoubled N σ x2) fun r5 => if r5 = 0 then (if ix x2 30 = true then bd (fX12_hasIn N σ (aR σ 40 x2) (σ.1 0)) fun r8 => if r8 = (1 : Int32) then (fX12_due_90 N k17 σ x1 x2) else (if ix x2 30 = true then if ix (aR σ 39 x2) 10 = true then if ix x2 30 = true then if ix x2 30 = true then bd2 (fX12_partOf N σ (1 : Int32) (aR σ 40 x2)) fun r16 σ14 => if ix (aR σ 39 x2) 10 = true then nm (jW σ14 30 (aR σ 39 x2) ((jR σ 30 (aR σ 39 x2)) + ((if (if (0 : Int32) < r16 then r16 else (0 : Int32)) < (aR σ 41 x2) then (if (0 : Int32) < r16 then r16 else (0 : Int32)) else (aR σ 41 x2))).toInt64)) fun σ18 => fX12_due_90 N k17 σ18 x1 x2 else none else none else none else none else none) else none) else (fX12_due_90 N k17 σ x1 x2))
set_option maxHeartbeats 2000000 in
set_option maxRecDepth 20000 in
theorem wX12_due_17b {r : Int64} {σ' : St} {N : Nat} (S : CallFix p m c cX12_due 3 s av BG RX12) (hr : meth.sig.returnType = some .long) (hlk : meth.locks = false) {k17 : St → Int32 → Int32 → Option (Int64 × St)} (hk17 : ∀ (σ : St) (x1 : Int32) (x2 : Int32) (ls : Array Slot) (H : Heap) (locs : List Loc), Hw (MWd D ad cs) s σ H locs → lv_has ls 3 [(0, .ref (ad 0)), (1, .int x1), (2, .int x2)] → k17 σ x1 x2 = some (r, σ') → W p l e (RM 6 132) s m av below meth c H locs 0 0 (QJ below (MWd D ad cs) av s r σ') (F0 m 17 ls []))  {σ : St} {x1 : Int32} {x2 : Int32} {ls : Array Slot} {H : Heap} {locs : List Loc} (hw : Hw (MWd D ad cs) s σ H locs) (hl : lv_has ls 3 [(0, .ref (ad 0)), (1, .int x1), (2, .int x2)]) (hf : fX12_due_17b N k17 σ x1 x2 = some (r, σ')) : W p l e (RM 6 132) s m av below meth c H locs 0 0 (QJ below (MWd D ad cs) av s r σ') (F0 m 17 ls []) := by
  unfold fX12_due_17b at hf
  refine lv_iload_n S.1 S.2.1 dX12_due_17 rfl (lv_at hl 2 rfl) ?_
  refine lv_aload_n S.1 S.2.1 dX12_due_18 rfl (lv_at hl 0 rfl) ?_
  refine mg_WayLeavesModel_claims S hw kf_X12_406 dX12_due_19 ?_
  refine lv_icmp_ge (tgt := 96) S.1 S.2.1 dX12_due_22 (by decide) (fun hc => ?_) (fun hc => ?_)
  · have hf := itt hf hc
    refine lv_aload_n S.1 S.2.1 dX12_due_96 rfl (lv_at hl 0 rfl) ?_
    refine lv_iload_n S.1 S.2.1 dX12_due_97 rfl (lv_at hl 1 rfl) ?_
    obtain ⟨r3, g4, hf⟩ := bd_s hf
    refine g_Vj (rest := []) (MWd_ok D ad cs) S hw (tX12_parted g4) kt_X12_222 0 me_0 rfl rfl ⟨Nat.le_of_ble_eq_true rfl, Nat.le_of_ble_eq_true rfl⟩ rfl hl.1 rfl (Nat.le_of_ble_eq_true rfl) ⟨Nat.zero_le _, Nat.zero_le _⟩ dX12_due_98 (fun H locs hw => ?_)
    exact g_jret (MWd_ok D ad cs) S hr hlk hw dX12_due_101 (Prod.mk.inj (Option.some.inj hf)).1 (Prod.mk.inj (Option.some.inj hf)).2
  · have hf := itf hf hc
    refine lv_aload_n S.1 S.2.1 dX12_due_25 rfl (lv_at hl 0 rfl) ?_
    refine lv_iload_n S.1 S.2.1 dX12_due_26 rfl (lv_at hl 2 rfl) ?_
    obtain ⟨r5, g6, hf⟩ := bd_s hf
    refine g_Vi (rest := []) (MWd_ok D ad cs) S hw (tX12_isDoubled g6) kt_X12_409 0 me_0 rfl rfl ⟨Nat.le_of_ble_eq_true rfl, Nat.le_of_ble_eq_true rfl⟩ rfl hl.1 rfl (Nat.le_of_ble_eq_true rfl) ⟨Nat.zero_le _, Nat.zero_le _⟩ dX12_due_27 (fun H locs hw => ?_)
    refine lv_if_ne (tgt := 90) S.1 S.2.1 dX12_due_30 (by decide) (fun hc => ?_) (fun hc => ?_)
    · have hf := itf hf hc
      exact wX12_due_90 S hr hlk hk17 hw (lv_sub hl [0, 1, 2] rfl) hf
    · have hf := itt hf hc
      refine lv_aload_n S.1 S.2.1 dX12_due_33 rfl (lv_at hl 0 rfl) ?_
      refine lv_aload_n S.1 S.2.1 dX12_due_34 rfl (lv_at hl 0 rfl) ?_
      refine mg_WayLeavesModel_claimSpan S hw kf_X12_355 dX12_due_35 ?_
      refine lv_iload_n S.1 S.2.1 dX12_due_38 rfl (lv_at hl 2 rfl) ?_
      obtain ⟨h7, hf⟩ := gd_ix hf
      refine g_iald S hw 40 0 me_40 rfl h7 dX12_due_39 ?_
      refine lv_aload_n S.1 S.2.1 dX12_due_40 rfl (lv_at hl 0 rfl) ?_
      refine mg_WayLeavesModel_today S hw kf_X12_15 dX12_due_41 ?_
      obtain ⟨r8, g9, hf⟩ := bd_s hf
      refine g_Vi (rest := []) (MWd_ok D ad cs) S hw (tX12_hasIn g9) kt_X12_207 0 me_0 rfl rfl ⟨Nat.le_of_ble_eq_true rfl, Nat.le_of_ble_eq_true rfl⟩ rfl hl.1 rfl (Nat.le_of_ble_eq_true rfl) ⟨Nat.zero_le _, Nat.zero_le _⟩ dX12_due_44 (fun H locs hw => ?_)
      refine lv_iconst (v := 1) S.1 S.2.1 dX12_due_47 (by decide) ?_
      refine lv_icmp_eq (tgt := 90) S.1 S.2.1 dX12_due_48 (by decide) (fun hc => ?_) (fun hc => ?_)
      · have hf := itt hf hc
        exact wX12_due_90 S hr hlk hk17 hw (lv_sub hl [0, 1, 2] rfl) hf
      · have hf := itf hf hc
        refine lv_aload_n S.1 S.2.1 dX12_due_51 rfl (lv_at hl 0 rfl) ?_
        refine mg_WayLeavesModel_comes S hw kf_X12_214 dX12_due_52 ?_
        refine lv_aload_n S.1 S.2.1 dX12_due_55 rfl (lv_at hl 0 rfl) ?_
        refine mg_WayLeavesModel_claimOwner S hw kf_X12_352 dX12_due_56 ?_
        refine lv_iload_n S.1 S.2.1 dX12_due_59 rfl (lv_at hl 2 rfl) ?_
        obtain ⟨h10, hf⟩ := gd_ix hf
        refine g_iald S hw 39 0 me_39 rfl h10 dX12_due_60 ?_
        refine lv_dup2_11 S.1 S.2.1 dX12_due_61 rfl rfl ?_
        obtain ⟨h11, hf⟩ := gd_ix hf
        refine g_lald S hw 30 1 me_30 rfl h11 dX12_due_62 ?_
        refine lv_aload_n S.1 S.2.1 dX12_due_63 rfl (lv_at hl 0 rfl) ?_
        refine mg_WayLeavesModel_claimMuch S hw kf_X12_358 dX12_due_64 ?_
        refine lv_iload_n S.1 S.2.1 dX12_due_67 rfl (lv_at hl 2 rfl) ?_
        obtain ⟨h12, hf⟩ := gd_ix hf
        refine g_iald S hw 41 0 me_41 rfl h12 dX12_due_68 ?_
        refine lv_iconst (v := 0) S.1 S.2.1 dX12_due_69 (by decide) ?_
        refine lv_aload_n S.1 S.2.1 dX12_due_70 rfl (lv_at hl 0 rfl) ?_
        refine lv_iconst (v := 1) S.1 S.2.1 dX12_due_71 (by decide) ?_
        refine lv_aload_n S.1 S.2.1 dX12_due_72 rfl (lv_at hl 0 rfl) ?_
        refine mg_WayLeavesModel_claimSpan S hw kf_X12_355 dX12_due_73 ?_
        refine lv_iload_n S.1 S.2.1 dX12_due_76 rfl (lv_at hl 2 rfl) ?_
        obtain ⟨h13, hf⟩ := gd_ix hf
        refine g_iald S hw 40 0 me_40 rfl h13 dX12_due_77 ?_
        obtain ⟨r16, σ14, g15, hf⟩ := bd2_s hf
        refine g_Vi (rest := [.int (0 : Int32), .int (aR σ 41 x2), .long (jR σ 30 (aR σ 39 x2)), .int (aR σ 39 x2), .ref (ad 30)]) (MWd_ok D ad cs) S hw (tX12_partOf g15) kt_X12_403 0 me_0 rfl rfl ⟨Nat.le_of_ble_eq_true rfl, Nat.le_of_ble_eq_true rfl⟩ rfl hl.1 rfl (Nat.le_of_ble_eq_true rfl) ⟨Nat.zero_le _, Nat.zero_le _⟩ dX12_due_78 (fun H locs hw => ?_)
        refine g_mmax S hl.1 kt_X12_128 (Nat.le_of_ble_eq_true rfl) (Nat.le_of_ble_eq_true rfl) (Nat.zero_le _) (Nat.zero_le _) dX12_due_81 ?_
        refine g_mmin S hl.1 kt_X12_133 (Nat.le_of_ble_eq_true rfl) (Nat.le_of_ble_eq_true rfl) (Nat.zero_le _) (Nat.zero_le _) dX12_due_84 ?_
        refine lv_i2l S.1 S.2.1 dX12_due_87 rfl ?_
        refine lv_ladd S.1 S.2.1 dX12_due_88 ?_
        obtain ⟨h17, hf⟩ := gd_ix hf
        obtain ⟨σ18, e19⟩ : ∃ z : St, z = jW σ14 30 (aR σ 39 x2) ((jR σ 30 (aR σ 39 x2)) + ((if (if (0 : Int32) < r16 then r16 else (0 : Int32)) < (aR σ 41 x2) then (if (0 : Int32) < r16 then r16 else (0 : Int32)) else (aR σ 41 x2))).toInt64) := ⟨_, rfl⟩
        have hf := nm_s e19 hf
        refine g_last (σ' := σ18) S hw 30 1 me_30 rfl (by rw [e19]; exact ms_30 _) h17 dX12_due_89 (fun H locs hw => ?_)
        exact wX12_due_90 S hr hlk hk17 hw (lv_sub hl [0, 1, 2] rfl) hf
def fX12_due_17 (N : Nat) : Nat → St → Int32 → Int32 → Option (Int64 × St)
  | 0 => fun _ _ _ => none
  | n + 1 => fX12_due_17b N (fX12_due_17 N n)
theorem wX12_due_17 {r : Int64} {σ' : St} {N : Nat} (S : CallFix p m c cX12_due 3 s av BG RX12) (hr : meth.sig.returnType = some .long) (hlk : meth.locks = false) : ∀ (n : Nat), ∀ (σ : St) (x1 : Int32) (x2 : Int32) (ls : Array Slot) (H : Heap) (locs : List Loc), Hw (MWd D ad cs) s σ H locs → lv_has ls 3 [(0, .ref (ad 0)), (1, .int x1), (2, .int x2)] → fX12_due_17 N n σ x1 x2 = some (r, σ') → W p l e (RM 6 132) s m av below meth c H locs 0 0 (QJ below (MWd D ad cs) av s r σ') (F0 m 17 ls []) := by
  intro n
  induction n with
  | zero => intro _ _ _ ls H locs hw hl hf; cases hf
  | succ n ih => intro _ _ _ ls H locs hw hl hf; exact wX12_due_17b S hr hlk ih hw hl hf
def fX12_due (N : Nat) (σ : St) (x1 : Int32) : Option (Int64 × St) :=
  if (fX12_isOwner x1) = 0 then (some ((-4611686018427387904 : Int64), σ)) else (bd (fX12_clearComes N σ) fun σ1 => fX12_due_17 N N σ1 x1 (0 : Int32))
set_option maxHeartbeats 2000000 in
set_option maxRecDepth 20000 in
theorem tX12_due {r : Int64} {σ' : St} {N : Nat} {σ : St} {x1 : Int32} (hf : fX12_due N σ x1 = some (r, σ')) : CJ l (MWd D ad cs) yX12_due cX12_due 3 (some .long) 6 132 [.ref (ad 0), .int x1] σ r σ' := by
  refine CJ.of (by decide) (Nat.le_of_ble_eq_true rfl) ?_
  intro p e s m below meth c ls S hr hlk hw hl
  have hl : lv_has ls 3 [(0, .ref (ad 0)), (1, .int x1)] := hl
  unfold fX12_due at hf
  refine lv_iload_n S.1 S.2.1 dX12_due_0 rfl (lv_at hl 1 rfl) ?_
  refine g_Si (rest := []) (MWd_ok D ad cs) S hw (tX12_isOwner (ad := ad) (cs := cs) (σ := σ) rfl) kt_X12_23 ⟨Nat.le_of_ble_eq_true rfl, Nat.le_of_ble_eq_true rfl⟩ rfl hl.1 rfl (Nat.le_of_ble_eq_true rfl) ⟨Nat.zero_le _, Nat.zero_le _⟩ dX12_due_1 (fun H locs hw => ?_)
  refine lv_if_ne (tgt := 11) S.1 S.2.1 dX12_due_4 (by decide) (fun hc => ?_) (fun hc => ?_)
  · have hf := itf hf hc
    refine lv_aload_n S.1 S.2.1 dX12_due_11 rfl (lv_at hl 0 rfl) ?_
    obtain ⟨σ1, g2, hf⟩ := bd_s hf
    refine g_Vv (rest := []) (MWd_ok D ad cs) S hw (tX12_clearComes g2) kt_X12_218 0 me_0 rfl rfl ⟨Nat.le_of_ble_eq_true rfl, Nat.le_of_ble_eq_true rfl⟩ rfl hl.1 rfl (Nat.le_of_ble_eq_true rfl) ⟨Nat.zero_le _, Nat.zero_le _⟩ dX12_due_12 (fun H locs hw => ?_)
    refine lv_iconst (v := 0) S.1 S.2.1 dX12_due_15 (by decide) ?_
    refine lv_istore_n (lv' := [(2, .int (0 : Int32)), (0, .ref (ad 0)), (1, .int x1)]) S.1 S.2.1 dX12_due_16 rfl hl (by decide) rfl (fun ls hl => ?_)
    exact wX12_due_17 S hr hlk N σ1 x1 (0 : Int32) _ _ _ hw (lv_sub hl [1, 2, 0] rfl) hf
  · have hf := itt hf hc
    refine lv_ldc2 S.1 S.2.1 S.2.2.2.1 (S.2.2.2.2 _ kc_X12_142) dX12_due_7 ?_
    exact g_jret (MWd_ok D ad cs) S hr hlk hw dX12_due_10 (Prod.mk.inj (Option.some.inj hf)).1 (Prod.mk.inj (Option.some.inj hf)).2
def fX12_look (N : Nat) (σ : St) (x1 : Int32) (x2 : Int32) (x3 : Int32) : Option (Int32 × St) :=
  if (fX12_isPlot x1) = 0 then (some ((-2 : Int32), σ)) else (if (fX12_isIn (x2).toInt64 (0 : Int64) (99999 : Int64)) = 0 then (some ((-2 : Int32), σ)) else (if (fX12_isIn (x3).toInt64 (0 : Int64) (50 : Int64)) = 0 then (some ((-2 : Int32), σ)) else (if (σ.1 18) = (20 : Int32) then (some ((-4 : Int32), σ)) else (if ix (σ.1 18) 20 = true then nm (aW σ 42 (σ.1 18) x1) fun σ2 => if ix (σ2.1 18) 20 = true then nm (aW σ2 43 (σ2.1 18) x2) fun σ5 => if ix (σ5.1 18) 20 = true then nm (aW σ5 44 (σ5.1 18) x3) fun σ8 => nm (sI σ8 18 ((σ8.1 18) + (1 : Int32))) fun σ10 => some ((σ10.1 18), σ10) else none else none else none))))
set_option maxHeartbeats 2000000 in
set_option maxRecDepth 20000 in
theorem tX12_look {r : Int32} {σ' : St} {N : Nat} {σ : St} {x1 : Int32} {x2 : Int32} {x3 : Int32} (hf : fX12_look N σ x1 x2 x3 = some (r, σ')) : CI l (MWd D ad cs) yX12_look cX12_look 4 (some .int) 2 45 [.ref (ad 0), .int x1, .int x2, .int x3] σ r σ' := by
  refine CI.of (by decide) (Nat.le_of_ble_eq_true rfl) ?_
  intro p e s m below meth c ls S hr hlk hw hl
  have hl : lv_has ls 4 [(0, .ref (ad 0)), (1, .int x1), (2, .int x2), (3, .int x3)] := hl
  unfold fX12_look at hf
  refine lv_iload_n S.1 S.2.1 dX12_look_0 rfl (lv_at hl 1 rfl) ?_
  refine g_Si (rest := []) (MWd_ok D ad cs) S hw (tX12_isPlot (ad := ad) (cs := cs) (σ := σ) rfl) kt_X12_19 ⟨Nat.le_of_ble_eq_true rfl, Nat.le_of_ble_eq_true rfl⟩ rfl hl.1 rfl (Nat.le_of_ble_eq_true rfl) ⟨Nat.zero_le _, Nat.zero_le _⟩ dX12_look_1 (fun H locs hw => ?_)
  refine lv_if_eq (tgt := 31) S.1 S.2.1 dX12_look_4 (by decide) (fun hc => ?_) (fun hc => ?_)
  · have hf := itt hf hc
    refine lv_bipush (v := -2) S.1 S.2.1 dX12_look_31 (by decide) ?_
    exact g_iret (MWd_ok D ad cs) S hr hlk hw dX12_look_33 (Prod.mk.inj (Option.some.inj hf)).1 (Prod.mk.inj (Option.some.inj hf)).2
  · have hf := itf hf hc
    refine lv_iload_n S.1 S.2.1 dX12_look_7 rfl (lv_at hl 2 rfl) ?_
    refine lv_i2l S.1 S.2.1 dX12_look_8 rfl ?_
    refine lv_lconst (v := 0) S.1 S.2.1 dX12_look_9 (by decide) ?_
    refine lv_ldc2 S.1 S.2.1 S.2.2.2.1 (S.2.2.2.2 _ kc_X12_155) dX12_look_10 ?_
    refine g_Si (rest := []) (MWd_ok D ad cs) S hw (tX12_isIn (ad := ad) (cs := cs) (σ := σ) rfl) kt_X12_5 ⟨Nat.le_of_ble_eq_true rfl, Nat.le_of_ble_eq_true rfl⟩ rfl hl.1 rfl (Nat.le_of_ble_eq_true rfl) ⟨Nat.zero_le _, Nat.zero_le _⟩ dX12_look_13 (fun H locs hw => ?_)
    refine lv_if_eq (tgt := 31) S.1 S.2.1 dX12_look_16 (by decide) (fun hc => ?_) (fun hc => ?_)
    · have hf := itt hf hc
      refine lv_bipush (v := -2) S.1 S.2.1 dX12_look_31 (by decide) ?_
      exact g_iret (MWd_ok D ad cs) S hr hlk hw dX12_look_33 (Prod.mk.inj (Option.some.inj hf)).1 (Prod.mk.inj (Option.some.inj hf)).2
    · have hf := itf hf hc
      refine lv_iload_n S.1 S.2.1 dX12_look_19 rfl (lv_at hl 3 rfl) ?_
      refine lv_i2l S.1 S.2.1 dX12_look_20 rfl ?_
      refine lv_lconst (v := 0) S.1 S.2.1 dX12_look_21 (by decide) ?_
      refine lv_ldc2 S.1 S.2.1 S.2.2.2.1 (S.2.2.2.2 _ kc_X12_101) dX12_look_22 ?_
      refine g_Si (rest := []) (MWd_ok D ad cs) S hw (tX12_isIn (ad := ad) (cs := cs) (σ := σ) rfl) kt_X12_5 ⟨Nat.le_of_ble_eq_true rfl, Nat.le_of_ble_eq_true rfl⟩ rfl hl.1 rfl (Nat.le_of_ble_eq_true rfl) ⟨Nat.zero_le _, Nat.zero_le _⟩ dX12_look_25 (fun H locs hw => ?_)
      refine lv_if_ne (tgt := 34) S.1 S.2.1 dX12_look_28 (by decide) (fun hc => ?_) (fun hc => ?_)
      · have hf := itf hf hc
        refine lv_aload_n S.1 S.2.1 dX12_look_34 rfl (lv_at hl 0 rfl) ?_
        refine mg_WayLeavesModel_looks S hw kf_X12_412 dX12_look_35 ?_
        refine lv_bipush (v := 20) S.1 S.2.1 dX12_look_38 (by decide) ?_
        refine lv_icmp_ne (tgt := 46) S.1 S.2.1 dX12_look_40 (by decide) (fun hc => ?_) (fun hc => ?_)
        · have hf := itf hf hc
          refine lv_aload_n S.1 S.2.1 dX12_look_46 rfl (lv_at hl 0 rfl) ?_
          refine mg_WayLeavesModel_lookPlot S hw kf_X12_361 dX12_look_47 ?_
          refine lv_aload_n S.1 S.2.1 dX12_look_50 rfl (lv_at hl 0 rfl) ?_
          refine mg_WayLeavesModel_looks S hw kf_X12_412 dX12_look_51 ?_
          refine lv_iload_n S.1 S.2.1 dX12_look_54 rfl (lv_at hl 1 rfl) ?_
          obtain ⟨h1, hf⟩ := gd_ix hf
          obtain ⟨σ2, e3⟩ : ∃ z : St, z = aW σ 42 (σ.1 18) x1 := ⟨_, rfl⟩
          have hf := nm_s e3 hf
          refine g_iast (σ' := σ2) S hw 42 0 me_42 rfl (by rw [e3]; exact ms_42 _) h1 dX12_look_55 (fun H locs hw => ?_)
          refine lv_aload_n S.1 S.2.1 dX12_look_56 rfl (lv_at hl 0 rfl) ?_
          refine mg_WayLeavesModel_lookPrice S hw kf_X12_364 dX12_look_57 ?_
          refine lv_aload_n S.1 S.2.1 dX12_look_60 rfl (lv_at hl 0 rfl) ?_
          refine mg_WayLeavesModel_looks S hw kf_X12_412 dX12_look_61 ?_
          refine lv_iload_n S.1 S.2.1 dX12_look_64 rfl (lv_at hl 2 rfl) ?_
          obtain ⟨h4, hf⟩ := gd_ix hf
          obtain ⟨σ5, e6⟩ : ∃ z : St, z = aW σ2 43 (σ2.1 18) x2 := ⟨_, rfl⟩
          have hf := nm_s e6 hf
          refine g_iast (σ' := σ5) S hw 43 0 me_43 rfl (by rw [e6]; exact ms_43 _) h4 dX12_look_65 (fun H locs hw => ?_)
          refine lv_aload_n S.1 S.2.1 dX12_look_66 rfl (lv_at hl 0 rfl) ?_
          refine mg_WayLeavesModel_lookLike S hw kf_X12_367 dX12_look_67 ?_
          refine lv_aload_n S.1 S.2.1 dX12_look_70 rfl (lv_at hl 0 rfl) ?_
          refine mg_WayLeavesModel_looks S hw kf_X12_412 dX12_look_71 ?_
          refine lv_iload_n S.1 S.2.1 dX12_look_74 rfl (lv_at hl 3 rfl) ?_
          obtain ⟨h7, hf⟩ := gd_ix hf
          obtain ⟨σ8, e9⟩ : ∃ z : St, z = aW σ5 44 (σ5.1 18) x3 := ⟨_, rfl⟩
          have hf := nm_s e9 hf
          refine g_iast (σ' := σ8) S hw 44 0 me_44 rfl (by rw [e9]; exact ms_44 _) h7 dX12_look_75 (fun H locs hw => ?_)
          refine lv_aload_n S.1 S.2.1 dX12_look_76 rfl (lv_at hl 0 rfl) ?_
          refine lv_dup S.1 S.2.1 dX12_look_77 rfl ?_
          refine mg_WayLeavesModel_looks S hw kf_X12_412 dX12_look_78 ?_
          refine lv_iconst (v := 1) S.1 S.2.1 dX12_look_81 (by decide) ?_
          refine lv_iadd S.1 S.2.1 dX12_look_82 ?_
          obtain ⟨σ10, e11⟩ : ∃ z : St, z = sI σ8 18 ((σ8.1 18) + (1 : Int32)) := ⟨_, rfl⟩
          have hf := nm_s e11 hf
          refine mp_WayLeavesModel_looks S hw e11 kf_X12_412 dX12_look_83 (fun H locs hw => ?_)
          refine lv_aload_n S.1 S.2.1 dX12_look_86 rfl (lv_at hl 0 rfl) ?_
          refine mg_WayLeavesModel_looks S hw kf_X12_412 dX12_look_87 ?_
          exact g_iret (MWd_ok D ad cs) S hr hlk hw dX12_look_90 (Prod.mk.inj (Option.some.inj hf)).1 (Prod.mk.inj (Option.some.inj hf)).2
        · have hf := itt hf hc
          refine lv_bipush (v := -4) S.1 S.2.1 dX12_look_43 (by decide) ?_
          exact g_iret (MWd_ok D ad cs) S hr hlk hw dX12_look_45 (Prod.mk.inj (Option.some.inj hf)).1 (Prod.mk.inj (Option.some.inj hf)).2
      · have hf := itt hf hc
        refine lv_bipush (v := -2) S.1 S.2.1 dX12_look_31 (by decide) ?_
        exact g_iret (MWd_ok D ad cs) S hr hlk hw dX12_look_33 (Prod.mk.inj (Option.some.inj hf)).1 (Prod.mk.inj (Option.some.inj hf)).2
def fX12_bounds_119 (N : Nat) (σ : St) (k28 : Int32 → Int32 → Int32 → Int32 → Int32 → Option Int32) (x1 : Int32) (x2 : Int32) (x3 : Int32) (x4 : Int32) (x5 : Int32) : Option Int32 :=
  nm (x5 + (1 : Int32)) fun v11 => k28 x1 x2 x3 x4 v11
set_option maxHeartbeats 2000000 in
set_option maxRecDepth 20000 in
theorem wX12_bounds_119 {r : Int32} {N : Nat} {σ : St} (S : CallFix p m c cX12_bounds 7 s av BG RX12) (hr : meth.sig.returnType = some .int) (hlk : meth.locks = false) {k28 : Int32 → Int32 → Int32 → Int32 → Int32 → Option Int32} (hk28 : ∀ (x1 : Int32) (x2 : Int32) (x3 : Int32) (x4 : Int32) (x5 : Int32) (ls : Array Slot) (H : Heap) (locs : List Loc), Hw (MWd D ad cs) s σ H locs → lv_has ls 7 [(0, .ref (ad 0)), (1, .int x1), (2, .int x2), (3, .int x3), (4, .int x4), (5, .int x5)] → k28 x1 x2 x3 x4 x5 = some r → W p l e (RM 2 45) s m av below meth c H locs 0 0 (QI below (MWd D ad cs) av s r σ) (F0 m 28 ls []))  {x1 : Int32} {x2 : Int32} {x3 : Int32} {x4 : Int32} {x5 : Int32} {ls : Array Slot} {H : Heap} {locs : List Loc} (hw : Hw (MWd D ad cs) s σ H locs) (hl : lv_has ls 7 [(0, .ref (ad 0)), (1, .int x1), (2, .int x2), (3, .int x3), (4, .int x4), (5, .int x5)]) (hf : fX12_bounds_119 N σ k28 x1 x2 x3 x4 x5 = some r) : W p l e (RM 2 45) s m av below meth c H locs 0 0 (QI below (MWd D ad cs) av s r σ) (F0 m 119 ls []) := by
  unfold fX12_bounds_119 at hf
  obtain ⟨v11, e12⟩ : ∃ z : Int32, z = x5 + (1 : Int32) := ⟨_, rfl⟩
  have hf := nm_s e12 hf
  refine lv_iinc (v := v11) (lv' := [(5, .int v11), (0, .ref (ad 0)), (1, .int x1), (2, .int x2), (3, .int x3), (4, .int x4)]) S.1 S.2.1 dX12_bounds_119 hl (k := 5) rfl (by rw [e12]; rfl) (by decide) rfl (fun ls hl => ?_)
  refine lv_goto (tgt := 28) S.1 S.2.1 dX12_bounds_122 (by decide) ?_
  exact hk28 x1 x2 x3 x4 v11 _ _ _ hw (lv_sub hl [1, 2, 3, 4, 5, 0] rfl) hf
def fX12_bounds_117 (N : Nat) (σ : St) (k28 : Int32 → Int32 → Int32 → Int32 → Int32 → Option Int32) (x1 : Int32) (x2 : Int32) (x3 : Int32) (x5 : Int32) (y0 : Int32) : Option Int32 :=
  fX12_bounds_119 N σ k28 x1 x2 x3 y0 x5
set_option maxHeartbeats 2000000 in
set_option maxRecDepth 20000 in
theorem wX12_bounds_117 {r : Int32} {N : Nat} {σ : St} (S : CallFix p m c cX12_bounds 7 s av BG RX12) (hr : meth.sig.returnType = some .int) (hlk : meth.locks = false) {k28 : Int32 → Int32 → Int32 → Int32 → Int32 → Option Int32} (hk28 : ∀ (x1 : Int32) (x2 : Int32) (x3 : Int32) (x4 : Int32) (x5 : Int32) (ls : Array Slot) (H : Heap) (locs : List Loc), Hw (MWd D ad cs) s σ H locs → lv_has ls 7 [(0, .ref (ad 0)), (1, .int x1), (2, .int x2), (3, .int x3), (4, .int x4), (5, .int x5)] → k28 x1 x2 x3 x4 x5 = some r → W p l e (RM 2 45) s m av below meth c H locs 0 0 (QI below (MWd D ad cs) av s r σ) (F0 m 28 ls []))  {x1 : Int32} {x2 : Int32} {x3 : Int32} {x5 : Int32} {y0 : Int32} {ls : Array Slot} {H : Heap} {locs : List Loc} (hw : Hw (MWd D ad cs) s σ H locs) (hl : lv_has ls 7 [(0, .ref (ad 0)), (1, .int x1), (2, .int x2), (3, .int x3), (5, .int x5)]) (hf : fX12_bounds_117 N σ k28 x1 x2 x3 x5 y0 = some r) : W p l e (RM 2 45) s m av below meth c H locs 0 0 (QI below (MWd D ad cs) av s r σ) (F0 m 117 ls [.int y0]) := by
  unfold fX12_bounds_117 at hf
  refine lv_istore (lv' := [(4, .int y0), (0, .ref (ad 0)), (1, .int x1), (2, .int x2), (3, .int x3), (5, .int x5)]) S.1 S.2.1 dX12_bounds_117 hl (by decide) rfl (fun ls hl => ?_)
  exact wX12_bounds_119 S hr hlk hk28 hw (lv_sub hl [1, 2, 3, 4, 0, 5] rfl) hf
def fX12_bounds_28b (N : Nat) (σ : St) (k28 : Int32 → Int32 → Int32 → Int32 → Int32 → Option Int32) (x1 : Int32) (x2 : Int32) (x3 : Int32) (x4 : Int32) (x5 : Int32) : Option Int32 :=
  if (σ.1 18) ≤ x5 then (if x3 ≤ x4 then (if x2 = 0 then (some x3) else (some x4)) else (some (-2 : Int32))) else (if ix x5 20 = true then if (aR σ 42 x5) = x1 then (if ix x5 20 = true then if ix x5 20 = true then nm (((aR σ 43 x5) * (aR σ 44 x5)) / (100 : Int32)) fun v4 => if ix x5 20 = true then nm (if x3 < ((aR σ 43 x5) - v4) then ((aR σ 43 x5) - v4) else x3) fun v7 => if x4 = (-1 : Int32) then (if ix x5 20 = true then fX12_bounds_117 N σ k28 x1 x2 v7 x5 ((aR σ 43 x5) + v4) else none) else (if ix x5 20 = true then fX12_bounds_117 N σ k28 x1 x2 v7 x5 (if ((aR σ 43 x5) + v4) < x4 then ((aR σ 43 x5) + v4) else x4) else none) else none else none else none) else (fX12_bounds_119 N σ k28 x1 x2 x3 x4 x5) else none)
set_option maxHeartbeats 2000000 in
set_option maxRecDepth 20000 in
theorem wX12_bounds_28b {r : Int32} {N : Nat} {σ : St} (S : CallFix p m c cX12_bounds 7 s av BG RX12) (hr : meth.sig.returnType = some .int) (hlk : meth.locks = false) {k28 : Int32 → Int32 → Int32 → Int32 → Int32 → Option Int32} (hk28 : ∀ (x1 : Int32) (x2 : Int32) (x3 : Int32) (x4 : Int32) (x5 : Int32) (ls : Array Slot) (H : Heap) (locs : List Loc), Hw (MWd D ad cs) s σ H locs → lv_has ls 7 [(0, .ref (ad 0)), (1, .int x1), (2, .int x2), (3, .int x3), (4, .int x4), (5, .int x5)] → k28 x1 x2 x3 x4 x5 = some r → W p l e (RM 2 45) s m av below meth c H locs 0 0 (QI below (MWd D ad cs) av s r σ) (F0 m 28 ls []))  {x1 : Int32} {x2 : Int32} {x3 : Int32} {x4 : Int32} {x5 : Int32} {ls : Array Slot} {H : Heap} {locs : List Loc} (hw : Hw (MWd D ad cs) s σ H locs) (hl : lv_has ls 7 [(0, .ref (ad 0)), (1, .int x1), (2, .int x2), (3, .int x3), (4, .int x4), (5, .int x5)]) (hf : fX12_bounds_28b N σ k28 x1 x2 x3 x4 x5 = some r) : W p l e (RM 2 45) s m av below meth c H locs 0 0 (QI below (MWd D ad cs) av s r σ) (F0 m 28 ls []) := by
  unfold fX12_bounds_28b at hf
  refine lv_iload S.1 S.2.1 dX12_bounds_28 (lv_at hl 5 rfl) ?_
  refine lv_aload_n S.1 S.2.1 dX12_bounds_30 rfl (lv_at hl 0 rfl) ?_
  refine mg_WayLeavesModel_looks S hw kf_X12_412 dX12_bounds_31 ?_
  refine lv_icmp_ge (tgt := 125) S.1 S.2.1 dX12_bounds_34 (by decide) (fun hc => ?_) (fun hc => ?_)
  · have hf := itt hf hc
    refine lv_iload_n S.1 S.2.1 dX12_bounds_125 rfl (lv_at hl 3 rfl) ?_
    refine lv_iload S.1 S.2.1 dX12_bounds_126 (lv_at hl 4 rfl) ?_
    refine lv_icmp_le (tgt := 136) S.1 S.2.1 dX12_bounds_128 (by decide) (fun hc => ?_) (fun hc => ?_)
    · have hf := itt hf hc
      refine lv_iload_n S.1 S.2.1 dX12_bounds_136 rfl (lv_at hl 2 rfl) ?_
      refine lv_if_ne (tgt := 144) S.1 S.2.1 dX12_bounds_137 (by decide) (fun hc => ?_) (fun hc => ?_)
      · have hf := itf hf hc
        refine lv_iload S.1 S.2.1 dX12_bounds_144 (lv_at hl 4 rfl) ?_
        exact g_iret (MWd_ok D ad cs) S hr hlk hw dX12_bounds_146 (Option.some.inj hf) rfl
      · have hf := itt hf hc
        refine lv_iload_n S.1 S.2.1 dX12_bounds_140 rfl (lv_at hl 3 rfl) ?_
        refine lv_goto (tgt := 146) S.1 S.2.1 dX12_bounds_141 (by decide) ?_
        exact g_iret (MWd_ok D ad cs) S hr hlk hw dX12_bounds_146 (Option.some.inj hf) rfl
    · have hf := itf hf hc
      refine lv_bipush (v := -2) S.1 S.2.1 dX12_bounds_131 (by decide) ?_
      refine lv_goto (tgt := 146) S.1 S.2.1 dX12_bounds_133 (by decide) ?_
      exact g_iret (MWd_ok D ad cs) S hr hlk hw dX12_bounds_146 (Option.some.inj hf) rfl
  · have hf := itf hf hc
    refine lv_aload_n S.1 S.2.1 dX12_bounds_37 rfl (lv_at hl 0 rfl) ?_
    refine mg_WayLeavesModel_lookPlot S hw kf_X12_361 dX12_bounds_38 ?_
    refine lv_iload S.1 S.2.1 dX12_bounds_41 (lv_at hl 5 rfl) ?_
    obtain ⟨h1, hf⟩ := gd_ix hf
    refine g_iald S hw 42 0 me_42 rfl h1 dX12_bounds_43 ?_
    refine lv_iload_n S.1 S.2.1 dX12_bounds_44 rfl (lv_at hl 1 rfl) ?_
    refine lv_icmp_ne (tgt := 119) S.1 S.2.1 dX12_bounds_45 (by decide) (fun hc => ?_) (fun hc => ?_)
    · have hf := itf hf hc
      exact wX12_bounds_119 S hr hlk hk28 hw (lv_sub hl [0, 1, 2, 3, 4, 5] rfl) hf
    · have hf := itt hf hc
      refine lv_aload_n S.1 S.2.1 dX12_bounds_48 rfl (lv_at hl 0 rfl) ?_
      refine mg_WayLeavesModel_lookPrice S hw kf_X12_364 dX12_bounds_49 ?_
      refine lv_iload S.1 S.2.1 dX12_bounds_52 (lv_at hl 5 rfl) ?_
      obtain ⟨h2, hf⟩ := gd_ix hf
      refine g_iald S hw 43 0 me_43 rfl h2 dX12_bounds_54 ?_
      refine lv_aload_n S.1 S.2.1 dX12_bounds_55 rfl (lv_at hl 0 rfl) ?_
      refine mg_WayLeavesModel_lookLike S hw kf_X12_367 dX12_bounds_56 ?_
      refine lv_iload S.1 S.2.1 dX12_bounds_59 (lv_at hl 5 rfl) ?_
      obtain ⟨h3, hf⟩ := gd_ix hf
      refine g_iald S hw 44 0 me_44 rfl h3 dX12_bounds_61 ?_
      refine lv_imul S.1 S.2.1 dX12_bounds_62 ?_
      refine lv_bipush (v := 100) S.1 S.2.1 dX12_bounds_63 (by decide) ?_
      refine lv_idiv S.1 S.2.1 dX12_bounds_65 (by decide) ?_
      refine lv_topi (fun v4 e5 => ?_)
      have hf := nm_s e5 hf
      refine lv_istore (lv' := [(6, .int v4), (0, .ref (ad 0)), (1, .int x1), (2, .int x2), (3, .int x3), (4, .int x4), (5, .int x5)]) S.1 S.2.1 dX12_bounds_66 hl (by decide) rfl (fun ls hl => ?_)
      refine lv_iload_n S.1 S.2.1 dX12_bounds_68 rfl (lv_at hl 4 rfl) ?_
      refine lv_aload_n S.1 S.2.1 dX12_bounds_69 rfl (lv_at hl 1 rfl) ?_
      refine mg_WayLeavesModel_lookPrice S hw kf_X12_364 dX12_bounds_70 ?_
      refine lv_iload S.1 S.2.1 dX12_bounds_73 (lv_at hl 6 rfl) ?_
      obtain ⟨h6, hf⟩ := gd_ix hf
      refine g_iald S hw 43 0 me_43 rfl h6 dX12_bounds_75 ?_
      refine lv_iload S.1 S.2.1 dX12_bounds_76 (lv_at hl 0 rfl) ?_
      refine lv_isub S.1 S.2.1 dX12_bounds_78 ?_
      refine g_mmax S hl.1 kt_X12_128 (Nat.le_of_ble_eq_true rfl) (Nat.le_of_ble_eq_true rfl) (Nat.zero_le _) (Nat.zero_le _) dX12_bounds_79 ?_
      refine lv_topi (fun v7 e8 => ?_)
      have hf := nm_s e8 hf
      refine lv_istore_n (lv' := [(3, .int v7), (6, .int v4), (0, .ref (ad 0)), (1, .int x1), (2, .int x2), (4, .int x4), (5, .int x5)]) S.1 S.2.1 dX12_bounds_82 rfl hl (by decide) rfl (fun ls hl => ?_)
      refine lv_iload S.1 S.2.1 dX12_bounds_83 (lv_at hl 5 rfl) ?_
      refine lv_iconst (v := -1) S.1 S.2.1 dX12_bounds_85 (by decide) ?_
      refine lv_icmp_ne (tgt := 102) S.1 S.2.1 dX12_bounds_86 (by decide) (fun hc => ?_) (fun hc => ?_)
      · have hf := itf hf hc
        refine lv_iload S.1 S.2.1 dX12_bounds_102 (lv_at hl 5 rfl) ?_
        refine lv_aload_n S.1 S.2.1 dX12_bounds_104 rfl (lv_at hl 2 rfl) ?_
        refine mg_WayLeavesModel_lookPrice S hw kf_X12_364 dX12_bounds_105 ?_
        refine lv_iload S.1 S.2.1 dX12_bounds_108 (lv_at hl 6 rfl) ?_
        obtain ⟨h9, hf⟩ := gd_ix hf
        refine g_iald S hw 43 0 me_43 rfl h9 dX12_bounds_110 ?_
        refine lv_iload S.1 S.2.1 dX12_bounds_111 (lv_at hl 1 rfl) ?_
        refine lv_iadd S.1 S.2.1 dX12_bounds_113 ?_
        refine g_mmin S hl.1 kt_X12_133 (Nat.le_of_ble_eq_true rfl) (Nat.le_of_ble_eq_true rfl) (Nat.zero_le _) (Nat.zero_le _) dX12_bounds_114 ?_
        exact wX12_bounds_117 S hr hlk hk28 hw (lv_sub hl [2, 3, 4, 0, 6] rfl) hf
      · have hf := itt hf hc
        refine lv_aload_n S.1 S.2.1 dX12_bounds_89 rfl (lv_at hl 2 rfl) ?_
        refine mg_WayLeavesModel_lookPrice S hw kf_X12_364 dX12_bounds_90 ?_
        refine lv_iload S.1 S.2.1 dX12_bounds_93 (lv_at hl 6 rfl) ?_
        obtain ⟨h10, hf⟩ := gd_ix hf
        refine g_iald S hw 43 0 me_43 rfl h10 dX12_bounds_95 ?_
        refine lv_iload S.1 S.2.1 dX12_bounds_96 (lv_at hl 1 rfl) ?_
        refine lv_iadd S.1 S.2.1 dX12_bounds_98 ?_
        refine lv_goto (tgt := 117) S.1 S.2.1 dX12_bounds_99 (by decide) ?_
        exact wX12_bounds_117 S hr hlk hk28 hw (lv_sub hl [2, 3, 4, 0, 6] rfl) hf
def fX12_bounds_28 (N : Nat) (σ : St) : Nat → Int32 → Int32 → Int32 → Int32 → Int32 → Option Int32
  | 0 => fun _ _ _ _ _ => none
  | n + 1 => fX12_bounds_28b N σ (fX12_bounds_28 N σ n)
theorem wX12_bounds_28 {r : Int32} {N : Nat} {σ : St} (S : CallFix p m c cX12_bounds 7 s av BG RX12) (hr : meth.sig.returnType = some .int) (hlk : meth.locks = false) : ∀ (n : Nat), ∀ (x1 : Int32) (x2 : Int32) (x3 : Int32) (x4 : Int32) (x5 : Int32) (ls : Array Slot) (H : Heap) (locs : List Loc), Hw (MWd D ad cs) s σ H locs → lv_has ls 7 [(0, .ref (ad 0)), (1, .int x1), (2, .int x2), (3, .int x3), (4, .int x4), (5, .int x5)] → fX12_bounds_28 N σ n x1 x2 x3 x4 x5 = some r → W p l e (RM 2 45) s m av below meth c H locs 0 0 (QI below (MWd D ad cs) av s r σ) (F0 m 28 ls []) := by
  intro n
  induction n with
  | zero => intro _ _ _ _ _ ls H locs hw hl hf; cases hf
  | succ n ih => intro _ _ _ _ _ ls H locs hw hl hf; exact wX12_bounds_28b S hr hlk ih hw hl hf
def fX12_bounds (N : Nat) (σ : St) (x1 : Int32) (x2 : Int32) : Option Int32 :=
  if (fX12_isPlot x1) = 0 then (some (-5 : Int32)) else (if (fX12_isIn (x2).toInt64 (0 : Int64) (1 : Int64)) = 0 then (some (-5 : Int32)) else (fX12_bounds_28 N σ N x1 x2 (-1 : Int32) (-1 : Int32) (0 : Int32)))
set_option maxHeartbeats 2000000 in
set_option maxRecDepth 20000 in
theorem tX12_bounds {r : Int32} {N : Nat} {σ : St} {x1 : Int32} {x2 : Int32} (hf : fX12_bounds N σ x1 x2 = some r) : CI l (MWd D ad cs) yX12_bounds cX12_bounds 7 (some .int) 2 45 [.ref (ad 0), .int x1, .int x2] σ r σ := by
  refine CI.of (by decide) (Nat.le_of_ble_eq_true rfl) ?_
  intro p e s m below meth c ls S hr hlk hw hl
  have hl : lv_has ls 7 [(0, .ref (ad 0)), (1, .int x1), (2, .int x2)] := hl
  unfold fX12_bounds at hf
  refine lv_iload_n S.1 S.2.1 dX12_bounds_0 rfl (lv_at hl 1 rfl) ?_
  refine g_Si (rest := []) (MWd_ok D ad cs) S hw (tX12_isPlot (ad := ad) (cs := cs) (σ := σ) rfl) kt_X12_19 ⟨Nat.le_of_ble_eq_true rfl, Nat.le_of_ble_eq_true rfl⟩ rfl hl.1 rfl (Nat.le_of_ble_eq_true rfl) ⟨Nat.zero_le _, Nat.zero_le _⟩ dX12_bounds_1 (fun H locs hw => ?_)
  refine lv_if_eq (tgt := 17) S.1 S.2.1 dX12_bounds_4 (by decide) (fun hc => ?_) (fun hc => ?_)
  · have hf := itt hf hc
    refine lv_bipush (v := -5) S.1 S.2.1 dX12_bounds_17 (by decide) ?_
    exact g_iret (MWd_ok D ad cs) S hr hlk hw dX12_bounds_19 (Option.some.inj hf) rfl
  · have hf := itf hf hc
    refine lv_iload_n S.1 S.2.1 dX12_bounds_7 rfl (lv_at hl 2 rfl) ?_
    refine lv_i2l S.1 S.2.1 dX12_bounds_8 rfl ?_
    refine lv_lconst (v := 0) S.1 S.2.1 dX12_bounds_9 (by decide) ?_
    refine lv_lconst (v := 1) S.1 S.2.1 dX12_bounds_10 (by decide) ?_
    refine g_Si (rest := []) (MWd_ok D ad cs) S hw (tX12_isIn (ad := ad) (cs := cs) (σ := σ) rfl) kt_X12_5 ⟨Nat.le_of_ble_eq_true rfl, Nat.le_of_ble_eq_true rfl⟩ rfl hl.1 rfl (Nat.le_of_ble_eq_true rfl) ⟨Nat.zero_le _, Nat.zero_le _⟩ dX12_bounds_11 (fun H locs hw => ?_)
    refine lv_if_ne (tgt := 20) S.1 S.2.1 dX12_bounds_14 (by decide) (fun hc => ?_) (fun hc => ?_)
    · have hf := itf hf hc
      refine lv_iconst (v := -1) S.1 S.2.1 dX12_bounds_20 (by decide) ?_
      refine lv_istore_n (lv' := [(3, .int (-1 : Int32)), (0, .ref (ad 0)), (1, .int x1), (2, .int x2)]) S.1 S.2.1 dX12_bounds_21 rfl hl (by decide) rfl (fun ls hl => ?_)
      refine lv_iconst (v := -1) S.1 S.2.1 dX12_bounds_22 (by decide) ?_
      refine lv_istore (lv' := [(4, .int (-1 : Int32)), (3, .int (-1 : Int32)), (0, .ref (ad 0)), (1, .int x1), (2, .int x2)]) S.1 S.2.1 dX12_bounds_23 hl (by decide) rfl (fun ls hl => ?_)
      refine lv_iconst (v := 0) S.1 S.2.1 dX12_bounds_25 (by decide) ?_
      refine lv_istore (lv' := [(5, .int (0 : Int32)), (4, .int (-1 : Int32)), (3, .int (-1 : Int32)), (0, .ref (ad 0)), (1, .int x1), (2, .int x2)]) S.1 S.2.1 dX12_bounds_26 hl (by decide) rfl (fun ls hl => ?_)
      exact wX12_bounds_28 S hr hlk N x1 x2 (-1 : Int32) (-1 : Int32) (0 : Int32) _ _ _ hw (lv_sub hl [3, 4, 5, 2, 1, 0] rfl) hf
    · have hf := itt hf hc
      refine lv_bipush (v := -5) S.1 S.2.1 dX12_bounds_17 (by decide) ?_
      exact g_iret (MWd_ok D ad cs) S hr hlk hw dX12_bounds_19 (Option.some.inj hf) rfl
def fX12_hold (N : Nat) (σ : St) (x1 : Int32) (x2 : Int32) : Option (Int32 × St) :=
  if (fX12_isOwner x1) = 0 then (some ((-2 : Int32), σ)) else (if (fX12_isIn (x2).toInt64 (0 : Int64) (9999 : Int64)) = 0 then (some ((-2 : Int32), σ)) else (if ix x1 10 = true then nm (aR σ 45 x1) fun v2 => if ix x1 10 = true then nm (aW σ 45 x1 x2) fun σ5 => some (v2, σ5) else none else none))
set_option maxHeartbeats 2000000 in
set_option maxRecDepth 20000 in
theorem tX12_hold {r : Int32} {σ' : St} {N : Nat} {σ : St} {x1 : Int32} {x2 : Int32} (hf : fX12_hold N σ x1 x2 = some (r, σ')) : CI l (MWd D ad cs) yX12_hold cX12_hold 4 (some .int) 2 45 [.ref (ad 0), .int x1, .int x2] σ r σ' := by
  refine CI.of (by decide) (Nat.le_of_ble_eq_true rfl) ?_
  intro p e s m below meth c ls S hr hlk hw hl
  have hl : lv_has ls 4 [(0, .ref (ad 0)), (1, .int x1), (2, .int x2)] := hl
  unfold fX12_hold at hf
  refine lv_iload_n S.1 S.2.1 dX12_hold_0 rfl (lv_at hl 1 rfl) ?_
  refine g_Si (rest := []) (MWd_ok D ad cs) S hw (tX12_isOwner (ad := ad) (cs := cs) (σ := σ) rfl) kt_X12_23 ⟨Nat.le_of_ble_eq_true rfl, Nat.le_of_ble_eq_true rfl⟩ rfl hl.1 rfl (Nat.le_of_ble_eq_true rfl) ⟨Nat.zero_le _, Nat.zero_le _⟩ dX12_hold_1 (fun H locs hw => ?_)
  refine lv_if_eq (tgt := 19) S.1 S.2.1 dX12_hold_4 (by decide) (fun hc => ?_) (fun hc => ?_)
  · have hf := itt hf hc
    refine lv_bipush (v := -2) S.1 S.2.1 dX12_hold_19 (by decide) ?_
    exact g_iret (MWd_ok D ad cs) S hr hlk hw dX12_hold_21 (Prod.mk.inj (Option.some.inj hf)).1 (Prod.mk.inj (Option.some.inj hf)).2
  · have hf := itf hf hc
    refine lv_iload_n S.1 S.2.1 dX12_hold_7 rfl (lv_at hl 2 rfl) ?_
    refine lv_i2l S.1 S.2.1 dX12_hold_8 rfl ?_
    refine lv_lconst (v := 0) S.1 S.2.1 dX12_hold_9 (by decide) ?_
    refine lv_ldc2 S.1 S.2.1 S.2.2.2.1 (S.2.2.2.2 _ kc_X12_3) dX12_hold_10 ?_
    refine g_Si (rest := []) (MWd_ok D ad cs) S hw (tX12_isIn (ad := ad) (cs := cs) (σ := σ) rfl) kt_X12_5 ⟨Nat.le_of_ble_eq_true rfl, Nat.le_of_ble_eq_true rfl⟩ rfl hl.1 rfl (Nat.le_of_ble_eq_true rfl) ⟨Nat.zero_le _, Nat.zero_le _⟩ dX12_hold_13 (fun H locs hw => ?_)
    refine lv_if_ne (tgt := 22) S.1 S.2.1 dX12_hold_16 (by decide) (fun hc => ?_) (fun hc => ?_)
    · have hf := itf hf hc
      refine lv_aload_n S.1 S.2.1 dX12_hold_22 rfl (lv_at hl 0 rfl) ?_
      refine mg_WayLeavesModel_hold S hw kf_X12_370 dX12_hold_23 ?_
      refine lv_iload_n S.1 S.2.1 dX12_hold_26 rfl (lv_at hl 1 rfl) ?_
      obtain ⟨h1, hf⟩ := gd_ix hf
      refine g_iald S hw 45 0 me_45 rfl h1 dX12_hold_27 ?_
      refine lv_topi (fun v2 e3 => ?_)
      have hf := nm_s e3 hf
      refine lv_istore_n (lv' := [(3, .int v2), (0, .ref (ad 0)), (1, .int x1), (2, .int x2)]) S.1 S.2.1 dX12_hold_28 rfl hl (by decide) rfl (fun ls hl => ?_)
      refine lv_aload_n S.1 S.2.1 dX12_hold_29 rfl (lv_at hl 1 rfl) ?_
      refine mg_WayLeavesModel_hold S hw kf_X12_370 dX12_hold_30 ?_
      refine lv_iload_n S.1 S.2.1 dX12_hold_33 rfl (lv_at hl 2 rfl) ?_
      refine lv_iload_n S.1 S.2.1 dX12_hold_34 rfl (lv_at hl 3 rfl) ?_
      obtain ⟨h4, hf⟩ := gd_ix hf
      obtain ⟨σ5, e6⟩ : ∃ z : St, z = aW σ 45 x1 x2 := ⟨_, rfl⟩
      have hf := nm_s e6 hf
      refine g_iast (σ' := σ5) S hw 45 0 me_45 rfl (by rw [e6]; exact ms_45 _) h4 dX12_hold_35 (fun H locs hw => ?_)
      refine lv_iload_n S.1 S.2.1 dX12_hold_36 rfl (lv_at hl 0 rfl) ?_
      exact g_iret (MWd_ok D ad cs) S hr hlk hw dX12_hold_37 (Prod.mk.inj (Option.some.inj hf)).1 (Prod.mk.inj (Option.some.inj hf)).2
    · have hf := itt hf hc
      refine lv_bipush (v := -2) S.1 S.2.1 dX12_hold_19 (by decide) ?_
      exact g_iret (MWd_ok D ad cs) S hr hlk hw dX12_hold_21 (Prod.mk.inj (Option.some.inj hf)).1 (Prod.mk.inj (Option.some.inj hf)).2
def fX12_beside (x0 : Int32) (x1 : Int32) : Int32 :=
  if x1 = (0 : Int32) then ((x0 - (8 : Int32))) else (if x1 = (1 : Int32) then (if (x0 - x0 / (8 : Int32) * (8 : Int32)) = 0 then ((-1 : Int32)) else ((x0 - (1 : Int32)))) else (if x1 = (2 : Int32) then (if (x0 - x0 / (8 : Int32) * (8 : Int32)) = (7 : Int32) then ((-1 : Int32)) else ((x0 + (1 : Int32)))) else (if (48 : Int32) ≤ (x0 + (8 : Int32)) then ((-1 : Int32)) else ((x0 + (8 : Int32))))))
set_option maxHeartbeats 2000000 in
set_option maxRecDepth 20000 in
theorem tX12_beside {r : Int32} {σ : St} {x0 : Int32} {x1 : Int32} (hf : fX12_beside x0 x1 = r) : CI l (MWd D ad cs) yX12_beside cX12_beside 2 (some .int) 0 0 [.int x0, .int x1] σ r σ := by
  refine CI.of (by decide) (Nat.le_of_ble_eq_true rfl) ?_
  intro p e s m below meth c ls S hr hlk hw hl
  have hl : lv_has ls 2 [(0, .int x0), (1, .int x1)] := hl
  unfold fX12_beside at hf
  refine lv_iload_n S.1 S.2.1 dX12_beside_0 rfl (lv_at hl 1 rfl) ?_
  by_cases h1 : x1 = (0 : Int32)
  · have hf := itt hf h1
    refine lv_tableIn (off := 27) (tgt := 28) S.1 S.2.1 dX12_beside_1 (by rw [h1]; decide) (by rw [h1]; decide) (by rw [h1]; rfl) (by decide) ?_
    refine lv_iload_n S.1 S.2.1 dX12_beside_28 rfl (lv_at hl 0 rfl) ?_
    refine lv_bipush (v := 8) S.1 S.2.1 dX12_beside_29 (by decide) ?_
    refine lv_isub S.1 S.2.1 dX12_beside_31 ?_
    exact g_iret (MWd_ok D ad cs) S hr hlk hw dX12_beside_32 hf rfl
  have hf := itf hf h1
  by_cases h2 : x1 = (1 : Int32)
  · have hf := itt hf h2
    refine lv_tableIn (off := 32) (tgt := 33) S.1 S.2.1 dX12_beside_1 (by rw [h2]; decide) (by rw [h2]; decide) (by rw [h2]; rfl) (by decide) ?_
    refine lv_iload_n S.1 S.2.1 dX12_beside_33 rfl (lv_at hl 0 rfl) ?_
    refine lv_bipush (v := 8) S.1 S.2.1 dX12_beside_34 (by decide) ?_
    refine lv_irem S.1 S.2.1 dX12_beside_36 (by decide) ?_
    refine lv_if_ne (tgt := 44) S.1 S.2.1 dX12_beside_37 (by decide) (fun hc => ?_) (fun hc => ?_)
    · have hf := itf hf hc
      refine lv_iload_n S.1 S.2.1 dX12_beside_44 rfl (lv_at hl 0 rfl) ?_
      refine lv_iconst (v := 1) S.1 S.2.1 dX12_beside_45 (by decide) ?_
      refine lv_isub S.1 S.2.1 dX12_beside_46 ?_
      exact g_iret (MWd_ok D ad cs) S hr hlk hw dX12_beside_47 hf rfl
    · have hf := itt hf hc
      refine lv_iconst (v := -1) S.1 S.2.1 dX12_beside_40 (by decide) ?_
      refine lv_goto (tgt := 47) S.1 S.2.1 dX12_beside_41 (by decide) ?_
      exact g_iret (MWd_ok D ad cs) S hr hlk hw dX12_beside_47 hf rfl
  have hf := itf hf h2
  by_cases h3 : x1 = (2 : Int32)
  · have hf := itt hf h3
    refine lv_tableIn (off := 47) (tgt := 48) S.1 S.2.1 dX12_beside_1 (by rw [h3]; decide) (by rw [h3]; decide) (by rw [h3]; rfl) (by decide) ?_
    refine lv_iload_n S.1 S.2.1 dX12_beside_48 rfl (lv_at hl 0 rfl) ?_
    refine lv_bipush (v := 8) S.1 S.2.1 dX12_beside_49 (by decide) ?_
    refine lv_irem S.1 S.2.1 dX12_beside_51 (by decide) ?_
    refine lv_bipush (v := 7) S.1 S.2.1 dX12_beside_52 (by decide) ?_
    refine lv_icmp_ne (tgt := 61) S.1 S.2.1 dX12_beside_54 (by decide) (fun hc => ?_) (fun hc => ?_)
    · have hf := itf hf hc
      refine lv_iload_n S.1 S.2.1 dX12_beside_61 rfl (lv_at hl 0 rfl) ?_
      refine lv_iconst (v := 1) S.1 S.2.1 dX12_beside_62 (by decide) ?_
      refine lv_iadd S.1 S.2.1 dX12_beside_63 ?_
      exact g_iret (MWd_ok D ad cs) S hr hlk hw dX12_beside_64 hf rfl
    · have hf := itt hf hc
      refine lv_iconst (v := -1) S.1 S.2.1 dX12_beside_57 (by decide) ?_
      refine lv_goto (tgt := 64) S.1 S.2.1 dX12_beside_58 (by decide) ?_
      exact g_iret (MWd_ok D ad cs) S hr hlk hw dX12_beside_64 hf rfl
  have hf := itf hf h3
  refine lv_tableOut (tgt := 65) S.1 S.2.1 dX12_beside_1 (by have h1 := lv_neT h1 (a := 0) (by decide); have h2 := lv_neT h2 (a := 1) (by decide); have h3 := lv_neT h3 (a := 2) (by decide); omega) (by decide) ?_
  refine lv_iload_n S.1 S.2.1 dX12_beside_65 rfl (lv_at hl 0 rfl) ?_
  refine lv_bipush (v := 8) S.1 S.2.1 dX12_beside_66 (by decide) ?_
  refine lv_iadd S.1 S.2.1 dX12_beside_68 ?_
  refine lv_bipush (v := 48) S.1 S.2.1 dX12_beside_69 (by decide) ?_
  refine lv_icmp_ge (tgt := 81) S.1 S.2.1 dX12_beside_71 (by decide) (fun hc => ?_) (fun hc => ?_)
  · have hf := itt hf hc
    refine lv_iconst (v := -1) S.1 S.2.1 dX12_beside_81 (by decide) ?_
    exact g_iret (MWd_ok D ad cs) S hr hlk hw dX12_beside_82 hf rfl
  · have hf := itf hf hc
    refine lv_iload_n S.1 S.2.1 dX12_beside_74 rfl (lv_at hl 0 rfl) ?_
    refine lv_bipush (v := 8) S.1 S.2.1 dX12_beside_75 (by decide) ?_
    refine lv_iadd S.1 S.2.1 dX12_beside_77 ?_
    refine lv_goto (tgt := 82) S.1 S.2.1 dX12_beside_78 (by decide) ?_
    exact g_iret (MWd_ok D ad cs) S hr hlk hw dX12_beside_82 hf rfl
def fX12_costOf (N : Nat) (σ : St) (x1 : Int32) (x2 : Int32) (x3 : Int32) : Option Int32 :=
  bd (fX12_ownerIn N σ x1 (σ.1 0)) fun r1 => if ix x1 48 = true then if (aR σ 8 x1) = (1 : Int32) then (some (-1 : Int32)) else (if r1 = x2 then (some (-1 : Int32)) else (if ix x1 48 = true then if r1 = x3 then (some ((aR σ 7 x1) + (0 : Int32))) else (if ix r1 10 = true then some ((aR σ 7 x1) + (aR σ 45 r1)) else none) else none)) else none
set_option maxHeartbeats 2000000 in
set_option maxRecDepth 20000 in
theorem tX12_costOf {r : Int32} {N : Nat} {σ : St} {x1 : Int32} {x2 : Int32} {x3 : Int32} (hf : fX12_costOf N σ x1 x2 x3 = some r) : CI l (MWd D ad cs) yX12_costOf cX12_costOf 5 (some .int) 1 25 [.ref (ad 0), .int x1, .int x2, .int x3] σ r σ := by
  refine CI.of (by decide) (Nat.le_of_ble_eq_true rfl) ?_
  intro p e s m below meth c ls S hr hlk hw hl
  have hl : lv_has ls 5 [(0, .ref (ad 0)), (1, .int x1), (2, .int x2), (3, .int x3)] := hl
  unfold fX12_costOf at hf
  refine lv_aload_n S.1 S.2.1 dX12_costOf_0 rfl (lv_at hl 0 rfl) ?_
  refine lv_iload_n S.1 S.2.1 dX12_costOf_1 rfl (lv_at hl 1 rfl) ?_
  refine lv_aload_n S.1 S.2.1 dX12_costOf_2 rfl (lv_at hl 0 rfl) ?_
  refine mg_WayLeavesModel_today S hw kf_X12_15 dX12_costOf_3 ?_
  obtain ⟨r1, g2, hf⟩ := bd_s hf
  refine g_Vi (rest := []) (MWd_ok D ad cs) S hw (tX12_ownerIn g2) kt_X12_42 0 me_0 rfl rfl ⟨Nat.le_of_ble_eq_true rfl, Nat.le_of_ble_eq_true rfl⟩ rfl hl.1 rfl (Nat.le_of_ble_eq_true rfl) ⟨Nat.zero_le _, Nat.zero_le _⟩ dX12_costOf_6 (fun H locs hw => ?_)
  refine lv_istore (lv' := [(4, .int r1), (0, .ref (ad 0)), (1, .int x1), (2, .int x2), (3, .int x3)]) S.1 S.2.1 dX12_costOf_9 hl (by decide) rfl (fun ls hl => ?_)
  refine lv_aload_n S.1 S.2.1 dX12_costOf_11 rfl (lv_at hl 1 rfl) ?_
  refine mg_WayLeavesModel_bar S hw kf_X12_64 dX12_costOf_12 ?_
  refine lv_iload_n S.1 S.2.1 dX12_costOf_15 rfl (lv_at hl 2 rfl) ?_
  obtain ⟨h3, hf⟩ := gd_ix hf
  refine g_iald S hw 8 0 me_8 rfl h3 dX12_costOf_16 ?_
  refine lv_iconst (v := 1) S.1 S.2.1 dX12_costOf_17 (by decide) ?_
  refine lv_icmp_eq (tgt := 27) S.1 S.2.1 dX12_costOf_18 (by decide) (fun hc => ?_) (fun hc => ?_)
  · have hf := itt hf hc
    refine lv_iconst (v := -1) S.1 S.2.1 dX12_costOf_27 (by decide) ?_
    refine lv_goto (tgt := 55) S.1 S.2.1 dX12_costOf_28 (by decide) ?_
    exact g_iret (MWd_ok D ad cs) S hr hlk hw dX12_costOf_55 (Option.some.inj hf) rfl
  · have hf := itf hf hc
    refine lv_iload S.1 S.2.1 dX12_costOf_21 (lv_at hl 0 rfl) ?_
    refine lv_iload_n S.1 S.2.1 dX12_costOf_23 rfl (lv_at hl 3 rfl) ?_
    refine lv_icmp_ne (tgt := 31) S.1 S.2.1 dX12_costOf_24 (by decide) (fun hc => ?_) (fun hc => ?_)
    · have hf := itf hf hc
      refine lv_aload_n S.1 S.2.1 dX12_costOf_31 rfl (lv_at hl 1 rfl) ?_
      refine mg_WayLeavesModel_cost S hw kf_X12_61 dX12_costOf_32 ?_
      refine lv_iload_n S.1 S.2.1 dX12_costOf_35 rfl (lv_at hl 2 rfl) ?_
      obtain ⟨h4, hf⟩ := gd_ix hf
      refine g_iald S hw 7 0 me_7 rfl h4 dX12_costOf_36 ?_
      refine lv_iload S.1 S.2.1 dX12_costOf_37 (lv_at hl 0 rfl) ?_
      refine lv_iload_n S.1 S.2.1 dX12_costOf_39 rfl (lv_at hl 4 rfl) ?_
      refine lv_icmp_ne (tgt := 47) S.1 S.2.1 dX12_costOf_40 (by decide) (fun hc => ?_) (fun hc => ?_)
      · have hf := itf hf hc
        refine lv_aload_n S.1 S.2.1 dX12_costOf_47 rfl (lv_at hl 1 rfl) ?_
        refine mg_WayLeavesModel_hold S hw kf_X12_370 dX12_costOf_48 ?_
        refine lv_iload S.1 S.2.1 dX12_costOf_51 (lv_at hl 0 rfl) ?_
        obtain ⟨h5, hf⟩ := gd_ix hf
        refine g_iald S hw 45 0 me_45 rfl h5 dX12_costOf_53 ?_
        refine lv_iadd S.1 S.2.1 dX12_costOf_54 ?_
        exact g_iret (MWd_ok D ad cs) S hr hlk hw dX12_costOf_55 (Option.some.inj hf) rfl
      · have hf := itt hf hc
        refine lv_iconst (v := 0) S.1 S.2.1 dX12_costOf_43 (by decide) ?_
        refine lv_goto (tgt := 54) S.1 S.2.1 dX12_costOf_44 (by decide) ?_
        refine lv_iadd S.1 S.2.1 dX12_costOf_54 ?_
        exact g_iret (MWd_ok D ad cs) S hr hlk hw dX12_costOf_55 (Option.some.inj hf) rfl
    · have hf := itt hf hc
      refine lv_iconst (v := -1) S.1 S.2.1 dX12_costOf_27 (by decide) ?_
      refine lv_goto (tgt := 55) S.1 S.2.1 dX12_costOf_28 (by decide) ?_
      exact g_iret (MWd_ok D ad cs) S hr hlk hw dX12_costOf_55 (Option.some.inj hf) rfl
def fX12_isShorter (N : Nat) (σ : St) (x1 : Int32) (x2 : Int32) (x3 : Int32) : Option Int32 :=
  if ix x3 48 = true then if (aR σ 46 x3) = (-1 : Int32) then (some (1 : Int32)) else (if ix x3 48 = true then if x1 < (aR σ 46 x3) then (some (1 : Int32)) else (if ix x3 48 = true then if x1 = (aR σ 46 x3) then (if ix x3 48 = true then if (aR σ 47 x3) ≤ x2 then (some (0 : Int32)) else (some (1 : Int32)) else none) else (some (0 : Int32)) else none) else none) else none
set_option maxHeartbeats 2000000 in
set_option maxRecDepth 20000 in
theorem tX12_isShorter {r : Int32} {N : Nat} {σ : St} {x1 : Int32} {x2 : Int32} {x3 : Int32} (hf : fX12_isShorter N σ x1 x2 x3 = some r) : CI l (MWd D ad cs) yX12_isShorter cX12_isShorter 4 (some .boolean) 0 0 [.ref (ad 0), .int x1, .int x2, .int x3] σ r σ := by
  refine CI.of (by decide) (Nat.le_of_ble_eq_true rfl) ?_
  intro p e s m below meth c ls S hr hlk hw hl
  have hl : lv_has ls 4 [(0, .ref (ad 0)), (1, .int x1), (2, .int x2), (3, .int x3)] := hl
  unfold fX12_isShorter at hf
  refine lv_aload_n S.1 S.2.1 dX12_isShorter_0 rfl (lv_at hl 0 rfl) ?_
  refine mg_WayLeavesModel_wayCost S hw kf_X12_373 dX12_isShorter_1 ?_
  refine lv_iload_n S.1 S.2.1 dX12_isShorter_4 rfl (lv_at hl 3 rfl) ?_
  obtain ⟨h1, hf⟩ := gd_ix hf
  refine g_iald S hw 46 0 me_46 rfl h1 dX12_isShorter_5 ?_
  refine lv_iconst (v := -1) S.1 S.2.1 dX12_isShorter_6 (by decide) ?_
  refine lv_icmp_eq (tgt := 40) S.1 S.2.1 dX12_isShorter_7 (by decide) (fun hc => ?_) (fun hc => ?_)
  · have hf := itt hf hc
    refine lv_iconst (v := 1) S.1 S.2.1 dX12_isShorter_40 (by decide) ?_
    refine lv_goto (tgt := 45) S.1 S.2.1 dX12_isShorter_41 (by decide) ?_
    exact g_zret (MWd_ok D ad cs) S hr hlk hw rfl dX12_isShorter_45 (Option.some.inj hf) rfl
  · have hf := itf hf hc
    refine lv_iload_n S.1 S.2.1 dX12_isShorter_10 rfl (lv_at hl 1 rfl) ?_
    refine lv_aload_n S.1 S.2.1 dX12_isShorter_11 rfl (lv_at hl 0 rfl) ?_
    refine mg_WayLeavesModel_wayCost S hw kf_X12_373 dX12_isShorter_12 ?_
    refine lv_iload_n S.1 S.2.1 dX12_isShorter_15 rfl (lv_at hl 3 rfl) ?_
    obtain ⟨h2, hf⟩ := gd_ix hf
    refine g_iald S hw 46 0 me_46 rfl h2 dX12_isShorter_16 ?_
    refine lv_icmp_lt (tgt := 40) S.1 S.2.1 dX12_isShorter_17 (by decide) (fun hc => ?_) (fun hc => ?_)
    · have hf := itt hf hc
      refine lv_iconst (v := 1) S.1 S.2.1 dX12_isShorter_40 (by decide) ?_
      refine lv_goto (tgt := 45) S.1 S.2.1 dX12_isShorter_41 (by decide) ?_
      exact g_zret (MWd_ok D ad cs) S hr hlk hw rfl dX12_isShorter_45 (Option.some.inj hf) rfl
    · have hf := itf hf hc
      refine lv_iload_n S.1 S.2.1 dX12_isShorter_20 rfl (lv_at hl 1 rfl) ?_
      refine lv_aload_n S.1 S.2.1 dX12_isShorter_21 rfl (lv_at hl 0 rfl) ?_
      refine mg_WayLeavesModel_wayCost S hw kf_X12_373 dX12_isShorter_22 ?_
      refine lv_iload_n S.1 S.2.1 dX12_isShorter_25 rfl (lv_at hl 3 rfl) ?_
      obtain ⟨h3, hf⟩ := gd_ix hf
      refine g_iald S hw 46 0 me_46 rfl h3 dX12_isShorter_26 ?_
      refine lv_icmp_ne (tgt := 44) S.1 S.2.1 dX12_isShorter_27 (by decide) (fun hc => ?_) (fun hc => ?_)
      · have hf := itf hf hc
        refine lv_iconst (v := 0) S.1 S.2.1 dX12_isShorter_44 (by decide) ?_
        exact g_zret (MWd_ok D ad cs) S hr hlk hw rfl dX12_isShorter_45 (Option.some.inj hf) rfl
      · have hf := itt hf hc
        refine lv_iload_n S.1 S.2.1 dX12_isShorter_30 rfl (lv_at hl 2 rfl) ?_
        refine lv_aload_n S.1 S.2.1 dX12_isShorter_31 rfl (lv_at hl 0 rfl) ?_
        refine mg_WayLeavesModel_wayPlots S hw kf_X12_376 dX12_isShorter_32 ?_
        refine lv_iload_n S.1 S.2.1 dX12_isShorter_35 rfl (lv_at hl 3 rfl) ?_
        obtain ⟨h4, hf⟩ := gd_ix hf
        refine g_iald S hw 47 0 me_47 rfl h4 dX12_isShorter_36 ?_
        refine lv_icmp_ge (tgt := 44) S.1 S.2.1 dX12_isShorter_37 (by decide) (fun hc => ?_) (fun hc => ?_)
        · have hf := itt hf hc
          refine lv_iconst (v := 0) S.1 S.2.1 dX12_isShorter_44 (by decide) ?_
          exact g_zret (MWd_ok D ad cs) S hr hlk hw rfl dX12_isShorter_45 (Option.some.inj hf) rfl
        · have hf := itf hf hc
          refine lv_iconst (v := 1) S.1 S.2.1 dX12_isShorter_40 (by decide) ?_
          refine lv_goto (tgt := 45) S.1 S.2.1 dX12_isShorter_41 (by decide) ?_
          exact g_zret (MWd_ok D ad cs) S hr hlk hw rfl dX12_isShorter_45 (Option.some.inj hf) rfl
def fX12_findWays_179 (N : Nat) (k47 : St → Int32 → Int32 → Int32 → Option St) (k58 : St → Int32 → Int32 → Int32 → Int32 → Option St) (k78 : St → Int32 → Int32 → Int32 → Int32 → Int32 → Int32 → Option St) (σ : St) (x2 : Int32) (x3 : Int32) (x4 : Int32) (x5 : Int32) (x6 : Int32) (x7 : Int32) : Option St :=
  nm (x7 + (1 : Int32)) fun v33 => k78 σ x2 x3 x4 x5 x6 v33
set_option maxHeartbeats 2000000 in
set_option maxRecDepth 20000 in
theorem wX12_findWays_179 {σ' : St} {N : Nat} (S : CallFix p m c cX12_findWays 9 s av BG RX12) (hr : meth.sig.returnType = none) (hlk : meth.locks = false) {k47 : St → Int32 → Int32 → Int32 → Option St} {k58 : St → Int32 → Int32 → Int32 → Int32 → Option St} {k78 : St → Int32 → Int32 → Int32 → Int32 → Int32 → Int32 → Option St} (hk47 : ∀ (σ : St) (x2 : Int32) (x3 : Int32) (x4 : Int32) (ls : Array Slot) (H : Heap) (locs : List Loc), Hw (MWd D ad cs) s σ H locs → lv_has ls 9 [(0, .ref (ad 0)), (2, .int x2), (3, .int x3), (4, .int x4)] → k47 σ x2 x3 x4 = some σ' → W p l e (RM 2 49) s m av below meth c H locs 0 0 (QV below (MWd D ad cs) av s σ') (F0 m 47 ls [])) (hk58 : ∀ (σ : St) (x2 : Int32) (x3 : Int32) (x4 : Int32) (x5 : Int32) (ls : Array Slot) (H : Heap) (locs : List Loc), Hw (MWd D ad cs) s σ H locs → lv_has ls 9 [(0, .ref (ad 0)), (2, .int x2), (3, .int x3), (4, .int x4), (5, .int x5)] → k58 σ x2 x3 x4 x5 = some σ' → W p l e (RM 2 49) s m av below meth c H locs 0 0 (QV below (MWd D ad cs) av s σ') (F0 m 58 ls [])) (hk78 : ∀ (σ : St) (x2 : Int32) (x3 : Int32) (x4 : Int32) (x5 : Int32) (x6 : Int32) (x7 : Int32) (ls : Array Slot) (H : Heap) (locs : List Loc), Hw (MWd D ad cs) s σ H locs → lv_has ls 9 [(0, .ref (ad 0)), (2, .int x2), (3, .int x3), (4, .int x4), (5, .int x5), (6, .int x6), (7, .int x7)] → k78 σ x2 x3 x4 x5 x6 x7 = some σ' → W p l e (RM 2 49) s m av below meth c H locs 0 0 (QV below (MWd D ad cs) av s σ') (F0 m 78 ls []))  {σ : St} {x2 : Int32} {x3 : Int32} {x4 : Int32} {x5 : Int32} {x6 : Int32} {x7 : Int32} {ls : Array Slot} {H : Heap} {locs : List Loc} (hw : Hw (MWd D ad cs) s σ H locs) (hl : lv_has ls 9 [(0, .ref (ad 0)), (2, .int x2), (3, .int x3), (4, .int x4), (5, .int x5), (6, .int x6), (7, .int x7)]) (hf : fX12_findWays_179 N k47 k58 k78 σ x2 x3 x4 x5 x6 x7 = some σ') : W p l e (RM 2 49) s m av below meth c H locs 0 0 (QV below (MWd D ad cs) av s σ') (F0 m 179 ls []) := by
  unfold fX12_findWays_179 at hf
  obtain ⟨v33, e34⟩ : ∃ z : Int32, z = x7 + (1 : Int32) := ⟨_, rfl⟩
  have hf := nm_s e34 hf
  refine lv_iinc (v := v33) (lv' := [(7, .int v33), (0, .ref (ad 0)), (2, .int x2), (3, .int x3), (4, .int x4), (5, .int x5), (6, .int x6)]) S.1 S.2.1 dX12_findWays_179 hl (k := 6) rfl (by rw [e34]; rfl) (by decide) rfl (fun ls hl => ?_)
  refine lv_goto (tgt := 78) S.1 S.2.1 dX12_findWays_182 (by decide) ?_
  exact hk78 σ x2 x3 x4 x5 x6 v33 _ _ _ hw (lv_sub hl [1, 2, 3, 4, 5, 6, 0] rfl) hf
def fX12_findWays_185 (N : Nat) (k47 : St → Int32 → Int32 → Int32 → Option St) (k58 : St → Int32 → Int32 → Int32 → Int32 → Option St) (σ : St) (x2 : Int32) (x3 : Int32) (x4 : Int32) (x5 : Int32) : Option St :=
  nm (x5 + (1 : Int32)) fun v31 => k58 σ x2 x3 x4 v31
set_option maxHeartbeats 2000000 in
set_option maxRecDepth 20000 in
theorem wX12_findWays_185 {σ' : St} {N : Nat} (S : CallFix p m c cX12_findWays 9 s av BG RX12) (hr : meth.sig.returnType = none) (hlk : meth.locks = false) {k47 : St → Int32 → Int32 → Int32 → Option St} {k58 : St → Int32 → Int32 → Int32 → Int32 → Option St} (hk47 : ∀ (σ : St) (x2 : Int32) (x3 : Int32) (x4 : Int32) (ls : Array Slot) (H : Heap) (locs : List Loc), Hw (MWd D ad cs) s σ H locs → lv_has ls 9 [(0, .ref (ad 0)), (2, .int x2), (3, .int x3), (4, .int x4)] → k47 σ x2 x3 x4 = some σ' → W p l e (RM 2 49) s m av below meth c H locs 0 0 (QV below (MWd D ad cs) av s σ') (F0 m 47 ls [])) (hk58 : ∀ (σ : St) (x2 : Int32) (x3 : Int32) (x4 : Int32) (x5 : Int32) (ls : Array Slot) (H : Heap) (locs : List Loc), Hw (MWd D ad cs) s σ H locs → lv_has ls 9 [(0, .ref (ad 0)), (2, .int x2), (3, .int x3), (4, .int x4), (5, .int x5)] → k58 σ x2 x3 x4 x5 = some σ' → W p l e (RM 2 49) s m av below meth c H locs 0 0 (QV below (MWd D ad cs) av s σ') (F0 m 58 ls []))  {σ : St} {x2 : Int32} {x3 : Int32} {x4 : Int32} {x5 : Int32} {ls : Array Slot} {H : Heap} {locs : List Loc} (hw : Hw (MWd D ad cs) s σ H locs) (hl : lv_has ls 9 [(0, .ref (ad 0)), (2, .int x2), (3, .int x3), (4, .int x4), (5, .int x5)]) (hf : fX12_findWays_185 N k47 k58 σ x2 x3 x4 x5 = some σ') : W p l e (RM 2 49) s m av below meth c H locs 0 0 (QV below (MWd D ad cs) av s σ') (F0 m 185 ls []) := by
  unfold fX12_findWays_185 at hf
  obtain ⟨v31, e32⟩ : ∃ z : Int32, z = x5 + (1 : Int32) := ⟨_, rfl⟩
  have hf := nm_s e32 hf
  refine lv_iinc (v := v31) (lv' := [(5, .int v31), (0, .ref (ad 0)), (2, .int x2), (3, .int x3), (4, .int x4)]) S.1 S.2.1 dX12_findWays_185 hl (k := 4) rfl (by rw [e32]; rfl) (by decide) rfl (fun ls hl => ?_)
  refine lv_goto (tgt := 58) S.1 S.2.1 dX12_findWays_188 (by decide) ?_
  exact hk58 σ x2 x3 x4 v31 _ _ _ hw (lv_sub hl [1, 2, 3, 4, 0] rfl) hf
def fX12_findWays_78b (N : Nat) (k47 : St → Int32 → Int32 → Int32 → Option St) (k58 : St → Int32 → Int32 → Int32 → Int32 → Option St) (k78 : St → Int32 → Int32 → Int32 → Int32 → Int32 → Int32 → Option St) (σ : St) (x2 : Int32) (x3 : Int32) (x4 : Int32) (x5 : Int32) (x6 : Int32) (x7 : Int32) : Option St :=
  if (4 : Int32) ≤ x7 then (fX12_findWays_185 N k47 k58 σ x2 x3 x4 x5) else (if x6 = (-1 : Int32) then (fX12_findWays_185 N k47 k58 σ x2 x3 x4 x5) else (nm (fX12_beside x5 x7) fun v16 => if v16 < 0 then (fX12_findWays_179 N k47 k58 k78 σ x2 x3 x4 x5 x6 x7) else (if ix v16 48 = true then if (aR σ 46 v16) = (-1 : Int32) then (fX12_findWays_179 N k47 k58 k78 σ x2 x3 x4 x5 x6 x7) else (if ix v16 48 = true then if ix v16 48 = true then bd (fX12_isShorter N σ ((aR σ 46 v16) + x6) ((aR σ 47 v16) + (1 : Int32)) x5) fun r21 => if r21 = 0 then (fX12_findWays_179 N k47 k58 k78 σ x2 x3 x4 x5 x6 x7) else (if ix v16 48 = true then if ix x5 48 = true then nm (aW σ 46 x5 ((aR σ 46 v16) + x6)) fun σ25 => if ix v16 48 = true then if ix x5 48 = true then nm (aW σ25 47 x5 ((aR σ25 47 v16) + (1 : Int32))) fun σ29 => fX12_findWays_179 N k47 k58 k78 σ29 x2 x3 (1 : Int32) x5 x6 x7 else none else none else none else none) else none else none) else none)))
set_option maxHeartbeats 2000000 in
set_option maxRecDepth 20000 in
theorem wX12_findWays_78b {σ' : St} {N : Nat} (S : CallFix p m c cX12_findWays 9 s av BG RX12) (hr : meth.sig.returnType = none) (hlk : meth.locks = false) {k47 : St → Int32 → Int32 → Int32 → Option St} {k58 : St → Int32 → Int32 → Int32 → Int32 → Option St} {k78 : St → Int32 → Int32 → Int32 → Int32 → Int32 → Int32 → Option St} (hk47 : ∀ (σ : St) (x2 : Int32) (x3 : Int32) (x4 : Int32) (ls : Array Slot) (H : Heap) (locs : List Loc), Hw (MWd D ad cs) s σ H locs → lv_has ls 9 [(0, .ref (ad 0)), (2, .int x2), (3, .int x3), (4, .int x4)] → k47 σ x2 x3 x4 = some σ' → W p l e (RM 2 49) s m av below meth c H locs 0 0 (QV below (MWd D ad cs) av s σ') (F0 m 47 ls [])) (hk58 : ∀ (σ : St) (x2 : Int32) (x3 : Int32) (x4 : Int32) (x5 : Int32) (ls : Array Slot) (H : Heap) (locs : List Loc), Hw (MWd D ad cs) s σ H locs → lv_has ls 9 [(0, .ref (ad 0)), (2, .int x2), (3, .int x3), (4, .int x4), (5, .int x5)] → k58 σ x2 x3 x4 x5 = some σ' → W p l e (RM 2 49) s m av below meth c H locs 0 0 (QV below (MWd D ad cs) av s σ') (F0 m 58 ls [])) (hk78 : ∀ (σ : St) (x2 : Int32) (x3 : Int32) (x4 : Int32) (x5 : Int32) (x6 : Int32) (x7 : Int32) (ls : Array Slot) (H : Heap) (locs : List Loc), Hw (MWd D ad cs) s σ H locs → lv_has ls 9 [(0, .ref (ad 0)), (2, .int x2), (3, .int x3), (4, .int x4), (5, .int x5), (6, .int x6), (7, .int x7)] → k78 σ x2 x3 x4 x5 x6 x7 = some σ' → W p l e (RM 2 49) s m av below meth c H locs 0 0 (QV below (MWd D ad cs) av s σ') (F0 m 78 ls []))  {σ : St} {x2 : Int32} {x3 : Int32} {x4 : Int32} {x5 : Int32} {x6 : Int32} {x7 : Int32} {ls : Array Slot} {H : Heap} {locs : List Loc} (hw : Hw (MWd D ad cs) s σ H locs) (hl : lv_has ls 9 [(0, .ref (ad 0)), (2, .int x2), (3, .int x3), (4, .int x4), (5, .int x5), (6, .int x6), (7, .int x7)]) (hf : fX12_findWays_78b N k47 k58 k78 σ x2 x3 x4 x5 x6 x7 = some σ') : W p l e (RM 2 49) s m av below meth c H locs 0 0 (QV below (MWd D ad cs) av s σ') (F0 m 78 ls []) := by
  unfold fX12_findWays_78b at hf
  refine lv_iload S.1 S.2.1 dX12_findWays_78 (lv_at hl 6 rfl) ?_
  refine lv_iconst (v := 4) S.1 S.2.1 dX12_findWays_80 (by decide) ?_
  refine lv_icmp_ge (tgt := 185) S.1 S.2.1 dX12_findWays_81 (by decide) (fun hc => ?_) (fun hc => ?_)
  · have hf := itt hf hc
    exact wX12_findWays_185 S hr hlk hk47 hk58 hw (lv_sub hl [0, 1, 2, 3, 4] rfl) hf
  · have hf := itf hf hc
    refine lv_iload S.1 S.2.1 dX12_findWays_84 (lv_at hl 5 rfl) ?_
    refine lv_iconst (v := -1) S.1 S.2.1 dX12_findWays_86 (by decide) ?_
    refine lv_icmp_eq (tgt := 185) S.1 S.2.1 dX12_findWays_87 (by decide) (fun hc => ?_) (fun hc => ?_)
    · have hf := itt hf hc
      exact wX12_findWays_185 S hr hlk hk47 hk58 hw (lv_sub hl [0, 1, 2, 3, 4] rfl) hf
    · have hf := itf hf hc
      refine lv_iload S.1 S.2.1 dX12_findWays_90 (lv_at hl 4 rfl) ?_
      refine lv_iload S.1 S.2.1 dX12_findWays_92 (lv_at hl 6 rfl) ?_
      refine g_Si (rest := []) (MWd_ok D ad cs) S hw (tX12_beside (ad := ad) (cs := cs) (σ := σ) rfl) kt_X12_418 ⟨Nat.le_of_ble_eq_true rfl, Nat.le_of_ble_eq_true rfl⟩ rfl hl.1 rfl (Nat.le_of_ble_eq_true rfl) ⟨Nat.zero_le _, Nat.zero_le _⟩ dX12_findWays_94 (fun H locs hw => ?_)
      refine lv_topi (fun v16 e17 => ?_)
      have hf := nm_s e17 hf
      refine lv_istore (lv' := [(8, .int v16), (0, .ref (ad 0)), (2, .int x2), (3, .int x3), (4, .int x4), (5, .int x5), (6, .int x6), (7, .int x7)]) S.1 S.2.1 dX12_findWays_97 hl (by decide) rfl (fun ls hl => ?_)
      refine lv_iload S.1 S.2.1 dX12_findWays_99 (lv_at hl 0 rfl) ?_
      refine lv_if_lt (tgt := 179) S.1 S.2.1 dX12_findWays_101 (by decide) (fun hc => ?_) (fun hc => ?_)
      · have hf := itt hf hc
        exact wX12_findWays_179 S hr hlk hk47 hk58 hk78 hw (lv_sub hl [1, 2, 3, 4, 5, 6, 7] rfl) hf
      · have hf := itf hf hc
        refine lv_aload_n S.1 S.2.1 dX12_findWays_104 rfl (lv_at hl 1 rfl) ?_
        refine mg_WayLeavesModel_wayCost S hw kf_X12_373 dX12_findWays_105 ?_
        refine lv_iload S.1 S.2.1 dX12_findWays_108 (lv_at hl 0 rfl) ?_
        obtain ⟨h18, hf⟩ := gd_ix hf
        refine g_iald S hw 46 0 me_46 rfl h18 dX12_findWays_110 ?_
        refine lv_iconst (v := -1) S.1 S.2.1 dX12_findWays_111 (by decide) ?_
        refine lv_icmp_eq (tgt := 179) S.1 S.2.1 dX12_findWays_112 (by decide) (fun hc => ?_) (fun hc => ?_)
        · have hf := itt hf hc
          exact wX12_findWays_179 S hr hlk hk47 hk58 hk78 hw (lv_sub hl [1, 2, 3, 4, 5, 6, 7] rfl) hf
        · have hf := itf hf hc
          refine lv_aload_n S.1 S.2.1 dX12_findWays_115 rfl (lv_at hl 1 rfl) ?_
          refine lv_aload_n S.1 S.2.1 dX12_findWays_116 rfl (lv_at hl 1 rfl) ?_
          refine mg_WayLeavesModel_wayCost S hw kf_X12_373 dX12_findWays_117 ?_
          refine lv_iload S.1 S.2.1 dX12_findWays_120 (lv_at hl 0 rfl) ?_
          obtain ⟨h19, hf⟩ := gd_ix hf
          refine g_iald S hw 46 0 me_46 rfl h19 dX12_findWays_122 ?_
          refine lv_iload S.1 S.2.1 dX12_findWays_123 (lv_at hl 6 rfl) ?_
          refine lv_iadd S.1 S.2.1 dX12_findWays_125 ?_
          refine lv_aload_n S.1 S.2.1 dX12_findWays_126 rfl (lv_at hl 1 rfl) ?_
          refine mg_WayLeavesModel_wayPlots S hw kf_X12_376 dX12_findWays_127 ?_
          refine lv_iload S.1 S.2.1 dX12_findWays_130 (lv_at hl 0 rfl) ?_
          obtain ⟨h20, hf⟩ := gd_ix hf
          refine g_iald S hw 47 0 me_47 rfl h20 dX12_findWays_132 ?_
          refine lv_iconst (v := 1) S.1 S.2.1 dX12_findWays_133 (by decide) ?_
          refine lv_iadd S.1 S.2.1 dX12_findWays_134 ?_
          refine lv_iload S.1 S.2.1 dX12_findWays_135 (lv_at hl 5 rfl) ?_
          obtain ⟨r21, g22, hf⟩ := bd_s hf
          refine g_Vi (rest := []) (MWd_ok D ad cs) S hw (tX12_isShorter g22) kt_X12_421 0 me_0 rfl rfl ⟨Nat.le_of_ble_eq_true rfl, Nat.le_of_ble_eq_true rfl⟩ rfl hl.1 rfl (Nat.le_of_ble_eq_true rfl) ⟨Nat.zero_le _, Nat.zero_le _⟩ dX12_findWays_137 (fun H locs hw => ?_)
          refine lv_if_eq (tgt := 179) S.1 S.2.1 dX12_findWays_140 (by decide) (fun hc => ?_) (fun hc => ?_)
          · have hf := itt hf hc
            exact wX12_findWays_179 S hr hlk hk47 hk58 hk78 hw (lv_sub hl [1, 2, 3, 4, 5, 6, 7] rfl) hf
          · have hf := itf hf hc
            refine lv_aload_n S.1 S.2.1 dX12_findWays_143 rfl (lv_at hl 1 rfl) ?_
            refine mg_WayLeavesModel_wayCost S hw kf_X12_373 dX12_findWays_144 ?_
            refine lv_iload S.1 S.2.1 dX12_findWays_147 (lv_at hl 5 rfl) ?_
            refine lv_aload_n S.1 S.2.1 dX12_findWays_149 rfl (lv_at hl 1 rfl) ?_
            refine mg_WayLeavesModel_wayCost S hw kf_X12_373 dX12_findWays_150 ?_
            refine lv_iload S.1 S.2.1 dX12_findWays_153 (lv_at hl 0 rfl) ?_
            obtain ⟨h23, hf⟩ := gd_ix hf
            refine g_iald S hw 46 0 me_46 rfl h23 dX12_findWays_155 ?_
            refine lv_iload S.1 S.2.1 dX12_findWays_156 (lv_at hl 6 rfl) ?_
            refine lv_iadd S.1 S.2.1 dX12_findWays_158 ?_
            obtain ⟨h24, hf⟩ := gd_ix hf
            obtain ⟨σ25, e26⟩ : ∃ z : St, z = aW σ 46 x5 ((aR σ 46 v16) + x6) := ⟨_, rfl⟩
            have hf := nm_s e26 hf
            refine g_iast (σ' := σ25) S hw 46 0 me_46 rfl (by rw [e26]; exact ms_46 _) h24 dX12_findWays_159 (fun H locs hw => ?_)
            refine lv_aload_n S.1 S.2.1 dX12_findWays_160 rfl (lv_at hl 1 rfl) ?_
            refine mg_WayLeavesModel_wayPlots S hw kf_X12_376 dX12_findWays_161 ?_
            refine lv_iload S.1 S.2.1 dX12_findWays_164 (lv_at hl 5 rfl) ?_
            refine lv_aload_n S.1 S.2.1 dX12_findWays_166 rfl (lv_at hl 1 rfl) ?_
            refine mg_WayLeavesModel_wayPlots S hw kf_X12_376 dX12_findWays_167 ?_
            refine lv_iload S.1 S.2.1 dX12_findWays_170 (lv_at hl 0 rfl) ?_
            obtain ⟨h27, hf⟩ := gd_ix hf
            refine g_iald S hw 47 0 me_47 rfl h27 dX12_findWays_172 ?_
            refine lv_iconst (v := 1) S.1 S.2.1 dX12_findWays_173 (by decide) ?_
            refine lv_iadd S.1 S.2.1 dX12_findWays_174 ?_
            obtain ⟨h28, hf⟩ := gd_ix hf
            obtain ⟨σ29, e30⟩ : ∃ z : St, z = aW σ25 47 x5 ((aR σ25 47 v16) + (1 : Int32)) := ⟨_, rfl⟩
            have hf := nm_s e30 hf
            refine g_iast (σ' := σ29) S hw 47 0 me_47 rfl (by rw [e30]; exact ms_47 _) h28 dX12_findWays_175 (fun H locs hw => ?_)
            refine lv_iconst (v := 1) S.1 S.2.1 dX12_findWays_176 (by decide) ?_
            refine lv_istore (lv' := [(4, .int (1 : Int32)), (8, .int v16), (0, .ref (ad 0)), (2, .int x2), (3, .int x3), (5, .int x5), (6, .int x6), (7, .int x7)]) S.1 S.2.1 dX12_findWays_177 hl (by decide) rfl (fun ls hl => ?_)
            exact wX12_findWays_179 S hr hlk hk47 hk58 hk78 hw (lv_sub hl [2, 3, 4, 0, 5, 6, 7] rfl) hf
def fX12_findWays_78 (N : Nat) (k47 : St → Int32 → Int32 → Int32 → Option St) (k58 : St → Int32 → Int32 → Int32 → Int32 → Option St) : Nat → St → Int32 → Int32 → Int32 → Int32 → Int32 → Int32 → Option St
  | 0 => fun _ _ _ _ _ _ _ => none
  | n + 1 => fX12_findWays_78b N k47 k58 (fX12_findWays_78 N k47 k58 n)
theorem wX12_findWays_78 {σ' : St} {N : Nat} (S : CallFix p m c cX12_findWays 9 s av BG RX12) (hr : meth.sig.returnType = none) (hlk : meth.locks = false) {k47 : St → Int32 → Int32 → Int32 → Option St} {k58 : St → Int32 → Int32 → Int32 → Int32 → Option St} (hk47 : ∀ (σ : St) (x2 : Int32) (x3 : Int32) (x4 : Int32) (ls : Array Slot) (H : Heap) (locs : List Loc), Hw (MWd D ad cs) s σ H locs → lv_has ls 9 [(0, .ref (ad 0)), (2, .int x2), (3, .int x3), (4, .int x4)] → k47 σ x2 x3 x4 = some σ' → W p l e (RM 2 49) s m av below meth c H locs 0 0 (QV below (MWd D ad cs) av s σ') (F0 m 47 ls [])) (hk58 : ∀ (σ : St) (x2 : Int32) (x3 : Int32) (x4 : Int32) (x5 : Int32) (ls : Array Slot) (H : Heap) (locs : List Loc), Hw (MWd D ad cs) s σ H locs → lv_has ls 9 [(0, .ref (ad 0)), (2, .int x2), (3, .int x3), (4, .int x4), (5, .int x5)] → k58 σ x2 x3 x4 x5 = some σ' → W p l e (RM 2 49) s m av below meth c H locs 0 0 (QV below (MWd D ad cs) av s σ') (F0 m 58 ls [])) : ∀ (n : Nat), ∀ (σ : St) (x2 : Int32) (x3 : Int32) (x4 : Int32) (x5 : Int32) (x6 : Int32) (x7 : Int32) (ls : Array Slot) (H : Heap) (locs : List Loc), Hw (MWd D ad cs) s σ H locs → lv_has ls 9 [(0, .ref (ad 0)), (2, .int x2), (3, .int x3), (4, .int x4), (5, .int x5), (6, .int x6), (7, .int x7)] → fX12_findWays_78 N k47 k58 n σ x2 x3 x4 x5 x6 x7 = some σ' → W p l e (RM 2 49) s m av below meth c H locs 0 0 (QV below (MWd D ad cs) av s σ') (F0 m 78 ls []) := by
  intro n
  induction n with
  | zero => intro _ _ _ _ _ _ _ ls H locs hw hl hf; cases hf
  | succ n ih => intro _ _ _ _ _ _ _ ls H locs hw hl hf; exact wX12_findWays_78b S hr hlk hk47 hk58 ih hw hl hf
def fX12_findWays_58b (N : Nat) (k47 : St → Int32 → Int32 → Int32 → Option St) (k58 : St → Int32 → Int32 → Int32 → Int32 → Option St) (σ : St) (x2 : Int32) (x3 : Int32) (x4 : Int32) (x5 : Int32) : Option St :=
  if (48 : Int32) ≤ x5 then (k47 σ x2 x3 x4) else (bd (fX12_costOf N σ x5 x2 x3) fun r14 => fX12_findWays_78 N k47 k58 N σ x2 x3 x4 x5 r14 (0 : Int32))
set_option maxHeartbeats 2000000 in
set_option maxRecDepth 20000 in
theorem wX12_findWays_58b {σ' : St} {N : Nat} (S : CallFix p m c cX12_findWays 9 s av BG RX12) (hr : meth.sig.returnType = none) (hlk : meth.locks = false) {k47 : St → Int32 → Int32 → Int32 → Option St} {k58 : St → Int32 → Int32 → Int32 → Int32 → Option St} (hk47 : ∀ (σ : St) (x2 : Int32) (x3 : Int32) (x4 : Int32) (ls : Array Slot) (H : Heap) (locs : List Loc), Hw (MWd D ad cs) s σ H locs → lv_has ls 9 [(0, .ref (ad 0)), (2, .int x2), (3, .int x3), (4, .int x4)] → k47 σ x2 x3 x4 = some σ' → W p l e (RM 2 49) s m av below meth c H locs 0 0 (QV below (MWd D ad cs) av s σ') (F0 m 47 ls [])) (hk58 : ∀ (σ : St) (x2 : Int32) (x3 : Int32) (x4 : Int32) (x5 : Int32) (ls : Array Slot) (H : Heap) (locs : List Loc), Hw (MWd D ad cs) s σ H locs → lv_has ls 9 [(0, .ref (ad 0)), (2, .int x2), (3, .int x3), (4, .int x4), (5, .int x5)] → k58 σ x2 x3 x4 x5 = some σ' → W p l e (RM 2 49) s m av below meth c H locs 0 0 (QV below (MWd D ad cs) av s σ') (F0 m 58 ls []))  {σ : St} {x2 : Int32} {x3 : Int32} {x4 : Int32} {x5 : Int32} {ls : Array Slot} {H : Heap} {locs : List Loc} (hw : Hw (MWd D ad cs) s σ H locs) (hl : lv_has ls 9 [(0, .ref (ad 0)), (2, .int x2), (3, .int x3), (4, .int x4), (5, .int x5)]) (hf : fX12_findWays_58b N k47 k58 σ x2 x3 x4 x5 = some σ') : W p l e (RM 2 49) s m av below meth c H locs 0 0 (QV below (MWd D ad cs) av s σ') (F0 m 58 ls []) := by
  unfold fX12_findWays_58b at hf
  refine lv_iload S.1 S.2.1 dX12_findWays_58 (lv_at hl 4 rfl) ?_
  refine lv_bipush (v := 48) S.1 S.2.1 dX12_findWays_60 (by decide) ?_
  refine lv_icmp_ge (tgt := 191) S.1 S.2.1 dX12_findWays_62 (by decide) (fun hc => ?_) (fun hc => ?_)
  · have hf := itt hf hc
    refine lv_goto (tgt := 47) S.1 S.2.1 dX12_findWays_191 (by decide) ?_
    exact hk47 σ x2 x3 x4 _ _ _ hw (lv_sub hl [0, 1, 2, 3] rfl) hf
  · have hf := itf hf hc
    refine lv_aload_n S.1 S.2.1 dX12_findWays_65 rfl (lv_at hl 0 rfl) ?_
    refine lv_iload S.1 S.2.1 dX12_findWays_66 (lv_at hl 4 rfl) ?_
    refine lv_iload_n S.1 S.2.1 dX12_findWays_68 rfl (lv_at hl 1 rfl) ?_
    refine lv_iload_n S.1 S.2.1 dX12_findWays_69 rfl (lv_at hl 2 rfl) ?_
    obtain ⟨r14, g15, hf⟩ := bd_s hf
    refine g_Vi (rest := []) (MWd_ok D ad cs) S hw (tX12_costOf g15) kt_X12_415 0 me_0 rfl rfl ⟨Nat.le_of_ble_eq_true rfl, Nat.le_of_ble_eq_true rfl⟩ rfl hl.1 rfl (Nat.le_of_ble_eq_true rfl) ⟨Nat.zero_le _, Nat.zero_le _⟩ dX12_findWays_70 (fun H locs hw => ?_)
    refine lv_istore (lv' := [(6, .int r14), (0, .ref (ad 0)), (2, .int x2), (3, .int x3), (4, .int x4), (5, .int x5)]) S.1 S.2.1 dX12_findWays_73 hl (by decide) rfl (fun ls hl => ?_)
    refine lv_iconst (v := 0) S.1 S.2.1 dX12_findWays_75 (by decide) ?_
    refine lv_istore (lv' := [(7, .int (0 : Int32)), (6, .int r14), (0, .ref (ad 0)), (2, .int x2), (3, .int x3), (4, .int x4), (5, .int x5)]) S.1 S.2.1 dX12_findWays_76 hl (by decide) rfl (fun ls hl => ?_)
    exact wX12_findWays_78 S hr hlk hk47 hk58 N σ x2 x3 x4 x5 r14 (0 : Int32) _ _ _ hw (lv_sub hl [2, 3, 4, 5, 6, 1, 0] rfl) hf
def fX12_findWays_58 (N : Nat) (k47 : St → Int32 → Int32 → Int32 → Option St) : Nat → St → Int32 → Int32 → Int32 → Int32 → Option St
  | 0 => fun _ _ _ _ _ => none
  | n + 1 => fX12_findWays_58b N k47 (fX12_findWays_58 N k47 n)
theorem wX12_findWays_58 {σ' : St} {N : Nat} (S : CallFix p m c cX12_findWays 9 s av BG RX12) (hr : meth.sig.returnType = none) (hlk : meth.locks = false) {k47 : St → Int32 → Int32 → Int32 → Option St} (hk47 : ∀ (σ : St) (x2 : Int32) (x3 : Int32) (x4 : Int32) (ls : Array Slot) (H : Heap) (locs : List Loc), Hw (MWd D ad cs) s σ H locs → lv_has ls 9 [(0, .ref (ad 0)), (2, .int x2), (3, .int x3), (4, .int x4)] → k47 σ x2 x3 x4 = some σ' → W p l e (RM 2 49) s m av below meth c H locs 0 0 (QV below (MWd D ad cs) av s σ') (F0 m 47 ls [])) : ∀ (n : Nat), ∀ (σ : St) (x2 : Int32) (x3 : Int32) (x4 : Int32) (x5 : Int32) (ls : Array Slot) (H : Heap) (locs : List Loc), Hw (MWd D ad cs) s σ H locs → lv_has ls 9 [(0, .ref (ad 0)), (2, .int x2), (3, .int x3), (4, .int x4), (5, .int x5)] → fX12_findWays_58 N k47 n σ x2 x3 x4 x5 = some σ' → W p l e (RM 2 49) s m av below meth c H locs 0 0 (QV below (MWd D ad cs) av s σ') (F0 m 58 ls []) := by
  intro n
  induction n with
  | zero => intro _ _ _ _ _ ls H locs hw hl hf; cases hf
  | succ n ih => intro _ _ _ _ _ ls H locs hw hl hf; exact wX12_findWays_58b S hr hlk hk47 ih hw hl hf
def fX12_findWays_47b (N : Nat) (k47 : St → Int32 → Int32 → Int32 → Option St) (σ : St) (x2 : Int32) (x3 : Int32) (x4 : Int32) : Option St :=
  if x4 = 0 then (some σ) else (fX12_findWays_58 N k47 N σ x2 x3 (0 : Int32) (0 : Int32))
set_option maxHeartbeats 2000000 in
set_option maxRecDepth 20000 in
theorem wX12_findWays_47b {σ' : St} {N : Nat} (S : CallFix p m c cX12_findWays 9 s av BG RX12) (hr : meth.sig.returnType = none) (hlk : meth.locks = false) {k47 : St → Int32 → Int32 → Int32 → Option St} (hk47 : ∀ (σ : St) (x2 : Int32) (x3 : Int32) (x4 : Int32) (ls : Array Slot) (H : Heap) (locs : List Loc), Hw (MWd D ad cs) s σ H locs → lv_has ls 9 [(0, .ref (ad 0)), (2, .int x2), (3, .int x3), (4, .int x4)] → k47 σ x2 x3 x4 = some σ' → W p l e (RM 2 49) s m av below meth c H locs 0 0 (QV below (MWd D ad cs) av s σ') (F0 m 47 ls []))  {σ : St} {x2 : Int32} {x3 : Int32} {x4 : Int32} {ls : Array Slot} {H : Heap} {locs : List Loc} (hw : Hw (MWd D ad cs) s σ H locs) (hl : lv_has ls 9 [(0, .ref (ad 0)), (2, .int x2), (3, .int x3), (4, .int x4)]) (hf : fX12_findWays_47b N k47 σ x2 x3 x4 = some σ') : W p l e (RM 2 49) s m av below meth c H locs 0 0 (QV below (MWd D ad cs) av s σ') (F0 m 47 ls []) := by
  unfold fX12_findWays_47b at hf
  refine lv_iload S.1 S.2.1 dX12_findWays_47 (lv_at hl 3 rfl) ?_
  refine lv_if_eq (tgt := 194) S.1 S.2.1 dX12_findWays_49 (by decide) (fun hc => ?_) (fun hc => ?_)
  · have hf := itt hf hc
    exact g_vret (MWd_ok D ad cs) S hr hlk hw dX12_findWays_194 (Option.some.inj hf)
  · have hf := itf hf hc
    refine lv_iconst (v := 0) S.1 S.2.1 dX12_findWays_52 (by decide) ?_
    refine lv_istore (lv' := [(4, .int (0 : Int32)), (0, .ref (ad 0)), (2, .int x2), (3, .int x3)]) S.1 S.2.1 dX12_findWays_53 hl (by decide) rfl (fun ls hl => ?_)
    refine lv_iconst (v := 0) S.1 S.2.1 dX12_findWays_55 (by decide) ?_
    refine lv_istore (lv' := [(5, .int (0 : Int32)), (4, .int (0 : Int32)), (0, .ref (ad 0)), (2, .int x2), (3, .int x3)]) S.1 S.2.1 dX12_findWays_56 hl (by decide) rfl (fun ls hl => ?_)
    exact wX12_findWays_58 S hr hlk hk47 N σ x2 x3 (0 : Int32) (0 : Int32) _ _ _ hw (lv_sub hl [2, 3, 4, 1, 0] rfl) hf
def fX12_findWays_47 (N : Nat) : Nat → St → Int32 → Int32 → Int32 → Option St
  | 0 => fun _ _ _ _ => none
  | n + 1 => fX12_findWays_47b N (fX12_findWays_47 N n)
theorem wX12_findWays_47 {σ' : St} {N : Nat} (S : CallFix p m c cX12_findWays 9 s av BG RX12) (hr : meth.sig.returnType = none) (hlk : meth.locks = false) : ∀ (n : Nat), ∀ (σ : St) (x2 : Int32) (x3 : Int32) (x4 : Int32) (ls : Array Slot) (H : Heap) (locs : List Loc), Hw (MWd D ad cs) s σ H locs → lv_has ls 9 [(0, .ref (ad 0)), (2, .int x2), (3, .int x3), (4, .int x4)] → fX12_findWays_47 N n σ x2 x3 x4 = some σ' → W p l e (RM 2 49) s m av below meth c H locs 0 0 (QV below (MWd D ad cs) av s σ') (F0 m 47 ls []) := by
  intro n
  induction n with
  | zero => intro _ _ _ _ ls H locs hw hl hf; cases hf
  | succ n ih => intro _ _ _ _ ls H locs hw hl hf; exact wX12_findWays_47b S hr hlk ih hw hl hf
def fX12_findWays_3b (N : Nat) (k3 : St → Int32 → Int32 → Int32 → Int32 → Option St) (σ : St) (x1 : Int32) (x2 : Int32) (x3 : Int32) (x4 : Int32) : Option St :=
  if (48 : Int32) ≤ x4 then (bd (fX12_costOf N σ x1 x2 x3) fun r1 => if ix x1 48 = true then nm (aW σ 46 x1 r1) fun σ4 => if ix x1 48 = true then nm (aW σ4 47 x1 (1 : Int32)) fun σ7 => fX12_findWays_47 N N σ7 x2 x3 (1 : Int32) else none else none) else (if ix x4 48 = true then nm (aW σ 46 x4 (-1 : Int32)) fun σ10 => nm (x4 + (1 : Int32)) fun v12 => k3 σ10 x1 x2 x3 v12 else none)
set_option maxHeartbeats 2000000 in
set_option maxRecDepth 20000 in
theorem wX12_findWays_3b {σ' : St} {N : Nat} (S : CallFix p m c cX12_findWays 9 s av BG RX12) (hr : meth.sig.returnType = none) (hlk : meth.locks = false) {k3 : St → Int32 → Int32 → Int32 → Int32 → Option St} (hk3 : ∀ (σ : St) (x1 : Int32) (x2 : Int32) (x3 : Int32) (x4 : Int32) (ls : Array Slot) (H : Heap) (locs : List Loc), Hw (MWd D ad cs) s σ H locs → lv_has ls 9 [(0, .ref (ad 0)), (1, .int x1), (2, .int x2), (3, .int x3), (4, .int x4)] → k3 σ x1 x2 x3 x4 = some σ' → W p l e (RM 2 49) s m av below meth c H locs 0 0 (QV below (MWd D ad cs) av s σ') (F0 m 3 ls []))  {σ : St} {x1 : Int32} {x2 : Int32} {x3 : Int32} {x4 : Int32} {ls : Array Slot} {H : Heap} {locs : List Loc} (hw : Hw (MWd D ad cs) s σ H locs) (hl : lv_has ls 9 [(0, .ref (ad 0)), (1, .int x1), (2, .int x2), (3, .int x3), (4, .int x4)]) (hf : fX12_findWays_3b N k3 σ x1 x2 x3 x4 = some σ') : W p l e (RM 2 49) s m av below meth c H locs 0 0 (QV below (MWd D ad cs) av s σ') (F0 m 3 ls []) := by
  unfold fX12_findWays_3b at hf
  refine lv_iload S.1 S.2.1 dX12_findWays_3 (lv_at hl 4 rfl) ?_
  refine lv_bipush (v := 48) S.1 S.2.1 dX12_findWays_5 (by decide) ?_
  refine lv_icmp_ge (tgt := 24) S.1 S.2.1 dX12_findWays_7 (by decide) (fun hc => ?_) (fun hc => ?_)
  · have hf := itt hf hc
    refine lv_aload_n S.1 S.2.1 dX12_findWays_24 rfl (lv_at hl 0 rfl) ?_
    refine mg_WayLeavesModel_wayCost S hw kf_X12_373 dX12_findWays_25 ?_
    refine lv_iload_n S.1 S.2.1 dX12_findWays_28 rfl (lv_at hl 1 rfl) ?_
    refine lv_aload_n S.1 S.2.1 dX12_findWays_29 rfl (lv_at hl 0 rfl) ?_
    refine lv_iload_n S.1 S.2.1 dX12_findWays_30 rfl (lv_at hl 1 rfl) ?_
    refine lv_iload_n S.1 S.2.1 dX12_findWays_31 rfl (lv_at hl 2 rfl) ?_
    refine lv_iload_n S.1 S.2.1 dX12_findWays_32 rfl (lv_at hl 3 rfl) ?_
    obtain ⟨r1, g2, hf⟩ := bd_s hf
    refine g_Vi (rest := [.int x1, .ref (ad 46)]) (MWd_ok D ad cs) S hw (tX12_costOf g2) kt_X12_415 0 me_0 rfl rfl ⟨Nat.le_of_ble_eq_true rfl, Nat.le_of_ble_eq_true rfl⟩ rfl hl.1 rfl (Nat.le_of_ble_eq_true rfl) ⟨Nat.zero_le _, Nat.zero_le _⟩ dX12_findWays_33 (fun H locs hw => ?_)
    obtain ⟨h3, hf⟩ := gd_ix hf
    obtain ⟨σ4, e5⟩ : ∃ z : St, z = aW σ 46 x1 r1 := ⟨_, rfl⟩
    have hf := nm_s e5 hf
    refine g_iast (σ' := σ4) S hw 46 0 me_46 rfl (by rw [e5]; exact ms_46 _) h3 dX12_findWays_36 (fun H locs hw => ?_)
    refine lv_aload_n S.1 S.2.1 dX12_findWays_37 rfl (lv_at hl 0 rfl) ?_
    refine mg_WayLeavesModel_wayPlots S hw kf_X12_376 dX12_findWays_38 ?_
    refine lv_iload_n S.1 S.2.1 dX12_findWays_41 rfl (lv_at hl 1 rfl) ?_
    refine lv_iconst (v := 1) S.1 S.2.1 dX12_findWays_42 (by decide) ?_
    obtain ⟨h6, hf⟩ := gd_ix hf
    obtain ⟨σ7, e8⟩ : ∃ z : St, z = aW σ4 47 x1 (1 : Int32) := ⟨_, rfl⟩
    have hf := nm_s e8 hf
    refine g_iast (σ' := σ7) S hw 47 0 me_47 rfl (by rw [e8]; exact ms_47 _) h6 dX12_findWays_43 (fun H locs hw => ?_)
    refine lv_iconst (v := 1) S.1 S.2.1 dX12_findWays_44 (by decide) ?_
    refine lv_istore (lv' := [(4, .int (1 : Int32)), (0, .ref (ad 0)), (1, .int x1), (2, .int x2), (3, .int x3)]) S.1 S.2.1 dX12_findWays_45 hl (by decide) rfl (fun ls hl => ?_)
    exact wX12_findWays_47 S hr hlk N σ7 x2 x3 (1 : Int32) _ _ _ hw (lv_sub hl [1, 3, 4, 0] rfl) hf
  · have hf := itf hf hc
    refine lv_aload_n S.1 S.2.1 dX12_findWays_10 rfl (lv_at hl 0 rfl) ?_
    refine mg_WayLeavesModel_wayCost S hw kf_X12_373 dX12_findWays_11 ?_
    refine lv_iload S.1 S.2.1 dX12_findWays_14 (lv_at hl 4 rfl) ?_
    refine lv_iconst (v := -1) S.1 S.2.1 dX12_findWays_16 (by decide) ?_
    obtain ⟨h9, hf⟩ := gd_ix hf
    obtain ⟨σ10, e11⟩ : ∃ z : St, z = aW σ 46 x4 (-1 : Int32) := ⟨_, rfl⟩
    have hf := nm_s e11 hf
    refine g_iast (σ' := σ10) S hw 46 0 me_46 rfl (by rw [e11]; exact ms_46 _) h9 dX12_findWays_17 (fun H locs hw => ?_)
    obtain ⟨v12, e13⟩ : ∃ z : Int32, z = x4 + (1 : Int32) := ⟨_, rfl⟩
    have hf := nm_s e13 hf
    refine lv_iinc (v := v12) (lv' := [(4, .int v12), (0, .ref (ad 0)), (1, .int x1), (2, .int x2), (3, .int x3)]) S.1 S.2.1 dX12_findWays_18 hl (k := 4) rfl (by rw [e13]; rfl) (by decide) rfl (fun ls hl => ?_)
    refine lv_goto (tgt := 3) S.1 S.2.1 dX12_findWays_21 (by decide) ?_
    exact hk3 σ10 x1 x2 x3 v12 _ _ _ hw (lv_sub hl [1, 2, 3, 4, 0] rfl) hf
def fX12_findWays_3 (N : Nat) : Nat → St → Int32 → Int32 → Int32 → Int32 → Option St
  | 0 => fun _ _ _ _ _ => none
  | n + 1 => fX12_findWays_3b N (fX12_findWays_3 N n)
theorem wX12_findWays_3 {σ' : St} {N : Nat} (S : CallFix p m c cX12_findWays 9 s av BG RX12) (hr : meth.sig.returnType = none) (hlk : meth.locks = false) : ∀ (n : Nat), ∀ (σ : St) (x1 : Int32) (x2 : Int32) (x3 : Int32) (x4 : Int32) (ls : Array Slot) (H : Heap) (locs : List Loc), Hw (MWd D ad cs) s σ H locs → lv_has ls 9 [(0, .ref (ad 0)), (1, .int x1), (2, .int x2), (3, .int x3), (4, .int x4)] → fX12_findWays_3 N n σ x1 x2 x3 x4 = some σ' → W p l e (RM 2 49) s m av below meth c H locs 0 0 (QV below (MWd D ad cs) av s σ') (F0 m 3 ls []) := by
  intro n
  induction n with
  | zero => intro _ _ _ _ _ ls H locs hw hl hf; cases hf
  | succ n ih => intro _ _ _ _ _ ls H locs hw hl hf; exact wX12_findWays_3b S hr hlk ih hw hl hf
def fX12_findWays (N : Nat) (σ : St) (x1 : Int32) (x2 : Int32) (x3 : Int32) : Option St :=
  fX12_findWays_3 N N σ x1 x2 x3 (0 : Int32)
set_option maxHeartbeats 2000000 in
set_option maxRecDepth 20000 in
theorem tX12_findWays {σ' : St} {N : Nat} {σ : St} {x1 : Int32} {x2 : Int32} {x3 : Int32} (hf : fX12_findWays N σ x1 x2 x3 = some σ') : CV l (MWd D ad cs) yX12_findWays cX12_findWays 9 2 49 [.ref (ad 0), .int x1, .int x2, .int x3] σ σ' := by
  refine CV.of (by decide) (Nat.le_of_ble_eq_true rfl) ?_
  intro p e s m below meth c ls S hr hlk hw hl
  have hl : lv_has ls 9 [(0, .ref (ad 0)), (1, .int x1), (2, .int x2), (3, .int x3)] := hl
  unfold fX12_findWays at hf
  refine lv_iconst (v := 0) S.1 S.2.1 dX12_findWays_0 (by decide) ?_
  refine lv_istore (lv' := [(4, .int (0 : Int32)), (0, .ref (ad 0)), (1, .int x1), (2, .int x2), (3, .int x3)]) S.1 S.2.1 dX12_findWays_1 hl (by decide) rfl (fun ls hl => ?_)
  exact wX12_findWays_3 S hr hlk N σ x1 x2 x3 (0 : Int32) _ _ _ hw (lv_sub hl [1, 2, 3, 4, 0] rfl) hf
end METH
