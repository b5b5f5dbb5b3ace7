/-! METHODS (printed by wip/whole/emit.py) -/
section METH
variable {p : Program} {l : Launch} {e : Env} {s : State} {m : MethodId} {av : Array Value} {below : List Frame} {meth : Method} {c : Code} {D : va_G} {ad : Nat → Nat} {cs : Nat → ClassId} {ts adK adV : Nat → Nat}
def fX12_nextOf_77 (N : Nat) (σ : St) (k10 : Int32 → Int32 → Int32 → Option Int32) (x1 : Int32) (x2 : Int32) (x3 : Int32) : Option Int32 :=
  nm (x3 + (1 : Int32)) fun v10 => k10 x1 x2 v10
set_option maxHeartbeats 2000000 in
set_option maxRecDepth 20000 in
theorem wX12_nextOf_77 {r : Int32} {N : Nat} {σ : St} (S : CallFix p m c cX12_nextOf 5 s av BG RX12) (hr : meth.sig.returnType = some .int) (hlk : meth.locks = false) {k10 : Int32 → Int32 → Int32 → Option Int32} (hk10 : ∀ (x1 : Int32) (x2 : Int32) (x3 : Int32) (ls : Array Slot) (H : Heap) (locs : List Loc), Hw (MWd D ad cs) s σ H locs → lv_has ls 5 [(0, .ref (ad 0)), (1, .int x1), (2, .int x2), (3, .int x3)] → k10 x1 x2 x3 = some r → W p l e (RM 2 49) s m av below meth c H locs 0 0 (QI below (MWd D ad cs) av s r σ) (F0 m 10 ls []))  {x1 : Int32} {x2 : Int32} {x3 : Int32} {ls : Array Slot} {H : Heap} {locs : List Loc} (hw : Hw (MWd D ad cs) s σ H locs) (hl : lv_has ls 5 [(0, .ref (ad 0)), (1, .int x1), (2, .int x2), (3, .int x3)]) (hf : fX12_nextOf_77 N σ k10 x1 x2 x3 = some r) : W p l e (RM 2 49) s m av below meth c H locs 0 0 (QI below (MWd D ad cs) av s r σ) (F0 m 77 ls []) := by
  unfold fX12_nextOf_77 at hf
  obtain ⟨v10, e11⟩ : ∃ z : Int32, z = x3 + (1 : Int32) := ⟨_, rfl⟩
  have hf := nm_s e11 hf
  refine lv_iinc (v := v10) (lv' := [(3, .int v10), (0, .ref (ad 0)), (1, .int x1), (2, .int x2)]) S.1 S.2.1 dX12_nextOf_77 hl (k := 3) rfl (by rw [e11]; rfl) (by decide) rfl (fun ls hl => ?_)
  refine lv_goto (tgt := 10) S.1 S.2.1 dX12_nextOf_80 (by decide) ?_
  exact hk10 x1 x2 v10 _ _ _ hw (lv_sub hl [1, 2, 3, 0] rfl) hf
def fX12_nextOf_10b (N : Nat) (σ : St) (k10 : Int32 → Int32 → Int32 → Option Int32) (x1 : Int32) (x2 : Int32) (x3 : Int32) : Option Int32 :=
  if (4 : Int32) ≤ x3 then (some (-1 : Int32)) else (nm (fX12_beside x1 x3) fun v3 => if v3 < 0 then (fX12_nextOf_77 N σ k10 x1 x2 x3) else (if ix v3 48 = true then if (aR σ 46 v3) = (-1 : Int32) then (fX12_nextOf_77 N σ k10 x1 x2 x3) else (if ix v3 48 = true then if ix x1 48 = true then if ((aR σ 46 v3) + x2) = (aR σ 46 x1) then (if ix v3 48 = true then if ix x1 48 = true then if ((aR σ 47 v3) + (1 : Int32)) = (aR σ 47 x1) then (some v3) else (fX12_nextOf_77 N σ k10 x1 x2 x3) else none else none) else (fX12_nextOf_77 N σ k10 x1 x2 x3) else none else none) else none))
set_option maxHeartbeats 2000000 in
set_option maxRecDepth 20000 in
theorem wX12_nextOf_10b {r : Int32} {N : Nat} {σ : St} (S : CallFix p m c cX12_nextOf 5 s av BG RX12) (hr : meth.sig.returnType = some .int) (hlk : meth.locks = false) {k10 : Int32 → Int32 → Int32 → Option Int32} (hk10 : ∀ (x1 : Int32) (x2 : Int32) (x3 : Int32) (ls : Array Slot) (H : Heap) (locs : List Loc), Hw (MWd D ad cs) s σ H locs → lv_has ls 5 [(0, .ref (ad 0)), (1, .int x1), (2, .int x2), (3, .int x3)] → k10 x1 x2 x3 = some r → W p l e (RM 2 49) s m av below meth c H locs 0 0 (QI below (MWd D ad cs) av s r σ) (F0 m 10 ls []))  {x1 : Int32} {x2 : Int32} {x3 : Int32} {ls : Array Slot} {H : Heap} {locs : List Loc} (hw : Hw (MWd D ad cs) s σ H locs) (hl : lv_has ls 5 [(0, .ref (ad 0)), (1, .int x1), (2, .int x2), (3, .int x3)]) (hf : fX12_nextOf_10b N σ k10 x1 x2 x3 = some r) : W p l e (RM 2 49) s m av below meth c H locs 0 0 (QI below (MWd D ad cs) av s r σ) (F0 m 10 ls []) := by
  unfold fX12_nextOf_10b at hf
  refine lv_iload_n S.1 S.2.1 dX12_nextOf_10 rfl (lv_at hl 3 rfl) ?_
  refine lv_iconst (v := 4) S.1 S.2.1 dX12_nextOf_11 (by decide) ?_
  refine lv_icmp_ge (tgt := 83) S.1 S.2.1 dX12_nextOf_12 (by decide) (fun hc => ?_) (fun hc => ?_)
  · have hf := itt hf hc
    refine lv_iconst (v := -1) S.1 S.2.1 dX12_nextOf_83 (by decide) ?_
    exact g_iret (MWd_ok D ad cs) S hr hlk hw dX12_nextOf_84 (Option.some.inj hf) rfl
  · have hf := itf hf hc
    refine lv_iload_n S.1 S.2.1 dX12_nextOf_15 rfl (lv_at hl 1 rfl) ?_
    refine lv_iload_n S.1 S.2.1 dX12_nextOf_16 rfl (lv_at hl 3 rfl) ?_
    refine g_Si (rest := []) (MWd_ok D ad cs) S hw (tX12_beside (ad := ad) (cs := cs) (σ := σ) rfl) kt_X12_418 ⟨Nat.le_of_ble_eq_true rfl, Nat.le_of_ble_eq_true rfl⟩ rfl hl.1 rfl (Nat.le_of_ble_eq_true rfl) ⟨Nat.zero_le _, Nat.zero_le _⟩ dX12_nextOf_17 (fun H locs hw => ?_)
    refine lv_topi (fun v3 e4 => ?_)
    have hf := nm_s e4 hf
    refine lv_istore (lv' := [(4, .int v3), (0, .ref (ad 0)), (1, .int x1), (2, .int x2), (3, .int x3)]) S.1 S.2.1 dX12_nextOf_20 hl (by decide) rfl (fun ls hl => ?_)
    refine lv_iload S.1 S.2.1 dX12_nextOf_22 (lv_at hl 0 rfl) ?_
    refine lv_if_lt (tgt := 77) S.1 S.2.1 dX12_nextOf_24 (by decide) (fun hc => ?_) (fun hc => ?_)
    · have hf := itt hf hc
      exact wX12_nextOf_77 S hr hlk hk10 hw (lv_sub hl [1, 2, 3, 4] rfl) hf
    · have hf := itf hf hc
      refine lv_aload_n S.1 S.2.1 dX12_nextOf_27 rfl (lv_at hl 1 rfl) ?_
      refine mg_WayLeavesModel_wayCost S hw kf_X12_373 dX12_nextOf_28 ?_
      refine lv_iload S.1 S.2.1 dX12_nextOf_31 (lv_at hl 0 rfl) ?_
      obtain ⟨h5, hf⟩ := gd_ix hf
      refine g_iald S hw 46 0 me_46 rfl h5 dX12_nextOf_33 ?_
      refine lv_iconst (v := -1) S.1 S.2.1 dX12_nextOf_34 (by decide) ?_
      refine lv_icmp_eq (tgt := 77) S.1 S.2.1 dX12_nextOf_35 (by decide) (fun hc => ?_) (fun hc => ?_)
      · have hf := itt hf hc
        exact wX12_nextOf_77 S hr hlk hk10 hw (lv_sub hl [1, 2, 3, 4] rfl) hf
      · have hf := itf hf hc
        refine lv_aload_n S.1 S.2.1 dX12_nextOf_38 rfl (lv_at hl 1 rfl) ?_
        refine mg_WayLeavesModel_wayCost S hw kf_X12_373 dX12_nextOf_39 ?_
        refine lv_iload S.1 S.2.1 dX12_nextOf_42 (lv_at hl 0 rfl) ?_
        obtain ⟨h6, hf⟩ := gd_ix hf
        refine g_iald S hw 46 0 me_46 rfl h6 dX12_nextOf_44 ?_
        refine lv_iload_n S.1 S.2.1 dX12_nextOf_45 rfl (lv_at hl 3 rfl) ?_
        refine lv_iadd S.1 S.2.1 dX12_nextOf_46 ?_
        refine lv_aload_n S.1 S.2.1 dX12_nextOf_47 rfl (lv_at hl 1 rfl) ?_
        refine mg_WayLeavesModel_wayCost S hw kf_X12_373 dX12_nextOf_48 ?_
        refine lv_iload_n S.1 S.2.1 dX12_nextOf_51 rfl (lv_at hl 2 rfl) ?_
        obtain ⟨h7, hf⟩ := gd_ix hf
        refine g_iald S hw 46 0 me_46 rfl h7 dX12_nextOf_52 ?_
        refine lv_icmp_ne (tgt := 77) S.1 S.2.1 dX12_nextOf_53 (by decide) (fun hc => ?_) (fun hc => ?_)
        · have hf := itf hf hc
          exact wX12_nextOf_77 S hr hlk hk10 hw (lv_sub hl [1, 2, 3, 4] rfl) hf
        · have hf := itt hf hc
          refine lv_aload_n S.1 S.2.1 dX12_nextOf_56 rfl (lv_at hl 1 rfl) ?_
          refine mg_WayLeavesModel_wayPlots S hw kf_X12_376 dX12_nextOf_57 ?_
          refine lv_iload S.1 S.2.1 dX12_nextOf_60 (lv_at hl 0 rfl) ?_
          obtain ⟨h8, hf⟩ := gd_ix hf
          refine g_iald S hw 47 0 me_47 rfl h8 dX12_nextOf_62 ?_
          refine lv_iconst (v := 1) S.1 S.2.1 dX12_nextOf_63 (by decide) ?_
          refine lv_iadd S.1 S.2.1 dX12_nextOf_64 ?_
          refine lv_aload_n S.1 S.2.1 dX12_nextOf_65 rfl (lv_at hl 1 rfl) ?_
          refine mg_WayLeavesModel_wayPlots S hw kf_X12_376 dX12_nextOf_66 ?_
          refine lv_iload_n S.1 S.2.1 dX12_nextOf_69 rfl (lv_at hl 2 rfl) ?_
          obtain ⟨h9, hf⟩ := gd_ix hf
          refine g_iald S hw 47 0 me_47 rfl h9 dX12_nextOf_70 ?_
          refine lv_icmp_ne (tgt := 77) S.1 S.2.1 dX12_nextOf_71 (by decide) (fun hc => ?_) (fun hc => ?_)
          · have hf := itf hf hc
            exact wX12_nextOf_77 S hr hlk hk10 hw (lv_sub hl [1, 2, 3, 4] rfl) hf
          · have hf := itt hf hc
            refine lv_iload S.1 S.2.1 dX12_nextOf_74 (lv_at hl 0 rfl) ?_
            exact g_iret (MWd_ok D ad cs) S hr hlk hw dX12_nextOf_76 (Option.some.inj hf) rfl
def fX12_nextOf_10 (N : Nat) (σ : St) : Nat → Int32 → Int32 → Int32 → Option Int32
  | 0 => fun _ _ _ => none
  | n + 1 => fX12_nextOf_10b N σ (fX12_nextOf_10 N σ n)
theorem wX12_nextOf_10 {r : Int32} {N : Nat} {σ : St} (S : CallFix p m c cX12_nextOf 5 s av BG RX12) (hr : meth.sig.returnType = some .int) (hlk : meth.locks = false) : ∀ (n : Nat), ∀ (x1 : Int32) (x2 : Int32) (x3 : Int32) (ls : Array Slot) (H : Heap) (locs : List Loc), Hw (MWd D ad cs) s σ H locs → lv_has ls 5 [(0, .ref (ad 0)), (1, .int x1), (2, .int x2), (3, .int x3)] → fX12_nextOf_10 N σ n x1 x2 x3 = some r → W p l e (RM 2 49) s m av below meth c H locs 0 0 (QI below (MWd D ad cs) av s r σ) (F0 m 10 ls []) := by
  intro n
  induction n with
  | zero => intro _ _ _ ls H locs hw hl hf; cases hf
  | succ n ih => intro _ _ _ ls H locs hw hl hf; exact wX12_nextOf_10b S hr hlk ih hw hl hf
def fX12_nextOf (N : Nat) (σ : St) (x1 : Int32) : Option Int32 :=
  bd (fX12_costOf N σ x1 (-1 : Int32) (-1 : Int32)) fun r1 => fX12_nextOf_10 N σ N x1 r1 (0 : Int32)
set_option maxHeartbeats 2000000 in
set_option maxRecDepth 20000 in
theorem tX12_nextOf {r : Int32} {N : Nat} {σ : St} {x1 : Int32} (hf : fX12_nextOf N σ x1 = some r) : CI l (MWd D ad cs) yX12_nextOf cX12_nextOf 5 (some .int) 2 49 [.ref (ad 0), .int x1] σ r σ := by
  refine CI.of (by decide) (Nat.le_of_ble_eq_true rfl) ?_
  intro p e s m below meth c ls S hr hlk hw hl
  have hl : lv_has ls 5 [(0, .ref (ad 0)), (1, .int x1)] := hl
  unfold fX12_nextOf at hf
  refine lv_aload_n S.1 S.2.1 dX12_nextOf_0 rfl (lv_at hl 0 rfl) ?_
  refine lv_iload_n S.1 S.2.1 dX12_nextOf_1 rfl (lv_at hl 1 rfl) ?_
  refine lv_iconst (v := -1) S.1 S.2.1 dX12_nextOf_2 (by decide) ?_
  refine lv_iconst (v := -1) S.1 S.2.1 dX12_nextOf_3 (by decide) ?_
  obtain ⟨r1, g2, hf⟩ := bd_s hf
  refine g_Vi (rest := []) (MWd_ok D ad cs) S hw (tX12_costOf g2) kt_X12_415 0 me_0 rfl rfl ⟨Nat.le_of_ble_eq_true rfl, Nat.le_of_ble_eq_true rfl⟩ rfl hl.1 rfl (Nat.le_of_ble_eq_true rfl) ⟨Nat.zero_le _, Nat.zero_le _⟩ dX12_nextOf_4 (fun H locs hw => ?_)
  refine lv_istore_n (lv' := [(2, .int r1), (0, .ref (ad 0)), (1, .int x1)]) S.1 S.2.1 dX12_nextOf_7 rfl hl (by decide) rfl (fun ls hl => ?_)
  refine lv_iconst (v := 0) S.1 S.2.1 dX12_nextOf_8 (by decide) ?_
  refine lv_istore_n (lv' := [(3, .int (0 : Int32)), (2, .int r1), (0, .ref (ad 0)), (1, .int x1)]) S.1 S.2.1 dX12_nextOf_9 rfl hl (by decide) rfl (fun ls hl => ?_)
  exact wX12_nextOf_10 S hr hlk N x1 r1 (0 : Int32) _ _ _ hw (lv_sub hl [2, 3, 1, 0] rfl) hf
def fX12_way_69b (N : Nat) (k69 : St → Int32 → Int32 → Int32 → Option (Int32 × St)) (σ : St) (x3 : Int32) (x4 : Int32) (x5 : Int32) : Option (Int32 × St) :=
  if x3 ≤ x5 then (some (x4, σ)) else (bd (fX12_nextOf N σ x4) fun r6 => nm (x5 + (1 : Int32)) fun v8 => k69 σ x3 r6 v8)
set_option maxHeartbeats 2000000 in
set_option maxRecDepth 20000 in
theorem wX12_way_69b {r : Int32} {σ' : St} {N : Nat} (S : CallFix p m c cX12_way 6 s av BG RX12) (hr : meth.sig.returnType = some .int) (hlk : meth.locks = false) {k69 : St → Int32 → Int32 → Int32 → Option (Int32 × St)} (hk69 : ∀ (σ : St) (x3 : Int32) (x4 : Int32) (x5 : Int32) (ls : Array Slot) (H : Heap) (locs : List Loc), Hw (MWd D ad cs) s σ H locs → lv_has ls 6 [(0, .ref (ad 0)), (3, .int x3), (4, .int x4), (5, .int x5)] → k69 σ x3 x4 x5 = some (r, σ') → W p l e (RM 3 77) s m av below meth c H locs 0 0 (QI below (MWd D ad cs) av s r σ') (F0 m 69 ls []))  {σ : St} {x3 : Int32} {x4 : Int32} {x5 : Int32} {ls : Array Slot} {H : Heap} {locs : List Loc} (hw : Hw (MWd D ad cs) s σ H locs) (hl : lv_has ls 6 [(0, .ref (ad 0)), (3, .int x3), (4, .int x4), (5, .int x5)]) (hf : fX12_way_69b N k69 σ x3 x4 x5 = some (r, σ')) : W p l e (RM 3 77) s m av below meth c H locs 0 0 (QI below (MWd D ad cs) av s r σ') (F0 m 69 ls []) := by
  unfold fX12_way_69b at hf
  refine lv_iload S.1 S.2.1 dX12_way_69 (lv_at hl 3 rfl) ?_
  refine lv_iload_n S.1 S.2.1 dX12_way_71 rfl (lv_at hl 1 rfl) ?_
  refine lv_icmp_ge (tgt := 89) S.1 S.2.1 dX12_way_72 (by decide) (fun hc => ?_) (fun hc => ?_)
  · have hf := itt hf hc
    refine lv_iload S.1 S.2.1 dX12_way_89 (lv_at hl 2 rfl) ?_
    exact g_iret (MWd_ok D ad cs) S hr hlk hw dX12_way_91 (Prod.mk.inj (Option.some.inj hf)).1 (Prod.mk.inj (Option.some.inj hf)).2
  · have hf := itf hf hc
    refine lv_aload_n S.1 S.2.1 dX12_way_75 rfl (lv_at hl 0 rfl) ?_
    refine lv_iload S.1 S.2.1 dX12_way_76 (lv_at hl 2 rfl) ?_
    obtain ⟨r6, g7, hf⟩ := bd_s hf
    refine g_Vi (rest := []) (MWd_ok D ad cs) S hw (tX12_nextOf g7) kt_X12_429 0 me_0 rfl rfl ⟨Nat.le_of_ble_eq_true rfl, Nat.le_of_ble_eq_true rfl⟩ rfl hl.1 rfl (Nat.le_of_ble_eq_true rfl) ⟨Nat.zero_le _, Nat.zero_le _⟩ dX12_way_78 (fun H locs hw => ?_)
    refine lv_istore (lv' := [(4, .int r6), (0, .ref (ad 0)), (3, .int x3), (5, .int x5)]) S.1 S.2.1 dX12_way_81 hl (by decide) rfl (fun ls hl => ?_)
    obtain ⟨v8, e9⟩ : ∃ z : Int32, z = x5 + (1 : Int32) := ⟨_, rfl⟩
    have hf := nm_s e9 hf
    refine lv_iinc (v := v8) (lv' := [(5, .int v8), (4, .int r6), (0, .ref (ad 0)), (3, .int x3)]) S.1 S.2.1 dX12_way_83 hl (k := 3) rfl (by rw [e9]; rfl) (by decide) rfl (fun ls hl => ?_)
    refine lv_goto (tgt := 69) S.1 S.2.1 dX12_way_86 (by decide) ?_
    exact hk69 σ x3 r6 v8 _ _ _ hw (lv_sub hl [2, 3, 1, 0] rfl) hf
def fX12_way_69 (N : Nat) : Nat → St → Int32 → Int32 → Int32 → Option (Int32 × St)
  | 0 => fun _ _ _ _ => none
  | n + 1 => fX12_way_69b N (fX12_way_69 N n)
theorem wX12_way_69 {r : Int32} {σ' : St} {N : Nat} (S : CallFix p m c cX12_way 6 s av BG RX12) (hr : meth.sig.returnType = some .int) (hlk : meth.locks = false) : ∀ (n : Nat), ∀ (σ : St) (x3 : Int32) (x4 : Int32) (x5 : Int32) (ls : Array Slot) (H : Heap) (locs : List Loc), Hw (MWd D ad cs) s σ H locs → lv_has ls 6 [(0, .ref (ad 0)), (3, .int x3), (4, .int x4), (5, .int x5)] → fX12_way_69 N n σ x3 x4 x5 = some (r, σ') → W p l e (RM 3 77) s m av below meth c H locs 0 0 (QI below (MWd D ad cs) av s r σ') (F0 m 69 ls []) := by
  intro n
  induction n with
  | zero => intro _ _ _ _ ls H locs hw hl hf; cases hf
  | succ n ih => intro _ _ _ _ ls H locs hw hl hf; exact wX12_way_69b S hr hlk ih hw hl hf
def fX12_way (N : Nat) (σ : St) (x1 : Int32) (x2 : Int32) (x3 : Int32) : Option (Int32 × St) :=
  if (fX12_isPlot x1) = 0 then (some ((-2 : Int32), σ)) else (if (fX12_isPlot x2) = 0 then (some ((-2 : Int32), σ)) else (bd (fX12_findWays N σ x2 (-1 : Int32) (-1 : Int32)) fun σ1 => if ix x1 48 = true then if (aR σ1 46 x1) = (-1 : Int32) then (some ((-1 : Int32), σ1)) else (if x3 < (-1 : Int32) then (some ((-1 : Int32), σ1)) else (if ix x1 48 = true then if x3 < (aR σ1 47 x1) then (if x3 = (-1 : Int32) then (if ix x1 48 = true then some ((aR σ1 46 x1), σ1) else none) else (fX12_way_69 N N σ1 x3 x1 (0 : Int32))) else (some ((-1 : Int32), σ1)) else none)) else none))
set_option maxHeartbeats 2000000 in
set_option maxRecDepth 20000 in
theorem tX12_way {r : Int32} {σ' : St} {N : Nat} {σ : St} {x1 : Int32} {x2 : Int32} {x3 : Int32} (hf : fX12_way N σ x1 x2 x3 = some (r, σ')) : CI l (MWd D ad cs) yX12_way cX12_way 6 (some .int) 3 77 [.ref (ad 0), .int x1, .int x2, .int x3] σ r σ' := by
  refine CI.of (by decide) (Nat.le_of_ble_eq_true rfl) ?_
  intro p e s m below meth c ls S hr hlk hw hl
  have hl : lv_has ls 6 [(0, .ref (ad 0)), (1, .int x1), (2, .int x2), (3, .int x3)] := hl
  unfold fX12_way at hf
  refine lv_iload_n S.1 S.2.1 dX12_way_0 rfl (lv_at hl 1 rfl) ?_
  refine g_Si (rest := []) (MWd_ok D ad cs) S hw (tX12_isPlot (ad := ad) (cs := cs) (σ := σ) rfl) kt_X12_19 ⟨Nat.le_of_ble_eq_true rfl, Nat.le_of_ble_eq_true rfl⟩ rfl hl.1 rfl (Nat.le_of_ble_eq_true rfl) ⟨Nat.zero_le _, Nat.zero_le _⟩ dX12_way_1 (fun H locs hw => ?_)
  refine lv_if_eq (tgt := 14) S.1 S.2.1 dX12_way_4 (by decide) (fun hc => ?_) (fun hc => ?_)
  · have hf := itt hf hc
    refine lv_bipush (v := -2) S.1 S.2.1 dX12_way_14 (by decide) ?_
    exact g_iret (MWd_ok D ad cs) S hr hlk hw dX12_way_16 (Prod.mk.inj (Option.some.inj hf)).1 (Prod.mk.inj (Option.some.inj hf)).2
  · have hf := itf hf hc
    refine lv_iload_n S.1 S.2.1 dX12_way_7 rfl (lv_at hl 2 rfl) ?_
    refine g_Si (rest := []) (MWd_ok D ad cs) S hw (tX12_isPlot (ad := ad) (cs := cs) (σ := σ) rfl) kt_X12_19 ⟨Nat.le_of_ble_eq_true rfl, Nat.le_of_ble_eq_true rfl⟩ rfl hl.1 rfl (Nat.le_of_ble_eq_true rfl) ⟨Nat.zero_le _, Nat.zero_le _⟩ dX12_way_8 (fun H locs hw => ?_)
    refine lv_if_ne (tgt := 17) S.1 S.2.1 dX12_way_11 (by decide) (fun hc => ?_) (fun hc => ?_)
    · have hf := itf hf hc
      refine lv_aload_n S.1 S.2.1 dX12_way_17 rfl (lv_at hl 0 rfl) ?_
      refine lv_iload_n S.1 S.2.1 dX12_way_18 rfl (lv_at hl 2 rfl) ?_
      refine lv_iconst (v := -1) S.1 S.2.1 dX12_way_19 (by decide) ?_
      refine lv_iconst (v := -1) S.1 S.2.1 dX12_way_20 (by decide) ?_
      obtain ⟨σ1, g2, hf⟩ := bd_s hf
      refine g_Vv (rest := []) (MWd_ok D ad cs) S hw (tX12_findWays g2) kt_X12_425 0 me_0 rfl rfl ⟨Nat.le_of_ble_eq_true rfl, Nat.le_of_ble_eq_true rfl⟩ rfl hl.1 rfl (Nat.le_of_ble_eq_true rfl) ⟨Nat.zero_le _, Nat.zero_le _⟩ dX12_way_21 (fun H locs hw => ?_)
      refine lv_aload_n S.1 S.2.1 dX12_way_24 rfl (lv_at hl 0 rfl) ?_
      refine mg_WayLeavesModel_wayCost S hw kf_X12_373 dX12_way_25 ?_
      refine lv_iload_n S.1 S.2.1 dX12_way_28 rfl (lv_at hl 1 rfl) ?_
      obtain ⟨h3, hf⟩ := gd_ix hf
      refine g_iald S hw 46 0 me_46 rfl h3 dX12_way_29 ?_
      refine lv_iconst (v := -1) S.1 S.2.1 dX12_way_30 (by decide) ?_
      refine lv_icmp_eq (tgt := 49) S.1 S.2.1 dX12_way_31 (by decide) (fun hc => ?_) (fun hc => ?_)
      · have hf := itt hf hc
        refine lv_iconst (v := -1) S.1 S.2.1 dX12_way_49 (by decide) ?_
        exact g_iret (MWd_ok D ad cs) S hr hlk hw dX12_way_50 (Prod.mk.inj (Option.some.inj hf)).1 (Prod.mk.inj (Option.some.inj hf)).2
      · have hf := itf hf hc
        refine lv_iload_n S.1 S.2.1 dX12_way_34 rfl (lv_at hl 3 rfl) ?_
        refine lv_iconst (v := -1) S.1 S.2.1 dX12_way_35 (by decide) ?_
        refine lv_icmp_lt (tgt := 49) S.1 S.2.1 dX12_way_36 (by decide) (fun hc => ?_) (fun hc => ?_)
        · have hf := itt hf hc
          refine lv_iconst (v := -1) S.1 S.2.1 dX12_way_49 (by decide) ?_
          exact g_iret (MWd_ok D ad cs) S hr hlk hw dX12_way_50 (Prod.mk.inj (Option.some.inj hf)).1 (Prod.mk.inj (Option.some.inj hf)).2
        · have hf := itf hf hc
          refine lv_iload_n S.1 S.2.1 dX12_way_39 rfl (lv_at hl 3 rfl) ?_
          refine lv_aload_n S.1 S.2.1 dX12_way_40 rfl (lv_at hl 0 rfl) ?_
          refine mg_WayLeavesModel_wayPlots S hw kf_X12_376 dX12_way_41 ?_
          refine lv_iload_n S.1 S.2.1 dX12_way_44 rfl (lv_at hl 1 rfl) ?_
          obtain ⟨h4, hf⟩ := gd_ix hf
          refine g_iald S hw 47 0 me_47 rfl h4 dX12_way_45 ?_
          refine lv_icmp_lt (tgt := 51) S.1 S.2.1 dX12_way_46 (by decide) (fun hc => ?_) (fun hc => ?_)
          · have hf := itt hf hc
            refine lv_iload_n S.1 S.2.1 dX12_way_51 rfl (lv_at hl 3 rfl) ?_
            refine lv_iconst (v := -1) S.1 S.2.1 dX12_way_52 (by decide) ?_
            refine lv_icmp_ne (tgt := 63) S.1 S.2.1 dX12_way_53 (by decide) (fun hc => ?_) (fun hc => ?_)
            · have hf := itf hf hc
              refine lv_iload_n S.1 S.2.1 dX12_way_63 rfl (lv_at hl 1 rfl) ?_
              refine lv_istore (lv' := [(4, .int x1), (0, .ref (ad 0)), (1, .int x1), (2, .int x2), (3, .int x3)]) S.1 S.2.1 dX12_way_64 hl (by decide) rfl (fun ls hl => ?_)
              refine lv_iconst (v := 0) S.1 S.2.1 dX12_way_66 (by decide) ?_
              refine lv_istore (lv' := [(5, .int (0 : Int32)), (4, .int x1), (0, .ref (ad 0)), (1, .int x1), (2, .int x2), (3, .int x3)]) S.1 S.2.1 dX12_way_67 hl (by decide) rfl (fun ls hl => ?_)
              exact wX12_way_69 S hr hlk N σ1 x3 x1 (0 : Int32) _ _ _ hw (lv_sub hl [2, 5, 1, 0] rfl) hf
            · have hf := itt hf hc
              refine lv_aload_n S.1 S.2.1 dX12_way_56 rfl (lv_at hl 0 rfl) ?_
              refine mg_WayLeavesModel_wayCost S hw kf_X12_373 dX12_way_57 ?_
              refine lv_iload_n S.1 S.2.1 dX12_way_60 rfl (lv_at hl 1 rfl) ?_
              obtain ⟨h5, hf⟩ := gd_ix hf
              refine g_iald S hw 46 0 me_46 rfl h5 dX12_way_61 ?_
              exact g_iret (MWd_ok D ad cs) S hr hlk hw dX12_way_62 (Prod.mk.inj (Option.some.inj hf)).1 (Prod.mk.inj (Option.some.inj hf)).2
          · have hf := itf hf hc
            refine lv_iconst (v := -1) S.1 S.2.1 dX12_way_49 (by decide) ?_
            exact g_iret (MWd_ok D ad cs) S hr hlk hw dX12_way_50 (Prod.mk.inj (Option.some.inj hf)).1 (Prod.mk.inj (Option.some.inj hf)).2
    · have hf := itt hf hc
      refine lv_bipush (v := -2) S.1 S.2.1 dX12_way_14 (by decide) ?_
      exact g_iret (MWd_ok D ad cs) S hr hlk hw dX12_way_16 (Prod.mk.inj (Option.some.inj hf)).1 (Prod.mk.inj (Option.some.inj hf)).2
def fX12_couldAsk (N : Nat) (σ : St) (x1 : Int32) (x2 : Int32) (x3 : Int32) : Option (Int32 × St) :=
  if (fX12_isOwner x1) = 0 then (some ((-2 : Int32), σ)) else (if (fX12_isPlot x2) = 0 then (some ((-2 : Int32), σ)) else (if (fX12_isPlot x3) = 0 then (some ((-2 : Int32), σ)) else (bd (fX12_findWays N σ x3 x1 (-1 : Int32)) fun σ1 => if ix x2 48 = true then nm (aR σ1 46 x2) fun v4 => if v4 = (-1 : Int32) then (some ((-1 : Int32), σ1)) else (bd (fX12_findWays N σ1 x3 (-1 : Int32) x1) fun σ6 => if ix x2 48 = true then some ((v4 - (aR σ6 46 x2)), σ6) else none) else none)))
set_option maxHeartbeats 2000000 in
set_option maxRecDepth 20000 in
theorem tX12_couldAsk {r : Int32} {σ' : St} {N : Nat} {σ : St} {x1 : Int32} {x2 : Int32} {x3 : Int32} (hf : fX12_couldAsk N σ x1 x2 x3 = some (r, σ')) : CI l (MWd D ad cs) yX12_couldAsk cX12_couldAsk 5 (some .int) 3 77 [.ref (ad 0), .int x1, .int x2, .int x3] σ r σ' := by
  refine CI.of (by decide) (Nat.le_of_ble_eq_true rfl) ?_
  intro p e s m below meth c ls S hr hlk hw hl
  have hl : lv_has ls 5 [(0, .ref (ad 0)), (1, .int x1), (2, .int x2), (3, .int x3)] := hl
  unfold fX12_couldAsk at hf
  refine lv_iload_n S.1 S.2.1 dX12_couldAsk_0 rfl (lv_at hl 1 rfl) ?_
  refine g_Si (rest := []) (MWd_ok D ad cs) S hw (tX12_isOwner (ad := ad) (cs := cs) (σ := σ) rfl) kt_X12_23 ⟨Nat.le_of_ble_eq_true rfl, Nat.le_of_ble_eq_true rfl⟩ rfl hl.1 rfl (Nat.le_of_ble_eq_true rfl) ⟨Nat.zero_le _, Nat.zero_le _⟩ dX12_couldAsk_1 (fun H locs hw => ?_)
  refine lv_if_eq (tgt := 21) S.1 S.2.1 dX12_couldAsk_4 (by decide) (fun hc => ?_) (fun hc => ?_)
  · have hf := itt hf hc
    refine lv_bipush (v := -2) S.1 S.2.1 dX12_couldAsk_21 (by decide) ?_
    exact g_iret (MWd_ok D ad cs) S hr hlk hw dX12_couldAsk_23 (Prod.mk.inj (Option.some.inj hf)).1 (Prod.mk.inj (Option.some.inj hf)).2
  · have hf := itf hf hc
    refine lv_iload_n S.1 S.2.1 dX12_couldAsk_7 rfl (lv_at hl 2 rfl) ?_
    refine g_Si (rest := []) (MWd_ok D ad cs) S hw (tX12_isPlot (ad := ad) (cs := cs) (σ := σ) rfl) kt_X12_19 ⟨Nat.le_of_ble_eq_true rfl, Nat.le_of_ble_eq_true rfl⟩ rfl hl.1 rfl (Nat.le_of_ble_eq_true rfl) ⟨Nat.zero_le _, Nat.zero_le _⟩ dX12_couldAsk_8 (fun H locs hw => ?_)
    refine lv_if_eq (tgt := 21) S.1 S.2.1 dX12_couldAsk_11 (by decide) (fun hc => ?_) (fun hc => ?_)
    · have hf := itt hf hc
      refine lv_bipush (v := -2) S.1 S.2.1 dX12_couldAsk_21 (by decide) ?_
      exact g_iret (MWd_ok D ad cs) S hr hlk hw dX12_couldAsk_23 (Prod.mk.inj (Option.some.inj hf)).1 (Prod.mk.inj (Option.some.inj hf)).2
    · have hf := itf hf hc
      refine lv_iload_n S.1 S.2.1 dX12_couldAsk_14 rfl (lv_at hl 3 rfl) ?_
      refine g_Si (rest := []) (MWd_ok D ad cs) S hw (tX12_isPlot (ad := ad) (cs := cs) (σ := σ) rfl) kt_X12_19 ⟨Nat.le_of_ble_eq_true rfl, Nat.le_of_ble_eq_true rfl⟩ rfl hl.1 rfl (Nat.le_of_ble_eq_true rfl) ⟨Nat.zero_le _, Nat.zero_le _⟩ dX12_couldAsk_15 (fun H locs hw => ?_)
      refine lv_if_ne (tgt := 24) S.1 S.2.1 dX12_couldAsk_18 (by decide) (fun hc => ?_) (fun hc => ?_)
      · have hf := itf hf hc
        refine lv_aload_n S.1 S.2.1 dX12_couldAsk_24 rfl (lv_at hl 0 rfl) ?_
        refine lv_iload_n S.1 S.2.1 dX12_couldAsk_25 rfl (lv_at hl 3 rfl) ?_
        refine lv_iload_n S.1 S.2.1 dX12_couldAsk_26 rfl (lv_at hl 1 rfl) ?_
        refine lv_iconst (v := -1) S.1 S.2.1 dX12_couldAsk_27 (by decide) ?_
        obtain ⟨σ1, g2, hf⟩ := bd_s hf
        refine g_Vv (rest := []) (MWd_ok D ad cs) S hw (tX12_findWays g2) kt_X12_425 0 me_0 rfl rfl ⟨Nat.le_of_ble_eq_true rfl, Nat.le_of_ble_eq_true rfl⟩ rfl hl.1 rfl (Nat.le_of_ble_eq_true rfl) ⟨Nat.zero_le _, Nat.zero_le _⟩ dX12_couldAsk_28 (fun H locs hw => ?_)
        refine lv_aload_n S.1 S.2.1 dX12_couldAsk_31 rfl (lv_at hl 0 rfl) ?_
        refine mg_WayLeavesModel_wayCost S hw kf_X12_373 dX12_couldAsk_32 ?_
        refine lv_iload_n S.1 S.2.1 dX12_couldAsk_35 rfl (lv_at hl 2 rfl) ?_
        obtain ⟨h3, hf⟩ := gd_ix hf
        refine g_iald S hw 46 0 me_46 rfl h3 dX12_couldAsk_36 ?_
        refine lv_topi (fun v4 e5 => ?_)
        have hf := nm_s e5 hf
        refine lv_istore (lv' := [(4, .int v4), (0, .ref (ad 0)), (1, .int x1), (2, .int x2), (3, .int x3)]) S.1 S.2.1 dX12_couldAsk_37 hl (by decide) rfl (fun ls hl => ?_)
        refine lv_iload S.1 S.2.1 dX12_couldAsk_39 (lv_at hl 0 rfl) ?_
        refine lv_iconst (v := -1) S.1 S.2.1 dX12_couldAsk_41 (by decide) ?_
        refine lv_icmp_ne (tgt := 47) S.1 S.2.1 dX12_couldAsk_42 (by decide) (fun hc => ?_) (fun hc => ?_)
        · have hf := itf hf hc
          refine lv_aload_n S.1 S.2.1 dX12_couldAsk_47 rfl (lv_at hl 1 rfl) ?_
          refine lv_iload_n S.1 S.2.1 dX12_couldAsk_48 rfl (lv_at hl 4 rfl) ?_
          refine lv_iconst (v := -1) S.1 S.2.1 dX12_couldAsk_49 (by decide) ?_
          refine lv_iload_n S.1 S.2.1 dX12_couldAsk_50 rfl (lv_at hl 2 rfl) ?_
          obtain ⟨σ6, g7, hf⟩ := bd_s hf
          refine g_Vv (rest := []) (MWd_ok D ad cs) S hw (tX12_findWays g7) kt_X12_425 0 me_0 rfl rfl ⟨Nat.le_of_ble_eq_true rfl, Nat.le_of_ble_eq_true rfl⟩ rfl hl.1 rfl (Nat.le_of_ble_eq_true rfl) ⟨Nat.zero_le _, Nat.zero_le _⟩ dX12_couldAsk_51 (fun H locs hw => ?_)
          refine lv_iload S.1 S.2.1 dX12_couldAsk_54 (lv_at hl 0 rfl) ?_
          refine lv_aload_n S.1 S.2.1 dX12_couldAsk_56 rfl (lv_at hl 1 rfl) ?_
          refine mg_WayLeavesModel_wayCost S hw kf_X12_373 dX12_couldAsk_57 ?_
          refine lv_iload_n S.1 S.2.1 dX12_couldAsk_60 rfl (lv_at hl 3 rfl) ?_
          obtain ⟨h8, hf⟩ := gd_ix hf
          refine g_iald S hw 46 0 me_46 rfl h8 dX12_couldAsk_61 ?_
          refine lv_isub S.1 S.2.1 dX12_couldAsk_62 ?_
          exact g_iret (MWd_ok D ad cs) S hr hlk hw dX12_couldAsk_63 (Prod.mk.inj (Option.some.inj hf)).1 (Prod.mk.inj (Option.some.inj hf)).2
        · have hf := itt hf hc
          refine lv_iconst (v := -1) S.1 S.2.1 dX12_couldAsk_45 (by decide) ?_
          exact g_iret (MWd_ok D ad cs) S hr hlk hw dX12_couldAsk_46 (Prod.mk.inj (Option.some.inj hf)).1 (Prod.mk.inj (Option.some.inj hf)).2
      · have hf := itt hf hc
        refine lv_bipush (v := -2) S.1 S.2.1 dX12_couldAsk_21 (by decide) ?_
        exact g_iret (MWd_ok D ad cs) S hr hlk hw dX12_couldAsk_23 (Prod.mk.inj (Option.some.inj hf)).1 (Prod.mk.inj (Option.some.inj hf)).2
def fX12_asking (N : Nat) (σ : St) (x1 : Int32) (x2 : Int32) : Option (Int32 × St) :=
  if (fX12_isSpan σ x1) = 0 then (some ((-2 : Int32), σ)) else (if (fX12_isIn (x2).toInt64 (1 : Int64) (60 : Int64)) = 0 then (some ((-2 : Int32), σ)) else (if ix x1 16 = true then nm (aR σ 19 x1) fun v2 => if ix x1 16 = true then nm (aW σ 19 x1 x2) fun σ5 => some (v2, σ5) else none else none))
set_option maxHeartbeats 2000000 in
set_option maxRecDepth 20000 in
theorem tX12_asking {r : Int32} {σ' : St} {N : Nat} {σ : St} {x1 : Int32} {x2 : Int32} (hf : fX12_asking N σ x1 x2 = some (r, σ')) : CI l (MWd D ad cs) yX12_asking cX12_asking 4 (some .int) 1 25 [.ref (ad 0), .int x1, .int x2] σ r σ' := by
  refine CI.of (by decide) (Nat.le_of_ble_eq_true rfl) ?_
  intro p e s m below meth c ls S hr hlk hw hl
  have hl : lv_has ls 4 [(0, .ref (ad 0)), (1, .int x1), (2, .int x2)] := hl
  unfold fX12_asking at hf
  refine lv_aload_n S.1 S.2.1 dX12_asking_0 rfl (lv_at hl 0 rfl) ?_
  refine lv_iload_n S.1 S.2.1 dX12_asking_1 rfl (lv_at hl 1 rfl) ?_
  refine g_Vi (rest := []) (MWd_ok D ad cs) S hw (tX12_isSpan (ad := ad) (cs := cs) (σ := σ) rfl) kt_X12_123 0 me_0 rfl rfl ⟨Nat.le_of_ble_eq_true rfl, Nat.le_of_ble_eq_true rfl⟩ rfl hl.1 rfl (Nat.le_of_ble_eq_true rfl) ⟨Nat.zero_le _, Nat.zero_le _⟩ dX12_asking_2 (fun H locs hw => ?_)
  refine lv_if_eq (tgt := 20) S.1 S.2.1 dX12_asking_5 (by decide) (fun hc => ?_) (fun hc => ?_)
  · have hf := itt hf hc
    refine lv_bipush (v := -2) S.1 S.2.1 dX12_asking_20 (by decide) ?_
    exact g_iret (MWd_ok D ad cs) S hr hlk hw dX12_asking_22 (Prod.mk.inj (Option.some.inj hf)).1 (Prod.mk.inj (Option.some.inj hf)).2
  · have hf := itf hf hc
    refine lv_iload_n S.1 S.2.1 dX12_asking_8 rfl (lv_at hl 2 rfl) ?_
    refine lv_i2l S.1 S.2.1 dX12_asking_9 rfl ?_
    refine lv_lconst (v := 1) S.1 S.2.1 dX12_asking_10 (by decide) ?_
    refine lv_ldc2 S.1 S.2.1 S.2.2.2.1 (S.2.2.2.2 _ kc_X12_51) dX12_asking_11 ?_
    refine g_Si (rest := []) (MWd_ok D ad cs) S hw (tX12_isIn (ad := ad) (cs := cs) (σ := σ) rfl) kt_X12_5 ⟨Nat.le_of_ble_eq_true rfl, Nat.le_of_ble_eq_true rfl⟩ rfl hl.1 rfl (Nat.le_of_ble_eq_true rfl) ⟨Nat.zero_le _, Nat.zero_le _⟩ dX12_asking_14 (fun H locs hw => ?_)
    refine lv_if_ne (tgt := 23) S.1 S.2.1 dX12_asking_17 (by decide) (fun hc => ?_) (fun hc => ?_)
    · have hf := itf hf hc
      refine lv_aload_n S.1 S.2.1 dX12_asking_23 rfl (lv_at hl 0 rfl) ?_
      refine mg_WayLeavesModel_asking S hw kf_X12_120 dX12_asking_24 ?_
      refine lv_iload_n S.1 S.2.1 dX12_asking_27 rfl (lv_at hl 1 rfl) ?_
      obtain ⟨h1, hf⟩ := gd_ix hf
      refine g_iald S hw 19 0 me_19 rfl h1 dX12_asking_28 ?_
      refine lv_topi (fun v2 e3 => ?_)
      have hf := nm_s e3 hf
      refine lv_istore_n (lv' := [(3, .int v2), (0, .ref (ad 0)), (1, .int x1), (2, .int x2)]) S.1 S.2.1 dX12_asking_29 rfl hl (by decide) rfl (fun ls hl => ?_)
      refine lv_aload_n S.1 S.2.1 dX12_asking_30 rfl (lv_at hl 1 rfl) ?_
      refine mg_WayLeavesModel_asking S hw kf_X12_120 dX12_asking_31 ?_
      refine lv_iload_n S.1 S.2.1 dX12_asking_34 rfl (lv_at hl 2 rfl) ?_
      refine lv_iload_n S.1 S.2.1 dX12_asking_35 rfl (lv_at hl 3 rfl) ?_
      obtain ⟨h4, hf⟩ := gd_ix hf
      obtain ⟨σ5, e6⟩ : ∃ z : St, z = aW σ 19 x1 x2 := ⟨_, rfl⟩
      have hf := nm_s e6 hf
      refine g_iast (σ' := σ5) S hw 19 0 me_19 rfl (by rw [e6]; exact ms_19 _) h4 dX12_asking_36 (fun H locs hw => ?_)
      refine lv_iload_n S.1 S.2.1 dX12_asking_37 rfl (lv_at hl 0 rfl) ?_
      exact g_iret (MWd_ok D ad cs) S hr hlk hw dX12_asking_38 (Prod.mk.inj (Option.some.inj hf)).1 (Prod.mk.inj (Option.some.inj hf)).2
    · have hf := itt hf hc
      refine lv_bipush (v := -2) S.1 S.2.1 dX12_asking_20 (by decide) ?_
      exact g_iret (MWd_ok D ad cs) S hr hlk hw dX12_asking_22 (Prod.mk.inj (Option.some.inj hf)).1 (Prod.mk.inj (Option.some.inj hf)).2
def fX12_orderOf_112 (N : Nat) (k33 : St → Int32 → Int32 → Int32 → Int32 → Int32 → Option St) (k81 : St → Int32 → Int32 → Int32 → Int32 → Int32 → Int32 → Int32 → Option St) (σ : St) (x1 : Int32) (x3 : Int32) (x4 : Int32) (x5 : Int32) (x6 : Int32) (x8 : Int32) (y0 : Int32) (y1 : Int32) : Option St :=
  nm (y0 - y1) fun v19 => nm (x8 + (1 : Int32)) fun v21 => k81 σ x1 x3 x4 x5 x6 v19 v21
set_option maxHeartbeats 2000000 in
set_option maxRecDepth 20000 in
theorem wX12_orderOf_112 {σ' : St} {N : Nat} (S : CallFix p m c cX12_orderOf 9 s av BG RX12) (hr : meth.sig.returnType = none) (hlk : meth.locks = false) {k33 : St → Int32 → Int32 → Int32 → Int32 → Int32 → Option St} {k81 : St → Int32 → Int32 → Int32 → Int32 → Int32 → Int32 → Int32 → Option St} (hk33 : ∀ (σ : St) (x1 : Int32) (x3 : Int32) (x4 : Int32) (x5 : Int32) (x6 : Int32) (ls : Array Slot) (H : Heap) (locs : List Loc), Hw (MWd D ad cs) s σ H locs → lv_has ls 9 [(0, .ref (ad 0)), (1, .int x1), (3, .int x3), (4, .int x4), (5, .int x5), (6, .int x6)] → k33 σ x1 x3 x4 x5 x6 = some σ' → W p l e (RM 0 0) s m av below meth c H locs 0 0 (QV below (MWd D ad cs) av s σ') (F0 m 33 ls [])) (hk81 : ∀ (σ : St) (x1 : Int32) (x3 : Int32) (x4 : Int32) (x5 : Int32) (x6 : Int32) (x7 : Int32) (x8 : Int32) (ls : Array Slot) (H : Heap) (locs : List Loc), Hw (MWd D ad cs) s σ H locs → lv_has ls 9 [(0, .ref (ad 0)), (1, .int x1), (3, .int x3), (4, .int x4), (5, .int x5), (6, .int x6), (7, .int x7), (8, .int x8)] → k81 σ x1 x3 x4 x5 x6 x7 x8 = some σ' → W p l e (RM 0 0) s m av below meth c H locs 0 0 (QV below (MWd D ad cs) av s σ') (F0 m 81 ls []))  {σ : St} {x1 : Int32} {x3 : Int32} {x4 : Int32} {x5 : Int32} {x6 : Int32} {x8 : Int32} {y0 : Int32} {y1 : Int32} {ls : Array Slot} {H : Heap} {locs : List Loc} (hw : Hw (MWd D ad cs) s σ H locs) (hl : lv_has ls 9 [(0, .ref (ad 0)), (1, .int x1), (3, .int x3), (4, .int x4), (5, .int x5), (6, .int x6), (8, .int x8)]) (hf : fX12_orderOf_112 N k33 k81 σ x1 x3 x4 x5 x6 x8 y0 y1 = some σ') : W p l e (RM 0 0) s m av below meth c H locs 0 0 (QV below (MWd D ad cs) av s σ') (F0 m 112 ls [.int y1, .int y0]) := by
  unfold fX12_orderOf_112 at hf
  refine lv_isub S.1 S.2.1 dX12_orderOf_112 ?_
  refine lv_topi (fun v19 e20 => ?_)
  have hf := nm_s e20 hf
  refine lv_istore (lv' := [(7, .int v19), (0, .ref (ad 0)), (1, .int x1), (3, .int x3), (4, .int x4), (5, .int x5), (6, .int x6), (8, .int x8)]) S.1 S.2.1 dX12_orderOf_113 hl (by decide) rfl (fun ls hl => ?_)
  obtain ⟨v21, e22⟩ : ∃ z : Int32, z = x8 + (1 : Int32) := ⟨_, rfl⟩
  have hf := nm_s e22 hf
  refine lv_iinc (v := v21) (lv' := [(8, .int v21), (7, .int v19), (0, .ref (ad 0)), (1, .int x1), (3, .int x3), (4, .int x4), (5, .int x5), (6, .int x6)]) S.1 S.2.1 dX12_orderOf_115 hl (k := 7) rfl (by rw [e22]; rfl) (by decide) rfl (fun ls hl => ?_)
  refine lv_goto (tgt := 81) S.1 S.2.1 dX12_orderOf_118 (by decide) ?_
  exact hk81 σ x1 x3 x4 x5 x6 v19 v21 _ _ _ hw (lv_sub hl [2, 3, 4, 5, 6, 7, 1, 0] rfl) hf
def fX12_orderOf_96 (N : Nat) (k33 : St → Int32 → Int32 → Int32 → Int32 → Int32 → Option St) (k81 : St → Int32 → Int32 → Int32 → Int32 → Int32 → Int32 → Int32 → Option St) (σ : St) (x1 : Int32) (x3 : Int32) (x4 : Int32) (x5 : Int32) (x6 : Int32) (x7 : Int32) (x8 : Int32) : Option St :=
  if ((x3 >>> (x8 &&& 31)) &&& (1 : Int32)) = 0 then (fX12_orderOf_112 N k33 k81 σ x1 x3 x4 x5 x6 x8 x7 (1 : Int32)) else (fX12_orderOf_112 N k33 k81 σ x1 x3 x4 x5 x6 x8 x7 (0 : Int32))
set_option maxHeartbeats 2000000 in
set_option maxRecDepth 20000 in
theorem wX12_orderOf_96 {σ' : St} {N : Nat} (S : CallFix p m c cX12_orderOf 9 s av BG RX12) (hr : meth.sig.returnType = none) (hlk : meth.locks = false) {k33 : St → Int32 → Int32 → Int32 → Int32 → Int32 → Option St} {k81 : St → Int32 → Int32 → Int32 → Int32 → Int32 → Int32 → Int32 → Option St} (hk33 : ∀ (σ : St) (x1 : Int32) (x3 : Int32) (x4 : Int32) (x5 : Int32) (x6 : Int32) (ls : Array Slot) (H : Heap) (locs : List Loc), Hw (MWd D ad cs) s σ H locs → lv_has ls 9 [(0, .ref (ad 0)), (1, .int x1), (3, .int x3), (4, .int x4), (5, .int x5), (6, .int x6)] → k33 σ x1 x3 x4 x5 x6 = some σ' → W p l e (RM 0 0) s m av below meth c H locs 0 0 (QV below (MWd D ad cs) av s σ') (F0 m 33 ls [])) (hk81 : ∀ (σ : St) (x1 : Int32) (x3 : Int32) (x4 : Int32) (x5 : Int32) (x6 : Int32) (x7 : Int32) (x8 : Int32) (ls : Array Slot) (H : Heap) (locs : List Loc), Hw (MWd D ad cs) s σ H locs → lv_has ls 9 [(0, .ref (ad 0)), (1, .int x1), (3, .int x3), (4, .int x4), (5, .int x5), (6, .int x6), (7, .int x7), (8, .int x8)] → k81 σ x1 x3 x4 x5 x6 x7 x8 = some σ' → W p l e (RM 0 0) s m av below meth c H locs 0 0 (QV below (MWd D ad cs) av s σ') (F0 m 81 ls []))  {σ : St} {x1 : Int32} {x3 : Int32} {x4 : Int32} {x5 : Int32} {x6 : Int32} {x7 : Int32} {x8 : Int32} {ls : Array Slot} {H : Heap} {locs : List Loc} (hw : Hw (MWd D ad cs) s σ H locs) (hl : lv_has ls 9 [(0, .ref (ad 0)), (1, .int x1), (3, .int x3), (4, .int x4), (5, .int x5), (6, .int x6), (7, .int x7), (8, .int x8)]) (hf : fX12_orderOf_96 N k33 k81 σ x1 x3 x4 x5 x6 x7 x8 = some σ') : W p l e (RM 0 0) s m av below meth c H locs 0 0 (QV below (MWd D ad cs) av s σ') (F0 m 96 ls []) := by
  unfold fX12_orderOf_96 at hf
  refine lv_iload S.1 S.2.1 dX12_orderOf_96 (lv_at hl 6 rfl) ?_
  refine lv_iload_n S.1 S.2.1 dX12_orderOf_98 rfl (lv_at hl 2 rfl) ?_
  refine lv_iload S.1 S.2.1 dX12_orderOf_99 (lv_at hl 7 rfl) ?_
  refine lv_ishr S.1 S.2.1 dX12_orderOf_101 ?_
  refine lv_iconst (v := 1) S.1 S.2.1 dX12_orderOf_102 (by decide) ?_
  refine lv_iand S.1 S.2.1 dX12_orderOf_103 ?_
  refine lv_if_ne (tgt := 111) S.1 S.2.1 dX12_orderOf_104 (by decide) (fun hc => ?_) (fun hc => ?_)
  · have hf := itf hf hc
    refine lv_iconst (v := 0) S.1 S.2.1 dX12_orderOf_111 (by decide) ?_
    exact wX12_orderOf_112 S hr hlk hk33 hk81 hw (lv_sub hl [0, 1, 2, 3, 4, 5, 7] rfl) hf
  · have hf := itt hf hc
    refine lv_iconst (v := 1) S.1 S.2.1 dX12_orderOf_107 (by decide) ?_
    refine lv_goto (tgt := 112) S.1 S.2.1 dX12_orderOf_108 (by decide) ?_
    exact wX12_orderOf_112 S hr hlk hk33 hk81 hw (lv_sub hl [0, 1, 2, 3, 4, 5, 7] rfl) hf
def fX12_orderOf_81b (N : Nat) (k33 : St → Int32 → Int32 → Int32 → Int32 → Int32 → Option St) (k81 : St → Int32 → Int32 → Int32 → Int32 → Int32 → Int32 → Int32 → Option St) (σ : St) (x1 : Int32) (x3 : Int32) (x4 : Int32) (x5 : Int32) (x6 : Int32) (x7 : Int32) (x8 : Int32) : Option St :=
  if ((x3 >>> (x8 &&& 31)) &&& (1 : Int32)) = (1 : Int32) then (fX12_orderOf_96 N k33 k81 σ x1 x3 x4 x5 x6 x7 x8) else (if x7 ≤ 0 then (nm (x3 ||| ((1 : Int32) <<< (x8 &&& 31))) fun v12 => if ix x6 6 = true then nm (aW σ 50 x6 x8) fun σ15 => nm (x6 + (1 : Int32)) fun v17 => k33 σ15 x1 v12 x4 x5 v17 else none) else (fX12_orderOf_96 N k33 k81 σ x1 x3 x4 x5 x6 x7 x8))
set_option maxHeartbeats 2000000 in
set_option maxRecDepth 20000 in
theorem wX12_orderOf_81b {σ' : St} {N : Nat} (S : CallFix p m c cX12_orderOf 9 s av BG RX12) (hr : meth.sig.returnType = none) (hlk : meth.locks = false) {k33 : St → Int32 → Int32 → Int32 → Int32 → Int32 → Option St} {k81 : St → Int32 → Int32 → Int32 → Int32 → Int32 → Int32 → Int32 → Option St} (hk33 : ∀ (σ : St) (x1 : Int32) (x3 : Int32) (x4 : Int32) (x5 : Int32) (x6 : Int32) (ls : Array Slot) (H : Heap) (locs : List Loc), Hw (MWd D ad cs) s σ H locs → lv_has ls 9 [(0, .ref (ad 0)), (1, .int x1), (3, .int x3), (4, .int x4), (5, .int x5), (6, .int x6)] → k33 σ x1 x3 x4 x5 x6 = some σ' → W p l e (RM 0 0) s m av below meth c H locs 0 0 (QV below (MWd D ad cs) av s σ') (F0 m 33 ls [])) (hk81 : ∀ (σ : St) (x1 : Int32) (x3 : Int32) (x4 : Int32) (x5 : Int32) (x6 : Int32) (x7 : Int32) (x8 : Int32) (ls : Array Slot) (H : Heap) (locs : List Loc), Hw (MWd D ad cs) s σ H locs → lv_has ls 9 [(0, .ref (ad 0)), (1, .int x1), (3, .int x3), (4, .int x4), (5, .int x5), (6, .int x6), (7, .int x7), (8, .int x8)] → k81 σ x1 x3 x4 x5 x6 x7 x8 = some σ' → W p l e (RM 0 0) s m av below meth c H locs 0 0 (QV below (MWd D ad cs) av s σ') (F0 m 81 ls []))  {σ : St} {x1 : Int32} {x3 : Int32} {x4 : Int32} {x5 : Int32} {x6 : Int32} {x7 : Int32} {x8 : Int32} {ls : Array Slot} {H : Heap} {locs : List Loc} (hw : Hw (MWd D ad cs) s σ H locs) (hl : lv_has ls 9 [(0, .ref (ad 0)), (1, .int x1), (3, .int x3), (4, .int x4), (5, .int x5), (6, .int x6), (7, .int x7), (8, .int x8)]) (hf : fX12_orderOf_81b N k33 k81 σ x1 x3 x4 x5 x6 x7 x8 = some σ') : W p l e (RM 0 0) s m av below meth c H locs 0 0 (QV below (MWd D ad cs) av s σ') (F0 m 81 ls []) := by
  unfold fX12_orderOf_81b at hf
  refine lv_iload_n S.1 S.2.1 dX12_orderOf_81 rfl (lv_at hl 2 rfl) ?_
  refine lv_iload S.1 S.2.1 dX12_orderOf_82 (lv_at hl 7 rfl) ?_
  refine lv_ishr S.1 S.2.1 dX12_orderOf_84 ?_
  refine lv_iconst (v := 1) S.1 S.2.1 dX12_orderOf_85 (by decide) ?_
  refine lv_iand S.1 S.2.1 dX12_orderOf_86 ?_
  refine lv_iconst (v := 1) S.1 S.2.1 dX12_orderOf_87 (by decide) ?_
  refine lv_icmp_eq (tgt := 96) S.1 S.2.1 dX12_orderOf_88 (by decide) (fun hc => ?_) (fun hc => ?_)
  · have hf := itt hf hc
    exact wX12_orderOf_96 S hr hlk hk33 hk81 hw (lv_sub hl [0, 1, 2, 3, 4, 5, 6, 7] rfl) hf
  · have hf := itf hf hc
    refine lv_iload S.1 S.2.1 dX12_orderOf_91 (lv_at hl 6 rfl) ?_
    refine lv_if_le (tgt := 121) S.1 S.2.1 dX12_orderOf_93 (by decide) (fun hc => ?_) (fun hc => ?_)
    · have hf := itt hf hc
      refine lv_iload_n S.1 S.2.1 dX12_orderOf_121 rfl (lv_at hl 2 rfl) ?_
      refine lv_iconst (v := 1) S.1 S.2.1 dX12_orderOf_122 (by decide) ?_
      refine lv_iload S.1 S.2.1 dX12_orderOf_123 (lv_at hl 7 rfl) ?_
      refine lv_ishl S.1 S.2.1 dX12_orderOf_125 ?_
      refine lv_ior S.1 S.2.1 dX12_orderOf_126 ?_
      refine lv_topi (fun v12 e13 => ?_)
      have hf := nm_s e13 hf
      refine lv_istore_n (lv' := [(3, .int v12), (0, .ref (ad 0)), (1, .int x1), (4, .int x4), (5, .int x5), (6, .int x6), (7, .int x7), (8, .int x8)]) S.1 S.2.1 dX12_orderOf_127 rfl hl (by decide) rfl (fun ls hl => ?_)
      refine lv_aload_n S.1 S.2.1 dX12_orderOf_128 rfl (lv_at hl 1 rfl) ?_
      refine mg_WayLeavesModel_orderNow S hw kf_X12_385 dX12_orderOf_129 ?_
      refine lv_iload S.1 S.2.1 dX12_orderOf_132 (lv_at hl 5 rfl) ?_
      refine lv_iload S.1 S.2.1 dX12_orderOf_134 (lv_at hl 7 rfl) ?_
      obtain ⟨h14, hf⟩ := gd_ix hf
      obtain ⟨σ15, e16⟩ : ∃ z : St, z = aW σ 50 x6 x8 := ⟨_, rfl⟩
      have hf := nm_s e16 hf
      refine g_iast (σ' := σ15) S hw 50 0 me_50 rfl (by rw [e16]; exact ms_50 _) h14 dX12_orderOf_136 (fun H locs hw => ?_)
      obtain ⟨v17, e18⟩ : ∃ z : Int32, z = x6 + (1 : Int32) := ⟨_, rfl⟩
      have hf := nm_s e18 hf
      refine lv_iinc (v := v17) (lv' := [(6, .int v17), (3, .int v12), (0, .ref (ad 0)), (1, .int x1), (4, .int x4), (5, .int x5), (7, .int x7), (8, .int x8)]) S.1 S.2.1 dX12_orderOf_137 hl (k := 5) rfl (by rw [e18]; rfl) (by decide) rfl (fun ls hl => ?_)
      refine lv_goto (tgt := 33) S.1 S.2.1 dX12_orderOf_140 (by decide) ?_
      exact hk33 σ15 x1 v12 x4 x5 v17 _ _ _ hw (lv_sub hl [2, 3, 1, 4, 5, 0] rfl) hf
    · have hf := itf hf hc
      exact wX12_orderOf_96 S hr hlk hk33 hk81 hw (lv_sub hl [0, 1, 2, 3, 4, 5, 6, 7] rfl) hf
def fX12_orderOf_81 (N : Nat) (k33 : St → Int32 → Int32 → Int32 → Int32 → Int32 → Option St) : Nat → St → Int32 → Int32 → Int32 → Int32 → Int32 → Int32 → Int32 → Option St
  | 0 => fun _ _ _ _ _ _ _ _ => none
  | n + 1 => fX12_orderOf_81b N k33 (fX12_orderOf_81 N k33 n)
theorem wX12_orderOf_81 {σ' : St} {N : Nat} (S : CallFix p m c cX12_orderOf 9 s av BG RX12) (hr : meth.sig.returnType = none) (hlk : meth.locks = false) {k33 : St → Int32 → Int32 → Int32 → Int32 → Int32 → Option St} (hk33 : ∀ (σ : St) (x1 : Int32) (x3 : Int32) (x4 : Int32) (x5 : Int32) (x6 : Int32) (ls : Array Slot) (H : Heap) (locs : List Loc), Hw (MWd D ad cs) s σ H locs → lv_has ls 9 [(0, .ref (ad 0)), (1, .int x1), (3, .int x3), (4, .int x4), (5, .int x5), (6, .int x6)] → k33 σ x1 x3 x4 x5 x6 = some σ' → W p l e (RM 0 0) s m av below meth c H locs 0 0 (QV below (MWd D ad cs) av s σ') (F0 m 33 ls [])) : ∀ (n : Nat), ∀ (σ : St) (x1 : Int32) (x3 : Int32) (x4 : Int32) (x5 : Int32) (x6 : Int32) (x7 : Int32) (x8 : Int32) (ls : Array Slot) (H : Heap) (locs : List Loc), Hw (MWd D ad cs) s σ H locs → lv_has ls 9 [(0, .ref (ad 0)), (1, .int x1), (3, .int x3), (4, .int x4), (5, .int x5), (6, .int x6), (7, .int x7), (8, .int x8)] → fX12_orderOf_81 N k33 n σ x1 x3 x4 x5 x6 x7 x8 = some σ' → W p l e (RM 0 0) s m av below meth c H locs 0 0 (QV below (MWd D ad cs) av s σ') (F0 m 81 ls []) := by
  intro n
  induction n with
  | zero => intro _ _ _ _ _ _ _ _ ls H locs hw hl hf; cases hf
  | succ n ih => intro _ _ _ _ _ _ _ _ ls H locs hw hl hf; exact wX12_orderOf_81b S hr hlk hk33 ih hw hl hf
def fX12_orderOf_76 (N : Nat) (k33 : St → Int32 → Int32 → Int32 → Int32 → Int32 → Option St) (σ : St) (x1 : Int32) (x3 : Int32) (x4 : Int32) (x6 : Int32) (x7 : Int32) (y0 : Int32) : Option St :=
  fX12_orderOf_81 N k33 N σ x1 x3 x4 y0 x6 x7 (0 : Int32)
set_option maxHeartbeats 2000000 in
set_option maxRecDepth 20000 in
theorem wX12_orderOf_76 {σ' : St} {N : Nat} (S : CallFix p m c cX12_orderOf 9 s av BG RX12) (hr : meth.sig.returnType = none) (hlk : meth.locks = false) {k33 : St → Int32 → Int32 → Int32 → Int32 → Int32 → Option St} (hk33 : ∀ (σ : St) (x1 : Int32) (x3 : Int32) (x4 : Int32) (x5 : Int32) (x6 : Int32) (ls : Array Slot) (H : Heap) (locs : List Loc), Hw (MWd D ad cs) s σ H locs → lv_has ls 9 [(0, .ref (ad 0)), (1, .int x1), (3, .int x3), (4, .int x4), (5, .int x5), (6, .int x6)] → k33 σ x1 x3 x4 x5 x6 = some σ' → W p l e (RM 0 0) s m av below meth c H locs 0 0 (QV below (MWd D ad cs) av s σ') (F0 m 33 ls []))  {σ : St} {x1 : Int32} {x3 : Int32} {x4 : Int32} {x6 : Int32} {x7 : Int32} {y0 : Int32} {ls : Array Slot} {H : Heap} {locs : List Loc} (hw : Hw (MWd D ad cs) s σ H locs) (hl : lv_has ls 9 [(0, .ref (ad 0)), (1, .int x1), (3, .int x3), (4, .int x4), (6, .int x6), (7, .int x7)]) (hf : fX12_orderOf_76 N k33 σ x1 x3 x4 x6 x7 y0 = some σ') : W p l e (RM 0 0) s m av below meth c H locs 0 0 (QV below (MWd D ad cs) av s σ') (F0 m 76 ls [.int y0]) := by
  unfold fX12_orderOf_76 at hf
  refine lv_istore (lv' := [(5, .int y0), (0, .ref (ad 0)), (1, .int x1), (3, .int x3), (4, .int x4), (6, .int x6), (7, .int x7)]) S.1 S.2.1 dX12_orderOf_76 hl (by decide) rfl (fun ls hl => ?_)
  refine lv_iconst (v := 0) S.1 S.2.1 dX12_orderOf_78 (by decide) ?_
  refine lv_istore (lv' := [(8, .int (0 : Int32)), (5, .int y0), (0, .ref (ad 0)), (1, .int x1), (3, .int x3), (4, .int x4), (6, .int x6), (7, .int x7)]) S.1 S.2.1 dX12_orderOf_79 hl (by decide) rfl (fun ls hl => ?_)
  exact wX12_orderOf_81 S hr hlk hk33 N σ x1 x3 x4 y0 x6 x7 (0 : Int32) _ _ _ hw (lv_sub hl [2, 3, 4, 5, 1, 6, 7, 0] rfl) hf
def fX12_orderOf_33b (N : Nat) (k33 : St → Int32 → Int32 → Int32 → Int32 → Int32 → Option St) (σ : St) (x1 : Int32) (x3 : Int32) (x4 : Int32) (x5 : Int32) (x6 : Int32) : Option St :=
  if x1 ≤ x6 then (some σ) else (if ¬ x5 = 0 then nm (x4 / x5) fun v6 => if ¬ x5 = 0 then nm (x4 - x4 / x5 * x5) fun v9 => if ((x1 - (1 : Int32)) - x6) ≤ (1 : Int32) then (fX12_orderOf_76 N k33 σ x1 x3 v9 x6 v6 (1 : Int32)) else (if ¬ ((x1 - (1 : Int32)) - x6) = 0 then fX12_orderOf_76 N k33 σ x1 x3 v9 x6 v6 (x5 / ((x1 - (1 : Int32)) - x6)) else none) else none else none)
set_option maxHeartbeats 2000000 in
set_option maxRecDepth 20000 in
theorem wX12_orderOf_33b {σ' : St} {N : Nat} (S : CallFix p m c cX12_orderOf 9 s av BG RX12) (hr : meth.sig.returnType = none) (hlk : meth.locks = false) {k33 : St → Int32 → Int32 → Int32 → Int32 → Int32 → Option St} (hk33 : ∀ (σ : St) (x1 : Int32) (x3 : Int32) (x4 : Int32) (x5 : Int32) (x6 : Int32) (ls : Array Slot) (H : Heap) (locs : List Loc), Hw (MWd D ad cs) s σ H locs → lv_has ls 9 [(0, .ref (ad 0)), (1, .int x1), (3, .int x3), (4, .int x4), (5, .int x5), (6, .int x6)] → k33 σ x1 x3 x4 x5 x6 = some σ' → W p l e (RM 0 0) s m av below meth c H locs 0 0 (QV below (MWd D ad cs) av s σ') (F0 m 33 ls []))  {σ : St} {x1 : Int32} {x3 : Int32} {x4 : Int32} {x5 : Int32} {x6 : Int32} {ls : Array Slot} {H : Heap} {locs : List Loc} (hw : Hw (MWd D ad cs) s σ H locs) (hl : lv_has ls 9 [(0, .ref (ad 0)), (1, .int x1), (3, .int x3), (4, .int x4), (5, .int x5), (6, .int x6)]) (hf : fX12_orderOf_33b N k33 σ x1 x3 x4 x5 x6 = some σ') : W p l e (RM 0 0) s m av below meth c H locs 0 0 (QV below (MWd D ad cs) av s σ') (F0 m 33 ls []) := by
  unfold fX12_orderOf_33b at hf
  refine lv_iload S.1 S.2.1 dX12_orderOf_33 (lv_at hl 5 rfl) ?_
  refine lv_iload_n S.1 S.2.1 dX12_orderOf_35 rfl (lv_at hl 1 rfl) ?_
  refine lv_icmp_ge (tgt := 143) S.1 S.2.1 dX12_orderOf_36 (by decide) (fun hc => ?_) (fun hc => ?_)
  · have hf := itt hf hc
    exact g_vret (MWd_ok D ad cs) S hr hlk hw dX12_orderOf_143 (Option.some.inj hf)
  · have hf := itf hf hc
    refine lv_iload S.1 S.2.1 dX12_orderOf_39 (lv_at hl 3 rfl) ?_
    refine lv_iload S.1 S.2.1 dX12_orderOf_41 (lv_at hl 4 rfl) ?_
    obtain ⟨h5, hf⟩ := gd_t hf
    refine lv_idiv S.1 S.2.1 dX12_orderOf_43 h5 ?_
    refine lv_topi (fun v6 e7 => ?_)
    have hf := nm_s e7 hf
    refine lv_istore (lv' := [(7, .int v6), (0, .ref (ad 0)), (1, .int x1), (3, .int x3), (4, .int x4), (5, .int x5), (6, .int x6)]) S.1 S.2.1 dX12_orderOf_44 hl (by decide) rfl (fun ls hl => ?_)
    refine lv_iload S.1 S.2.1 dX12_orderOf_46 (lv_at hl 4 rfl) ?_
    refine lv_iload S.1 S.2.1 dX12_orderOf_48 (lv_at hl 5 rfl) ?_
    obtain ⟨h8, hf⟩ := gd_t hf
    refine lv_irem S.1 S.2.1 dX12_orderOf_50 h8 ?_
    refine lv_topi (fun v9 e10 => ?_)
    have hf := nm_s e10 hf
    refine lv_istore (lv' := [(4, .int v9), (7, .int v6), (0, .ref (ad 0)), (1, .int x1), (3, .int x3), (5, .int x5), (6, .int x6)]) S.1 S.2.1 dX12_orderOf_51 hl (by decide) rfl (fun ls hl => ?_)
    refine lv_iload_n S.1 S.2.1 dX12_orderOf_53 rfl (lv_at hl 3 rfl) ?_
    refine lv_iconst (v := 1) S.1 S.2.1 dX12_orderOf_54 (by decide) ?_
    refine lv_isub S.1 S.2.1 dX12_orderOf_55 ?_
    refine lv_iload S.1 S.2.1 dX12_orderOf_56 (lv_at hl 6 rfl) ?_
    refine lv_isub S.1 S.2.1 dX12_orderOf_58 ?_
    refine lv_iconst (v := 1) S.1 S.2.1 dX12_orderOf_59 (by decide) ?_
    refine lv_icmp_le (tgt := 75) S.1 S.2.1 dX12_orderOf_60 (by decide) (fun hc => ?_) (fun hc => ?_)
    · have hf := itt hf hc
      refine lv_iconst (v := 1) S.1 S.2.1 dX12_orderOf_75 (by decide) ?_
      exact wX12_orderOf_76 S hr hlk hk33 hw (lv_sub hl [2, 3, 4, 0, 6, 1] rfl) hf
    · have hf := itf hf hc
      refine lv_iload S.1 S.2.1 dX12_orderOf_63 (lv_at hl 5 rfl) ?_
      refine lv_iload_n S.1 S.2.1 dX12_orderOf_65 rfl (lv_at hl 3 rfl) ?_
      refine lv_iconst (v := 1) S.1 S.2.1 dX12_orderOf_66 (by decide) ?_
      refine lv_isub S.1 S.2.1 dX12_orderOf_67 ?_
      refine lv_iload S.1 S.2.1 dX12_orderOf_68 (lv_at hl 6 rfl) ?_
      refine lv_isub S.1 S.2.1 dX12_orderOf_70 ?_
      obtain ⟨h11, hf⟩ := gd_t hf
      refine lv_idiv S.1 S.2.1 dX12_orderOf_71 h11 ?_
      refine lv_goto (tgt := 76) S.1 S.2.1 dX12_orderOf_72 (by decide) ?_
      exact wX12_orderOf_76 S hr hlk hk33 hw (lv_sub hl [2, 3, 4, 0, 6, 1] rfl) hf
def fX12_orderOf_33 (N : Nat) : Nat → St → Int32 → Int32 → Int32 → Int32 → Int32 → Option St
  | 0 => fun _ _ _ _ _ _ => none
  | n + 1 => fX12_orderOf_33b N (fX12_orderOf_33 N n)
theorem wX12_orderOf_33 {σ' : St} {N : Nat} (S : CallFix p m c cX12_orderOf 9 s av BG RX12) (hr : meth.sig.returnType = none) (hlk : meth.locks = false) : ∀ (n : Nat), ∀ (σ : St) (x1 : Int32) (x3 : Int32) (x4 : Int32) (x5 : Int32) (x6 : Int32) (ls : Array Slot) (H : Heap) (locs : List Loc), Hw (MWd D ad cs) s σ H locs → lv_has ls 9 [(0, .ref (ad 0)), (1, .int x1), (3, .int x3), (4, .int x4), (5, .int x5), (6, .int x6)] → fX12_orderOf_33 N n σ x1 x3 x4 x5 x6 = some σ' → W p l e (RM 0 0) s m av below meth c H locs 0 0 (QV below (MWd D ad cs) av s σ') (F0 m 33 ls []) := by
  intro n
  induction n with
  | zero => intro _ _ _ _ _ _ ls H locs hw hl hf; cases hf
  | succ n ih => intro _ _ _ _ _ _ ls H locs hw hl hf; exact wX12_orderOf_33b S hr hlk ih hw hl hf
def fX12_orderOf_11b (N : Nat) (k11 : St → Int32 → Int32 → Int32 → Int32 → Int32 → Option St) (σ : St) (x1 : Int32) (x3 : Int32) (x4 : Int32) (x5 : Int32) (x6 : Int32) : Option St :=
  if x1 ≤ x6 then (fX12_orderOf_33 N N σ x1 x3 x4 x5 (0 : Int32)) else (nm (x5 * x6) fun v1 => nm (x6 + (1 : Int32)) fun v3 => k11 σ x1 x3 x4 v1 v3)
set_option maxHeartbeats 2000000 in
set_option maxRecDepth 20000 in
theorem wX12_orderOf_11b {σ' : St} {N : Nat} (S : CallFix p m c cX12_orderOf 9 s av BG RX12) (hr : meth.sig.returnType = none) (hlk : meth.locks = false) {k11 : St → Int32 → Int32 → Int32 → Int32 → Int32 → Option St} (hk11 : ∀ (σ : St) (x1 : Int32) (x3 : Int32) (x4 : Int32) (x5 : Int32) (x6 : Int32) (ls : Array Slot) (H : Heap) (locs : List Loc), Hw (MWd D ad cs) s σ H locs → lv_has ls 9 [(0, .ref (ad 0)), (1, .int x1), (3, .int x3), (4, .int x4), (5, .int x5), (6, .int x6)] → k11 σ x1 x3 x4 x5 x6 = some σ' → W p l e (RM 0 0) s m av below meth c H locs 0 0 (QV below (MWd D ad cs) av s σ') (F0 m 11 ls []))  {σ : St} {x1 : Int32} {x3 : Int32} {x4 : Int32} {x5 : Int32} {x6 : Int32} {ls : Array Slot} {H : Heap} {locs : List Loc} (hw : Hw (MWd D ad cs) s σ H locs) (hl : lv_has ls 9 [(0, .ref (ad 0)), (1, .int x1), (3, .int x3), (4, .int x4), (5, .int x5), (6, .int x6)]) (hf : fX12_orderOf_11b N k11 σ x1 x3 x4 x5 x6 = some σ') : W p l e (RM 0 0) s m av below meth c H locs 0 0 (QV below (MWd D ad cs) av s σ') (F0 m 11 ls []) := by
  unfold fX12_orderOf_11b at hf
  refine lv_iload S.1 S.2.1 dX12_orderOf_11 (lv_at hl 5 rfl) ?_
  refine lv_iload_n S.1 S.2.1 dX12_orderOf_13 rfl (lv_at hl 1 rfl) ?_
  refine lv_icmp_ge (tgt := 30) S.1 S.2.1 dX12_orderOf_14 (by decide) (fun hc => ?_) (fun hc => ?_)
  · have hf := itt hf hc
    refine lv_iconst (v := 0) S.1 S.2.1 dX12_orderOf_30 (by decide) ?_
    refine lv_istore (lv' := [(6, .int (0 : Int32)), (0, .ref (ad 0)), (1, .int x1), (3, .int x3), (4, .int x4), (5, .int x5)]) S.1 S.2.1 dX12_orderOf_31 hl (by decide) rfl (fun ls hl => ?_)
    exact wX12_orderOf_33 S hr hlk N σ x1 x3 x4 x5 (0 : Int32) _ _ _ hw (lv_sub hl [1, 2, 3, 4, 5, 0] rfl) hf
  · have hf := itf hf hc
    refine lv_iload S.1 S.2.1 dX12_orderOf_17 (lv_at hl 4 rfl) ?_
    refine lv_iload S.1 S.2.1 dX12_orderOf_19 (lv_at hl 5 rfl) ?_
    refine lv_imul S.1 S.2.1 dX12_orderOf_21 ?_
    refine lv_topi (fun v1 e2 => ?_)
    have hf := nm_s e2 hf
    refine lv_istore (lv' := [(5, .int v1), (0, .ref (ad 0)), (1, .int x1), (3, .int x3), (4, .int x4), (6, .int x6)]) S.1 S.2.1 dX12_orderOf_22 hl (by decide) rfl (fun ls hl => ?_)
    obtain ⟨v3, e4⟩ : ∃ z : Int32, z = x6 + (1 : Int32) := ⟨_, rfl⟩
    have hf := nm_s e4 hf
    refine lv_iinc (v := v3) (lv' := [(6, .int v3), (5, .int v1), (0, .ref (ad 0)), (1, .int x1), (3, .int x3), (4, .int x4)]) S.1 S.2.1 dX12_orderOf_24 hl (k := 5) rfl (by rw [e4]; rfl) (by decide) rfl (fun ls hl => ?_)
    refine lv_goto (tgt := 11) S.1 S.2.1 dX12_orderOf_27 (by decide) ?_
    exact hk11 σ x1 x3 x4 v1 v3 _ _ _ hw (lv_sub hl [2, 3, 4, 5, 1, 0] rfl) hf
def fX12_orderOf_11 (N : Nat) : Nat → St → Int32 → Int32 → Int32 → Int32 → Int32 → Option St
  | 0 => fun _ _ _ _ _ _ => none
  | n + 1 => fX12_orderOf_11b N (fX12_orderOf_11 N n)
theorem wX12_orderOf_11 {σ' : St} {N : Nat} (S : CallFix p m c cX12_orderOf 9 s av BG RX12) (hr : meth.sig.returnType = none) (hlk : meth.locks = false) : ∀ (n : Nat), ∀ (σ : St) (x1 : Int32) (x3 : Int32) (x4 : Int32) (x5 : Int32) (x6 : Int32) (ls : Array Slot) (H : Heap) (locs : List Loc), Hw (MWd D ad cs) s σ H locs → lv_has ls 9 [(0, .ref (ad 0)), (1, .int x1), (3, .int x3), (4, .int x4), (5, .int x5), (6, .int x6)] → fX12_orderOf_11 N n σ x1 x3 x4 x5 x6 = some σ' → W p l e (RM 0 0) s m av below meth c H locs 0 0 (QV below (MWd D ad cs) av s σ') (F0 m 11 ls []) := by
  intro n
  induction n with
  | zero => intro _ _ _ _ _ _ ls H locs hw hl hf; cases hf
  | succ n ih => intro _ _ _ _ _ _ ls H locs hw hl hf; exact wX12_orderOf_11b S hr hlk ih hw hl hf
def fX12_orderOf (N : Nat) (σ : St) (x1 : Int32) (x2 : Int32) : Option St :=
  fX12_orderOf_11 N N σ x1 (0 : Int32) x2 (1 : Int32) (2 : Int32)
set_option maxHeartbeats 2000000 in
set_option maxRecDepth 20000 in
theorem tX12_orderOf {σ' : St} {N : Nat} {σ : St} {x1 : Int32} {x2 : Int32} (hf : fX12_orderOf N σ x1 x2 = some σ') : CV l (MWd D ad cs) yX12_orderOf cX12_orderOf 9 0 0 [.ref (ad 0), .int x1, .int x2] σ σ' := by
  refine CV.of (by decide) (Nat.le_of_ble_eq_true rfl) ?_
  intro p e s m below meth c ls S hr hlk hw hl
  have hl : lv_has ls 9 [(0, .ref (ad 0)), (1, .int x1), (2, .int x2)] := hl
  unfold fX12_orderOf at hf
  refine lv_iconst (v := 0) S.1 S.2.1 dX12_orderOf_0 (by decide) ?_
  refine lv_istore_n (lv' := [(3, .int (0 : Int32)), (0, .ref (ad 0)), (1, .int x1), (2, .int x2)]) S.1 S.2.1 dX12_orderOf_1 rfl hl (by decide) rfl (fun ls hl => ?_)
  refine lv_iload_n S.1 S.2.1 dX12_orderOf_2 rfl (lv_at hl 3 rfl) ?_
  refine lv_istore (lv' := [(4, .int x2), (3, .int (0 : Int32)), (0, .ref (ad 0)), (1, .int x1), (2, .int x2)]) S.1 S.2.1 dX12_orderOf_3 hl (by decide) rfl (fun ls hl => ?_)
  refine lv_iconst (v := 1) S.1 S.2.1 dX12_orderOf_5 (by decide) ?_
  refine lv_istore (lv' := [(5, .int (1 : Int32)), (4, .int x2), (3, .int (0 : Int32)), (0, .ref (ad 0)), (1, .int x1), (2, .int x2)]) S.1 S.2.1 dX12_orderOf_6 hl (by decide) rfl (fun ls hl => ?_)
  refine lv_iconst (v := 2) S.1 S.2.1 dX12_orderOf_8 (by decide) ?_
  refine lv_istore (lv' := [(6, .int (2 : Int32)), (5, .int (1 : Int32)), (4, .int x2), (3, .int (0 : Int32)), (0, .ref (ad 0)), (1, .int x1), (2, .int x2)]) S.1 S.2.1 dX12_orderOf_9 hl (by decide) rfl (fun ls hl => ?_)
  exact wX12_orderOf_11 S hr hlk N σ x1 (0 : Int32) x2 (1 : Int32) (2 : Int32) _ _ _ hw (lv_sub hl [4, 5, 3, 2, 1, 0] rfl) hf
def fX12_judge_85 (N : Nat) (k13 : St → Int32 → Int32 → Int32 → Int32 → Int32 → Option St) (σ : St) (x1 : Int32) (x3 : Int32) (x4 : Int32) (x5 : Int32) (y0 : Int32) (y1 : Int32) : Option St :=
  nm (y0 + y1) fun v16 => nm (x5 + (1 : Int32)) fun v18 => k13 σ x1 v16 x3 x4 v18
set_option maxHeartbeats 2000000 in
set_option maxRecDepth 20000 in
theorem wX12_judge_85 {σ' : St} {N : Nat} (S : CallFix p m c cX12_judge 6 s av BG RX12) (hr : meth.sig.returnType = none) (hlk : meth.locks = false) {k13 : St → Int32 → Int32 → Int32 → Int32 → Int32 → Option St} (hk13 : ∀ (σ : St) (x1 : Int32) (x2 : Int32) (x3 : Int32) (x4 : Int32) (x5 : Int32) (ls : Array Slot) (H : Heap) (locs : List Loc), Hw (MWd D ad cs) s σ H locs → lv_has ls 6 [(0, .ref (ad 0)), (1, .int x1), (2, .int x2), (3, .int x3), (4, .int x4), (5, .int x5)] → k13 σ x1 x2 x3 x4 x5 = some σ' → W p l e (RM 0 0) s m av below meth c H locs 0 0 (QV below (MWd D ad cs) av s σ') (F0 m 13 ls []))  {σ : St} {x1 : Int32} {x3 : Int32} {x4 : Int32} {x5 : Int32} {y0 : Int32} {y1 : Int32} {ls : Array Slot} {H : Heap} {locs : List Loc} (hw : Hw (MWd D ad cs) s σ H locs) (hl : lv_has ls 6 [(0, .ref (ad 0)), (1, .int x1), (3, .int x3), (4, .int x4), (5, .int x5)]) (hf : fX12_judge_85 N k13 σ x1 x3 x4 x5 y0 y1 = some σ') : W p l e (RM 0 0) s m av below meth c H locs 0 0 (QV below (MWd D ad cs) av s σ') (F0 m 85 ls [.int y1, .int y0]) := by
  unfold fX12_judge_85 at hf
  refine lv_iadd S.1 S.2.1 dX12_judge_85 ?_
  refine lv_topi (fun v16 e17 => ?_)
  have hf := nm_s e17 hf
  refine lv_istore_n (lv' := [(2, .int v16), (0, .ref (ad 0)), (1, .int x1), (3, .int x3), (4, .int x4), (5, .int x5)]) S.1 S.2.1 dX12_judge_86 rfl hl (by decide) rfl (fun ls hl => ?_)
  obtain ⟨v18, e19⟩ : ∃ z : Int32, z = x5 + (1 : Int32) := ⟨_, rfl⟩
  have hf := nm_s e19 hf
  refine lv_iinc (v := v18) (lv' := [(5, .int v18), (2, .int v16), (0, .ref (ad 0)), (1, .int x1), (3, .int x3), (4, .int x4)]) S.1 S.2.1 dX12_judge_87 hl (k := 5) rfl (by rw [e19]; rfl) (by decide) rfl (fun ls hl => ?_)
  refine lv_goto (tgt := 13) S.1 S.2.1 dX12_judge_90 (by decide) ?_
  exact hk13 σ x1 v16 x3 x4 v18 _ _ _ hw (lv_sub hl [2, 3, 1, 4, 5, 0] rfl) hf
def fX12_judge_84 (N : Nat) (k13 : St → Int32 → Int32 → Int32 → Int32 → Int32 → Option St) (σ : St) (x1 : Int32) (x3 : Int32) (x4 : Int32) (x5 : Int32) (y0 : Int32) : Option St :=
  fX12_judge_85 N k13 σ x1 x3 x4 x5 y0 (0 : Int32)
set_option maxHeartbeats 2000000 in
set_option maxRecDepth 20000 in
theorem wX12_judge_84 {σ' : St} {N : Nat} (S : CallFix p m c cX12_judge 6 s av BG RX12) (hr : meth.sig.returnType = none) (hlk : meth.locks = false) {k13 : St → Int32 → Int32 → Int32 → Int32 → Int32 → Option St} (hk13 : ∀ (σ : St) (x1 : Int32) (x2 : Int32) (x3 : Int32) (x4 : Int32) (x5 : Int32) (ls : Array Slot) (H : Heap) (locs : List Loc), Hw (MWd D ad cs) s σ H locs → lv_has ls 6 [(0, .ref (ad 0)), (1, .int x1), (2, .int x2), (3, .int x3), (4, .int x4), (5, .int x5)] → k13 σ x1 x2 x3 x4 x5 = some σ' → W p l e (RM 0 0) s m av below meth c H locs 0 0 (QV below (MWd D ad cs) av s σ') (F0 m 13 ls []))  {σ : St} {x1 : Int32} {x3 : Int32} {x4 : Int32} {x5 : Int32} {y0 : Int32} {ls : Array Slot} {H : Heap} {locs : List Loc} (hw : Hw (MWd D ad cs) s σ H locs) (hl : lv_has ls 6 [(0, .ref (ad 0)), (1, .int x1), (3, .int x3), (4, .int x4), (5, .int x5)]) (hf : fX12_judge_84 N k13 σ x1 x3 x4 x5 y0 = some σ') : W p l e (RM 0 0) s m av below meth c H locs 0 0 (QV below (MWd D ad cs) av s σ') (F0 m 84 ls [.int y0]) := by
  unfold fX12_judge_84 at hf
  refine lv_iconst (v := 0) S.1 S.2.1 dX12_judge_84 (by decide) ?_
  exact wX12_judge_85 S hr hlk hk13 hw (lv_sub hl [0, 1, 2, 3, 4] rfl) hf
def fX12_judge_138b (N : Nat) (k138 : St → Int32 → Int32 → Option St) (σ : St) (x1 : Int32) (x5 : Int32) : Option St :=
  if x1 ≤ x5 then (some σ) else (if ix x5 6 = true then if ix x5 6 = true then nm (aW σ 51 x5 (aR σ 50 x5)) fun σ22 => nm (x5 + (1 : Int32)) fun v24 => k138 σ22 x1 v24 else none else none)
set_option maxHeartbeats 2000000 in
set_option maxRecDepth 20000 in
theorem wX12_judge_138b {σ' : St} {N : Nat} (S : CallFix p m c cX12_judge 6 s av BG RX12) (hr : meth.sig.returnType = none) (hlk : meth.locks = false) {k138 : St → Int32 → Int32 → Option St} (hk138 : ∀ (σ : St) (x1 : Int32) (x5 : Int32) (ls : Array Slot) (H : Heap) (locs : List Loc), Hw (MWd D ad cs) s σ H locs → lv_has ls 6 [(0, .ref (ad 0)), (1, .int x1), (5, .int x5)] → k138 σ x1 x5 = some σ' → W p l e (RM 0 0) s m av below meth c H locs 0 0 (QV below (MWd D ad cs) av s σ') (F0 m 138 ls []))  {σ : St} {x1 : Int32} {x5 : Int32} {ls : Array Slot} {H : Heap} {locs : List Loc} (hw : Hw (MWd D ad cs) s σ H locs) (hl : lv_has ls 6 [(0, .ref (ad 0)), (1, .int x1), (5, .int x5)]) (hf : fX12_judge_138b N k138 σ x1 x5 = some σ') : W p l e (RM 0 0) s m av below meth c H locs 0 0 (QV below (MWd D ad cs) av s σ') (F0 m 138 ls []) := by
  unfold fX12_judge_138b at hf
  refine lv_iload S.1 S.2.1 dX12_judge_138 (lv_at hl 2 rfl) ?_
  refine lv_iload_n S.1 S.2.1 dX12_judge_140 rfl (lv_at hl 1 rfl) ?_
  refine lv_icmp_ge (tgt := 164) S.1 S.2.1 dX12_judge_141 (by decide) (fun hc => ?_) (fun hc => ?_)
  · have hf := itt hf hc
    exact g_vret (MWd_ok D ad cs) S hr hlk hw dX12_judge_164 (Option.some.inj hf)
  · have hf := itf hf hc
    refine lv_aload_n S.1 S.2.1 dX12_judge_144 rfl (lv_at hl 0 rfl) ?_
    refine mg_WayLeavesModel_orderBest S hw kf_X12_388 dX12_judge_145 ?_
    refine lv_iload S.1 S.2.1 dX12_judge_148 (lv_at hl 2 rfl) ?_
    refine lv_aload_n S.1 S.2.1 dX12_judge_150 rfl (lv_at hl 0 rfl) ?_
    refine mg_WayLeavesModel_orderNow S hw kf_X12_385 dX12_judge_151 ?_
    refine lv_iload S.1 S.2.1 dX12_judge_154 (lv_at hl 2 rfl) ?_
    obtain ⟨h20, hf⟩ := gd_ix hf
    refine g_iald S hw 50 0 me_50 rfl h20 dX12_judge_156 ?_
    obtain ⟨h21, hf⟩ := gd_ix hf
    obtain ⟨σ22, e23⟩ : ∃ z : St, z = aW σ 51 x5 (aR σ 50 x5) := ⟨_, rfl⟩
    have hf := nm_s e23 hf
    refine g_iast (σ' := σ22) S hw 51 0 me_51 rfl (by rw [e23]; exact ms_51 _) h21 dX12_judge_157 (fun H locs hw => ?_)
    obtain ⟨v24, e25⟩ : ∃ z : Int32, z = x5 + (1 : Int32) := ⟨_, rfl⟩
    have hf := nm_s e25 hf
    refine lv_iinc (v := v24) (lv' := [(5, .int v24), (0, .ref (ad 0)), (1, .int x1)]) S.1 S.2.1 dX12_judge_158 hl (k := 2) rfl (by rw [e25]; rfl) (by decide) rfl (fun ls hl => ?_)
    refine lv_goto (tgt := 138) S.1 S.2.1 dX12_judge_161 (by decide) ?_
    exact hk138 σ22 x1 v24 _ _ _ hw (lv_sub hl [1, 2, 0] rfl) hf
def fX12_judge_138 (N : Nat) : Nat → St → Int32 → Int32 → Option St
  | 0 => fun _ _ _ => none
  | n + 1 => fX12_judge_138b N (fX12_judge_138 N n)
theorem wX12_judge_138 {σ' : St} {N : Nat} (S : CallFix p m c cX12_judge 6 s av BG RX12) (hr : meth.sig.returnType = none) (hlk : meth.locks = false) : ∀ (n : Nat), ∀ (σ : St) (x1 : Int32) (x5 : Int32) (ls : Array Slot) (H : Heap) (locs : List Loc), Hw (MWd D ad cs) s σ H locs → lv_has ls 6 [(0, .ref (ad 0)), (1, .int x1), (5, .int x5)] → fX12_judge_138 N n σ x1 x5 = some σ' → W p l e (RM 0 0) s m av below meth c H locs 0 0 (QV below (MWd D ad cs) av s σ') (F0 m 138 ls []) := by
  intro n
  induction n with
  | zero => intro _ _ _ ls H locs hw hl hf; cases hf
  | succ n ih => intro _ _ _ ls H locs hw hl hf; exact wX12_judge_138b S hr hlk ih hw hl hf
def fX12_judge_125 (N : Nat) (σ : St) (x1 : Int32) (x2 : Int32) (x3 : Int32) : Option St :=
  nm (sI σ 19 x2) fun σ12 => nm (sI σ12 20 x3) fun σ14 => fX12_judge_138 N N σ14 x1 (0 : Int32)
set_option maxHeartbeats 2000000 in
set_option maxRecDepth 20000 in
theorem wX12_judge_125 {σ' : St} {N : Nat} (S : CallFix p m c cX12_judge 6 s av BG RX12) (hr : meth.sig.returnType = none) (hlk : meth.locks = false)  {σ : St} {x1 : Int32} {x2 : Int32} {x3 : Int32} {ls : Array Slot} {H : Heap} {locs : List Loc} (hw : Hw (MWd D ad cs) s σ H locs) (hl : lv_has ls 6 [(0, .ref (ad 0)), (1, .int x1), (2, .int x2), (3, .int x3)]) (hf : fX12_judge_125 N σ x1 x2 x3 = some σ') : W p l e (RM 0 0) s m av below meth c H locs 0 0 (QV below (MWd D ad cs) av s σ') (F0 m 125 ls []) := by
  unfold fX12_judge_125 at hf
  refine lv_aload_n S.1 S.2.1 dX12_judge_125 rfl (lv_at hl 0 rfl) ?_
  refine lv_iload_n S.1 S.2.1 dX12_judge_126 rfl (lv_at hl 2 rfl) ?_
  obtain ⟨σ12, e13⟩ : ∃ z : St, z = sI σ 19 x2 := ⟨_, rfl⟩
  have hf := nm_s e13 hf
  refine mp_WayLeavesModel_lateBest S hw e13 kf_X12_432 dX12_judge_127 (fun H locs hw => ?_)
  refine lv_aload_n S.1 S.2.1 dX12_judge_130 rfl (lv_at hl 0 rfl) ?_
  refine lv_iload_n S.1 S.2.1 dX12_judge_131 rfl (lv_at hl 3 rfl) ?_
  obtain ⟨σ14, e15⟩ : ∃ z : St, z = sI σ12 20 x3 := ⟨_, rfl⟩
  have hf := nm_s e15 hf
  refine mp_WayLeavesModel_sumBest S hw e15 kf_X12_435 dX12_judge_132 (fun H locs hw => ?_)
  refine lv_iconst (v := 0) S.1 S.2.1 dX12_judge_135 (by decide) ?_
  refine lv_istore (lv' := [(5, .int (0 : Int32)), (0, .ref (ad 0)), (1, .int x1), (2, .int x2), (3, .int x3)]) S.1 S.2.1 dX12_judge_136 hl (by decide) rfl (fun ls hl => ?_)
  exact wX12_judge_138 S hr hlk N σ14 x1 (0 : Int32) _ _ _ hw (lv_sub hl [1, 2, 0] rfl) hf
def fX12_judge_13b (N : Nat) (k13 : St → Int32 → Int32 → Int32 → Int32 → Int32 → Option St) (σ : St) (x1 : Int32) (x2 : Int32) (x3 : Int32) (x4 : Int32) (x5 : Int32) : Option St :=
  if x1 ≤ x5 then (if (σ.1 19) = (-1 : Int32) then (fX12_judge_125 N σ x1 x2 x3) else (if x2 < (σ.1 19) then (fX12_judge_125 N σ x1 x2 x3) else (if x2 = (σ.1 19) then (if (σ.1 20) ≤ x3 then (some σ) else (fX12_judge_125 N σ x1 x2 x3)) else (some σ)))) else (if ix x5 6 = true then if ix (aR σ 50 x5) 6 = true then if ix (aR σ 48 (aR σ 50 x5)) 16 = true then nm (x4 + (aR σ 19 (aR σ 48 (aR σ 50 x5)))) fun v4 => nm (x3 + v4) fun v6 => if ix x5 6 = true then if ix (aR σ 50 x5) 6 = true then if (aR σ 49 (aR σ 50 x5)) = (-1 : Int32) then (fX12_judge_84 N k13 σ x1 v6 v4 x5 x2) else (if ix x5 6 = true then if ix (aR σ 50 x5) 6 = true then if v4 ≤ (aR σ 49 (aR σ 50 x5)) then (fX12_judge_84 N k13 σ x1 v6 v4 x5 x2) else (fX12_judge_85 N k13 σ x1 v6 v4 x5 x2 (1 : Int32)) else none else none) else none else none else none else none else none)
set_option maxHeartbeats 2000000 in
set_option maxRecDepth 20000 in
theorem wX12_judge_13b {σ' : St} {N : Nat} (S : CallFix p m c cX12_judge 6 s av BG RX12) (hr : meth.sig.returnType = none) (hlk : meth.locks = false) {k13 : St → Int32 → Int32 → Int32 → Int32 → Int32 → Option St} (hk13 : ∀ (σ : St) (x1 : Int32) (x2 : Int32) (x3 : Int32) (x4 : Int32) (x5 : Int32) (ls : Array Slot) (H : Heap) (locs : List Loc), Hw (MWd D ad cs) s σ H locs → lv_has ls 6 [(0, .ref (ad 0)), (1, .int x1), (2, .int x2), (3, .int x3), (4, .int x4), (5, .int x5)] → k13 σ x1 x2 x3 x4 x5 = some σ' → W p l e (RM 0 0) s m av below meth c H locs 0 0 (QV below (MWd D ad cs) av s σ') (F0 m 13 ls []))  {σ : St} {x1 : Int32} {x2 : Int32} {x3 : Int32} {x4 : Int32} {x5 : Int32} {ls : Array Slot} {H : Heap} {locs : List Loc} (hw : Hw (MWd D ad cs) s σ H locs) (hl : lv_has ls 6 [(0, .ref (ad 0)), (1, .int x1), (2, .int x2), (3, .int x3), (4, .int x4), (5, .int x5)]) (hf : fX12_judge_13b N k13 σ x1 x2 x3 x4 x5 = some σ') : W p l e (RM 0 0) s m av below meth c H locs 0 0 (QV below (MWd D ad cs) av s σ') (F0 m 13 ls []) := by
  unfold fX12_judge_13b at hf
  refine lv_iload S.1 S.2.1 dX12_judge_13 (lv_at hl 5 rfl) ?_
  refine lv_iload_n S.1 S.2.1 dX12_judge_15 rfl (lv_at hl 1 rfl) ?_
  refine lv_icmp_ge (tgt := 93) S.1 S.2.1 dX12_judge_16 (by decide) (fun hc => ?_) (fun hc => ?_)
  · have hf := itt hf hc
    refine lv_aload_n S.1 S.2.1 dX12_judge_93 rfl (lv_at hl 0 rfl) ?_
    refine mg_WayLeavesModel_lateBest S hw kf_X12_432 dX12_judge_94 ?_
    refine lv_iconst (v := -1) S.1 S.2.1 dX12_judge_97 (by decide) ?_
    refine lv_icmp_eq (tgt := 125) S.1 S.2.1 dX12_judge_98 (by decide) (fun hc => ?_) (fun hc => ?_)
    · have hf := itt hf hc
      exact wX12_judge_125 S hr hlk hw (lv_sub hl [0, 1, 2, 3] rfl) hf
    · have hf := itf hf hc
      refine lv_iload_n S.1 S.2.1 dX12_judge_101 rfl (lv_at hl 2 rfl) ?_
      refine lv_aload_n S.1 S.2.1 dX12_judge_102 rfl (lv_at hl 0 rfl) ?_
      refine mg_WayLeavesModel_lateBest S hw kf_X12_432 dX12_judge_103 ?_
      refine lv_icmp_lt (tgt := 125) S.1 S.2.1 dX12_judge_106 (by decide) (fun hc => ?_) (fun hc => ?_)
      · have hf := itt hf hc
        exact wX12_judge_125 S hr hlk hw (lv_sub hl [0, 1, 2, 3] rfl) hf
      · have hf := itf hf hc
        refine lv_iload_n S.1 S.2.1 dX12_judge_109 rfl (lv_at hl 2 rfl) ?_
        refine lv_aload_n S.1 S.2.1 dX12_judge_110 rfl (lv_at hl 0 rfl) ?_
        refine mg_WayLeavesModel_lateBest S hw kf_X12_432 dX12_judge_111 ?_
        refine lv_icmp_ne (tgt := 164) S.1 S.2.1 dX12_judge_114 (by decide) (fun hc => ?_) (fun hc => ?_)
        · have hf := itf hf hc
          exact g_vret (MWd_ok D ad cs) S hr hlk hw dX12_judge_164 (Option.some.inj hf)
        · have hf := itt hf hc
          refine lv_iload_n S.1 S.2.1 dX12_judge_117 rfl (lv_at hl 3 rfl) ?_
          refine lv_aload_n S.1 S.2.1 dX12_judge_118 rfl (lv_at hl 0 rfl) ?_
          refine mg_WayLeavesModel_sumBest S hw kf_X12_435 dX12_judge_119 ?_
          refine lv_icmp_ge (tgt := 164) S.1 S.2.1 dX12_judge_122 (by decide) (fun hc => ?_) (fun hc => ?_)
          · have hf := itt hf hc
            exact g_vret (MWd_ok D ad cs) S hr hlk hw dX12_judge_164 (Option.some.inj hf)
          · have hf := itf hf hc
            exact wX12_judge_125 S hr hlk hw (lv_sub hl [0, 1, 2, 3] rfl) hf
  · have hf := itf hf hc
    refine lv_iload S.1 S.2.1 dX12_judge_19 (lv_at hl 4 rfl) ?_
    refine lv_aload_n S.1 S.2.1 dX12_judge_21 rfl (lv_at hl 0 rfl) ?_
    refine mg_WayLeavesModel_asking S hw kf_X12_120 dX12_judge_22 ?_
    refine lv_aload_n S.1 S.2.1 dX12_judge_25 rfl (lv_at hl 0 rfl) ?_
    refine mg_WayLeavesModel_asked S hw kf_X12_379 dX12_judge_26 ?_
    refine lv_aload_n S.1 S.2.1 dX12_judge_29 rfl (lv_at hl 0 rfl) ?_
    refine mg_WayLeavesModel_orderNow S hw kf_X12_385 dX12_judge_30 ?_
    refine lv_iload S.1 S.2.1 dX12_judge_33 (lv_at hl 5 rfl) ?_
    obtain ⟨h1, hf⟩ := gd_ix hf
    refine g_iald S hw 50 0 me_50 rfl h1 dX12_judge_35 ?_
    obtain ⟨h2, hf⟩ := gd_ix hf
    refine g_iald S hw 48 0 me_48 rfl h2 dX12_judge_36 ?_
    obtain ⟨h3, hf⟩ := gd_ix hf
    refine g_iald S hw 19 0 me_19 rfl h3 dX12_judge_37 ?_
    refine lv_iadd S.1 S.2.1 dX12_judge_38 ?_
    refine lv_topi (fun v4 e5 => ?_)
    have hf := nm_s e5 hf
    refine lv_istore (lv' := [(4, .int v4), (0, .ref (ad 0)), (1, .int x1), (2, .int x2), (3, .int x3), (5, .int x5)]) S.1 S.2.1 dX12_judge_39 hl (by decide) rfl (fun ls hl => ?_)
    refine lv_iload_n S.1 S.2.1 dX12_judge_41 rfl (lv_at hl 4 rfl) ?_
    refine lv_iload S.1 S.2.1 dX12_judge_42 (lv_at hl 0 rfl) ?_
    refine lv_iadd S.1 S.2.1 dX12_judge_44 ?_
    refine lv_topi (fun v6 e7 => ?_)
    have hf := nm_s e7 hf
    refine lv_istore_n (lv' := [(3, .int v6), (4, .int v4), (0, .ref (ad 0)), (1, .int x1), (2, .int x2), (5, .int x5)]) S.1 S.2.1 dX12_judge_45 rfl hl (by decide) rfl (fun ls hl => ?_)
    refine lv_iload_n S.1 S.2.1 dX12_judge_46 rfl (lv_at hl 4 rfl) ?_
    refine lv_aload_n S.1 S.2.1 dX12_judge_47 rfl (lv_at hl 2 rfl) ?_
    refine mg_WayLeavesModel_askedEnds S hw kf_X12_382 dX12_judge_48 ?_
    refine lv_aload_n S.1 S.2.1 dX12_judge_51 rfl (lv_at hl 2 rfl) ?_
    refine mg_WayLeavesModel_orderNow S hw kf_X12_385 dX12_judge_52 ?_
    refine lv_iload S.1 S.2.1 dX12_judge_55 (lv_at hl 5 rfl) ?_
    obtain ⟨h8, hf⟩ := gd_ix hf
    refine g_iald S hw 50 0 me_50 rfl h8 dX12_judge_57 ?_
    obtain ⟨h9, hf⟩ := gd_ix hf
    refine g_iald S hw 49 0 me_49 rfl h9 dX12_judge_58 ?_
    refine lv_iconst (v := -1) S.1 S.2.1 dX12_judge_59 (by decide) ?_
    refine lv_icmp_eq (tgt := 84) S.1 S.2.1 dX12_judge_60 (by decide) (fun hc => ?_) (fun hc => ?_)
    · have hf := itt hf hc
      exact wX12_judge_84 S hr hlk hk13 hw (lv_sub hl [2, 3, 0, 1, 5] rfl) hf
    · have hf := itf hf hc
      refine lv_iload S.1 S.2.1 dX12_judge_63 (lv_at hl 1 rfl) ?_
      refine lv_aload_n S.1 S.2.1 dX12_judge_65 rfl (lv_at hl 2 rfl) ?_
      refine mg_WayLeavesModel_askedEnds S hw kf_X12_382 dX12_judge_66 ?_
      refine lv_aload_n S.1 S.2.1 dX12_judge_69 rfl (lv_at hl 2 rfl) ?_
      refine mg_WayLeavesModel_orderNow S hw kf_X12_385 dX12_judge_70 ?_
      refine lv_iload S.1 S.2.1 dX12_judge_73 (lv_at hl 5 rfl) ?_
      obtain ⟨h10, hf⟩ := gd_ix hf
      refine g_iald S hw 50 0 me_50 rfl h10 dX12_judge_75 ?_
      obtain ⟨h11, hf⟩ := gd_ix hf
      refine g_iald S hw 49 0 me_49 rfl h11 dX12_judge_76 ?_
      refine lv_icmp_le (tgt := 84) S.1 S.2.1 dX12_judge_77 (by decide) (fun hc => ?_) (fun hc => ?_)
      · have hf := itt hf hc
        exact wX12_judge_84 S hr hlk hk13 hw (lv_sub hl [2, 3, 0, 1, 5] rfl) hf
      · have hf := itf hf hc
        refine lv_iconst (v := 1) S.1 S.2.1 dX12_judge_80 (by decide) ?_
        refine lv_goto (tgt := 85) S.1 S.2.1 dX12_judge_81 (by decide) ?_
        exact wX12_judge_85 S hr hlk hk13 hw (lv_sub hl [2, 3, 0, 1, 5] rfl) hf
def fX12_judge_13 (N : Nat) : Nat → St → Int32 → Int32 → Int32 → Int32 → Int32 → Option St
  | 0 => fun _ _ _ _ _ _ => none
  | n + 1 => fX12_judge_13b N (fX12_judge_13 N n)
theorem wX12_judge_13 {σ' : St} {N : Nat} (S : CallFix p m c cX12_judge 6 s av BG RX12) (hr : meth.sig.returnType = none) (hlk : meth.locks = false) : ∀ (n : Nat), ∀ (σ : St) (x1 : Int32) (x2 : Int32) (x3 : Int32) (x4 : Int32) (x5 : Int32) (ls : Array Slot) (H : Heap) (locs : List Loc), Hw (MWd D ad cs) s σ H locs → lv_has ls 6 [(0, .ref (ad 0)), (1, .int x1), (2, .int x2), (3, .int x3), (4, .int x4), (5, .int x5)] → fX12_judge_13 N n σ x1 x2 x3 x4 x5 = some σ' → W p l e (RM 0 0) s m av below meth c H locs 0 0 (QV below (MWd D ad cs) av s σ') (F0 m 13 ls []) := by
  intro n
  induction n with
  | zero => intro _ _ _ _ _ _ ls H locs hw hl hf; cases hf
  | succ n ih => intro _ _ _ _ _ _ ls H locs hw hl hf; exact wX12_judge_13b S hr hlk ih hw hl hf
def fX12_judge (N : Nat) (σ : St) (x1 : Int32) : Option St :=
  fX12_judge_13 N N σ x1 (0 : Int32) (0 : Int32) (σ.1 0) (0 : Int32)
set_option maxHeartbeats 2000000 in
set_option maxRecDepth 20000 in
theorem tX12_judge {σ' : St} {N : Nat} {σ : St} {x1 : Int32} (hf : fX12_judge N σ x1 = some σ') : CV l (MWd D ad cs) yX12_judge cX12_judge 6 0 0 [.ref (ad 0), .int x1] σ σ' := by
  refine CV.of (by decide) (Nat.le_of_ble_eq_true rfl) ?_
  intro p e s m below meth c ls S hr hlk hw hl
  have hl : lv_has ls 6 [(0, .ref (ad 0)), (1, .int x1)] := hl
  unfold fX12_judge at hf
  refine lv_iconst (v := 0) S.1 S.2.1 dX12_judge_0 (by decide) ?_
  refine lv_istore_n (lv' := [(2, .int (0 : Int32)), (0, .ref (ad 0)), (1, .int x1)]) S.1 S.2.1 dX12_judge_1 rfl hl (by decide) rfl (fun ls hl => ?_)
  refine lv_iconst (v := 0) S.1 S.2.1 dX12_judge_2 (by decide) ?_
  refine lv_istore_n (lv' := [(3, .int (0 : Int32)), (2, .int (0 : Int32)), (0, .ref (ad 0)), (1, .int x1)]) S.1 S.2.1 dX12_judge_3 rfl hl (by decide) rfl (fun ls hl => ?_)
  refine lv_aload_n S.1 S.2.1 dX12_judge_4 rfl (lv_at hl 2 rfl) ?_
  refine mg_WayLeavesModel_today S hw kf_X12_15 dX12_judge_5 ?_
  refine lv_istore (lv' := [(4, .int (σ.1 0)), (3, .int (0 : Int32)), (2, .int (0 : Int32)), (0, .ref (ad 0)), (1, .int x1)]) S.1 S.2.1 dX12_judge_8 hl (by decide) rfl (fun ls hl => ?_)
  refine lv_iconst (v := 0) S.1 S.2.1 dX12_judge_10 (by decide) ?_
  refine lv_istore (lv' := [(5, .int (0 : Int32)), (4, .int (σ.1 0)), (3, .int (0 : Int32)), (2, .int (0 : Int32)), (0, .ref (ad 0)), (1, .int x1)]) S.1 S.2.1 dX12_judge_11 hl (by decide) rfl (fun ls hl => ?_)
  exact wX12_judge_13 S hr hlk N σ x1 (0 : Int32) (0 : Int32) (σ.1 0) (0 : Int32) _ _ _ hw (lv_sub hl [4, 5, 3, 2, 1, 0] rfl) hf
def fX12_orderAll_26b (N : Nat) (k26 : St → Int32 → Int32 → Int32 → Option St) (σ : St) (x1 : Int32) (x2 : Int32) (x3 : Int32) : Option St :=
  if x2 ≤ x3 then (some σ) else (bd (fX12_orderOf N σ x1 x3) fun σ7 => bd (fX12_judge N σ7 x1) fun σ9 => nm (x3 + (1 : Int32)) fun v11 => k26 σ9 x1 x2 v11)
set_option maxHeartbeats 2000000 in
set_option maxRecDepth 20000 in
theorem wX12_orderAll_26b {σ' : St} {N : Nat} (S : CallFix p m c cX12_orderAll 4 s av BG RX12) (hr : meth.sig.returnType = none) (hlk : meth.locks = false) {k26 : St → Int32 → Int32 → Int32 → Option St} (hk26 : ∀ (σ : St) (x1 : Int32) (x2 : Int32) (x3 : Int32) (ls : Array Slot) (H : Heap) (locs : List Loc), Hw (MWd D ad cs) s σ H locs → lv_has ls 4 [(0, .ref (ad 0)), (1, .int x1), (2, .int x2), (3, .int x3)] → k26 σ x1 x2 x3 = some σ' → W p l e (RM 1 28) s m av below meth c H locs 0 0 (QV below (MWd D ad cs) av s σ') (F0 m 26 ls []))  {σ : St} {x1 : Int32} {x2 : Int32} {x3 : Int32} {ls : Array Slot} {H : Heap} {locs : List Loc} (hw : Hw (MWd D ad cs) s σ H locs) (hl : lv_has ls 4 [(0, .ref (ad 0)), (1, .int x1), (2, .int x2), (3, .int x3)]) (hf : fX12_orderAll_26b N k26 σ x1 x2 x3 = some σ') : W p l e (RM 1 28) s m av below meth c H locs 0 0 (QV below (MWd D ad cs) av s σ') (F0 m 26 ls []) := by
  unfold fX12_orderAll_26b at hf
  refine lv_iload_n S.1 S.2.1 dX12_orderAll_26 rfl (lv_at hl 3 rfl) ?_
  refine lv_iload_n S.1 S.2.1 dX12_orderAll_27 rfl (lv_at hl 2 rfl) ?_
  refine lv_icmp_ge (tgt := 48) S.1 S.2.1 dX12_orderAll_28 (by decide) (fun hc => ?_) (fun hc => ?_)
  · have hf := itt hf hc
    exact g_vret (MWd_ok D ad cs) S hr hlk hw dX12_orderAll_48 (Option.some.inj hf)
  · have hf := itf hf hc
    refine lv_aload_n S.1 S.2.1 dX12_orderAll_31 rfl (lv_at hl 0 rfl) ?_
    refine lv_iload_n S.1 S.2.1 dX12_orderAll_32 rfl (lv_at hl 1 rfl) ?_
    refine lv_iload_n S.1 S.2.1 dX12_orderAll_33 rfl (lv_at hl 3 rfl) ?_
    obtain ⟨σ7, g8, hf⟩ := bd_s hf
    refine g_Vv (rest := []) (MWd_ok D ad cs) S hw (tX12_orderOf g8) kt_X12_438 0 me_0 rfl rfl ⟨Nat.le_of_ble_eq_true rfl, Nat.le_of_ble_eq_true rfl⟩ rfl hl.1 rfl (Nat.le_of_ble_eq_true rfl) ⟨Nat.zero_le _, Nat.zero_le _⟩ dX12_orderAll_34 (fun H locs hw => ?_)
    refine lv_aload_n S.1 S.2.1 dX12_orderAll_37 rfl (lv_at hl 0 rfl) ?_
    refine lv_iload_n S.1 S.2.1 dX12_orderAll_38 rfl (lv_at hl 1 rfl) ?_
    obtain ⟨σ9, g10, hf⟩ := bd_s hf
    refine g_Vv (rest := []) (MWd_ok D ad cs) S hw (tX12_judge g10) kt_X12_442 0 me_0 rfl rfl ⟨Nat.le_of_ble_eq_true rfl, Nat.le_of_ble_eq_true rfl⟩ rfl hl.1 rfl (Nat.le_of_ble_eq_true rfl) ⟨Nat.zero_le _, Nat.zero_le _⟩ dX12_orderAll_39 (fun H locs hw => ?_)
    obtain ⟨v11, e12⟩ : ∃ z : Int32, z = x3 + (1 : Int32) := ⟨_, rfl⟩
    have hf := nm_s e12 hf
    refine lv_iinc (v := v11) (lv' := [(3, .int v11), (0, .ref (ad 0)), (1, .int x1), (2, .int x2)]) S.1 S.2.1 dX12_orderAll_42 hl (k := 3) rfl (by rw [e12]; rfl) (by decide) rfl (fun ls hl => ?_)
    refine lv_goto (tgt := 26) S.1 S.2.1 dX12_orderAll_45 (by decide) ?_
    exact hk26 σ9 x1 x2 v11 _ _ _ hw (lv_sub hl [1, 2, 3, 0] rfl) hf
def fX12_orderAll_26 (N : Nat) : Nat → St → Int32 → Int32 → Int32 → Option St
  | 0 => fun _ _ _ _ => none
  | n + 1 => fX12_orderAll_26b N (fX12_orderAll_26 N n)
theorem wX12_orderAll_26 {σ' : St} {N : Nat} (S : CallFix p m c cX12_orderAll 4 s av BG RX12) (hr : meth.sig.returnType = none) (hlk : meth.locks = false) : ∀ (n : Nat), ∀ (σ : St) (x1 : Int32) (x2 : Int32) (x3 : Int32) (ls : Array Slot) (H : Heap) (locs : List Loc), Hw (MWd D ad cs) s σ H locs → lv_has ls 4 [(0, .ref (ad 0)), (1, .int x1), (2, .int x2), (3, .int x3)] → fX12_orderAll_26 N n σ x1 x2 x3 = some σ' → W p l e (RM 1 28) s m av below meth c H locs 0 0 (QV below (MWd D ad cs) av s σ') (F0 m 26 ls []) := by
  intro n
  induction n with
  | zero => intro _ _ _ _ ls H locs hw hl hf; cases hf
  | succ n ih => intro _ _ _ _ ls H locs hw hl hf; exact wX12_orderAll_26b S hr hlk ih hw hl hf
def fX12_orderAll_4b (N : Nat) (k4 : St → Int32 → Int32 → Int32 → Option St) (σ : St) (x1 : Int32) (x2 : Int32) (x3 : Int32) : Option St :=
  if x1 < x3 then (nm (sI σ 19 (-1 : Int32)) fun σ1 => fX12_orderAll_26 N N σ1 x1 x2 (0 : Int32)) else (nm (x2 * x3) fun v3 => nm (x3 + (1 : Int32)) fun v5 => k4 σ x1 v3 v5)
set_option maxHeartbeats 2000000 in
set_option maxRecDepth 20000 in
theorem wX12_orderAll_4b {σ' : St} {N : Nat} (S : CallFix p m c cX12_orderAll 4 s av BG RX12) (hr : meth.sig.returnType = none) (hlk : meth.locks = false) {k4 : St → Int32 → Int32 → Int32 → Option St} (hk4 : ∀ (σ : St) (x1 : Int32) (x2 : Int32) (x3 : Int32) (ls : Array Slot) (H : Heap) (locs : List Loc), Hw (MWd D ad cs) s σ H locs → lv_has ls 4 [(0, .ref (ad 0)), (1, .int x1), (2, .int x2), (3, .int x3)] → k4 σ x1 x2 x3 = some σ' → W p l e (RM 1 28) s m av below meth c H locs 0 0 (QV below (MWd D ad cs) av s σ') (F0 m 4 ls []))  {σ : St} {x1 : Int32} {x2 : Int32} {x3 : Int32} {ls : Array Slot} {H : Heap} {locs : List Loc} (hw : Hw (MWd D ad cs) s σ H locs) (hl : lv_has ls 4 [(0, .ref (ad 0)), (1, .int x1), (2, .int x2), (3, .int x3)]) (hf : fX12_orderAll_4b N k4 σ x1 x2 x3 = some σ') : W p l e (RM 1 28) s m av below meth c H locs 0 0 (QV below (MWd D ad cs) av s σ') (F0 m 4 ls []) := by
  unfold fX12_orderAll_4b at hf
  refine lv_iload_n S.1 S.2.1 dX12_orderAll_4 rfl (lv_at hl 3 rfl) ?_
  refine lv_iload_n S.1 S.2.1 dX12_orderAll_5 rfl (lv_at hl 1 rfl) ?_
  refine lv_icmp_gt (tgt := 19) S.1 S.2.1 dX12_orderAll_6 (by decide) (fun hc => ?_) (fun hc => ?_)
  · have hf := itt hf hc
    refine lv_aload_n S.1 S.2.1 dX12_orderAll_19 rfl (lv_at hl 0 rfl) ?_
    refine lv_iconst (v := -1) S.1 S.2.1 dX12_orderAll_20 (by decide) ?_
    obtain ⟨σ1, e2⟩ : ∃ z : St, z = sI σ 19 (-1 : Int32) := ⟨_, rfl⟩
    have hf := nm_s e2 hf
    refine mp_WayLeavesModel_lateBest S hw e2 kf_X12_432 dX12_orderAll_21 (fun H locs hw => ?_)
    refine lv_iconst (v := 0) S.1 S.2.1 dX12_orderAll_24 (by decide) ?_
    refine lv_istore_n (lv' := [(3, .int (0 : Int32)), (0, .ref (ad 0)), (1, .int x1), (2, .int x2)]) S.1 S.2.1 dX12_orderAll_25 rfl hl (by decide) rfl (fun ls hl => ?_)
    exact wX12_orderAll_26 S hr hlk N σ1 x1 x2 (0 : Int32) _ _ _ hw (lv_sub hl [1, 2, 3, 0] rfl) hf
  · have hf := itf hf hc
    refine lv_iload_n S.1 S.2.1 dX12_orderAll_9 rfl (lv_at hl 2 rfl) ?_
    refine lv_iload_n S.1 S.2.1 dX12_orderAll_10 rfl (lv_at hl 3 rfl) ?_
    refine lv_imul S.1 S.2.1 dX12_orderAll_11 ?_
    refine lv_topi (fun v3 e4 => ?_)
    have hf := nm_s e4 hf
    refine lv_istore_n (lv' := [(2, .int v3), (0, .ref (ad 0)), (1, .int x1), (3, .int x3)]) S.1 S.2.1 dX12_orderAll_12 rfl hl (by decide) rfl (fun ls hl => ?_)
    obtain ⟨v5, e6⟩ : ∃ z : Int32, z = x3 + (1 : Int32) := ⟨_, rfl⟩
    have hf := nm_s e6 hf
    refine lv_iinc (v := v5) (lv' := [(3, .int v5), (2, .int v3), (0, .ref (ad 0)), (1, .int x1)]) S.1 S.2.1 dX12_orderAll_13 hl (k := 3) rfl (by rw [e6]; rfl) (by decide) rfl (fun ls hl => ?_)
    refine lv_goto (tgt := 4) S.1 S.2.1 dX12_orderAll_16 (by decide) ?_
    exact hk4 σ x1 v3 v5 _ _ _ hw (lv_sub hl [2, 3, 1, 0] rfl) hf
def fX12_orderAll_4 (N : Nat) : Nat → St → Int32 → Int32 → Int32 → Option St
  | 0 => fun _ _ _ _ => none
  | n + 1 => fX12_orderAll_4b N (fX12_orderAll_4 N n)
theorem wX12_orderAll_4 {σ' : St} {N : Nat} (S : CallFix p m c cX12_orderAll 4 s av BG RX12) (hr : meth.sig.returnType = none) (hlk : meth.locks = false) : ∀ (n : Nat), ∀ (σ : St) (x1 : Int32) (x2 : Int32) (x3 : Int32) (ls : Array Slot) (H : Heap) (locs : List Loc), Hw (MWd D ad cs) s σ H locs → lv_has ls 4 [(0, .ref (ad 0)), (1, .int x1), (2, .int x2), (3, .int x3)] → fX12_orderAll_4 N n σ x1 x2 x3 = some σ' → W p l e (RM 1 28) s m av below meth c H locs 0 0 (QV below (MWd D ad cs) av s σ') (F0 m 4 ls []) := by
  intro n
  induction n with
  | zero => intro _ _ _ _ ls H locs hw hl hf; cases hf
  | succ n ih => intro _ _ _ _ ls H locs hw hl hf; exact wX12_orderAll_4b S hr hlk ih hw hl hf
def fX12_orderAll (N : Nat) (σ : St) (x1 : Int32) : Option St :=
  fX12_orderAll_4 N N σ x1 (1 : Int32) (2 : Int32)
set_option maxHeartbeats 2000000 in
set_option maxRecDepth 20000 in
theorem tX12_orderAll {σ' : St} {N : Nat} {σ : St} {x1 : Int32} (hf : fX12_orderAll N σ x1 = some σ') : CV l (MWd D ad cs) yX12_orderAll cX12_orderAll 4 1 28 [.ref (ad 0), .int x1] σ σ' := by
  refine CV.of (by decide) (Nat.le_of_ble_eq_true rfl) ?_
  intro p e s m below meth c ls S hr hlk hw hl
  have hl : lv_has ls 4 [(0, .ref (ad 0)), (1, .int x1)] := hl
  unfold fX12_orderAll at hf
  refine lv_iconst (v := 1) S.1 S.2.1 dX12_orderAll_0 (by decide) ?_
  refine lv_istore_n (lv' := [(2, .int (1 : Int32)), (0, .ref (ad 0)), (1, .int x1)]) S.1 S.2.1 dX12_orderAll_1 rfl hl (by decide) rfl (fun ls hl => ?_)
  refine lv_iconst (v := 2) S.1 S.2.1 dX12_orderAll_2 (by decide) ?_
  refine lv_istore_n (lv' := [(3, .int (2 : Int32)), (2, .int (1 : Int32)), (0, .ref (ad 0)), (1, .int x1)]) S.1 S.2.1 dX12_orderAll_3 rfl hl (by decide) rfl (fun ls hl => ?_)
  exact wX12_orderAll_4 S hr hlk N σ x1 (1 : Int32) (2 : Int32) _ _ _ hw (lv_sub hl [2, 3, 1, 0] rfl) hf
def fX12_toAsk_77 (N : Nat) (k26 : St → Int32 → Int32 → Int32 → Int32 → Option (Int32 × St)) (σ : St) (x1 : Int32) (x2 : Int32) (x3 : Int32) (x4 : Int32) : Option (Int32 × St) :=
  nm (x4 + (1 : Int32)) fun v15 => k26 σ x1 x2 x3 v15
set_option maxHeartbeats 2000000 in
set_option maxRecDepth 20000 in
theorem wX12_toAsk_77 {r : Int32} {σ' : St} {N : Nat} (S : CallFix p m c cX12_toAsk 5 s av BG RX12) (hr : meth.sig.returnType = some .int) (hlk : meth.locks = false) {k26 : St → Int32 → Int32 → Int32 → Int32 → Option (Int32 × St)} (hk26 : ∀ (σ : St) (x1 : Int32) (x2 : Int32) (x3 : Int32) (x4 : Int32) (ls : Array Slot) (H : Heap) (locs : List Loc), Hw (MWd D ad cs) s σ H locs → lv_has ls 5 [(0, .ref (ad 0)), (1, .int x1), (2, .int x2), (3, .int x3), (4, .int x4)] → k26 σ x1 x2 x3 x4 = some (r, σ') → W p l e (RM 6 144) s m av below meth c H locs 0 0 (QI below (MWd D ad cs) av s r σ') (F0 m 26 ls []))  {σ : St} {x1 : Int32} {x2 : Int32} {x3 : Int32} {x4 : Int32} {ls : Array Slot} {H : Heap} {locs : List Loc} (hw : Hw (MWd D ad cs) s σ H locs) (hl : lv_has ls 5 [(0, .ref (ad 0)), (1, .int x1), (2, .int x2), (3, .int x3), (4, .int x4)]) (hf : fX12_toAsk_77 N k26 σ x1 x2 x3 x4 = some (r, σ')) : W p l e (RM 6 144) s m av below meth c H locs 0 0 (QI below (MWd D ad cs) av s r σ') (F0 m 77 ls []) := by
  unfold fX12_toAsk_77 at hf
  obtain ⟨v15, e16⟩ : ∃ z : Int32, z = x4 + (1 : Int32) := ⟨_, rfl⟩
  have hf := nm_s e16 hf
  refine lv_iinc (v := v15) (lv' := [(4, .int v15), (0, .ref (ad 0)), (1, .int x1), (2, .int x2), (3, .int x3)]) S.1 S.2.1 dX12_toAsk_77 hl (k := 4) rfl (by rw [e16]; rfl) (by decide) rfl (fun ls hl => ?_)
  refine lv_goto (tgt := 26) S.1 S.2.1 dX12_toAsk_80 (by decide) ?_
  exact hk26 σ x1 x2 x3 v15 _ _ _ hw (lv_sub hl [1, 2, 3, 4, 0] rfl) hf
def fX12_toAsk_26b (N : Nat) (k26 : St → Int32 → Int32 → Int32 → Int32 → Option (Int32 × St)) (σ : St) (x1 : Int32) (x2 : Int32) (x3 : Int32) (x4 : Int32) : Option (Int32 × St) :=
  if (σ.1 3) ≤ x4 then (if x2 < (-1 : Int32) then (some ((-1 : Int32), σ)) else (if x2 < x3 then (bd (fX12_orderAll N σ x3) fun σ1 => if x2 = (-1 : Int32) then (some ((σ1.1 19), σ1)) else (if ix x2 6 = true then if ix (aR σ1 51 x2) 6 = true then some ((aR σ1 48 (aR σ1 51 x2)), σ1) else none else none)) else (some ((-1 : Int32), σ)))) else (if ((x1 >>> (x4 &&& 31)) &&& (1 : Int32)) = (1 : Int32) then (if x3 = (6 : Int32) then (some ((-2 : Int32), σ)) else (if ix x3 6 = true then nm (aW σ 48 x3 x4) fun σ6 => bd (fX12_ends N σ6 x4) fun r8 => if ix x3 6 = true then nm (aW σ6 49 x3 r8) fun σ11 => nm (x3 + (1 : Int32)) fun v13 => fX12_toAsk_77 N k26 σ11 x1 x2 v13 x4 else none else none)) else (fX12_toAsk_77 N k26 σ x1 x2 x3 x4))
set_option maxHeartbeats 2000000 in
set_option maxRecDepth 20000 in
theorem wX12_toAsk_26b {r : Int32} {σ' : St} {N : Nat} (S : CallFix p m c cX12_toAsk 5 s av BG RX12) (hr : meth.sig.returnType = some .int) (hlk : meth.locks = false) {k26 : St → Int32 → Int32 → Int32 → Int32 → Option (Int32 × St)} (hk26 : ∀ (σ : St) (x1 : Int32) (x2 : Int32) (x3 : Int32) (x4 : Int32) (ls : Array Slot) (H : Heap) (locs : List Loc), Hw (MWd D ad cs) s σ H locs → lv_has ls 5 [(0, .ref (ad 0)), (1, .int x1), (2, .int x2), (3, .int x3), (4, .int x4)] → k26 σ x1 x2 x3 x4 = some (r, σ') → W p l e (RM 6 144) s m av below meth c H locs 0 0 (QI below (MWd D ad cs) av s r σ') (F0 m 26 ls []))  {σ : St} {x1 : Int32} {x2 : Int32} {x3 : Int32} {x4 : Int32} {ls : Array Slot} {H : Heap} {locs : List Loc} (hw : Hw (MWd D ad cs) s σ H locs) (hl : lv_has ls 5 [(0, .ref (ad 0)), (1, .int x1), (2, .int x2), (3, .int x3), (4, .int x4)]) (hf : fX12_toAsk_26b N k26 σ x1 x2 x3 x4 = some (r, σ')) : W p l e (RM 6 144) s m av below meth c H locs 0 0 (QI below (MWd D ad cs) av s r σ') (F0 m 26 ls []) := by
  unfold fX12_toAsk_26b at hf
  refine lv_iload S.1 S.2.1 dX12_toAsk_26 (lv_at hl 4 rfl) ?_
  refine lv_aload_n S.1 S.2.1 dX12_toAsk_28 rfl (lv_at hl 0 rfl) ?_
  refine mg_WayLeavesModel_spans S hw kf_X12_85 dX12_toAsk_29 ?_
  refine lv_icmp_ge (tgt := 83) S.1 S.2.1 dX12_toAsk_32 (by decide) (fun hc => ?_) (fun hc => ?_)
  · have hf := itt hf hc
    refine lv_iload_n S.1 S.2.1 dX12_toAsk_83 rfl (lv_at hl 2 rfl) ?_
    refine lv_iconst (v := -1) S.1 S.2.1 dX12_toAsk_84 (by decide) ?_
    refine lv_icmp_lt (tgt := 93) S.1 S.2.1 dX12_toAsk_85 (by decide) (fun hc => ?_) (fun hc => ?_)
    · have hf := itt hf hc
      refine lv_iconst (v := -1) S.1 S.2.1 dX12_toAsk_93 (by decide) ?_
      exact g_iret (MWd_ok D ad cs) S hr hlk hw dX12_toAsk_94 (Prod.mk.inj (Option.some.inj hf)).1 (Prod.mk.inj (Option.some.inj hf)).2
    · have hf := itf hf hc
      refine lv_iload_n S.1 S.2.1 dX12_toAsk_88 rfl (lv_at hl 2 rfl) ?_
      refine lv_iload_n S.1 S.2.1 dX12_toAsk_89 rfl (lv_at hl 3 rfl) ?_
      refine lv_icmp_lt (tgt := 95) S.1 S.2.1 dX12_toAsk_90 (by decide) (fun hc => ?_) (fun hc => ?_)
      · have hf := itt hf hc
        refine lv_aload_n S.1 S.2.1 dX12_toAsk_95 rfl (lv_at hl 0 rfl) ?_
        refine lv_iload_n S.1 S.2.1 dX12_toAsk_96 rfl (lv_at hl 3 rfl) ?_
        obtain ⟨σ1, g2, hf⟩ := bd_s hf
        refine g_Vv (rest := []) (MWd_ok D ad cs) S hw (tX12_orderAll g2) kt_X12_445 0 me_0 rfl rfl ⟨Nat.le_of_ble_eq_true rfl, Nat.le_of_ble_eq_true rfl⟩ rfl hl.1 rfl (Nat.le_of_ble_eq_true rfl) ⟨Nat.zero_le _, Nat.zero_le _⟩ dX12_toAsk_97 (fun H locs hw => ?_)
        refine lv_iload_n S.1 S.2.1 dX12_toAsk_100 rfl (lv_at hl 2 rfl) ?_
        refine lv_iconst (v := -1) S.1 S.2.1 dX12_toAsk_101 (by decide) ?_
        refine lv_icmp_ne (tgt := 112) S.1 S.2.1 dX12_toAsk_102 (by decide) (fun hc => ?_) (fun hc => ?_)
        · have hf := itf hf hc
          refine lv_aload_n S.1 S.2.1 dX12_toAsk_112 rfl (lv_at hl 0 rfl) ?_
          refine mg_WayLeavesModel_asked S hw kf_X12_379 dX12_toAsk_113 ?_
          refine lv_aload_n S.1 S.2.1 dX12_toAsk_116 rfl (lv_at hl 0 rfl) ?_
          refine mg_WayLeavesModel_orderBest S hw kf_X12_388 dX12_toAsk_117 ?_
          refine lv_iload_n S.1 S.2.1 dX12_toAsk_120 rfl (lv_at hl 2 rfl) ?_
          obtain ⟨h3, hf⟩ := gd_ix hf
          refine g_iald S hw 51 0 me_51 rfl h3 dX12_toAsk_121 ?_
          obtain ⟨h4, hf⟩ := gd_ix hf
          refine g_iald S hw 48 0 me_48 rfl h4 dX12_toAsk_122 ?_
          exact g_iret (MWd_ok D ad cs) S hr hlk hw dX12_toAsk_123 (Prod.mk.inj (Option.some.inj hf)).1 (Prod.mk.inj (Option.some.inj hf)).2
        · have hf := itt hf hc
          refine lv_aload_n S.1 S.2.1 dX12_toAsk_105 rfl (lv_at hl 0 rfl) ?_
          refine mg_WayLeavesModel_lateBest S hw kf_X12_432 dX12_toAsk_106 ?_
          refine lv_goto (tgt := 123) S.1 S.2.1 dX12_toAsk_109 (by decide) ?_
          exact g_iret (MWd_ok D ad cs) S hr hlk hw dX12_toAsk_123 (Prod.mk.inj (Option.some.inj hf)).1 (Prod.mk.inj (Option.some.inj hf)).2
      · have hf := itf hf hc
        refine lv_iconst (v := -1) S.1 S.2.1 dX12_toAsk_93 (by decide) ?_
        exact g_iret (MWd_ok D ad cs) S hr hlk hw dX12_toAsk_94 (Prod.mk.inj (Option.some.inj hf)).1 (Prod.mk.inj (Option.some.inj hf)).2
  · have hf := itf hf hc
    refine lv_iload_n S.1 S.2.1 dX12_toAsk_35 rfl (lv_at hl 1 rfl) ?_
    refine lv_iload S.1 S.2.1 dX12_toAsk_36 (lv_at hl 4 rfl) ?_
    refine lv_ishr S.1 S.2.1 dX12_toAsk_38 ?_
    refine lv_iconst (v := 1) S.1 S.2.1 dX12_toAsk_39 (by decide) ?_
    refine lv_iand S.1 S.2.1 dX12_toAsk_40 ?_
    refine lv_iconst (v := 1) S.1 S.2.1 dX12_toAsk_41 (by decide) ?_
    refine lv_icmp_ne (tgt := 77) S.1 S.2.1 dX12_toAsk_42 (by decide) (fun hc => ?_) (fun hc => ?_)
    · have hf := itf hf hc
      exact wX12_toAsk_77 S hr hlk hk26 hw (lv_sub hl [0, 1, 2, 3, 4] rfl) hf
    · have hf := itt hf hc
      refine lv_iload_n S.1 S.2.1 dX12_toAsk_45 rfl (lv_at hl 3 rfl) ?_
      refine lv_bipush (v := 6) S.1 S.2.1 dX12_toAsk_46 (by decide) ?_
      refine lv_icmp_ne (tgt := 54) S.1 S.2.1 dX12_toAsk_48 (by decide) (fun hc => ?_) (fun hc => ?_)
      · have hf := itf hf hc
        refine lv_aload_n S.1 S.2.1 dX12_toAsk_54 rfl (lv_at hl 0 rfl) ?_
        refine mg_WayLeavesModel_asked S hw kf_X12_379 dX12_toAsk_55 ?_
        refine lv_iload_n S.1 S.2.1 dX12_toAsk_58 rfl (lv_at hl 3 rfl) ?_
        refine lv_iload S.1 S.2.1 dX12_toAsk_59 (lv_at hl 4 rfl) ?_
        obtain ⟨h5, hf⟩ := gd_ix hf
        obtain ⟨σ6, e7⟩ : ∃ z : St, z = aW σ 48 x3 x4 := ⟨_, rfl⟩
        have hf := nm_s e7 hf
        refine g_iast (σ' := σ6) S hw 48 0 me_48 rfl (by rw [e7]; exact ms_48 _) h5 dX12_toAsk_61 (fun H locs hw => ?_)
        refine lv_aload_n S.1 S.2.1 dX12_toAsk_62 rfl (lv_at hl 0 rfl) ?_
        refine mg_WayLeavesModel_askedEnds S hw kf_X12_382 dX12_toAsk_63 ?_
        refine lv_iload_n S.1 S.2.1 dX12_toAsk_66 rfl (lv_at hl 3 rfl) ?_
        refine lv_aload_n S.1 S.2.1 dX12_toAsk_67 rfl (lv_at hl 0 rfl) ?_
        refine lv_iload S.1 S.2.1 dX12_toAsk_68 (lv_at hl 4 rfl) ?_
        obtain ⟨r8, g9, hf⟩ := bd_s hf
        refine g_Vi (rest := [.int x3, .ref (ad 49)]) (MWd_ok D ad cs) S hw (tX12_ends g9) kt_X12_147 0 me_0 rfl rfl ⟨Nat.le_of_ble_eq_true rfl, Nat.le_of_ble_eq_true rfl⟩ rfl hl.1 rfl (Nat.le_of_ble_eq_true rfl) ⟨Nat.zero_le _, Nat.zero_le _⟩ dX12_toAsk_70 (fun H locs hw => ?_)
        obtain ⟨h10, hf⟩ := gd_ix hf
        obtain ⟨σ11, e12⟩ : ∃ z : St, z = aW σ6 49 x3 r8 := ⟨_, rfl⟩
        have hf := nm_s e12 hf
        refine g_iast (σ' := σ11) S hw 49 0 me_49 rfl (by rw [e12]; exact ms_49 _) h10 dX12_toAsk_73 (fun H locs hw => ?_)
        obtain ⟨v13, e14⟩ : ∃ z : Int32, z = x3 + (1 : Int32) := ⟨_, rfl⟩
        have hf := nm_s e14 hf
        refine lv_iinc (v := v13) (lv' := [(3, .int v13), (0, .ref (ad 0)), (1, .int x1), (2, .int x2), (4, .int x4)]) S.1 S.2.1 dX12_toAsk_74 hl (k := 3) rfl (by rw [e14]; rfl) (by decide) rfl (fun ls hl => ?_)
        exact wX12_toAsk_77 S hr hlk hk26 hw (lv_sub hl [1, 2, 3, 0, 4] rfl) hf
      · have hf := itt hf hc
        refine lv_bipush (v := -2) S.1 S.2.1 dX12_toAsk_51 (by decide) ?_
        exact g_iret (MWd_ok D ad cs) S hr hlk hw dX12_toAsk_53 (Prod.mk.inj (Option.some.inj hf)).1 (Prod.mk.inj (Option.some.inj hf)).2
def fX12_toAsk_26 (N : Nat) : Nat → St → Int32 → Int32 → Int32 → Int32 → Option (Int32 × St)
  | 0 => fun _ _ _ _ _ => none
  | n + 1 => fX12_toAsk_26b N (fX12_toAsk_26 N n)
theorem wX12_toAsk_26 {r : Int32} {σ' : St} {N : Nat} (S : CallFix p m c cX12_toAsk 5 s av BG RX12) (hr : meth.sig.returnType = some .int) (hlk : meth.locks = false) : ∀ (n : Nat), ∀ (σ : St) (x1 : Int32) (x2 : Int32) (x3 : Int32) (x4 : Int32) (ls : Array Slot) (H : Heap) (locs : List Loc), Hw (MWd D ad cs) s σ H locs → lv_has ls 5 [(0, .ref (ad 0)), (1, .int x1), (2, .int x2), (3, .int x3), (4, .int x4)] → fX12_toAsk_26 N n σ x1 x2 x3 x4 = some (r, σ') → W p l e (RM 6 144) s m av below meth c H locs 0 0 (QI below (MWd D ad cs) av s r σ') (F0 m 26 ls []) := by
  intro n
  induction n with
  | zero => intro _ _ _ _ _ ls H locs hw hl hf; cases hf
  | succ n ih => intro _ _ _ _ _ ls H locs hw hl hf; exact wX12_toAsk_26b S hr hlk ih hw hl hf
def fX12_toAsk (N : Nat) (σ : St) (x1 : Int32) (x2 : Int32) : Option (Int32 × St) :=
  if (fX12_isIn (x1).toInt64 (0 : Int64) ((((1 : Int32) <<< ((σ.1 3) &&& 31)) - (1 : Int32))).toInt64) = 0 then (some ((-2 : Int32), σ)) else (fX12_toAsk_26 N N σ x1 x2 (0 : Int32) (0 : Int32))
set_option maxHeartbeats 2000000 in
set_option maxRecDepth 20000 in
theorem tX12_toAsk {r : Int32} {σ' : St} {N : Nat} {σ : St} {x1 : Int32} {x2 : Int32} (hf : fX12_toAsk N σ x1 x2 = some (r, σ')) : CI l (MWd D ad cs) yX12_toAsk cX12_toAsk 5 (some .int) 6 144 [.ref (ad 0), .int x1, .int x2] σ r σ' := by
  refine CI.of (by decide) (Nat.le_of_ble_eq_true rfl) ?_
  intro p e s m below meth c ls S hr hlk hw hl
  have hl : lv_has ls 5 [(0, .ref (ad 0)), (1, .int x1), (2, .int x2)] := hl
  unfold fX12_toAsk at hf
  refine lv_iload_n S.1 S.2.1 dX12_toAsk_0 rfl (lv_at hl 1 rfl) ?_
  refine lv_i2l S.1 S.2.1 dX12_toAsk_1 rfl ?_
  refine lv_lconst (v := 0) S.1 S.2.1 dX12_toAsk_2 (by decide) ?_
  refine lv_iconst (v := 1) S.1 S.2.1 dX12_toAsk_3 (by decide) ?_
  refine lv_aload_n S.1 S.2.1 dX12_toAsk_4 rfl (lv_at hl 0 rfl) ?_
  refine mg_WayLeavesModel_spans S hw kf_X12_85 dX12_toAsk_5 ?_
  refine lv_ishl S.1 S.2.1 dX12_toAsk_8 ?_
  refine lv_iconst (v := 1) S.1 S.2.1 dX12_toAsk_9 (by decide) ?_
  refine lv_isub S.1 S.2.1 dX12_toAsk_10 ?_
  refine lv_i2l S.1 S.2.1 dX12_toAsk_11 rfl ?_
  refine g_Si (rest := []) (MWd_ok D ad cs) S hw (tX12_isIn (ad := ad) (cs := cs) (σ := σ) rfl) kt_X12_5 ⟨Nat.le_of_ble_eq_true rfl, Nat.le_of_ble_eq_true rfl⟩ rfl hl.1 rfl (Nat.le_of_ble_eq_true rfl) ⟨Nat.zero_le _, Nat.zero_le _⟩ dX12_toAsk_12 (fun H locs hw => ?_)
  refine lv_if_ne (tgt := 21) S.1 S.2.1 dX12_toAsk_15 (by decide) (fun hc => ?_) (fun hc => ?_)
  · have hf := itf hf hc
    refine lv_iconst (v := 0) S.1 S.2.1 dX12_toAsk_21 (by decide) ?_
    refine lv_istore_n (lv' := [(3, .int (0 : Int32)), (0, .ref (ad 0)), (1, .int x1), (2, .int x2)]) S.1 S.2.1 dX12_toAsk_22 rfl hl (by decide) rfl (fun ls hl => ?_)
    refine lv_iconst (v := 0) S.1 S.2.1 dX12_toAsk_23 (by decide) ?_
    refine lv_istore (lv' := [(4, .int (0 : Int32)), (3, .int (0 : Int32)), (0, .ref (ad 0)), (1, .int x1), (2, .int x2)]) S.1 S.2.1 dX12_toAsk_24 hl (by decide) rfl (fun ls hl => ?_)
    exact wX12_toAsk_26 S hr hlk N σ x1 x2 (0 : Int32) (0 : Int32) _ _ _ hw (lv_sub hl [2, 3, 4, 1, 0] rfl) hf
  · have hf := itt hf hc
    refine lv_bipush (v := -2) S.1 S.2.1 dX12_toAsk_18 (by decide) ?_
    exact g_iret (MWd_ok D ad cs) S hr hlk hw dX12_toAsk_20 (Prod.mk.inj (Option.some.inj hf)).1 (Prod.mk.inj (Option.some.inj hf)).2
def fX12_spansWith_47 (N : Nat) (σ : St) (k4 : Int32 → Int32 → Int32 → Option Int32) (x1 : Int32) (x3 : Int32) (y0 : Int32) (y1 : Int32) : Option Int32 :=
  nm (y0 + y1) fun v5 => nm (x3 + (1 : Int32)) fun v7 => k4 x1 v5 v7
set_option maxHeartbeats 2000000 in
set_option maxRecDepth 20000 in
theorem wX12_spansWith_47 {r : Int32} {N : Nat} {σ : St} (S : CallFix p m c cX12_spansWith 4 s av BG RX12) (hr : meth.sig.returnType = some .int) (hlk : meth.locks = false) {k4 : Int32 → Int32 → Int32 → Option Int32} (hk4 : ∀ (x1 : Int32) (x2 : Int32) (x3 : Int32) (ls : Array Slot) (H : Heap) (locs : List Loc), Hw (MWd D ad cs) s σ H locs → lv_has ls 4 [(0, .ref (ad 0)), (1, .int x1), (2, .int x2), (3, .int x3)] → k4 x1 x2 x3 = some r → W p l e (RM 4 97) s m av below meth c H locs 0 0 (QI below (MWd D ad cs) av s r σ) (F0 m 4 ls []))  {x1 : Int32} {x3 : Int32} {y0 : Int32} {y1 : Int32} {ls : Array Slot} {H : Heap} {locs : List Loc} (hw : Hw (MWd D ad cs) s σ H locs) (hl : lv_has ls 4 [(0, .ref (ad 0)), (1, .int x1), (3, .int x3)]) (hf : fX12_spansWith_47 N σ k4 x1 x3 y0 y1 = some r) : W p l e (RM 4 97) s m av below meth c H locs 0 0 (QI below (MWd D ad cs) av s r σ) (F0 m 47 ls [.int y1, .int y0]) := by
  unfold fX12_spansWith_47 at hf
  refine lv_iadd S.1 S.2.1 dX12_spansWith_47 ?_
  refine lv_topi (fun v5 e6 => ?_)
  have hf := nm_s e6 hf
  refine lv_istore_n (lv' := [(2, .int v5), (0, .ref (ad 0)), (1, .int x1), (3, .int x3)]) S.1 S.2.1 dX12_spansWith_48 rfl hl (by decide) rfl (fun ls hl => ?_)
  obtain ⟨v7, e8⟩ : ∃ z : Int32, z = x3 + (1 : Int32) := ⟨_, rfl⟩
  have hf := nm_s e8 hf
  refine lv_iinc (v := v7) (lv' := [(3, .int v7), (2, .int v5), (0, .ref (ad 0)), (1, .int x1)]) S.1 S.2.1 dX12_spansWith_49 hl (k := 3) rfl (by rw [e8]; rfl) (by decide) rfl (fun ls hl => ?_)
  refine lv_goto (tgt := 4) S.1 S.2.1 dX12_spansWith_52 (by decide) ?_
  exact hk4 x1 v5 v7 _ _ _ hw (lv_sub hl [2, 3, 1, 0] rfl) hf
def fX12_spansWith_42 (N : Nat) (σ : St) (k4 : Int32 → Int32 → Int32 → Option Int32) (x1 : Int32) (x3 : Int32) (y0 : Int32) : Option Int32 :=
  fX12_spansWith_47 N σ k4 x1 x3 y0 (1 : Int32)
set_option maxHeartbeats 2000000 in
set_option maxRecDepth 20000 in
theorem wX12_spansWith_42 {r : Int32} {N : Nat} {σ : St} (S : CallFix p m c cX12_spansWith 4 s av BG RX12) (hr : meth.sig.returnType = some .int) (hlk : meth.locks = false) {k4 : Int32 → Int32 → Int32 → Option Int32} (hk4 : ∀ (x1 : Int32) (x2 : Int32) (x3 : Int32) (ls : Array Slot) (H : Heap) (locs : List Loc), Hw (MWd D ad cs) s σ H locs → lv_has ls 4 [(0, .ref (ad 0)), (1, .int x1), (2, .int x2), (3, .int x3)] → k4 x1 x2 x3 = some r → W p l e (RM 4 97) s m av below meth c H locs 0 0 (QI below (MWd D ad cs) av s r σ) (F0 m 4 ls []))  {x1 : Int32} {x3 : Int32} {y0 : Int32} {ls : Array Slot} {H : Heap} {locs : List Loc} (hw : Hw (MWd D ad cs) s σ H locs) (hl : lv_has ls 4 [(0, .ref (ad 0)), (1, .int x1), (3, .int x3)]) (hf : fX12_spansWith_42 N σ k4 x1 x3 y0 = some r) : W p l e (RM 4 97) s m av below meth c H locs 0 0 (QI below (MWd D ad cs) av s r σ) (F0 m 42 ls [.int y0]) := by
  unfold fX12_spansWith_42 at hf
  refine lv_iconst (v := 1) S.1 S.2.1 dX12_spansWith_42 (by decide) ?_
  refine lv_goto (tgt := 47) S.1 S.2.1 dX12_spansWith_43 (by decide) ?_
  exact wX12_spansWith_47 S hr hlk hk4 hw (lv_sub hl [0, 1, 2] rfl) hf
def fX12_spansWith_46 (N : Nat) (σ : St) (k4 : Int32 → Int32 → Int32 → Option Int32) (x1 : Int32) (x3 : Int32) (y0 : Int32) : Option Int32 :=
  fX12_spansWith_47 N σ k4 x1 x3 y0 (0 : Int32)
set_option maxHeartbeats 2000000 in
set_option maxRecDepth 20000 in
theorem wX12_spansWith_46 {r : Int32} {N : Nat} {σ : St} (S : CallFix p m c cX12_spansWith 4 s av BG RX12) (hr : meth.sig.returnType = some .int) (hlk : meth.locks = false) {k4 : Int32 → Int32 → Int32 → Option Int32} (hk4 : ∀ (x1 : Int32) (x2 : Int32) (x3 : Int32) (ls : Array Slot) (H : Heap) (locs : List Loc), Hw (MWd D ad cs) s σ H locs → lv_has ls 4 [(0, .ref (ad 0)), (1, .int x1), (2, .int x2), (3, .int x3)] → k4 x1 x2 x3 = some r → W p l e (RM 4 97) s m av below meth c H locs 0 0 (QI below (MWd D ad cs) av s r σ) (F0 m 4 ls []))  {x1 : Int32} {x3 : Int32} {y0 : Int32} {ls : Array Slot} {H : Heap} {locs : List Loc} (hw : Hw (MWd D ad cs) s σ H locs) (hl : lv_has ls 4 [(0, .ref (ad 0)), (1, .int x1), (3, .int x3)]) (hf : fX12_spansWith_46 N σ k4 x1 x3 y0 = some r) : W p l e (RM 4 97) s m av below meth c H locs 0 0 (QI below (MWd D ad cs) av s r σ) (F0 m 46 ls [.int y0]) := by
  unfold fX12_spansWith_46 at hf
  refine lv_iconst (v := 0) S.1 S.2.1 dX12_spansWith_46 (by decide) ?_
  exact wX12_spansWith_47 S hr hlk hk4 hw (lv_sub hl [0, 1, 2] rfl) hf
def fX12_spansWith_4b (N : Nat) (σ : St) (k4 : Int32 → Int32 → Int32 → Option Int32) (x1 : Int32) (x2 : Int32) (x3 : Int32) : Option Int32 :=
  if (σ.1 3) ≤ x3 then (some x2) else (if x1 = 0 then (bd (fX12_hasIn N σ x3 (σ.1 0)) fun r1 => if r1 = 0 then (fX12_spansWith_42 N σ k4 x1 x3 x2) else (fX12_spansWith_46 N σ k4 x1 x3 x2)) else (bd (fX12_near N σ x3) fun r3 => if (6 : Int32) ≤ r3 then (fX12_spansWith_46 N σ k4 x1 x3 x2) else (fX12_spansWith_42 N σ k4 x1 x3 x2)))
set_option maxHeartbeats 2000000 in
set_option maxRecDepth 20000 in
theorem wX12_spansWith_4b {r : Int32} {N : Nat} {σ : St} (S : CallFix p m c cX12_spansWith 4 s av BG RX12) (hr : meth.sig.returnType = some .int) (hlk : meth.locks = false) {k4 : Int32 → Int32 → Int32 → Option Int32} (hk4 : ∀ (x1 : Int32) (x2 : Int32) (x3 : Int32) (ls : Array Slot) (H : Heap) (locs : List Loc), Hw (MWd D ad cs) s σ H locs → lv_has ls 4 [(0, .ref (ad 0)), (1, .int x1), (2, .int x2), (3, .int x3)] → k4 x1 x2 x3 = some r → W p l e (RM 4 97) s m av below meth c H locs 0 0 (QI below (MWd D ad cs) av s r σ) (F0 m 4 ls []))  {x1 : Int32} {x2 : Int32} {x3 : Int32} {ls : Array Slot} {H : Heap} {locs : List Loc} (hw : Hw (MWd D ad cs) s σ H locs) (hl : lv_has ls 4 [(0, .ref (ad 0)), (1, .int x1), (2, .int x2), (3, .int x3)]) (hf : fX12_spansWith_4b N σ k4 x1 x2 x3 = some r) : W p l e (RM 4 97) s m av below meth c H locs 0 0 (QI below (MWd D ad cs) av s r σ) (F0 m 4 ls []) := by
  unfold fX12_spansWith_4b at hf
  refine lv_iload_n S.1 S.2.1 dX12_spansWith_4 rfl (lv_at hl 3 rfl) ?_
  refine lv_aload_n S.1 S.2.1 dX12_spansWith_5 rfl (lv_at hl 0 rfl) ?_
  refine mg_WayLeavesModel_spans S hw kf_X12_85 dX12_spansWith_6 ?_
  refine lv_icmp_ge (tgt := 55) S.1 S.2.1 dX12_spansWith_9 (by decide) (fun hc => ?_) (fun hc => ?_)
  · have hf := itt hf hc
    refine lv_iload_n S.1 S.2.1 dX12_spansWith_55 rfl (lv_at hl 2 rfl) ?_
    exact g_iret (MWd_ok D ad cs) S hr hlk hw dX12_spansWith_56 (Option.some.inj hf) rfl
  · have hf := itf hf hc
    refine lv_iload_n S.1 S.2.1 dX12_spansWith_12 rfl (lv_at hl 2 rfl) ?_
    refine lv_iload_n S.1 S.2.1 dX12_spansWith_13 rfl (lv_at hl 1 rfl) ?_
    refine lv_if_eq (tgt := 30) S.1 S.2.1 dX12_spansWith_14 (by decide) (fun hc => ?_) (fun hc => ?_)
    · have hf := itt hf hc
      refine lv_aload_n S.1 S.2.1 dX12_spansWith_30 rfl (lv_at hl 0 rfl) ?_
      refine lv_iload_n S.1 S.2.1 dX12_spansWith_31 rfl (lv_at hl 3 rfl) ?_
      refine lv_aload_n S.1 S.2.1 dX12_spansWith_32 rfl (lv_at hl 0 rfl) ?_
      refine mg_WayLeavesModel_today S hw kf_X12_15 dX12_spansWith_33 ?_
      obtain ⟨r1, g2, hf⟩ := bd_s hf
      refine g_Vi (rest := [.int x2]) (MWd_ok D ad cs) S hw (tX12_hasIn g2) kt_X12_207 0 me_0 rfl rfl ⟨Nat.le_of_ble_eq_true rfl, Nat.le_of_ble_eq_true rfl⟩ rfl hl.1 rfl (Nat.le_of_ble_eq_true rfl) ⟨Nat.zero_le _, Nat.zero_le _⟩ dX12_spansWith_36 (fun H locs hw => ?_)
      refine lv_if_ne (tgt := 46) S.1 S.2.1 dX12_spansWith_39 (by decide) (fun hc => ?_) (fun hc => ?_)
      · have hf := itf hf hc
        exact wX12_spansWith_46 S hr hlk hk4 hw (lv_sub hl [0, 1, 3] rfl) hf
      · have hf := itt hf hc
        exact wX12_spansWith_42 S hr hlk hk4 hw (lv_sub hl [0, 1, 3] rfl) hf
    · have hf := itf hf hc
      refine lv_aload_n S.1 S.2.1 dX12_spansWith_17 rfl (lv_at hl 0 rfl) ?_
      refine lv_iload_n S.1 S.2.1 dX12_spansWith_18 rfl (lv_at hl 3 rfl) ?_
      obtain ⟨r3, g4, hf⟩ := bd_s hf
      refine g_Vi (rest := [.int x2]) (MWd_ok D ad cs) S hw (tX12_near g4) kt_X12_144 0 me_0 rfl rfl ⟨Nat.le_of_ble_eq_true rfl, Nat.le_of_ble_eq_true rfl⟩ rfl hl.1 rfl (Nat.le_of_ble_eq_true rfl) ⟨Nat.zero_le _, Nat.zero_le _⟩ dX12_spansWith_19 (fun H locs hw => ?_)
      refine lv_bipush (v := 6) S.1 S.2.1 dX12_spansWith_22 (by decide) ?_
      refine lv_icmp_ge (tgt := 46) S.1 S.2.1 dX12_spansWith_24 (by decide) (fun hc => ?_) (fun hc => ?_)
      · have hf := itt hf hc
        exact wX12_spansWith_46 S hr hlk hk4 hw (lv_sub hl [0, 1, 3] rfl) hf
      · have hf := itf hf hc
        refine lv_goto (tgt := 42) S.1 S.2.1 dX12_spansWith_27 (by decide) ?_
        exact wX12_spansWith_42 S hr hlk hk4 hw (lv_sub hl [0, 1, 3] rfl) hf
def fX12_spansWith_4 (N : Nat) (σ : St) : Nat → Int32 → Int32 → Int32 → Option Int32
  | 0 => fun _ _ _ => none
  | n + 1 => fX12_spansWith_4b N σ (fX12_spansWith_4 N σ n)
theorem wX12_spansWith_4 {r : Int32} {N : Nat} {σ : St} (S : CallFix p m c cX12_spansWith 4 s av BG RX12) (hr : meth.sig.returnType = some .int) (hlk : meth.locks = false) : ∀ (n : Nat), ∀ (x1 : Int32) (x2 : Int32) (x3 : Int32) (ls : Array Slot) (H : Heap) (locs : List Loc), Hw (MWd D ad cs) s σ H locs → lv_has ls 4 [(0, .ref (ad 0)), (1, .int x1), (2, .int x2), (3, .int x3)] → fX12_spansWith_4 N σ n x1 x2 x3 = some r → W p l e (RM 4 97) s m av below meth c H locs 0 0 (QI below (MWd D ad cs) av s r σ) (F0 m 4 ls []) := by
  intro n
  induction n with
  | zero => intro _ _ _ ls H locs hw hl hf; cases hf
  | succ n ih => intro _ _ _ ls H locs hw hl hf; exact wX12_spansWith_4b S hr hlk ih hw hl hf
def fX12_spansWith (N : Nat) (σ : St) (x1 : Int32) : Option Int32 :=
  fX12_spansWith_4 N σ N x1 (0 : Int32) (0 : Int32)
set_option maxHeartbeats 2000000 in
set_option maxRecDepth 20000 in
theorem tX12_spansWith {r : Int32} {N : Nat} {σ : St} {x1 : Int32} (hf : fX12_spansWith N σ x1 = some r) : CI l (MWd D ad cs) yX12_spansWith cX12_spansWith 4 (some .int) 4 97 [.ref (ad 0), .int x1] σ r σ := by
  refine CI.of (by decide) (Nat.le_of_ble_eq_true rfl) ?_
  intro p e s m below meth c ls S hr hlk hw hl
  have hl : lv_has ls 4 [(0, .ref (ad 0)), (1, .int x1)] := hl
  unfold fX12_spansWith at hf
  refine lv_iconst (v := 0) S.1 S.2.1 dX12_spansWith_0 (by decide) ?_
  refine lv_istore_n (lv' := [(2, .int (0 : Int32)), (0, .ref (ad 0)), (1, .int x1)]) S.1 S.2.1 dX12_spansWith_1 rfl hl (by decide) rfl (fun ls hl => ?_)
  refine lv_iconst (v := 0) S.1 S.2.1 dX12_spansWith_2 (by decide) ?_
  refine lv_istore_n (lv' := [(3, .int (0 : Int32)), (2, .int (0 : Int32)), (0, .ref (ad 0)), (1, .int x1)]) S.1 S.2.1 dX12_spansWith_3 rfl hl (by decide) rfl (fun ls hl => ?_)
  exact wX12_spansWith_4 S hr hlk N x1 (0 : Int32) (0 : Int32) _ _ _ hw (lv_sub hl [2, 3, 1, 0] rfl) hf
def fX12_count (N : Nat) (σ : St) (x1 : Int32) : Option Int32 :=
  if x1 = (0 : Int32) then (some (σ.1 0)) else (if x1 = (1 : Int32) then (some (σ.1 1)) else (if x1 = (2 : Int32) then (some (σ.1 2)) else (if x1 = (3 : Int32) then (some (σ.1 3)) else (if x1 = (4 : Int32) then (some (σ.1 4)) else (if x1 = (5 : Int32) then (some (σ.1 17)) else (if x1 = (6 : Int32) then (some (σ.1 18)) else (if x1 = (7 : Int32) then (some (σ.1 6)) else (if x1 = (8 : Int32) then (some (σ.1 5)) else (if x1 = (9 : Int32) then (some (σ.1 7)) else (if x1 = (10 : Int32) then (bd (fX12_spansWith N σ (0 : Int32)) fun r12 => some r12) else (if x1 = (11 : Int32) then (bd (fX12_spansWith N σ (1 : Int32)) fun r15 => some r15) else (some (-2 : Int32)))))))))))))
set_option maxHeartbeats 2000000 in
set_option maxRecDepth 20000 in
theorem tX12_count {r : Int32} {N : Nat} {σ : St} {x1 : Int32} (hf : fX12_count N σ x1 = some r) : CI l (MWd D ad cs) yX12_count cX12_count 2 (some .int) 5 120 [.ref (ad 0), .int x1] σ r σ := by
  refine CI.of (by decide) (Nat.le_of_ble_eq_true rfl) ?_
  intro p e s m below meth c ls S hr hlk hw hl
  have hl : lv_has ls 2 [(0, .ref (ad 0)), (1, .int x1)] := hl
  unfold fX12_count at hf
  refine lv_iload_n S.1 S.2.1 dX12_count_0 rfl (lv_at hl 1 rfl) ?_
  by_cases h1 : x1 = (0 : Int32)
  · have hf := itt hf h1
    refine lv_tableIn (off := 63) (tgt := 64) S.1 S.2.1 dX12_count_1 (by rw [h1]; decide) (by rw [h1]; decide) (by rw [h1]; rfl) (by decide) ?_
    refine lv_aload_n S.1 S.2.1 dX12_count_64 rfl (lv_at hl 0 rfl) ?_
    refine mg_WayLeavesModel_today S hw kf_X12_15 dX12_count_65 ?_
    exact g_iret (MWd_ok D ad cs) S hr hlk hw dX12_count_68 (Option.some.inj hf) rfl
  have hf := itf hf h1
  by_cases h2 : x1 = (1 : Int32)
  · have hf := itt hf h2
    refine lv_tableIn (off := 68) (tgt := 69) S.1 S.2.1 dX12_count_1 (by rw [h2]; decide) (by rw [h2]; decide) (by rw [h2]; rfl) (by decide) ?_
    refine lv_aload_n S.1 S.2.1 dX12_count_69 rfl (lv_at hl 0 rfl) ?_
    refine mg_WayLeavesModel_sales S hw kf_X12_26 dX12_count_70 ?_
    exact g_iret (MWd_ok D ad cs) S hr hlk hw dX12_count_73 (Option.some.inj hf) rfl
  have hf := itf hf h2
  by_cases h3 : x1 = (2 : Int32)
  · have hf := itt hf h3
    refine lv_tableIn (off := 73) (tgt := 74) S.1 S.2.1 dX12_count_1 (by rw [h3]; decide) (by rw [h3]; decide) (by rw [h3]; rfl) (by decide) ?_
    refine lv_aload_n S.1 S.2.1 dX12_count_74 rfl (lv_at hl 0 rfl) ?_
    refine mg_WayLeavesModel_towers S hw kf_X12_82 dX12_count_75 ?_
    exact g_iret (MWd_ok D ad cs) S hr hlk hw dX12_count_78 (Option.some.inj hf) rfl
  have hf := itf hf h3
  by_cases h4 : x1 = (3 : Int32)
  · have hf := itt hf h4
    refine lv_tableIn (off := 78) (tgt := 79) S.1 S.2.1 dX12_count_1 (by rw [h4]; decide) (by rw [h4]; decide) (by rw [h4]; rfl) (by decide) ?_
    refine lv_aload_n S.1 S.2.1 dX12_count_79 rfl (lv_at hl 0 rfl) ?_
    refine mg_WayLeavesModel_spans S hw kf_X12_85 dX12_count_80 ?_
    exact g_iret (MWd_ok D ad cs) S hr hlk hw dX12_count_83 (Option.some.inj hf) rfl
  have hf := itf hf h4
  by_cases h5 : x1 = (4 : Int32)
  · have hf := itt hf h5
    refine lv_tableIn (off := 83) (tgt := 84) S.1 S.2.1 dX12_count_1 (by rw [h5]; decide) (by rw [h5]; decide) (by rw [h5]; rfl) (by decide) ?_
    refine lv_aload_n S.1 S.2.1 dX12_count_84 rfl (lv_at hl 0 rfl) ?_
    refine mg_WayLeavesModel_leaves S hw kf_X12_150 dX12_count_85 ?_
    exact g_iret (MWd_ok D ad cs) S hr hlk hw dX12_count_88 (Option.some.inj hf) rfl
  have hf := itf hf h5
  by_cases h6 : x1 = (5 : Int32)
  · have hf := itt hf h6
    refine lv_tableIn (off := 88) (tgt := 89) S.1 S.2.1 dX12_count_1 (by rw [h6]; decide) (by rw [h6]; decide) (by rw [h6]; rfl) (by decide) ?_
    refine lv_aload_n S.1 S.2.1 dX12_count_89 rfl (lv_at hl 0 rfl) ?_
    refine mg_WayLeavesModel_claims S hw kf_X12_406 dX12_count_90 ?_
    exact g_iret (MWd_ok D ad cs) S hr hlk hw dX12_count_93 (Option.some.inj hf) rfl
  have hf := itf hf h6
  by_cases h7 : x1 = (6 : Int32)
  · have hf := itt hf h7
    refine lv_tableIn (off := 93) (tgt := 94) S.1 S.2.1 dX12_count_1 (by rw [h7]; decide) (by rw [h7]; decide) (by rw [h7]; rfl) (by decide) ?_
    refine lv_aload_n S.1 S.2.1 dX12_count_94 rfl (lv_at hl 0 rfl) ?_
    refine mg_WayLeavesModel_looks S hw kf_X12_412 dX12_count_95 ?_
    exact g_iret (MWd_ok D ad cs) S hr hlk hw dX12_count_98 (Option.some.inj hf) rfl
  have hf := itf hf h7
  by_cases h8 : x1 = (7 : Int32)
  · have hf := itt hf h8
    refine lv_tableIn (off := 98) (tgt := 99) S.1 S.2.1 dX12_count_1 (by rw [h8]; decide) (by rw [h8]; decide) (by rw [h8]; rfl) (by decide) ?_
    refine lv_aload_n S.1 S.2.1 dX12_count_99 rfl (lv_at hl 0 rfl) ?_
    refine mg_WayLeavesModel_texts S hw kf_X12_329 dX12_count_100 ?_
    exact g_iret (MWd_ok D ad cs) S hr hlk hw dX12_count_103 (Option.some.inj hf) rfl
  have hf := itf hf h8
  by_cases h9 : x1 = (8 : Int32)
  · have hf := itt hf h9
    refine lv_tableIn (off := 103) (tgt := 104) S.1 S.2.1 dX12_count_1 (by rw [h9]; decide) (by rw [h9]; decide) (by rw [h9]; rfl) (by decide) ?_
    refine lv_aload_n S.1 S.2.1 dX12_count_104 rfl (lv_at hl 0 rfl) ?_
    refine mg_WayLeavesModel_taped S hw kf_X12_228 dX12_count_105 ?_
    exact g_iret (MWd_ok D ad cs) S hr hlk hw dX12_count_108 (Option.some.inj hf) rfl
  have hf := itf hf h9
  by_cases h10 : x1 = (9 : Int32)
  · have hf := itt hf h10
    refine lv_tableIn (off := 108) (tgt := 109) S.1 S.2.1 dX12_count_1 (by rw [h10]; decide) (by rw [h10]; decide) (by rw [h10]; rfl) (by decide) ?_
    refine lv_aload_n S.1 S.2.1 dX12_count_109 rfl (lv_at hl 0 rfl) ?_
    refine mg_WayLeavesModel_rule S hw kf_X12_335 dX12_count_110 ?_
    exact g_iret (MWd_ok D ad cs) S hr hlk hw dX12_count_113 (Option.some.inj hf) rfl
  have hf := itf hf h10
  by_cases h11 : x1 = (10 : Int32)
  · have hf := itt hf h11
    refine lv_tableIn (off := 113) (tgt := 114) S.1 S.2.1 dX12_count_1 (by rw [h11]; decide) (by rw [h11]; decide) (by rw [h11]; rfl) (by decide) ?_
    refine lv_aload_n S.1 S.2.1 dX12_count_114 rfl (lv_at hl 0 rfl) ?_
    refine lv_iconst (v := 0) S.1 S.2.1 dX12_count_115 (by decide) ?_
    obtain ⟨r12, g13, hf⟩ := bd_s hf
    refine g_Vi (rest := []) (MWd_ok D ad cs) S hw (tX12_spansWith g13) kt_X12_448 0 me_0 rfl rfl ⟨Nat.le_of_ble_eq_true rfl, Nat.le_of_ble_eq_true rfl⟩ rfl hl.1 rfl (Nat.le_of_ble_eq_true rfl) ⟨Nat.zero_le _, Nat.zero_le _⟩ dX12_count_116 (fun H locs hw => ?_)
    exact g_iret (MWd_ok D ad cs) S hr hlk hw dX12_count_119 (Option.some.inj hf) rfl
  have hf := itf hf h11
  by_cases h14 : x1 = (11 : Int32)
  · have hf := itt hf h14
    refine lv_tableIn (off := 119) (tgt := 120) S.1 S.2.1 dX12_count_1 (by rw [h14]; decide) (by rw [h14]; decide) (by rw [h14]; rfl) (by decide) ?_
    refine lv_aload_n S.1 S.2.1 dX12_count_120 rfl (lv_at hl 0 rfl) ?_
    refine lv_iconst (v := 1) S.1 S.2.1 dX12_count_121 (by decide) ?_
    obtain ⟨r15, g16, hf⟩ := bd_s hf
    refine g_Vi (rest := []) (MWd_ok D ad cs) S hw (tX12_spansWith g16) kt_X12_448 0 me_0 rfl rfl ⟨Nat.le_of_ble_eq_true rfl, Nat.le_of_ble_eq_true rfl⟩ rfl hl.1 rfl (Nat.le_of_ble_eq_true rfl) ⟨Nat.zero_le _, Nat.zero_le _⟩ dX12_count_122 (fun H locs hw => ?_)
    exact g_iret (MWd_ok D ad cs) S hr hlk hw dX12_count_125 (Option.some.inj hf) rfl
  have hf := itf hf h14
  refine lv_tableOut (tgt := 126) S.1 S.2.1 dX12_count_1 (by have h1 := lv_neT h1 (a := 0) (by decide); have h2 := lv_neT h2 (a := 1) (by decide); have h3 := lv_neT h3 (a := 2) (by decide); have h4 := lv_neT h4 (a := 3) (by decide); have h5 := lv_neT h5 (a := 4) (by decide); have h6 := lv_neT h6 (a := 5) (by decide); have h7 := lv_neT h7 (a := 6) (by decide); have h8 := lv_neT h8 (a := 7) (by decide); have h9 := lv_neT h9 (a := 8) (by decide); have h10 := lv_neT h10 (a := 9) (by decide); have h11 := lv_neT h11 (a := 10) (by decide); have h14 := lv_neT h14 (a := 11) (by decide); omega) (by decide) ?_
  refine lv_bipush (v := -2) S.1 S.2.1 dX12_count_126 (by decide) ?_
  exact g_iret (MWd_ok D ad cs) S hr hlk hw dX12_count_128 (Option.some.inj hf) rfl
def fX12_isSheet (x0 : Int32) : Int32 :=
  (fX12_isIn (x0).toInt64 (0 : Int64) (3 : Int64))
set_option maxHeartbeats 2000000 in
set_option maxRecDepth 20000 in
theorem tX12_isSheet {r : Int32} {σ : St} {x0 : Int32} (hf : fX12_isSheet x0 = r) : CI l (MWd D ad cs) yX12_isSheet cX12_isSheet 1 (some .boolean) 1 25 [.int x0] σ r σ := by
  refine CI.of (by decide) (Nat.le_of_ble_eq_true rfl) ?_
  intro p e s m below meth c ls S hr hlk hw hl
  have hl : lv_has ls 1 [(0, .int x0)] := hl
  unfold fX12_isSheet at hf
  refine lv_iload_n S.1 S.2.1 dX12_isSheet_0 rfl (lv_at hl 0 rfl) ?_
  refine lv_i2l S.1 S.2.1 dX12_isSheet_1 rfl ?_
  refine lv_lconst (v := 0) S.1 S.2.1 dX12_isSheet_2 (by decide) ?_
  refine lv_ldc2 S.1 S.2.1 S.2.2.2.1 (S.2.2.2.2 _ kc_X12_452) dX12_isSheet_3 ?_
  refine g_Si (rest := []) (MWd_ok D ad cs) S hw (tX12_isIn (ad := ad) (cs := cs) (σ := σ) rfl) kt_X12_5 ⟨Nat.le_of_ble_eq_true rfl, Nat.le_of_ble_eq_true rfl⟩ rfl hl.1 rfl (Nat.le_of_ble_eq_true rfl) ⟨Nat.zero_le _, Nat.zero_le _⟩ dX12_isSheet_6 (fun H locs hw => ?_)
  exact g_zret (MWd_ok D ad cs) S hr hlk hw (zzX12_isIn ..) dX12_isSheet_9 hf rfl
theorem zzX12_isSheet (x0 : Int32) : narrow .boolean (.int (fX12_isSheet x0)) = .int (fX12_isSheet x0) := by
  unfold fX12_isSheet
  repeat' split
  all_goals first | exact zzX12_isIn ..
def fX12_sheet_70b (N : Nat) (k70 : St → Int32 → Int32 → Option (Int32 × St)) (σ : St) (x1 : Int32) (x4 : Int32) : Option (Int32 × St) :=
  if (40 : Int32) ≤ x4 then (some ((1 : Int32), σ)) else (if ix (((40 : Int32) * x1) + x4) 160 = true then nm (aW σ 54 (((40 : Int32) * x1) + x4) (0 : Int32)) fun σ8 => nm (x4 + (1 : Int32)) fun v10 => k70 σ8 x1 v10 else none)
set_option maxHeartbeats 2000000 in
set_option maxRecDepth 20000 in
theorem wX12_sheet_70b {r : Int32} {σ' : St} {N : Nat} (S : CallFix p m c cX12_sheet 5 s av BG RX12) (hr : meth.sig.returnType = some .int) (hlk : meth.locks = false) {k70 : St → Int32 → Int32 → Option (Int32 × St)} (hk70 : ∀ (σ : St) (x1 : Int32) (x4 : Int32) (ls : Array Slot) (H : Heap) (locs : List Loc), Hw (MWd D ad cs) s σ H locs → lv_has ls 5 [(0, .ref (ad 0)), (1, .int x1), (4, .int x4)] → k70 σ x1 x4 = some (r, σ') → W p l e (RM 2 45) s m av below meth c H locs 0 0 (QI below (MWd D ad cs) av s r σ') (F0 m 70 ls []))  {σ : St} {x1 : Int32} {x4 : Int32} {ls : Array Slot} {H : Heap} {locs : List Loc} (hw : Hw (MWd D ad cs) s σ H locs) (hl : lv_has ls 5 [(0, .ref (ad 0)), (1, .int x1), (4, .int x4)]) (hf : fX12_sheet_70b N k70 σ x1 x4 = some (r, σ')) : W p l e (RM 2 45) s m av below meth c H locs 0 0 (QI below (MWd D ad cs) av s r σ') (F0 m 70 ls []) := by
  unfold fX12_sheet_70b at hf
  refine lv_iload S.1 S.2.1 dX12_sheet_70 (lv_at hl 2 rfl) ?_
  refine lv_bipush (v := 40) S.1 S.2.1 dX12_sheet_72 (by decide) ?_
  refine lv_icmp_ge (tgt := 96) S.1 S.2.1 dX12_sheet_74 (by decide) (fun hc => ?_) (fun hc => ?_)
  · have hf := itt hf hc
    refine lv_iconst (v := 1) S.1 S.2.1 dX12_sheet_96 (by decide) ?_
    exact g_iret (MWd_ok D ad cs) S hr hlk hw dX12_sheet_97 (Prod.mk.inj (Option.some.inj hf)).1 (Prod.mk.inj (Option.some.inj hf)).2
  · have hf := itf hf hc
    refine lv_aload_n S.1 S.2.1 dX12_sheet_77 rfl (lv_at hl 0 rfl) ?_
    refine mg_WayLeavesModel_items S hw kf_X12_397 dX12_sheet_78 ?_
    refine lv_bipush (v := 40) S.1 S.2.1 dX12_sheet_81 (by decide) ?_
    refine lv_iload_n S.1 S.2.1 dX12_sheet_83 rfl (lv_at hl 1 rfl) ?_
    refine lv_imul S.1 S.2.1 dX12_sheet_84 ?_
    refine lv_iload S.1 S.2.1 dX12_sheet_85 (lv_at hl 2 rfl) ?_
    refine lv_iadd S.1 S.2.1 dX12_sheet_87 ?_
    refine lv_iconst (v := 0) S.1 S.2.1 dX12_sheet_88 (by decide) ?_
    obtain ⟨h7, hf⟩ := gd_ix hf
    obtain ⟨σ8, e9⟩ : ∃ z : St, z = aW σ 54 (((40 : Int32) * x1) + x4) (0 : Int32) := ⟨_, rfl⟩
    have hf := nm_s e9 hf
    refine g_iast (σ' := σ8) S hw 54 0 me_54 rfl (by rw [e9]; exact ms_54 _) h7 dX12_sheet_89 (fun H locs hw => ?_)
    obtain ⟨v10, e11⟩ : ∃ z : Int32, z = x4 + (1 : Int32) := ⟨_, rfl⟩
    have hf := nm_s e11 hf
    refine lv_iinc (v := v10) (lv' := [(4, .int v10), (0, .ref (ad 0)), (1, .int x1)]) S.1 S.2.1 dX12_sheet_90 hl (k := 2) rfl (by rw [e11]; rfl) (by decide) rfl (fun ls hl => ?_)
    refine lv_goto (tgt := 70) S.1 S.2.1 dX12_sheet_93 (by decide) ?_
    exact hk70 σ8 x1 v10 _ _ _ hw (lv_sub hl [1, 2, 0] rfl) hf
def fX12_sheet_70 (N : Nat) : Nat → St → Int32 → Int32 → Option (Int32 × St)
  | 0 => fun _ _ _ => none
  | n + 1 => fX12_sheet_70b N (fX12_sheet_70 N n)
theorem wX12_sheet_70 {r : Int32} {σ' : St} {N : Nat} (S : CallFix p m c cX12_sheet 5 s av BG RX12) (hr : meth.sig.returnType = some .int) (hlk : meth.locks = false) : ∀ (n : Nat), ∀ (σ : St) (x1 : Int32) (x4 : Int32) (ls : Array Slot) (H : Heap) (locs : List Loc), Hw (MWd D ad cs) s σ H locs → lv_has ls 5 [(0, .ref (ad 0)), (1, .int x1), (4, .int x4)] → fX12_sheet_70 N n σ x1 x4 = some (r, σ') → W p l e (RM 2 45) s m av below meth c H locs 0 0 (QI below (MWd D ad cs) av s r σ') (F0 m 70 ls []) := by
  intro n
  induction n with
  | zero => intro _ _ _ ls H locs hw hl hf; cases hf
  | succ n ih => intro _ _ _ ls H locs hw hl hf; exact wX12_sheet_70b S hr hlk ih hw hl hf
def fX12_sheet_66 (N : Nat) (σ : St) (x1 : Int32) (y1 : Int32) (y2 : Int32) : Option (Int32 × St) :=
  if ix y1 4 = true then nm (aW σ 53 y1 y2) fun σ5 => fX12_sheet_70 N N σ5 x1 (0 : Int32) else none
set_option maxHeartbeats 2000000 in
set_option maxRecDepth 20000 in
theorem wX12_sheet_66 {r : Int32} {σ' : St} {N : Nat} (S : CallFix p m c cX12_sheet 5 s av BG RX12) (hr : meth.sig.returnType = some .int) (hlk : meth.locks = false)  {σ : St} {x1 : Int32} {y1 : Int32} {y2 : Int32} {ls : Array Slot} {H : Heap} {locs : List Loc} (hw : Hw (MWd D ad cs) s σ H locs) (hl : lv_has ls 5 [(0, .ref (ad 0)), (1, .int x1)]) (hf : fX12_sheet_66 N σ x1 y1 y2 = some (r, σ')) : W p l e (RM 2 45) s m av below meth c H locs 0 0 (QI below (MWd D ad cs) av s r σ') (F0 m 66 ls [.int y2, .int y1, .ref (ad 53)]) := by
  unfold fX12_sheet_66 at hf
  obtain ⟨h4, hf⟩ := gd_ix hf
  obtain ⟨σ5, e6⟩ : ∃ z : St, z = aW σ 53 y1 y2 := ⟨_, rfl⟩
  have hf := nm_s e6 hf
  refine g_iast (σ' := σ5) S hw 53 0 me_53 rfl (by rw [e6]; exact ms_53 _) h4 dX12_sheet_66 (fun H locs hw => ?_)
  refine lv_iconst (v := 0) S.1 S.2.1 dX12_sheet_67 (by decide) ?_
  refine lv_istore (lv' := [(4, .int (0 : Int32)), (0, .ref (ad 0)), (1, .int x1)]) S.1 S.2.1 dX12_sheet_68 hl (by decide) rfl (fun ls hl => ?_)
  exact wX12_sheet_70 S hr hlk N σ5 x1 (0 : Int32) _ _ _ hw (lv_sub hl [1, 2, 0] rfl) hf
def fX12_sheet_45 (N : Nat) (σ : St) (x1 : Int32) (x2 : Int32) (x3 : Int32) : Option (Int32 × St) :=
  if ix x1 4 = true then nm (aW σ 52 x1 x2) fun σ2 => if 0 ≤ x2 then (fX12_sheet_66 N σ2 x1 x1 x3) else (fX12_sheet_66 N σ2 x1 x1 (0 : Int32)) else none
set_option maxHeartbeats 2000000 in
set_option maxRecDepth 20000 in
theorem wX12_sheet_45 {r : Int32} {σ' : St} {N : Nat} (S : CallFix p m c cX12_sheet 5 s av BG RX12) (hr : meth.sig.returnType = some .int) (hlk : meth.locks = false)  {σ : St} {x1 : Int32} {x2 : Int32} {x3 : Int32} {ls : Array Slot} {H : Heap} {locs : List Loc} (hw : Hw (MWd D ad cs) s σ H locs) (hl : lv_has ls 5 [(0, .ref (ad 0)), (1, .int x1), (2, .int x2), (3, .int x3)]) (hf : fX12_sheet_45 N σ x1 x2 x3 = some (r, σ')) : W p l e (RM 2 45) s m av below meth c H locs 0 0 (QI below (MWd D ad cs) av s r σ') (F0 m 45 ls []) := by
  unfold fX12_sheet_45 at hf
  refine lv_aload_n S.1 S.2.1 dX12_sheet_45 rfl (lv_at hl 0 rfl) ?_
  refine mg_WayLeavesModel_sorts S hw kf_X12_391 dX12_sheet_46 ?_
  refine lv_iload_n S.1 S.2.1 dX12_sheet_49 rfl (lv_at hl 1 rfl) ?_
  refine lv_iload_n S.1 S.2.1 dX12_sheet_50 rfl (lv_at hl 2 rfl) ?_
  obtain ⟨h1, hf⟩ := gd_ix hf
  obtain ⟨σ2, e3⟩ : ∃ z : St, z = aW σ 52 x1 x2 := ⟨_, rfl⟩
  have hf := nm_s e3 hf
  refine g_iast (σ' := σ2) S hw 52 0 me_52 rfl (by rw [e3]; exact ms_52 _) h1 dX12_sheet_51 (fun H locs hw => ?_)
  refine lv_aload_n S.1 S.2.1 dX12_sheet_52 rfl (lv_at hl 0 rfl) ?_
  refine mg_WayLeavesModel_sizes S hw kf_X12_394 dX12_sheet_53 ?_
  refine lv_iload_n S.1 S.2.1 dX12_sheet_56 rfl (lv_at hl 1 rfl) ?_
  refine lv_iload_n S.1 S.2.1 dX12_sheet_57 rfl (lv_at hl 2 rfl) ?_
  refine lv_if_ge (tgt := 65) S.1 S.2.1 dX12_sheet_58 (by decide) (fun hc => ?_) (fun hc => ?_)
  · have hf := itt hf hc
    refine lv_iload_n S.1 S.2.1 dX12_sheet_65 rfl (lv_at hl 3 rfl) ?_
    exact wX12_sheet_66 S hr hlk hw (lv_sub hl [0, 1] rfl) hf
  · have hf := itf hf hc
    refine lv_iconst (v := 0) S.1 S.2.1 dX12_sheet_61 (by decide) ?_
    refine lv_goto (tgt := 66) S.1 S.2.1 dX12_sheet_62 (by decide) ?_
    exact wX12_sheet_66 S hr hlk hw (lv_sub hl [0, 1] rfl) hf
def fX12_sheet_34 (N : Nat) (σ : St) (x1 : Int32) (x2 : Int32) (x3 : Int32) : Option (Int32 × St) :=
  if x2 < 0 then (fX12_sheet_45 N σ x1 x2 x3) else (if 0 ≤ x3 then (fX12_sheet_45 N σ x1 x2 x3) else (some ((-14 : Int32), σ)))
set_option maxHeartbeats 2000000 in
set_option maxRecDepth 20000 in
theorem wX12_sheet_34 {r : Int32} {σ' : St} {N : Nat} (S : CallFix p m c cX12_sheet 5 s av BG RX12) (hr : meth.sig.returnType = some .int) (hlk : meth.locks = false)  {σ : St} {x1 : Int32} {x2 : Int32} {x3 : Int32} {ls : Array Slot} {H : Heap} {locs : List Loc} (hw : Hw (MWd D ad cs) s σ H locs) (hl : lv_has ls 5 [(0, .ref (ad 0)), (1, .int x1), (2, .int x2), (3, .int x3)]) (hf : fX12_sheet_34 N σ x1 x2 x3 = some (r, σ')) : W p l e (RM 2 45) s m av below meth c H locs 0 0 (QI below (MWd D ad cs) av s r σ') (F0 m 34 ls []) := by
  unfold fX12_sheet_34 at hf
  refine lv_iload_n S.1 S.2.1 dX12_sheet_34 rfl (lv_at hl 2 rfl) ?_
  refine lv_if_lt (tgt := 45) S.1 S.2.1 dX12_sheet_35 (by decide) (fun hc => ?_) (fun hc => ?_)
  · have hf := itt hf hc
    exact wX12_sheet_45 S hr hlk hw (lv_sub hl [0, 1, 2, 3] rfl) hf
  · have hf := itf hf hc
    refine lv_iload_n S.1 S.2.1 dX12_sheet_38 rfl (lv_at hl 3 rfl) ?_
    refine lv_if_ge (tgt := 45) S.1 S.2.1 dX12_sheet_39 (by decide) (fun hc => ?_) (fun hc => ?_)
    · have hf := itt hf hc
      exact wX12_sheet_45 S hr hlk hw (lv_sub hl [0, 1, 2, 3] rfl) hf
    · have hf := itf hf hc
      refine lv_bipush (v := -14) S.1 S.2.1 dX12_sheet_42 (by decide) ?_
      exact g_iret (MWd_ok D ad cs) S hr hlk hw dX12_sheet_44 (Prod.mk.inj (Option.some.inj hf)).1 (Prod.mk.inj (Option.some.inj hf)).2
def fX12_sheet (N : Nat) (σ : St) (x1 : Int32) (x2 : Int32) (x3 : Int32) : Option (Int32 × St) :=
  if (fX12_isSheet x1) = 0 then (some ((-2 : Int32), σ)) else (if (fX12_isIn (x2).toInt64 (-1 : Int64) (2 : Int64)) = 0 then (some ((-2 : Int32), σ)) else (if x2 < 0 then (fX12_sheet_34 N σ x1 x2 x3) else (if x3 ≤ (40 : Int32) then (fX12_sheet_34 N σ x1 x2 x3) else (some ((-2 : Int32), σ)))))
set_option maxHeartbeats 2000000 in
set_option maxRecDepth 20000 in
theorem tX12_sheet {r : Int32} {σ' : St} {N : Nat} {σ : St} {x1 : Int32} {x2 : Int32} {x3 : Int32} (hf : fX12_sheet N σ x1 x2 x3 = some (r, σ')) : CI l (MWd D ad cs) yX12_sheet cX12_sheet 5 (some .int) 2 45 [.ref (ad 0), .int x1, .int x2, .int x3] σ r σ' := by
  refine CI.of (by decide) (Nat.le_of_ble_eq_true rfl) ?_
  intro p e s m below meth c ls S hr hlk hw hl
  have hl : lv_has ls 5 [(0, .ref (ad 0)), (1, .int x1), (2, .int x2), (3, .int x3)] := hl
  unfold fX12_sheet at hf
  refine lv_iload_n S.1 S.2.1 dX12_sheet_0 rfl (lv_at hl 1 rfl) ?_
  refine g_Si (rest := []) (MWd_ok D ad cs) S hw (tX12_isSheet (ad := ad) (cs := cs) (σ := σ) rfl) kt_X12_454 ⟨Nat.le_of_ble_eq_true rfl, Nat.le_of_ble_eq_true rfl⟩ rfl hl.1 rfl (Nat.le_of_ble_eq_true rfl) ⟨Nat.zero_le _, Nat.zero_le _⟩ dX12_sheet_1 (fun H locs hw => ?_)
  refine lv_if_eq (tgt := 31) S.1 S.2.1 dX12_sheet_4 (by decide) (fun hc => ?_) (fun hc => ?_)
  · have hf := itt hf hc
    refine lv_bipush (v := -2) S.1 S.2.1 dX12_sheet_31 (by decide) ?_
    exact g_iret (MWd_ok D ad cs) S hr hlk hw dX12_sheet_33 (Prod.mk.inj (Option.some.inj hf)).1 (Prod.mk.inj (Option.some.inj hf)).2
  · have hf := itf hf hc
    refine lv_iload_n S.1 S.2.1 dX12_sheet_7 rfl (lv_at hl 2 rfl) ?_
    refine lv_i2l S.1 S.2.1 dX12_sheet_8 rfl ?_
    refine lv_ldc2 S.1 S.2.1 S.2.2.2.1 (S.2.2.2.2 _ kc_X12_457) dX12_sheet_9 ?_
    refine lv_ldc2 S.1 S.2.1 S.2.2.2.1 (S.2.2.2.2 _ kc_X12_459) dX12_sheet_12 ?_
    refine g_Si (rest := []) (MWd_ok D ad cs) S hw (tX12_isIn (ad := ad) (cs := cs) (σ := σ) rfl) kt_X12_5 ⟨Nat.le_of_ble_eq_true rfl, Nat.le_of_ble_eq_true rfl⟩ rfl hl.1 rfl (Nat.le_of_ble_eq_true rfl) ⟨Nat.zero_le _, Nat.zero_le _⟩ dX12_sheet_15 (fun H locs hw => ?_)
    refine lv_if_eq (tgt := 31) S.1 S.2.1 dX12_sheet_18 (by decide) (fun hc => ?_) (fun hc => ?_)
    · have hf := itt hf hc
      refine lv_bipush (v := -2) S.1 S.2.1 dX12_sheet_31 (by decide) ?_
      exact g_iret (MWd_ok D ad cs) S hr hlk hw dX12_sheet_33 (Prod.mk.inj (Option.some.inj hf)).1 (Prod.mk.inj (Option.some.inj hf)).2
    · have hf := itf hf hc
      refine lv_iload_n S.1 S.2.1 dX12_sheet_21 rfl (lv_at hl 2 rfl) ?_
      refine lv_if_lt (tgt := 34) S.1 S.2.1 dX12_sheet_22 (by decide) (fun hc => ?_) (fun hc => ?_)
      · have hf := itt hf hc
        exact wX12_sheet_34 S hr hlk hw (lv_sub hl [0, 1, 2, 3] rfl) hf
      · have hf := itf hf hc
        refine lv_iload_n S.1 S.2.1 dX12_sheet_25 rfl (lv_at hl 3 rfl) ?_
        refine lv_bipush (v := 40) S.1 S.2.1 dX12_sheet_26 (by decide) ?_
        refine lv_icmp_le (tgt := 34) S.1 S.2.1 dX12_sheet_28 (by decide) (fun hc => ?_) (fun hc => ?_)
        · have hf := itt hf hc
          exact wX12_sheet_34 S hr hlk hw (lv_sub hl [0, 1, 2, 3] rfl) hf
        · have hf := itf hf hc
          refine lv_bipush (v := -2) S.1 S.2.1 dX12_sheet_31 (by decide) ?_
          exact g_iret (MWd_ok D ad cs) S hr hlk hw dX12_sheet_33 (Prod.mk.inj (Option.some.inj hf)).1 (Prod.mk.inj (Option.some.inj hf)).2
def fX12_cutTo (x0 : Int32) (x1 : Int32) : Int32 :=
  if x0 = 0 then ((x1).toInt8.toInt32) else (if x0 = (1 : Int32) then ((x1).toInt16.toInt32) else (x1))
set_option maxHeartbeats 2000000 in
set_option maxRecDepth 20000 in
theorem tX12_cutTo {r : Int32} {σ : St} {x0 : Int32} {x1 : Int32} (hf : fX12_cutTo x0 x1 = r) : CI l (MWd D ad cs) yX12_cutTo cX12_cutTo 2 (some .int) 0 0 [.int x0, .int x1] σ r σ := by
  refine CI.of (by decide) (Nat.le_of_ble_eq_true rfl) ?_
  intro p e s m below meth c ls S hr hlk hw hl
  have hl : lv_has ls 2 [(0, .int x0), (1, .int x1)] := hl
  unfold fX12_cutTo at hf
  refine lv_iload_n S.1 S.2.1 dX12_cutTo_0 rfl (lv_at hl 0 rfl) ?_
  refine lv_if_ne (tgt := 9) S.1 S.2.1 dX12_cutTo_1 (by decide) (fun hc => ?_) (fun hc => ?_)
  · have hf := itf hf hc
    refine lv_iload_n S.1 S.2.1 dX12_cutTo_9 rfl (lv_at hl 0 rfl) ?_
    refine lv_iconst (v := 1) S.1 S.2.1 dX12_cutTo_10 (by decide) ?_
    refine lv_icmp_ne (tgt := 19) S.1 S.2.1 dX12_cutTo_11 (by decide) (fun hc => ?_) (fun hc => ?_)
    · have hf := itf hf hc
      refine lv_iload_n S.1 S.2.1 dX12_cutTo_19 rfl (lv_at hl 1 rfl) ?_
      exact g_iret (MWd_ok D ad cs) S hr hlk hw dX12_cutTo_20 hf rfl
    · have hf := itt hf hc
      refine lv_iload_n S.1 S.2.1 dX12_cutTo_14 rfl (lv_at hl 1 rfl) ?_
      refine lv_i2s S.1 S.2.1 dX12_cutTo_15 rfl ?_
      refine lv_goto (tgt := 20) S.1 S.2.1 dX12_cutTo_16 (by decide) ?_
      exact g_iret (MWd_ok D ad cs) S hr hlk hw dX12_cutTo_20 hf rfl
  · have hf := itt hf hc
    refine lv_iload_n S.1 S.2.1 dX12_cutTo_4 rfl (lv_at hl 1 rfl) ?_
    refine lv_i2b S.1 S.2.1 dX12_cutTo_5 rfl ?_
    refine lv_goto (tgt := 20) S.1 S.2.1 dX12_cutTo_6 (by decide) ?_
    exact g_iret (MWd_ok D ad cs) S hr hlk hw dX12_cutTo_20 hf rfl
def fX12_cell (N : Nat) (σ : St) (x1 : Int32) (x2 : Int32) (x3 : Int32) : Option (Int32 × St) :=
  if (fX12_isSheet x1) = 0 then (some ((-2 : Int32), σ)) else (if ix x1 4 = true then if 0 ≤ (aR σ 52 x1) then (if ix x1 4 = true then if (fX12_isIn (x2).toInt64 (0 : Int64) (((aR σ 53 x1) - (1 : Int32))).toInt64) = 0 then (some ((-12 : Int32), σ)) else (if ix x1 4 = true then if ix (((40 : Int32) * x1) + x2) 160 = true then nm (aW σ 54 (((40 : Int32) * x1) + x2) (fX12_cutTo (aR σ 52 x1) x3)) fun σ5 => some ((1 : Int32), σ5) else none else none) else none) else (some ((-11 : Int32), σ)) else none)
set_option maxHeartbeats 2000000 in
set_option maxRecDepth 20000 in
theorem tX12_cell {r : Int32} {σ' : St} {N : Nat} {σ : St} {x1 : Int32} {x2 : Int32} {x3 : Int32} (hf : fX12_cell N σ x1 x2 x3 = some (r, σ')) : CI l (MWd D ad cs) yX12_cell cX12_cell 4 (some .int) 2 45 [.ref (ad 0), .int x1, .int x2, .int x3] σ r σ' := by
  refine CI.of (by decide) (Nat.le_of_ble_eq_true rfl) ?_
  intro p e s m below meth c ls S hr hlk hw hl
  have hl : lv_has ls 4 [(0, .ref (ad 0)), (1, .int x1), (2, .int x2), (3, .int x3)] := hl
  unfold fX12_cell at hf
  refine lv_iload_n S.1 S.2.1 dX12_cell_0 rfl (lv_at hl 1 rfl) ?_
  refine g_Si (rest := []) (MWd_ok D ad cs) S hw (tX12_isSheet (ad := ad) (cs := cs) (σ := σ) rfl) kt_X12_454 ⟨Nat.le_of_ble_eq_true rfl, Nat.le_of_ble_eq_true rfl⟩ rfl hl.1 rfl (Nat.le_of_ble_eq_true rfl) ⟨Nat.zero_le _, Nat.zero_le _⟩ dX12_cell_1 (fun H locs hw => ?_)
  refine lv_if_ne (tgt := 10) S.1 S.2.1 dX12_cell_4 (by decide) (fun hc => ?_) (fun hc => ?_)
  · have hf := itf hf hc
    refine lv_aload_n S.1 S.2.1 dX12_cell_10 rfl (lv_at hl 0 rfl) ?_
    refine mg_WayLeavesModel_sorts S hw kf_X12_391 dX12_cell_11 ?_
    refine lv_iload_n S.1 S.2.1 dX12_cell_14 rfl (lv_at hl 1 rfl) ?_
    obtain ⟨h1, hf⟩ := gd_ix hf
    refine g_iald S hw 52 0 me_52 rfl h1 dX12_cell_15 ?_
    refine lv_if_ge (tgt := 22) S.1 S.2.1 dX12_cell_16 (by decide) (fun hc => ?_) (fun hc => ?_)
    · have hf := itt hf hc
      refine lv_iload_n S.1 S.2.1 dX12_cell_22 rfl (lv_at hl 2 rfl) ?_
      refine lv_i2l S.1 S.2.1 dX12_cell_23 rfl ?_
      refine lv_lconst (v := 0) S.1 S.2.1 dX12_cell_24 (by decide) ?_
      refine lv_aload_n S.1 S.2.1 dX12_cell_25 rfl (lv_at hl 0 rfl) ?_
      refine mg_WayLeavesModel_sizes S hw kf_X12_394 dX12_cell_26 ?_
      refine lv_iload_n S.1 S.2.1 dX12_cell_29 rfl (lv_at hl 1 rfl) ?_
      obtain ⟨h2, hf⟩ := gd_ix hf
      refine g_iald S hw 53 0 me_53 rfl h2 dX12_cell_30 ?_
      refine lv_iconst (v := 1) S.1 S.2.1 dX12_cell_31 (by decide) ?_
      refine lv_isub S.1 S.2.1 dX12_cell_32 ?_
      refine lv_i2l S.1 S.2.1 dX12_cell_33 rfl ?_
      refine g_Si (rest := []) (MWd_ok D ad cs) S hw (tX12_isIn (ad := ad) (cs := cs) (σ := σ) rfl) kt_X12_5 ⟨Nat.le_of_ble_eq_true rfl, Nat.le_of_ble_eq_true rfl⟩ rfl hl.1 rfl (Nat.le_of_ble_eq_true rfl) ⟨Nat.zero_le _, Nat.zero_le _⟩ dX12_cell_34 (fun H locs hw => ?_)
      refine lv_if_ne (tgt := 43) S.1 S.2.1 dX12_cell_37 (by decide) (fun hc => ?_) (fun hc => ?_)
      · have hf := itf hf hc
        refine lv_aload_n S.1 S.2.1 dX12_cell_43 rfl (lv_at hl 0 rfl) ?_
        refine mg_WayLeavesModel_items S hw kf_X12_397 dX12_cell_44 ?_
        refine lv_bipush (v := 40) S.1 S.2.1 dX12_cell_47 (by decide) ?_
        refine lv_iload_n S.1 S.2.1 dX12_cell_49 rfl (lv_at hl 1 rfl) ?_
        refine lv_imul S.1 S.2.1 dX12_cell_50 ?_
        refine lv_iload_n S.1 S.2.1 dX12_cell_51 rfl (lv_at hl 2 rfl) ?_
        refine lv_iadd S.1 S.2.1 dX12_cell_52 ?_
        refine lv_aload_n S.1 S.2.1 dX12_cell_53 rfl (lv_at hl 0 rfl) ?_
        refine mg_WayLeavesModel_sorts S hw kf_X12_391 dX12_cell_54 ?_
        refine lv_iload_n S.1 S.2.1 dX12_cell_57 rfl (lv_at hl 1 rfl) ?_
        obtain ⟨h3, hf⟩ := gd_ix hf
        refine g_iald S hw 52 0 me_52 rfl h3 dX12_cell_58 ?_
        refine lv_iload_n S.1 S.2.1 dX12_cell_59 rfl (lv_at hl 3 rfl) ?_
        refine g_Si (rest := [.int (((40 : Int32) * x1) + x2), .ref (ad 54)]) (MWd_ok D ad cs) S hw (tX12_cutTo (ad := ad) (cs := cs) (σ := σ) rfl) kt_X12_461 ⟨Nat.le_of_ble_eq_true rfl, Nat.le_of_ble_eq_true rfl⟩ rfl hl.1 rfl (Nat.le_of_ble_eq_true rfl) ⟨Nat.zero_le _, Nat.zero_le _⟩ dX12_cell_60 (fun H locs hw => ?_)
        obtain ⟨h4, hf⟩ := gd_ix hf
        obtain ⟨σ5, e6⟩ : ∃ z : St, z = aW σ 54 (((40 : Int32) * x1) + x2) (fX12_cutTo (aR σ 52 x1) x3) := ⟨_, rfl⟩
        have hf := nm_s e6 hf
        refine g_iast (σ' := σ5) S hw 54 0 me_54 rfl (by rw [e6]; exact ms_54 _) h4 dX12_cell_63 (fun H locs hw => ?_)
        refine lv_iconst (v := 1) S.1 S.2.1 dX12_cell_64 (by decide) ?_
        exact g_iret (MWd_ok D ad cs) S hr hlk hw dX12_cell_65 (Prod.mk.inj (Option.some.inj hf)).1 (Prod.mk.inj (Option.some.inj hf)).2
      · have hf := itt hf hc
        refine lv_bipush (v := -12) S.1 S.2.1 dX12_cell_40 (by decide) ?_
        exact g_iret (MWd_ok D ad cs) S hr hlk hw dX12_cell_42 (Prod.mk.inj (Option.some.inj hf)).1 (Prod.mk.inj (Option.some.inj hf)).2
    · have hf := itf hf hc
      refine lv_bipush (v := -11) S.1 S.2.1 dX12_cell_19 (by decide) ?_
      exact g_iret (MWd_ok D ad cs) S hr hlk hw dX12_cell_21 (Prod.mk.inj (Option.some.inj hf)).1 (Prod.mk.inj (Option.some.inj hf)).2
  · have hf := itt hf hc
    refine lv_bipush (v := -2) S.1 S.2.1 dX12_cell_7 (by decide) ?_
    exact g_iret (MWd_ok D ad cs) S hr hlk hw dX12_cell_9 (Prod.mk.inj (Option.some.inj hf)).1 (Prod.mk.inj (Option.some.inj hf)).2
def fX12_copy_140b (N : Nat) (k140 : St → Int32 → Int32 → Int32 → Int32 → Option (Int32 × St)) (σ : St) (x3 : Int32) (x4 : Int32) (x5 : Int32) (x6 : Int32) : Option (Int32 × St) :=
  if x5 ≤ x6 then (some (x5, σ)) else (if ix x6 40 = true then if ix ((((40 : Int32) * x3) + x4) + x6) 160 = true then nm (aW σ 54 ((((40 : Int32) * x3) + x4) + x6) (aR σ 55 x6)) fun σ15 => nm (x6 + (1 : Int32)) fun v17 => k140 σ15 x3 x4 x5 v17 else none else none)
set_option maxHeartbeats 2000000 in
set_option maxRecDepth 20000 in
theorem wX12_copy_140b {r : Int32} {σ' : St} {N : Nat} (S : CallFix p m c cX12_copy 7 s av BG RX12) (hr : meth.sig.returnType = some .int) (hlk : meth.locks = false) {k140 : St → Int32 → Int32 → Int32 → Int32 → Option (Int32 × St)} (hk140 : ∀ (σ : St) (x3 : Int32) (x4 : Int32) (x5 : Int32) (x6 : Int32) (ls : Array Slot) (H : Heap) (locs : List Loc), Hw (MWd D ad cs) s σ H locs → lv_has ls 7 [(0, .ref (ad 0)), (3, .int x3), (4, .int x4), (5, .int x5), (6, .int x6)] → k140 σ x3 x4 x5 x6 = some (r, σ') → W p l e (RM 2 45) s m av below meth c H locs 0 0 (QI below (MWd D ad cs) av s r σ') (F0 m 140 ls []))  {σ : St} {x3 : Int32} {x4 : Int32} {x5 : Int32} {x6 : Int32} {ls : Array Slot} {H : Heap} {locs : List Loc} (hw : Hw (MWd D ad cs) s σ H locs) (hl : lv_has ls 7 [(0, .ref (ad 0)), (3, .int x3), (4, .int x4), (5, .int x5), (6, .int x6)]) (hf : fX12_copy_140b N k140 σ x3 x4 x5 x6 = some (r, σ')) : W p l e (RM 2 45) s m av below meth c H locs 0 0 (QI below (MWd D ad cs) av s r σ') (F0 m 140 ls []) := by
  unfold fX12_copy_140b at hf
  refine lv_iload S.1 S.2.1 dX12_copy_140 (lv_at hl 4 rfl) ?_
  refine lv_iload S.1 S.2.1 dX12_copy_142 (lv_at hl 3 rfl) ?_
  refine lv_icmp_ge (tgt := 175) S.1 S.2.1 dX12_copy_144 (by decide) (fun hc => ?_) (fun hc => ?_)
  · have hf := itt hf hc
    refine lv_iload S.1 S.2.1 dX12_copy_175 (lv_at hl 3 rfl) ?_
    exact g_iret (MWd_ok D ad cs) S hr hlk hw dX12_copy_177 (Prod.mk.inj (Option.some.inj hf)).1 (Prod.mk.inj (Option.some.inj hf)).2
  · have hf := itf hf hc
    refine lv_aload_n S.1 S.2.1 dX12_copy_147 rfl (lv_at hl 0 rfl) ?_
    refine mg_WayLeavesModel_items S hw kf_X12_397 dX12_copy_148 ?_
    refine lv_bipush (v := 40) S.1 S.2.1 dX12_copy_151 (by decide) ?_
    refine lv_iload_n S.1 S.2.1 dX12_copy_153 rfl (lv_at hl 1 rfl) ?_
    refine lv_imul S.1 S.2.1 dX12_copy_154 ?_
    refine lv_iload S.1 S.2.1 dX12_copy_155 (lv_at hl 2 rfl) ?_
    refine lv_iadd S.1 S.2.1 dX12_copy_157 ?_
    refine lv_iload S.1 S.2.1 dX12_copy_158 (lv_at hl 4 rfl) ?_
    refine lv_iadd S.1 S.2.1 dX12_copy_160 ?_
    refine lv_aload_n S.1 S.2.1 dX12_copy_161 rfl (lv_at hl 0 rfl) ?_
    refine mg_WayLeavesModel_moved S hw kf_X12_400 dX12_copy_162 ?_
    refine lv_iload S.1 S.2.1 dX12_copy_165 (lv_at hl 4 rfl) ?_
    obtain ⟨h13, hf⟩ := gd_ix hf
    refine g_iald S hw 55 0 me_55 rfl h13 dX12_copy_167 ?_
    obtain ⟨h14, hf⟩ := gd_ix hf
    obtain ⟨σ15, e16⟩ : ∃ z : St, z = aW σ 54 ((((40 : Int32) * x3) + x4) + x6) (aR σ 55 x6) := ⟨_, rfl⟩
    have hf := nm_s e16 hf
    refine g_iast (σ' := σ15) S hw 54 0 me_54 rfl (by rw [e16]; exact ms_54 _) h14 dX12_copy_168 (fun H locs hw => ?_)
    obtain ⟨v17, e18⟩ : ∃ z : Int32, z = x6 + (1 : Int32) := ⟨_, rfl⟩
    have hf := nm_s e18 hf
    refine lv_iinc (v := v17) (lv' := [(6, .int v17), (0, .ref (ad 0)), (3, .int x3), (4, .int x4), (5, .int x5)]) S.1 S.2.1 dX12_copy_169 hl (k := 4) rfl (by rw [e18]; rfl) (by decide) rfl (fun ls hl => ?_)
    refine lv_goto (tgt := 140) S.1 S.2.1 dX12_copy_172 (by decide) ?_
    exact hk140 σ15 x3 x4 x5 v17 _ _ _ hw (lv_sub hl [1, 2, 3, 4, 0] rfl) hf
def fX12_copy_140 (N : Nat) : Nat → St → Int32 → Int32 → Int32 → Int32 → Option (Int32 × St)
  | 0 => fun _ _ _ _ _ => none
  | n + 1 => fX12_copy_140b N (fX12_copy_140 N n)
theorem wX12_copy_140 {r : Int32} {σ' : St} {N : Nat} (S : CallFix p m c cX12_copy 7 s av BG RX12) (hr : meth.sig.returnType = some .int) (hlk : meth.locks = false) : ∀ (n : Nat), ∀ (σ : St) (x3 : Int32) (x4 : Int32) (x5 : Int32) (x6 : Int32) (ls : Array Slot) (H : Heap) (locs : List Loc), Hw (MWd D ad cs) s σ H locs → lv_has ls 7 [(0, .ref (ad 0)), (3, .int x3), (4, .int x4), (5, .int x5), (6, .int x6)] → fX12_copy_140 N n σ x3 x4 x5 x6 = some (r, σ') → W p l e (RM 2 45) s m av below meth c H locs 0 0 (QI below (MWd D ad cs) av s r σ') (F0 m 140 ls []) := by
  intro n
  induction n with
  | zero => intro _ _ _ _ _ ls H locs hw hl hf; cases hf
  | succ n ih => intro _ _ _ _ _ ls H locs hw hl hf; exact wX12_copy_140b S hr hlk ih hw hl hf
def fX12_copy_103b (N : Nat) (k103 : St → Int32 → Int32 → Int32 → Int32 → Int32 → Int32 → Option (Int32 × St)) (σ : St) (x1 : Int32) (x2 : Int32) (x3 : Int32) (x4 : Int32) (x5 : Int32) (x6 : Int32) : Option (Int32 × St) :=
  if x5 ≤ x6 then (fX12_copy_140 N N σ x3 x4 x5 (0 : Int32)) else (if ix ((((40 : Int32) * x1) + x2) + x6) 160 = true then if ix x6 40 = true then nm (aW σ 55 x6 (aR σ 54 ((((40 : Int32) * x1) + x2) + x6))) fun σ9 => nm (x6 + (1 : Int32)) fun v11 => k103 σ9 x1 x2 x3 x4 x5 v11 else none else none)
set_option maxHeartbeats 2000000 in
set_option maxRecDepth 20000 in
theorem wX12_copy_103b {r : Int32} {σ' : St} {N : Nat} (S : CallFix p m c cX12_copy 7 s av BG RX12) (hr : meth.sig.returnType = some .int) (hlk : meth.locks = false) {k103 : St → Int32 → Int32 → Int32 → Int32 → Int32 → Int32 → Option (Int32 × St)} (hk103 : ∀ (σ : St) (x1 : Int32) (x2 : Int32) (x3 : Int32) (x4 : Int32) (x5 : Int32) (x6 : Int32) (ls : Array Slot) (H : Heap) (locs : List Loc), Hw (MWd D ad cs) s σ H locs → lv_has ls 7 [(0, .ref (ad 0)), (1, .int x1), (2, .int x2), (3, .int x3), (4, .int x4), (5, .int x5), (6, .int x6)] → k103 σ x1 x2 x3 x4 x5 x6 = some (r, σ') → W p l e (RM 2 45) s m av below meth c H locs 0 0 (QI below (MWd D ad cs) av s r σ') (F0 m 103 ls []))  {σ : St} {x1 : Int32} {x2 : Int32} {x3 : Int32} {x4 : Int32} {x5 : Int32} {x6 : Int32} {ls : Array Slot} {H : Heap} {locs : List Loc} (hw : Hw (MWd D ad cs) s σ H locs) (hl : lv_has ls 7 [(0, .ref (ad 0)), (1, .int x1), (2, .int x2), (3, .int x3), (4, .int x4), (5, .int x5), (6, .int x6)]) (hf : fX12_copy_103b N k103 σ x1 x2 x3 x4 x5 x6 = some (r, σ')) : W p l e (RM 2 45) s m av below meth c H locs 0 0 (QI below (MWd D ad cs) av s r σ') (F0 m 103 ls []) := by
  unfold fX12_copy_103b at hf
  refine lv_iload S.1 S.2.1 dX12_copy_103 (lv_at hl 6 rfl) ?_
  refine lv_iload S.1 S.2.1 dX12_copy_105 (lv_at hl 5 rfl) ?_
  refine lv_icmp_ge (tgt := 137) S.1 S.2.1 dX12_copy_107 (by decide) (fun hc => ?_) (fun hc => ?_)
  · have hf := itt hf hc
    refine lv_iconst (v := 0) S.1 S.2.1 dX12_copy_137 (by decide) ?_
    refine lv_istore (lv' := [(6, .int (0 : Int32)), (0, .ref (ad 0)), (1, .int x1), (2, .int x2), (3, .int x3), (4, .int x4), (5, .int x5)]) S.1 S.2.1 dX12_copy_138 hl (by decide) rfl (fun ls hl => ?_)
    exact wX12_copy_140 S hr hlk N σ x3 x4 x5 (0 : Int32) _ _ _ hw (lv_sub hl [1, 4, 5, 6, 0] rfl) hf
  · have hf := itf hf hc
    refine lv_aload_n S.1 S.2.1 dX12_copy_110 rfl (lv_at hl 0 rfl) ?_
    refine mg_WayLeavesModel_moved S hw kf_X12_400 dX12_copy_111 ?_
    refine lv_iload S.1 S.2.1 dX12_copy_114 (lv_at hl 6 rfl) ?_
    refine lv_aload_n S.1 S.2.1 dX12_copy_116 rfl (lv_at hl 0 rfl) ?_
    refine mg_WayLeavesModel_items S hw kf_X12_397 dX12_copy_117 ?_
    refine lv_bipush (v := 40) S.1 S.2.1 dX12_copy_120 (by decide) ?_
    refine lv_iload_n S.1 S.2.1 dX12_copy_122 rfl (lv_at hl 1 rfl) ?_
    refine lv_imul S.1 S.2.1 dX12_copy_123 ?_
    refine lv_iload_n S.1 S.2.1 dX12_copy_124 rfl (lv_at hl 2 rfl) ?_
    refine lv_iadd S.1 S.2.1 dX12_copy_125 ?_
    refine lv_iload S.1 S.2.1 dX12_copy_126 (lv_at hl 6 rfl) ?_
    refine lv_iadd S.1 S.2.1 dX12_copy_128 ?_
    obtain ⟨h7, hf⟩ := gd_ix hf
    refine g_iald S hw 54 0 me_54 rfl h7 dX12_copy_129 ?_
    obtain ⟨h8, hf⟩ := gd_ix hf
    obtain ⟨σ9, e10⟩ : ∃ z : St, z = aW σ 55 x6 (aR σ 54 ((((40 : Int32) * x1) + x2) + x6)) := ⟨_, rfl⟩
    have hf := nm_s e10 hf
    refine g_iast (σ' := σ9) S hw 55 0 me_55 rfl (by rw [e10]; exact ms_55 _) h8 dX12_copy_130 (fun H locs hw => ?_)
    obtain ⟨v11, e12⟩ : ∃ z : Int32, z = x6 + (1 : Int32) := ⟨_, rfl⟩
    have hf := nm_s e12 hf
    refine lv_iinc (v := v11) (lv' := [(6, .int v11), (0, .ref (ad 0)), (1, .int x1), (2, .int x2), (3, .int x3), (4, .int x4), (5, .int x5)]) S.1 S.2.1 dX12_copy_131 hl (k := 6) rfl (by rw [e12]; rfl) (by decide) rfl (fun ls hl => ?_)
    refine lv_goto (tgt := 103) S.1 S.2.1 dX12_copy_134 (by decide) ?_
    exact hk103 σ9 x1 x2 x3 x4 x5 v11 _ _ _ hw (lv_sub hl [1, 2, 3, 4, 5, 6, 0] rfl) hf
def fX12_copy_103 (N : Nat) : Nat → St → Int32 → Int32 → Int32 → Int32 → Int32 → Int32 → Option (Int32 × St)
  | 0 => fun _ _ _ _ _ _ _ => none
  | n + 1 => fX12_copy_103b N (fX12_copy_103 N n)
theorem wX12_copy_103 {r : Int32} {σ' : St} {N : Nat} (S : CallFix p m c cX12_copy 7 s av BG RX12) (hr : meth.sig.returnType = some .int) (hlk : meth.locks = false) : ∀ (n : Nat), ∀ (σ : St) (x1 : Int32) (x2 : Int32) (x3 : Int32) (x4 : Int32) (x5 : Int32) (x6 : Int32) (ls : Array Slot) (H : Heap) (locs : List Loc), Hw (MWd D ad cs) s σ H locs → lv_has ls 7 [(0, .ref (ad 0)), (1, .int x1), (2, .int x2), (3, .int x3), (4, .int x4), (5, .int x5), (6, .int x6)] → fX12_copy_103 N n σ x1 x2 x3 x4 x5 x6 = some (r, σ') → W p l e (RM 2 45) s m av below meth c H locs 0 0 (QI below (MWd D ad cs) av s r σ') (F0 m 103 ls []) := by
  intro n
  induction n with
  | zero => intro _ _ _ _ _ _ _ ls H locs hw hl hf; cases hf
  | succ n ih => intro _ _ _ _ _ _ _ ls H locs hw hl hf; exact wX12_copy_103b S hr hlk ih hw hl hf
def fX12_copy (N : Nat) (σ : St) (x1 : Int32) (x2 : Int32) (x3 : Int32) (x4 : Int32) (x5 : Int32) : Option (Int32 × St) :=
  if (fX12_isSheet x1) = 0 then (some ((-2 : Int32), σ)) else (if (fX12_isSheet x3) = 0 then (some ((-2 : Int32), σ)) else (if ix x1 4 = true then if (aR σ 52 x1) < 0 then (some ((-11 : Int32), σ)) else (if ix x3 4 = true then if 0 ≤ (aR σ 52 x3) then (if ix x1 4 = true then if ix x3 4 = true then if (aR σ 52 x1) = (aR σ 52 x3) then (if x5 < 0 then (some ((-12 : Int32), σ)) else (if x2 < 0 then (some ((-12 : Int32), σ)) else (if x4 < 0 then (some ((-12 : Int32), σ)) else (if ix x1 4 = true then if ((aR σ 53 x1) - x2) < x5 then (some ((-12 : Int32), σ)) else (if ix x3 4 = true then if x5 ≤ ((aR σ 53 x3) - x4) then (fX12_copy_103 N N σ x1 x2 x3 x4 x5 (0 : Int32)) else (some ((-12 : Int32), σ)) else none) else none)))) else (some ((-13 : Int32), σ)) else none else none) else (some ((-11 : Int32), σ)) else none) else none))
set_option maxHeartbeats 2000000 in
set_option maxRecDepth 20000 in
theorem tX12_copy {r : Int32} {σ' : St} {N : Nat} {σ : St} {x1 : Int32} {x2 : Int32} {x3 : Int32} {x4 : Int32} {x5 : Int32} (hf : fX12_copy N σ x1 x2 x3 x4 x5 = some (r, σ')) : CI l (MWd D ad cs) yX12_copy cX12_copy 7 (some .int) 2 45 [.ref (ad 0), .int x1, .int x2, .int x3, .int x4, .int x5] σ r σ' := by
  refine CI.of (by decide) (Nat.le_of_ble_eq_true rfl) ?_
  intro p e s m below meth c ls S hr hlk hw hl
  have hl : lv_has ls 7 [(0, .ref (ad 0)), (1, .int x1), (2, .int x2), (3, .int x3), (4, .int x4), (5, .int x5)] := hl
  unfold fX12_copy at hf
  refine lv_iload_n S.1 S.2.1 dX12_copy_0 rfl (lv_at hl 1 rfl) ?_
  refine g_Si (rest := []) (MWd_ok D ad cs) S hw (tX12_isSheet (ad := ad) (cs := cs) (σ := σ) rfl) kt_X12_454 ⟨Nat.le_of_ble_eq_true rfl, Nat.le_of_ble_eq_true rfl⟩ rfl hl.1 rfl (Nat.le_of_ble_eq_true rfl) ⟨Nat.zero_le _, Nat.zero_le _⟩ dX12_copy_1 (fun H locs hw => ?_)
  refine lv_if_eq (tgt := 14) S.1 S.2.1 dX12_copy_4 (by decide) (fun hc => ?_) (fun hc => ?_)
  · have hf := itt hf hc
    refine lv_bipush (v := -2) S.1 S.2.1 dX12_copy_14 (by decide) ?_
    exact g_iret (MWd_ok D ad cs) S hr hlk hw dX12_copy_16 (Prod.mk.inj (Option.some.inj hf)).1 (Prod.mk.inj (Option.some.inj hf)).2
  · have hf := itf hf hc
    refine lv_iload_n S.1 S.2.1 dX12_copy_7 rfl (lv_at hl 3 rfl) ?_
    refine g_Si (rest := []) (MWd_ok D ad cs) S hw (tX12_isSheet (ad := ad) (cs := cs) (σ := σ) rfl) kt_X12_454 ⟨Nat.le_of_ble_eq_true rfl, Nat.le_of_ble_eq_true rfl⟩ rfl hl.1 rfl (Nat.le_of_ble_eq_true rfl) ⟨Nat.zero_le _, Nat.zero_le _⟩ dX12_copy_8 (fun H locs hw => ?_)
    refine lv_if_ne (tgt := 17) S.1 S.2.1 dX12_copy_11 (by decide) (fun hc => ?_) (fun hc => ?_)
    · have hf := itf hf hc
      refine lv_aload_n S.1 S.2.1 dX12_copy_17 rfl (lv_at hl 0 rfl) ?_
      refine mg_WayLeavesModel_sorts S hw kf_X12_391 dX12_copy_18 ?_
      refine lv_iload_n S.1 S.2.1 dX12_copy_21 rfl (lv_at hl 1 rfl) ?_
      obtain ⟨h1, hf⟩ := gd_ix hf
      refine g_iald S hw 52 0 me_52 rfl h1 dX12_copy_22 ?_
      refine lv_if_lt (tgt := 35) S.1 S.2.1 dX12_copy_23 (by decide) (fun hc => ?_) (fun hc => ?_)
      · have hf := itt hf hc
        refine lv_bipush (v := -11) S.1 S.2.1 dX12_copy_35 (by decide) ?_
        exact g_iret (MWd_ok D ad cs) S hr hlk hw dX12_copy_37 (Prod.mk.inj (Option.some.inj hf)).1 (Prod.mk.inj (Option.some.inj hf)).2
      · have hf := itf hf hc
        refine lv_aload_n S.1 S.2.1 dX12_copy_26 rfl (lv_at hl 0 rfl) ?_
        refine mg_WayLeavesModel_sorts S hw kf_X12_391 dX12_copy_27 ?_
        refine lv_iload_n S.1 S.2.1 dX12_copy_30 rfl (lv_at hl 3 rfl) ?_
        obtain ⟨h2, hf⟩ := gd_ix hf
        refine g_iald S hw 52 0 me_52 rfl h2 dX12_copy_31 ?_
        refine lv_if_ge (tgt := 38) S.1 S.2.1 dX12_copy_32 (by decide) (fun hc => ?_) (fun hc => ?_)
        · have hf := itt hf hc
          refine lv_aload_n S.1 S.2.1 dX12_copy_38 rfl (lv_at hl 0 rfl) ?_
          refine mg_WayLeavesModel_sorts S hw kf_X12_391 dX12_copy_39 ?_
          refine lv_iload_n S.1 S.2.1 dX12_copy_42 rfl (lv_at hl 1 rfl) ?_
          obtain ⟨h3, hf⟩ := gd_ix hf
          refine g_iald S hw 52 0 me_52 rfl h3 dX12_copy_43 ?_
          refine lv_aload_n S.1 S.2.1 dX12_copy_44 rfl (lv_at hl 0 rfl) ?_
          refine mg_WayLeavesModel_sorts S hw kf_X12_391 dX12_copy_45 ?_
          refine lv_iload_n S.1 S.2.1 dX12_copy_48 rfl (lv_at hl 3 rfl) ?_
          obtain ⟨h4, hf⟩ := gd_ix hf
          refine g_iald S hw 52 0 me_52 rfl h4 dX12_copy_49 ?_
          refine lv_icmp_eq (tgt := 56) S.1 S.2.1 dX12_copy_50 (by decide) (fun hc => ?_) (fun hc => ?_)
          · have hf := itt hf hc
            refine lv_iload S.1 S.2.1 dX12_copy_56 (lv_at hl 5 rfl) ?_
            refine lv_if_lt (tgt := 97) S.1 S.2.1 dX12_copy_58 (by decide) (fun hc => ?_) (fun hc => ?_)
            · have hf := itt hf hc
              refine lv_bipush (v := -12) S.1 S.2.1 dX12_copy_97 (by decide) ?_
              exact g_iret (MWd_ok D ad cs) S hr hlk hw dX12_copy_99 (Prod.mk.inj (Option.some.inj hf)).1 (Prod.mk.inj (Option.some.inj hf)).2
            · have hf := itf hf hc
              refine lv_iload_n S.1 S.2.1 dX12_copy_61 rfl (lv_at hl 2 rfl) ?_
              refine lv_if_lt (tgt := 97) S.1 S.2.1 dX12_copy_62 (by decide) (fun hc => ?_) (fun hc => ?_)
              · have hf := itt hf hc
                refine lv_bipush (v := -12) S.1 S.2.1 dX12_copy_97 (by decide) ?_
                exact g_iret (MWd_ok D ad cs) S hr hlk hw dX12_copy_99 (Prod.mk.inj (Option.some.inj hf)).1 (Prod.mk.inj (Option.some.inj hf)).2
              · have hf := itf hf hc
                refine lv_iload S.1 S.2.1 dX12_copy_65 (lv_at hl 4 rfl) ?_
                refine lv_if_lt (tgt := 97) S.1 S.2.1 dX12_copy_67 (by decide) (fun hc => ?_) (fun hc => ?_)
                · have hf := itt hf hc
                  refine lv_bipush (v := -12) S.1 S.2.1 dX12_copy_97 (by decide) ?_
                  exact g_iret (MWd_ok D ad cs) S hr hlk hw dX12_copy_99 (Prod.mk.inj (Option.some.inj hf)).1 (Prod.mk.inj (Option.some.inj hf)).2
                · have hf := itf hf hc
                  refine lv_iload S.1 S.2.1 dX12_copy_70 (lv_at hl 5 rfl) ?_
                  refine lv_aload_n S.1 S.2.1 dX12_copy_72 rfl (lv_at hl 0 rfl) ?_
                  refine mg_WayLeavesModel_sizes S hw kf_X12_394 dX12_copy_73 ?_
                  refine lv_iload_n S.1 S.2.1 dX12_copy_76 rfl (lv_at hl 1 rfl) ?_
                  obtain ⟨h5, hf⟩ := gd_ix hf
                  refine g_iald S hw 53 0 me_53 rfl h5 dX12_copy_77 ?_
                  refine lv_iload_n S.1 S.2.1 dX12_copy_78 rfl (lv_at hl 2 rfl) ?_
                  refine lv_isub S.1 S.2.1 dX12_copy_79 ?_
                  refine lv_icmp_gt (tgt := 97) S.1 S.2.1 dX12_copy_80 (by decide) (fun hc => ?_) (fun hc => ?_)
                  · have hf := itt hf hc
                    refine lv_bipush (v := -12) S.1 S.2.1 dX12_copy_97 (by decide) ?_
                    exact g_iret (MWd_ok D ad cs) S hr hlk hw dX12_copy_99 (Prod.mk.inj (Option.some.inj hf)).1 (Prod.mk.inj (Option.some.inj hf)).2
                  · have hf := itf hf hc
                    refine lv_iload S.1 S.2.1 dX12_copy_83 (lv_at hl 5 rfl) ?_
                    refine lv_aload_n S.1 S.2.1 dX12_copy_85 rfl (lv_at hl 0 rfl) ?_
                    refine mg_WayLeavesModel_sizes S hw kf_X12_394 dX12_copy_86 ?_
                    refine lv_iload_n S.1 S.2.1 dX12_copy_89 rfl (lv_at hl 3 rfl) ?_
                    obtain ⟨h6, hf⟩ := gd_ix hf
                    refine g_iald S hw 53 0 me_53 rfl h6 dX12_copy_90 ?_
                    refine lv_iload S.1 S.2.1 dX12_copy_91 (lv_at hl 4 rfl) ?_
                    refine lv_isub S.1 S.2.1 dX12_copy_93 ?_
                    refine lv_icmp_le (tgt := 100) S.1 S.2.1 dX12_copy_94 (by decide) (fun hc => ?_) (fun hc => ?_)
                    · have hf := itt hf hc
                      refine lv_iconst (v := 0) S.1 S.2.1 dX12_copy_100 (by decide) ?_
                      refine lv_istore (lv' := [(6, .int (0 : Int32)), (0, .ref (ad 0)), (1, .int x1), (2, .int x2), (3, .int x3), (4, .int x4), (5, .int x5)]) S.1 S.2.1 dX12_copy_101 hl (by decide) rfl (fun ls hl => ?_)
                      exact wX12_copy_103 S hr hlk N σ x1 x2 x3 x4 x5 (0 : Int32) _ _ _ hw (lv_sub hl [1, 2, 3, 4, 5, 6, 0] rfl) hf
                    · have hf := itf hf hc
                      refine lv_bipush (v := -12) S.1 S.2.1 dX12_copy_97 (by decide) ?_
                      exact g_iret (MWd_ok D ad cs) S hr hlk hw dX12_copy_99 (Prod.mk.inj (Option.some.inj hf)).1 (Prod.mk.inj (Option.some.inj hf)).2
          · have hf := itf hf hc
            refine lv_bipush (v := -13) S.1 S.2.1 dX12_copy_53 (by decide) ?_
            exact g_iret (MWd_ok D ad cs) S hr hlk hw dX12_copy_55 (Prod.mk.inj (Option.some.inj hf)).1 (Prod.mk.inj (Option.some.inj hf)).2
        · have hf := itf hf hc
          refine lv_bipush (v := -11) S.1 S.2.1 dX12_copy_35 (by decide) ?_
          exact g_iret (MWd_ok D ad cs) S hr hlk hw dX12_copy_37 (Prod.mk.inj (Option.some.inj hf)).1 (Prod.mk.inj (Option.some.inj hf)).2
    · have hf := itt hf hc
      refine lv_bipush (v := -2) S.1 S.2.1 dX12_copy_14 (by decide) ?_
      exact g_iret (MWd_ok D ad cs) S hr hlk hw dX12_copy_16 (Prod.mk.inj (Option.some.inj hf)).1 (Prod.mk.inj (Option.some.inj hf)).2
def fX12_costs_153 (N : Nat) (k82 : St → Int32 → Int32 → Int32 → Int32 → Int32 → Int32 → Option (Int32 × St)) (σ : St) (x1 : Int32) (x2 : Int32) (x4 : Int32) (x5 : Int32) (x7 : Int32) (y0 : Int32) (y1 : Int32) : Option (Int32 × St) :=
  nm (y0 + y1) fun v11 => nm (x7 + (1 : Int32)) fun v13 => k82 σ x1 x2 x4 x5 v11 v13
set_option maxHeartbeats 2000000 in
set_option maxRecDepth 20000 in
theorem wX12_costs_153 {r : Int32} {σ' : St} {N : Nat} (S : CallFix p m c cX12_costs 10 s av BG RX12) (hr : meth.sig.returnType = some .int) (hlk : meth.locks = false) {k82 : St → Int32 → Int32 → Int32 → Int32 → Int32 → Int32 → Option (Int32 × St)} (hk82 : ∀ (σ : St) (x1 : Int32) (x2 : Int32) (x4 : Int32) (x5 : Int32) (x6 : Int32) (x7 : Int32) (ls : Array Slot) (H : Heap) (locs : List Loc), Hw (MWd D ad cs) s σ H locs → lv_has ls 10 [(0, .ref (ad 0)), (1, .int x1), (2, .int x2), (4, .int x4), (5, .int x5), (6, .int x6), (7, .int x7)] → k82 σ x1 x2 x4 x5 x6 x7 = some (r, σ') → W p l e (RM 3 69) s m av below meth c H locs 0 0 (QI below (MWd D ad cs) av s r σ') (F0 m 82 ls []))  {σ : St} {x1 : Int32} {x2 : Int32} {x4 : Int32} {x5 : Int32} {x7 : Int32} {y0 : Int32} {y1 : Int32} {ls : Array Slot} {H : Heap} {locs : List Loc} (hw : Hw (MWd D ad cs) s σ H locs) (hl : lv_has ls 10 [(0, .ref (ad 0)), (1, .int x1), (2, .int x2), (4, .int x4), (5, .int x5), (7, .int x7)]) (hf : fX12_costs_153 N k82 σ x1 x2 x4 x5 x7 y0 y1 = some (r, σ')) : W p l e (RM 3 69) s m av below meth c H locs 0 0 (QI below (MWd D ad cs) av s r σ') (F0 m 153 ls [.int y1, .int y0]) := by
  unfold fX12_costs_153 at hf
  refine lv_iadd S.1 S.2.1 dX12_costs_153 ?_
  refine lv_topi (fun v11 e12 => ?_)
  have hf := nm_s e12 hf
  refine lv_istore (lv' := [(6, .int v11), (0, .ref (ad 0)), (1, .int x1), (2, .int x2), (4, .int x4), (5, .int x5), (7, .int x7)]) S.1 S.2.1 dX12_costs_154 hl (by decide) rfl (fun ls hl => ?_)
  obtain ⟨v13, e14⟩ : ∃ z : Int32, z = x7 + (1 : Int32) := ⟨_, rfl⟩
  have hf := nm_s e14 hf
  refine lv_iinc (v := v13) (lv' := [(7, .int v13), (6, .int v11), (0, .ref (ad 0)), (1, .int x1), (2, .int x2), (4, .int x4), (5, .int x5)]) S.1 S.2.1 dX12_costs_156 hl (k := 6) rfl (by rw [e14]; rfl) (by decide) rfl (fun ls hl => ?_)
  refine lv_goto (tgt := 82) S.1 S.2.1 dX12_costs_159 (by decide) ?_
  exact hk82 σ x1 x2 x4 x5 v11 v13 _ _ _ hw (lv_sub hl [2, 3, 4, 5, 6, 1, 0] rfl) hf
def fX12_costs_82b (N : Nat) (k82 : St → Int32 → Int32 → Int32 → Int32 → Int32 → Int32 → Option (Int32 × St)) (σ : St) (x1 : Int32) (x2 : Int32) (x4 : Int32) (x5 : Int32) (x6 : Int32) (x7 : Int32) : Option (Int32 × St) :=
  if x5 ≤ x7 then (some (x6, σ)) else (nm ((x4).toInt64 + (x7).toInt64) fun v4 => if (lg_cmp v4 (0 : Int64)) < 0 then (some ((-12 : Int32), σ)) else (if ix x2 4 = true then if (lg_cmp v4 ((aR σ 53 x2)).toInt64) < 0 then (if ix (((40 : Int32) * x2) + (v4).toInt32) 160 = true then bd2 (fX12_set N σ (x1 + x7) (2 : Int32) (aR σ 54 (((40 : Int32) * x2) + (v4).toInt32))) fun r10 σ8 => if r10 < 0 then (fX12_costs_153 N k82 σ8 x1 x2 x4 x5 x7 x6 (0 : Int32)) else (fX12_costs_153 N k82 σ8 x1 x2 x4 x5 x7 x6 (1 : Int32)) else none) else (some ((-12 : Int32), σ)) else none))
set_option maxHeartbeats 2000000 in
set_option maxRecDepth 20000 in
theorem wX12_costs_82b {r : Int32} {σ' : St} {N : Nat} (S : CallFix p m c cX12_costs 10 s av BG RX12) (hr : meth.sig.returnType = some .int) (hlk : meth.locks = false) {k82 : St → Int32 → Int32 → Int32 → Int32 → Int32 → Int32 → Option (Int32 × St)} (hk82 : ∀ (σ : St) (x1 : Int32) (x2 : Int32) (x4 : Int32) (x5 : Int32) (x6 : Int32) (x7 : Int32) (ls : Array Slot) (H : Heap) (locs : List Loc), Hw (MWd D ad cs) s σ H locs → lv_has ls 10 [(0, .ref (ad 0)), (1, .int x1), (2, .int x2), (4, .int x4), (5, .int x5), (6, .int x6), (7, .int x7)] → k82 σ x1 x2 x4 x5 x6 x7 = some (r, σ') → W p l e (RM 3 69) s m av below meth c H locs 0 0 (QI below (MWd D ad cs) av s r σ') (F0 m 82 ls []))  {σ : St} {x1 : Int32} {x2 : Int32} {x4 : Int32} {x5 : Int32} {x6 : Int32} {x7 : Int32} {ls : Array Slot} {H : Heap} {locs : List Loc} (hw : Hw (MWd D ad cs) s σ H locs) (hl : lv_has ls 10 [(0, .ref (ad 0)), (1, .int x1), (2, .int x2), (4, .int x4), (5, .int x5), (6, .int x6), (7, .int x7)]) (hf : fX12_costs_82b N k82 σ x1 x2 x4 x5 x6 x7 = some (r, σ')) : W p l e (RM 3 69) s m av below meth c H locs 0 0 (QI below (MWd D ad cs) av s r σ') (F0 m 82 ls []) := by
  unfold fX12_costs_82b at hf
  refine lv_iload S.1 S.2.1 dX12_costs_82 (lv_at hl 6 rfl) ?_
  refine lv_iload S.1 S.2.1 dX12_costs_84 (lv_at hl 4 rfl) ?_
  refine lv_icmp_ge (tgt := 162) S.1 S.2.1 dX12_costs_86 (by decide) (fun hc => ?_) (fun hc => ?_)
  · have hf := itt hf hc
    refine lv_iload S.1 S.2.1 dX12_costs_162 (lv_at hl 5 rfl) ?_
    exact g_iret (MWd_ok D ad cs) S hr hlk hw dX12_costs_164 (Prod.mk.inj (Option.some.inj hf)).1 (Prod.mk.inj (Option.some.inj hf)).2
  · have hf := itf hf hc
    refine lv_iload S.1 S.2.1 dX12_costs_89 (lv_at hl 3 rfl) ?_
    refine lv_i2l S.1 S.2.1 dX12_costs_91 rfl ?_
    refine lv_iload S.1 S.2.1 dX12_costs_92 (lv_at hl 6 rfl) ?_
    refine lv_i2l S.1 S.2.1 dX12_costs_94 rfl ?_
    refine lv_ladd S.1 S.2.1 dX12_costs_95 ?_
    refine lv_topl (fun v4 e5 => ?_)
    have hf := nm_s e5 hf
    refine lv_lstore (lv' := [(8, .long v4), (0, .ref (ad 0)), (1, .int x1), (2, .int x2), (4, .int x4), (5, .int x5), (6, .int x6), (7, .int x7)]) S.1 S.2.1 dX12_costs_96 hl (by decide) rfl (fun ls hl => ?_)
    refine lv_lload S.1 S.2.1 dX12_costs_98 (lv_at hl 0 rfl) ?_
    refine lv_lconst (v := 0) S.1 S.2.1 dX12_costs_100 (by decide) ?_
    refine W.lcmp S.1 S.2.1 dX12_costs_101 ?_
    refine lv_if_lt (tgt := 118) S.1 S.2.1 dX12_costs_102 (by decide) (fun hc => ?_) (fun hc => ?_)
    · have hf := itt hf hc
      refine lv_bipush (v := -12) S.1 S.2.1 dX12_costs_118 (by decide) ?_
      exact g_iret (MWd_ok D ad cs) S hr hlk hw dX12_costs_120 (Prod.mk.inj (Option.some.inj hf)).1 (Prod.mk.inj (Option.some.inj hf)).2
    · have hf := itf hf hc
      refine lv_lload S.1 S.2.1 dX12_costs_105 (lv_at hl 0 rfl) ?_
      refine lv_aload_n S.1 S.2.1 dX12_costs_107 rfl (lv_at hl 1 rfl) ?_
      refine mg_WayLeavesModel_sizes S hw kf_X12_394 dX12_costs_108 ?_
      refine lv_iload_n S.1 S.2.1 dX12_costs_111 rfl (lv_at hl 3 rfl) ?_
      obtain ⟨h6, hf⟩ := gd_ix hf
      refine g_iald S hw 53 0 me_53 rfl h6 dX12_costs_112 ?_
      refine lv_i2l S.1 S.2.1 dX12_costs_113 rfl ?_
      refine W.lcmp S.1 S.2.1 dX12_costs_114 ?_
      refine lv_if_lt (tgt := 121) S.1 S.2.1 dX12_costs_115 (by decide) (fun hc => ?_) (fun hc => ?_)
      · have hf := itt hf hc
        refine lv_iload S.1 S.2.1 dX12_costs_121 (lv_at hl 6 rfl) ?_
        refine lv_aload_n S.1 S.2.1 dX12_costs_123 rfl (lv_at hl 1 rfl) ?_
        refine lv_iload_n S.1 S.2.1 dX12_costs_124 rfl (lv_at hl 2 rfl) ?_
        refine lv_iload S.1 S.2.1 dX12_costs_125 (lv_at hl 7 rfl) ?_
        refine lv_iadd S.1 S.2.1 dX12_costs_127 ?_
        refine lv_iconst (v := 2) S.1 S.2.1 dX12_costs_128 (by decide) ?_
        refine lv_aload_n S.1 S.2.1 dX12_costs_129 rfl (lv_at hl 1 rfl) ?_
        refine mg_WayLeavesModel_items S hw kf_X12_397 dX12_costs_130 ?_
        refine lv_bipush (v := 40) S.1 S.2.1 dX12_costs_133 (by decide) ?_
        refine lv_iload_n S.1 S.2.1 dX12_costs_135 rfl (lv_at hl 3 rfl) ?_
        refine lv_imul S.1 S.2.1 dX12_costs_136 ?_
        refine lv_lload S.1 S.2.1 dX12_costs_137 (lv_at hl 0 rfl) ?_
        refine lv_l2i S.1 S.2.1 dX12_costs_139 rfl ?_
        refine lv_iadd S.1 S.2.1 dX12_costs_140 ?_
        obtain ⟨h7, hf⟩ := gd_ix hf
        refine g_iald S hw 54 0 me_54 rfl h7 dX12_costs_141 ?_
        obtain ⟨r10, σ8, g9, hf⟩ := bd2_s hf
        refine g_Vi (rest := [.int x6]) (MWd_ok D ad cs) S hw (tX12_set g9) kt_X12_464 0 me_0 rfl rfl ⟨Nat.le_of_ble_eq_true rfl, Nat.le_of_ble_eq_true rfl⟩ rfl hl.1 rfl (Nat.le_of_ble_eq_true rfl) ⟨Nat.zero_le _, Nat.zero_le _⟩ dX12_costs_142 (fun H locs hw => ?_)
        refine lv_if_lt (tgt := 152) S.1 S.2.1 dX12_costs_145 (by decide) (fun hc => ?_) (fun hc => ?_)
        · have hf := itt hf hc
          refine lv_iconst (v := 0) S.1 S.2.1 dX12_costs_152 (by decide) ?_
          exact wX12_costs_153 S hr hlk hk82 hw (lv_sub hl [1, 2, 3, 4, 5, 7] rfl) hf
        · have hf := itf hf hc
          refine lv_iconst (v := 1) S.1 S.2.1 dX12_costs_148 (by decide) ?_
          refine lv_goto (tgt := 153) S.1 S.2.1 dX12_costs_149 (by decide) ?_
          exact wX12_costs_153 S hr hlk hk82 hw (lv_sub hl [1, 2, 3, 4, 5, 7] rfl) hf
      · have hf := itf hf hc
        refine lv_bipush (v := -12) S.1 S.2.1 dX12_costs_118 (by decide) ?_
        exact g_iret (MWd_ok D ad cs) S hr hlk hw dX12_costs_120 (Prod.mk.inj (Option.some.inj hf)).1 (Prod.mk.inj (Option.some.inj hf)).2
def fX12_costs_82 (N : Nat) : Nat → St → Int32 → Int32 → Int32 → Int32 → Int32 → Int32 → Option (Int32 × St)
  | 0 => fun _ _ _ _ _ _ _ => none
  | n + 1 => fX12_costs_82b N (fX12_costs_82 N n)
theorem wX12_costs_82 {r : Int32} {σ' : St} {N : Nat} (S : CallFix p m c cX12_costs 10 s av BG RX12) (hr : meth.sig.returnType = some .int) (hlk : meth.locks = false) : ∀ (n : Nat), ∀ (σ : St) (x1 : Int32) (x2 : Int32) (x4 : Int32) (x5 : Int32) (x6 : Int32) (x7 : Int32) (ls : Array Slot) (H : Heap) (locs : List Loc), Hw (MWd D ad cs) s σ H locs → lv_has ls 10 [(0, .ref (ad 0)), (1, .int x1), (2, .int x2), (4, .int x4), (5, .int x5), (6, .int x6), (7, .int x7)] → fX12_costs_82 N n σ x1 x2 x4 x5 x6 x7 = some (r, σ') → W p l e (RM 3 69) s m av below meth c H locs 0 0 (QI below (MWd D ad cs) av s r σ') (F0 m 82 ls []) := by
  intro n
  induction n with
  | zero => intro _ _ _ _ _ _ _ ls H locs hw hl hf; cases hf
  | succ n ih => intro _ _ _ _ _ _ _ ls H locs hw hl hf; exact wX12_costs_82b S hr hlk ih hw hl hf
def fX12_costs_64 (N : Nat) (σ : St) (x1 : Int32) (x2 : Int32) (x4 : Int32) (x5 : Int32) : Option (Int32 × St) :=
  if ix x2 4 = true then if 0 ≤ (aR σ 52 x2) then (fX12_costs_82 N N σ x1 x2 x4 x5 (0 : Int32) (0 : Int32)) else (some ((-11 : Int32), σ)) else none
set_option maxHeartbeats 2000000 in
set_option maxRecDepth 20000 in
theorem wX12_costs_64 {r : Int32} {σ' : St} {N : Nat} (S : CallFix p m c cX12_costs 10 s av BG RX12) (hr : meth.sig.returnType = some .int) (hlk : meth.locks = false)  {σ : St} {x1 : Int32} {x2 : Int32} {x4 : Int32} {x5 : Int32} {ls : Array Slot} {H : Heap} {locs : List Loc} (hw : Hw (MWd D ad cs) s σ H locs) (hl : lv_has ls 10 [(0, .ref (ad 0)), (1, .int x1), (2, .int x2), (4, .int x4), (5, .int x5)]) (hf : fX12_costs_64 N σ x1 x2 x4 x5 = some (r, σ')) : W p l e (RM 3 69) s m av below meth c H locs 0 0 (QI below (MWd D ad cs) av s r σ') (F0 m 64 ls []) := by
  unfold fX12_costs_64 at hf
  refine lv_aload_n S.1 S.2.1 dX12_costs_64 rfl (lv_at hl 0 rfl) ?_
  refine mg_WayLeavesModel_sorts S hw kf_X12_391 dX12_costs_65 ?_
  refine lv_iload_n S.1 S.2.1 dX12_costs_68 rfl (lv_at hl 2 rfl) ?_
  obtain ⟨h3, hf⟩ := gd_ix hf
  refine g_iald S hw 52 0 me_52 rfl h3 dX12_costs_69 ?_
  refine lv_if_ge (tgt := 76) S.1 S.2.1 dX12_costs_70 (by decide) (fun hc => ?_) (fun hc => ?_)
  · have hf := itt hf hc
    refine lv_iconst (v := 0) S.1 S.2.1 dX12_costs_76 (by decide) ?_
    refine lv_istore (lv' := [(6, .int (0 : Int32)), (0, .ref (ad 0)), (1, .int x1), (2, .int x2), (4, .int x4), (5, .int x5)]) S.1 S.2.1 dX12_costs_77 hl (by decide) rfl (fun ls hl => ?_)
    refine lv_iconst (v := 0) S.1 S.2.1 dX12_costs_79 (by decide) ?_
    refine lv_istore (lv' := [(7, .int (0 : Int32)), (6, .int (0 : Int32)), (0, .ref (ad 0)), (1, .int x1), (2, .int x2), (4, .int x4), (5, .int x5)]) S.1 S.2.1 dX12_costs_80 hl (by decide) rfl (fun ls hl => ?_)
    exact wX12_costs_82 S hr hlk N σ x1 x2 x4 x5 (0 : Int32) (0 : Int32) _ _ _ hw (lv_sub hl [2, 3, 4, 5, 6, 1, 0] rfl) hf
  · have hf := itf hf hc
    refine lv_bipush (v := -11) S.1 S.2.1 dX12_costs_73 (by decide) ?_
    exact g_iret (MWd_ok D ad cs) S hr hlk hw dX12_costs_75 (Prod.mk.inj (Option.some.inj hf)).1 (Prod.mk.inj (Option.some.inj hf)).2
def fX12_costs (N : Nat) (σ : St) (x1 : Int32) (x2 : Int32) (x3 : Int32) (x4 : Int32) (x5 : Int32) : Option (Int32 × St) :=
  if (fX12_isPlot x1) = 0 then (some ((-2 : Int32), σ)) else (if (fX12_isSheet x2) = 0 then (some ((-2 : Int32), σ)) else (if (fX12_isIn (x3).toInt64 (0 : Int64) (2 : Int64)) = 0 then (some ((-2 : Int32), σ)) else (if (fX12_isIn (x5).toInt64 (0 : Int64) (40 : Int64)) = 0 then (some ((-2 : Int32), σ)) else (if ix x2 4 = true then if (aR σ 52 x2) < 0 then (fX12_costs_64 N σ x1 x2 x4 x5) else (if ix x2 4 = true then if (aR σ 52 x2) = x3 then (fX12_costs_64 N σ x1 x2 x4 x5) else (some ((-13 : Int32), σ)) else none) else none))))
set_option maxHeartbeats 2000000 in
set_option maxRecDepth 20000 in
theorem tX12_costs {r : Int32} {σ' : St} {N : Nat} {σ : St} {x1 : Int32} {x2 : Int32} {x3 : Int32} {x4 : Int32} {x5 : Int32} (hf : fX12_costs N σ x1 x2 x3 x4 x5 = some (r, σ')) : CI l (MWd D ad cs) yX12_costs cX12_costs 10 (some .int) 3 69 [.ref (ad 0), .int x1, .int x2, .int x3, .int x4, .int x5] σ r σ' := by
  refine CI.of (by decide) (Nat.le_of_ble_eq_true rfl) ?_
  intro p e s m below meth c ls S hr hlk hw hl
  have hl : lv_has ls 10 [(0, .ref (ad 0)), (1, .int x1), (2, .int x2), (3, .int x3), (4, .int x4), (5, .int x5)] := hl
  unfold fX12_costs at hf
  refine lv_iload_n S.1 S.2.1 dX12_costs_0 rfl (lv_at hl 1 rfl) ?_
  refine g_Si (rest := []) (MWd_ok D ad cs) S hw (tX12_isPlot (ad := ad) (cs := cs) (σ := σ) rfl) kt_X12_19 ⟨Nat.le_of_ble_eq_true rfl, Nat.le_of_ble_eq_true rfl⟩ rfl hl.1 rfl (Nat.le_of_ble_eq_true rfl) ⟨Nat.zero_le _, Nat.zero_le _⟩ dX12_costs_1 (fun H locs hw => ?_)
  refine lv_if_eq (tgt := 39) S.1 S.2.1 dX12_costs_4 (by decide) (fun hc => ?_) (fun hc => ?_)
  · have hf := itt hf hc
    refine lv_bipush (v := -2) S.1 S.2.1 dX12_costs_39 (by decide) ?_
    exact g_iret (MWd_ok D ad cs) S hr hlk hw dX12_costs_41 (Prod.mk.inj (Option.some.inj hf)).1 (Prod.mk.inj (Option.some.inj hf)).2
  · have hf := itf hf hc
    refine lv_iload_n S.1 S.2.1 dX12_costs_7 rfl (lv_at hl 2 rfl) ?_
    refine g_Si (rest := []) (MWd_ok D ad cs) S hw (tX12_isSheet (ad := ad) (cs := cs) (σ := σ) rfl) kt_X12_454 ⟨Nat.le_of_ble_eq_true rfl, Nat.le_of_ble_eq_true rfl⟩ rfl hl.1 rfl (Nat.le_of_ble_eq_true rfl) ⟨Nat.zero_le _, Nat.zero_le _⟩ dX12_costs_8 (fun H locs hw => ?_)
    refine lv_if_eq (tgt := 39) S.1 S.2.1 dX12_costs_11 (by decide) (fun hc => ?_) (fun hc => ?_)
    · have hf := itt hf hc
      refine lv_bipush (v := -2) S.1 S.2.1 dX12_costs_39 (by decide) ?_
      exact g_iret (MWd_ok D ad cs) S hr hlk hw dX12_costs_41 (Prod.mk.inj (Option.some.inj hf)).1 (Prod.mk.inj (Option.some.inj hf)).2
    · have hf := itf hf hc
      refine lv_iload_n S.1 S.2.1 dX12_costs_14 rfl (lv_at hl 3 rfl) ?_
      refine lv_i2l S.1 S.2.1 dX12_costs_15 rfl ?_
      refine lv_lconst (v := 0) S.1 S.2.1 dX12_costs_16 (by decide) ?_
      refine lv_ldc2 S.1 S.2.1 S.2.2.2.1 (S.2.2.2.2 _ kc_X12_459) dX12_costs_17 ?_
      refine g_Si (rest := []) (MWd_ok D ad cs) S hw (tX12_isIn (ad := ad) (cs := cs) (σ := σ) rfl) kt_X12_5 ⟨Nat.le_of_ble_eq_true rfl, Nat.le_of_ble_eq_true rfl⟩ rfl hl.1 rfl (Nat.le_of_ble_eq_true rfl) ⟨Nat.zero_le _, Nat.zero_le _⟩ dX12_costs_20 (fun H locs hw => ?_)
      refine lv_if_eq (tgt := 39) S.1 S.2.1 dX12_costs_23 (by decide) (fun hc => ?_) (fun hc => ?_)
      · have hf := itt hf hc
        refine lv_bipush (v := -2) S.1 S.2.1 dX12_costs_39 (by decide) ?_
        exact g_iret (MWd_ok D ad cs) S hr hlk hw dX12_costs_41 (Prod.mk.inj (Option.some.inj hf)).1 (Prod.mk.inj (Option.some.inj hf)).2
      · have hf := itf hf hc
        refine lv_iload S.1 S.2.1 dX12_costs_26 (lv_at hl 5 rfl) ?_
        refine lv_i2l S.1 S.2.1 dX12_costs_28 rfl ?_
        refine lv_lconst (v := 0) S.1 S.2.1 dX12_costs_29 (by decide) ?_
        refine lv_ldc2 S.1 S.2.1 S.2.2.2.1 (S.2.2.2.2 _ kc_X12_76) dX12_costs_30 ?_
        refine g_Si (rest := []) (MWd_ok D ad cs) S hw (tX12_isIn (ad := ad) (cs := cs) (σ := σ) rfl) kt_X12_5 ⟨Nat.le_of_ble_eq_true rfl, Nat.le_of_ble_eq_true rfl⟩ rfl hl.1 rfl (Nat.le_of_ble_eq_true rfl) ⟨Nat.zero_le _, Nat.zero_le _⟩ dX12_costs_33 (fun H locs hw => ?_)
        refine lv_if_ne (tgt := 42) S.1 S.2.1 dX12_costs_36 (by decide) (fun hc => ?_) (fun hc => ?_)
        · have hf := itf hf hc
          refine lv_aload_n S.1 S.2.1 dX12_costs_42 rfl (lv_at hl 0 rfl) ?_
          refine mg_WayLeavesModel_sorts S hw kf_X12_391 dX12_costs_43 ?_
          refine lv_iload_n S.1 S.2.1 dX12_costs_46 rfl (lv_at hl 2 rfl) ?_
          obtain ⟨h1, hf⟩ := gd_ix hf
          refine g_iald S hw 52 0 me_52 rfl h1 dX12_costs_47 ?_
          refine lv_if_lt (tgt := 64) S.1 S.2.1 dX12_costs_48 (by decide) (fun hc => ?_) (fun hc => ?_)
          · have hf := itt hf hc
            exact wX12_costs_64 S hr hlk hw (lv_sub hl [0, 1, 2, 4, 5] rfl) hf
          · have hf := itf hf hc
            refine lv_aload_n S.1 S.2.1 dX12_costs_51 rfl (lv_at hl 0 rfl) ?_
            refine mg_WayLeavesModel_sorts S hw kf_X12_391 dX12_costs_52 ?_
            refine lv_iload_n S.1 S.2.1 dX12_costs_55 rfl (lv_at hl 2 rfl) ?_
            obtain ⟨h2, hf⟩ := gd_ix hf
            refine g_iald S hw 52 0 me_52 rfl h2 dX12_costs_56 ?_
            refine lv_iload_n S.1 S.2.1 dX12_costs_57 rfl (lv_at hl 3 rfl) ?_
            refine lv_icmp_eq (tgt := 64) S.1 S.2.1 dX12_costs_58 (by decide) (fun hc => ?_) (fun hc => ?_)
            · have hf := itt hf hc
              exact wX12_costs_64 S hr hlk hw (lv_sub hl [0, 1, 2, 4, 5] rfl) hf
            · have hf := itf hf hc
              refine lv_bipush (v := -13) S.1 S.2.1 dX12_costs_61 (by decide) ?_
              exact g_iret (MWd_ok D ad cs) S hr hlk hw dX12_costs_63 (Prod.mk.inj (Option.some.inj hf)).1 (Prod.mk.inj (Option.some.inj hf)).2
        · have hf := itt hf hc
          refine lv_bipush (v := -2) S.1 S.2.1 dX12_costs_39 (by decide) ?_
          exact g_iret (MWd_ok D ad cs) S hr hlk hw dX12_costs_41 (Prod.mk.inj (Option.some.inj hf)).1 (Prod.mk.inj (Option.some.inj hf)).2
def fX12_taken_72 (N : Nat) (σ : St) (x1 : Int32) (y0 : Int32) : Option Int32 :=
  if y0 = 0 then (some (-13 : Int32)) else (if ix x1 24 = true then some (aR σ 23 x1) else none)
set_option maxHeartbeats 2000000 in
set_option maxRecDepth 20000 in
theorem wX12_taken_72 {r : Int32} {N : Nat} {σ : St} (S : CallFix p m c cX12_taken 5 s av BG RX12) (hr : meth.sig.returnType = some .int) (hlk : meth.locks = false)  {x1 : Int32} {y0 : Int32} {ls : Array Slot} {H : Heap} {locs : List Loc} (hw : Hw (MWd D ad cs) s σ H locs) (hl : lv_has ls 5 [(0, .ref (ad 0)), (1, .int x1)]) (hf : fX12_taken_72 N σ x1 y0 = some r) : W p l e (RM 1 25) s m av below meth c H locs 0 0 (QI below (MWd D ad cs) av s r σ) (F0 m 72 ls [.int y0]) := by
  unfold fX12_taken_72 at hf
  refine lv_istore (lv' := [(4, .int y0), (0, .ref (ad 0)), (1, .int x1)]) S.1 S.2.1 dX12_taken_72 hl (by decide) rfl (fun ls hl => ?_)
  refine lv_iload S.1 S.2.1 dX12_taken_74 (lv_at hl 0 rfl) ?_
  refine lv_if_eq (tgt := 88) S.1 S.2.1 dX12_taken_76 (by decide) (fun hc => ?_) (fun hc => ?_)
  · have hf := itt hf hc
    refine lv_bipush (v := -13) S.1 S.2.1 dX12_taken_88 (by decide) ?_
    exact g_iret (MWd_ok D ad cs) S hr hlk hw dX12_taken_90 (Option.some.inj hf) rfl
  · have hf := itf hf hc
    refine lv_aload_n S.1 S.2.1 dX12_taken_79 rfl (lv_at hl 1 rfl) ?_
    refine mg_WayLeavesModel_spanOf S hw kf_X12_160 dX12_taken_80 ?_
    refine lv_iload_n S.1 S.2.1 dX12_taken_83 rfl (lv_at hl 2 rfl) ?_
    obtain ⟨h4, hf⟩ := gd_ix hf
    refine g_iald S hw 23 0 me_23 rfl h4 dX12_taken_84 ?_
    refine lv_goto (tgt := 90) S.1 S.2.1 dX12_taken_85 (by decide) ?_
    exact g_iret (MWd_ok D ad cs) S hr hlk hw dX12_taken_90 (Option.some.inj hf) rfl
def fX12_taken_67 (N : Nat) (σ : St) (x1 : Int32) : Option Int32 :=
  fX12_taken_72 N σ x1 (1 : Int32)
set_option maxHeartbeats 2000000 in
set_option maxRecDepth 20000 in
theorem wX12_taken_67 {r : Int32} {N : Nat} {σ : St} (S : CallFix p m c cX12_taken 5 s av BG RX12) (hr : meth.sig.returnType = some .int) (hlk : meth.locks = false)  {x1 : Int32} {ls : Array Slot} {H : Heap} {locs : List Loc} (hw : Hw (MWd D ad cs) s σ H locs) (hl : lv_has ls 5 [(0, .ref (ad 0)), (1, .int x1)]) (hf : fX12_taken_67 N σ x1 = some r) : W p l e (RM 1 25) s m av below meth c H locs 0 0 (QI below (MWd D ad cs) av s r σ) (F0 m 67 ls []) := by
  unfold fX12_taken_67 at hf
  refine lv_iconst (v := 1) S.1 S.2.1 dX12_taken_67 (by decide) ?_
  refine lv_goto (tgt := 72) S.1 S.2.1 dX12_taken_68 (by decide) ?_
  exact wX12_taken_72 S hr hlk hw (lv_sub hl [0, 1] rfl) hf
def fX12_taken_71 (N : Nat) (σ : St) (x1 : Int32) : Option Int32 :=
  fX12_taken_72 N σ x1 (0 : Int32)
set_option maxHeartbeats 2000000 in
set_option maxRecDepth 20000 in
theorem wX12_taken_71 {r : Int32} {N : Nat} {σ : St} (S : CallFix p m c cX12_taken 5 s av BG RX12) (hr : meth.sig.returnType = some .int) (hlk : meth.locks = false)  {x1 : Int32} {ls : Array Slot} {H : Heap} {locs : List Loc} (hw : Hw (MWd D ad cs) s σ H locs) (hl : lv_has ls 5 [(0, .ref (ad 0)), (1, .int x1)]) (hf : fX12_taken_71 N σ x1 = some r) : W p l e (RM 1 25) s m av below meth c H locs 0 0 (QI below (MWd D ad cs) av s r σ) (F0 m 71 ls []) := by
  unfold fX12_taken_71 at hf
  refine lv_iconst (v := 0) S.1 S.2.1 dX12_taken_71 (by decide) ?_
  exact wX12_taken_72 S hr hlk hw (lv_sub hl [0, 1] rfl) hf
def fX12_taken_52 (N : Nat) (σ : St) (x1 : Int32) (x2 : Int32) (x3 : Int32) : Option Int32 :=
  if x2 = (2 : Int32) then (if x3 = (4 : Int32) then (fX12_taken_67 N σ x1) else (if x3 = (5 : Int32) then (fX12_taken_67 N σ x1) else (fX12_taken_71 N σ x1))) else (fX12_taken_71 N σ x1)
set_option maxHeartbeats 2000000 in
set_option maxRecDepth 20000 in
theorem wX12_taken_52 {r : Int32} {N : Nat} {σ : St} (S : CallFix p m c cX12_taken 5 s av BG RX12) (hr : meth.sig.returnType = some .int) (hlk : meth.locks = false)  {x1 : Int32} {x2 : Int32} {x3 : Int32} {ls : Array Slot} {H : Heap} {locs : List Loc} (hw : Hw (MWd D ad cs) s σ H locs) (hl : lv_has ls 5 [(0, .ref (ad 0)), (1, .int x1), (2, .int x2), (3, .int x3)]) (hf : fX12_taken_52 N σ x1 x2 x3 = some r) : W p l e (RM 1 25) s m av below meth c H locs 0 0 (QI below (MWd D ad cs) av s r σ) (F0 m 52 ls []) := by
  unfold fX12_taken_52 at hf
  refine lv_iload_n S.1 S.2.1 dX12_taken_52 rfl (lv_at hl 2 rfl) ?_
  refine lv_iconst (v := 2) S.1 S.2.1 dX12_taken_53 (by decide) ?_
  refine lv_icmp_ne (tgt := 71) S.1 S.2.1 dX12_taken_54 (by decide) (fun hc => ?_) (fun hc => ?_)
  · have hf := itf hf hc
    exact wX12_taken_71 S hr hlk hw (lv_sub hl [0, 1] rfl) hf
  · have hf := itt hf hc
    refine lv_iload_n S.1 S.2.1 dX12_taken_57 rfl (lv_at hl 3 rfl) ?_
    refine lv_iconst (v := 4) S.1 S.2.1 dX12_taken_58 (by decide) ?_
    refine lv_icmp_eq (tgt := 67) S.1 S.2.1 dX12_taken_59 (by decide) (fun hc => ?_) (fun hc => ?_)
    · have hf := itt hf hc
      exact wX12_taken_67 S hr hlk hw (lv_sub hl [0, 1] rfl) hf
    · have hf := itf hf hc
      refine lv_iload_n S.1 S.2.1 dX12_taken_62 rfl (lv_at hl 3 rfl) ?_
      refine lv_iconst (v := 5) S.1 S.2.1 dX12_taken_63 (by decide) ?_
      refine lv_icmp_ne (tgt := 71) S.1 S.2.1 dX12_taken_64 (by decide) (fun hc => ?_) (fun hc => ?_)
      · have hf := itf hf hc
        exact wX12_taken_71 S hr hlk hw (lv_sub hl [0, 1] rfl) hf
      · have hf := itt hf hc
        exact wX12_taken_67 S hr hlk hw (lv_sub hl [0, 1] rfl) hf
def fX12_taken (N : Nat) (σ : St) (x1 : Int32) (x2 : Int32) : Option Int32 :=
  if (fX12_isIn (x2).toInt64 (0 : Int64) (5 : Int64)) = 0 then (some (-2 : Int32)) else (if (fX12_isLeave σ x1) = 0 then (some (-11 : Int32)) else (if ix x1 24 = true then nm (aR σ 22 x1) fun v2 => if x2 = 0 then (fX12_taken_67 N σ x1) else (if v2 = x2 then (fX12_taken_67 N σ x1) else (if x2 = (1 : Int32) then (if v2 = (3 : Int32) then (fX12_taken_67 N σ x1) else (fX12_taken_52 N σ x1 x2 v2)) else (fX12_taken_52 N σ x1 x2 v2))) else none))
set_option maxHeartbeats 2000000 in
set_option maxRecDepth 20000 in
theorem tX12_taken {r : Int32} {N : Nat} {σ : St} {x1 : Int32} {x2 : Int32} (hf : fX12_taken N σ x1 x2 = some r) : CI l (MWd D ad cs) yX12_taken cX12_taken 5 (some .int) 1 25 [.ref (ad 0), .int x1, .int x2] σ r σ := by
  refine CI.of (by decide) (Nat.le_of_ble_eq_true rfl) ?_
  intro p e s m below meth c ls S hr hlk hw hl
  have hl : lv_has ls 5 [(0, .ref (ad 0)), (1, .int x1), (2, .int x2)] := hl
  unfold fX12_taken at hf
  refine lv_iload_n S.1 S.2.1 dX12_taken_0 rfl (lv_at hl 2 rfl) ?_
  refine lv_i2l S.1 S.2.1 dX12_taken_1 rfl ?_
  refine lv_lconst (v := 0) S.1 S.2.1 dX12_taken_2 (by decide) ?_
  refine lv_ldc2 S.1 S.2.1 S.2.2.2.1 (S.2.2.2.2 _ kc_X12_153) dX12_taken_3 ?_
  refine g_Si (rest := []) (MWd_ok D ad cs) S hw (tX12_isIn (ad := ad) (cs := cs) (σ := σ) rfl) kt_X12_5 ⟨Nat.le_of_ble_eq_true rfl, Nat.le_of_ble_eq_true rfl⟩ rfl hl.1 rfl (Nat.le_of_ble_eq_true rfl) ⟨Nat.zero_le _, Nat.zero_le _⟩ dX12_taken_6 (fun H locs hw => ?_)
  refine lv_if_ne (tgt := 15) S.1 S.2.1 dX12_taken_9 (by decide) (fun hc => ?_) (fun hc => ?_)
  · have hf := itf hf hc
    refine lv_aload_n S.1 S.2.1 dX12_taken_15 rfl (lv_at hl 0 rfl) ?_
    refine lv_iload_n S.1 S.2.1 dX12_taken_16 rfl (lv_at hl 1 rfl) ?_
    refine g_Vi (rest := []) (MWd_ok D ad cs) S hw (tX12_isLeave (ad := ad) (cs := cs) (σ := σ) rfl) kt_X12_157 0 me_0 rfl rfl ⟨Nat.le_of_ble_eq_true rfl, Nat.le_of_ble_eq_true rfl⟩ rfl hl.1 rfl (Nat.le_of_ble_eq_true rfl) ⟨Nat.zero_le _, Nat.zero_le _⟩ dX12_taken_17 (fun H locs hw => ?_)
    refine lv_if_ne (tgt := 26) S.1 S.2.1 dX12_taken_20 (by decide) (fun hc => ?_) (fun hc => ?_)
    · have hf := itf hf hc
      refine lv_aload_n S.1 S.2.1 dX12_taken_26 rfl (lv_at hl 0 rfl) ?_
      refine mg_WayLeavesModel_kindOf S hw kf_X12_163 dX12_taken_27 ?_
      refine lv_iload_n S.1 S.2.1 dX12_taken_30 rfl (lv_at hl 1 rfl) ?_
      obtain ⟨h1, hf⟩ := gd_ix hf
      refine g_iald S hw 22 0 me_22 rfl h1 dX12_taken_31 ?_
      refine lv_topi (fun v2 e3 => ?_)
      have hf := nm_s e3 hf
      refine lv_istore_n (lv' := [(3, .int v2), (0, .ref (ad 0)), (1, .int x1), (2, .int x2)]) S.1 S.2.1 dX12_taken_32 rfl hl (by decide) rfl (fun ls hl => ?_)
      refine lv_iload_n S.1 S.2.1 dX12_taken_33 rfl (lv_at hl 3 rfl) ?_
      refine lv_if_eq (tgt := 67) S.1 S.2.1 dX12_taken_34 (by decide) (fun hc => ?_) (fun hc => ?_)
      · have hf := itt hf hc
        exact wX12_taken_67 S hr hlk hw (lv_sub hl [1, 2] rfl) hf
      · have hf := itf hf hc
        refine lv_iload_n S.1 S.2.1 dX12_taken_37 rfl (lv_at hl 0 rfl) ?_
        refine lv_iload_n S.1 S.2.1 dX12_taken_38 rfl (lv_at hl 3 rfl) ?_
        refine lv_icmp_eq (tgt := 67) S.1 S.2.1 dX12_taken_39 (by decide) (fun hc => ?_) (fun hc => ?_)
        · have hf := itt hf hc
          exact wX12_taken_67 S hr hlk hw (lv_sub hl [1, 2] rfl) hf
        · have hf := itf hf hc
          refine lv_iload_n S.1 S.2.1 dX12_taken_42 rfl (lv_at hl 3 rfl) ?_
          refine lv_iconst (v := 1) S.1 S.2.1 dX12_taken_43 (by decide) ?_
          refine lv_icmp_ne (tgt := 52) S.1 S.2.1 dX12_taken_44 (by decide) (fun hc => ?_) (fun hc => ?_)
          · have hf := itf hf hc
            exact wX12_taken_52 S hr hlk hw (lv_sub hl [1, 2, 3, 0] rfl) hf
          · have hf := itt hf hc
            refine lv_iload_n S.1 S.2.1 dX12_taken_47 rfl (lv_at hl 0 rfl) ?_
            refine lv_iconst (v := 3) S.1 S.2.1 dX12_taken_48 (by decide) ?_
            refine lv_icmp_eq (tgt := 67) S.1 S.2.1 dX12_taken_49 (by decide) (fun hc => ?_) (fun hc => ?_)
            · have hf := itt hf hc
              exact wX12_taken_67 S hr hlk hw (lv_sub hl [1, 2] rfl) hf
            · have hf := itf hf hc
              exact wX12_taken_52 S hr hlk hw (lv_sub hl [1, 2, 3, 0] rfl) hf
    · have hf := itt hf hc
      refine lv_bipush (v := -11) S.1 S.2.1 dX12_taken_23 (by decide) ?_
      exact g_iret (MWd_ok D ad cs) S hr hlk hw dX12_taken_25 (Option.some.inj hf) rfl
  · have hf := itt hf hc
    refine lv_bipush (v := -2) S.1 S.2.1 dX12_taken_12 (by decide) ?_
    exact g_iret (MWd_ok D ad cs) S hr hlk hw dX12_taken_14 (Option.some.inj hf) rfl
end METH
