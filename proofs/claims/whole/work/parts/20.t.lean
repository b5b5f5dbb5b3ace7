/-! METHODS (printed by wip/whole/emit.py) -/
section METH
variable {p : Program} {l : Launch} {e : Env} {s : State} {m : MethodId} {av : Array Value} {below : List Frame} {meth : Method} {c : Code} {D : va_G} {ad : Nat → Nat} {cs : Nat → ClassId} {ts adK adV : Nat → Nat}
def fX11_within (x0 : Int32) (x1 : Int32) (x2 : Int32) : Int32 :=
  if x0 < x1 then ((0 : Int32)) else (if x2 < x0 then ((0 : Int32)) else ((1 : Int32)))
set_option maxHeartbeats 2000000 in
set_option maxRecDepth 20000 in
theorem tX11_within {r : Int32} {σ : St} {x0 : Int32} {x1 : Int32} {x2 : Int32} (hf : fX11_within x0 x1 x2 = r) : CI l (XWd D ad cs ts adK adV) yX11_within cX11_within 3 (some .boolean) 0 0 [.int x0, .int x1, .int x2] σ r σ := by
  refine CI.of (by decide) (Nat.le_of_ble_eq_true rfl) ?_
  intro p e s m below meth c ls S hr hlk hw hl
  have hl : lv_has ls 3 [(0, .int x0), (1, .int x1), (2, .int x2)] := hl
  unfold fX11_within at hf
  refine lv_iload_n S.1 S.2.1 dX11_within_0 rfl (lv_at hl 0 rfl) ?_
  refine lv_iload_n S.1 S.2.1 dX11_within_1 rfl (lv_at hl 1 rfl) ?_
  refine lv_icmp_lt (tgt := 14) S.1 S.2.1 dX11_within_2 (by decide) (fun hc => ?_) (fun hc => ?_)
  · have hf := itt hf hc
    refine lv_iconst (v := 0) S.1 S.2.1 dX11_within_14 (by decide) ?_
    exact g_zret (XWd_ok D ad cs ts adK adV) S hr hlk hw rfl dX11_within_15 hf rfl
  · have hf := itf hf hc
    refine lv_iload_n S.1 S.2.1 dX11_within_5 rfl (lv_at hl 0 rfl) ?_
    refine lv_iload_n S.1 S.2.1 dX11_within_6 rfl (lv_at hl 2 rfl) ?_
    refine lv_icmp_gt (tgt := 14) S.1 S.2.1 dX11_within_7 (by decide) (fun hc => ?_) (fun hc => ?_)
    · have hf := itt hf hc
      refine lv_iconst (v := 0) S.1 S.2.1 dX11_within_14 (by decide) ?_
      exact g_zret (XWd_ok D ad cs ts adK adV) S hr hlk hw rfl dX11_within_15 hf rfl
    · have hf := itf hf hc
      refine lv_iconst (v := 1) S.1 S.2.1 dX11_within_10 (by decide) ?_
      refine lv_goto (tgt := 15) S.1 S.2.1 dX11_within_11 (by decide) ?_
      exact g_zret (XWd_ok D ad cs ts adK adV) S hr hlk hw rfl dX11_within_15 hf rfl
theorem zzX11_within (x0 : Int32) (x1 : Int32) (x2 : Int32) : narrow .boolean (.int (fX11_within x0 x1 x2)) = .int (fX11_within x0 x1 x2) := by
  unfold fX11_within
  repeat' split
  all_goals rfl
def fX11_isPlot (x0 : Int32) : Int32 :=
  (fX11_within x0 (0 : Int32) (47 : Int32))
set_option maxHeartbeats 2000000 in
set_option maxRecDepth 20000 in
theorem tX11_isPlot {r : Int32} {σ : St} {x0 : Int32} (hf : fX11_isPlot x0 = r) : CI l (XWd D ad cs ts adK adV) yX11_isPlot cX11_isPlot 1 (some .boolean) 1 22 [.int x0] σ r σ := by
  refine CI.of (by decide) (Nat.le_of_ble_eq_true rfl) ?_
  intro p e s m below meth c ls S hr hlk hw hl
  have hl : lv_has ls 1 [(0, .int x0)] := hl
  unfold fX11_isPlot at hf
  refine lv_iload_n S.1 S.2.1 dX11_isPlot_0 rfl (lv_at hl 0 rfl) ?_
  refine lv_iconst (v := 0) S.1 S.2.1 dX11_isPlot_1 (by decide) ?_
  refine lv_bipush (v := 47) S.1 S.2.1 dX11_isPlot_2 (by decide) ?_
  refine g_Si (rest := []) (XWd_ok D ad cs ts adK adV) S hw (tX11_within (ad := ad) (cs := cs) (ts := ts) (adK := adK) (adV := adV) (σ := σ) rfl) kt_X11_107 ⟨Nat.le_of_ble_eq_true rfl, Nat.le_of_ble_eq_true rfl⟩ rfl hl.1 rfl (Nat.le_of_ble_eq_true rfl) ⟨Nat.zero_le _, Nat.zero_le _⟩ dX11_isPlot_4 (fun H locs hw => ?_)
  exact g_zret (XWd_ok D ad cs ts adK adV) S hr hlk hw (zzX11_within ..) dX11_isPlot_7 hf rfl
theorem zzX11_isPlot (x0 : Int32) : narrow .boolean (.int (fX11_isPlot x0)) = .int (fX11_isPlot x0) := by
  unfold fX11_isPlot
  repeat' split
  all_goals first | rfl | exact zzX11_within .. | exact zzX12_isIn ..
def fX11_isDay (x0 : Int32) : Int32 :=
  (fX11_within x0 (0 : Int32) (9999 : Int32))
set_option maxHeartbeats 2000000 in
set_option maxRecDepth 20000 in
theorem tX11_isDay {r : Int32} {σ : St} {x0 : Int32} (hf : fX11_isDay x0 = r) : CI l (XWd D ad cs ts adK adV) yX11_isDay cX11_isDay 1 (some .boolean) 1 22 [.int x0] σ r σ := by
  refine CI.of (by decide) (Nat.le_of_ble_eq_true rfl) ?_
  intro p e s m below meth c ls S hr hlk hw hl
  have hl : lv_has ls 1 [(0, .int x0)] := hl
  unfold fX11_isDay at hf
  refine lv_iload_n S.1 S.2.1 dX11_isDay_0 rfl (lv_at hl 0 rfl) ?_
  refine lv_iconst (v := 0) S.1 S.2.1 dX11_isDay_1 (by decide) ?_
  refine lv_sipush (v := 9999) S.1 S.2.1 dX11_isDay_2 (by decide) ?_
  refine g_Si (rest := []) (XWd_ok D ad cs ts adK adV) S hw (tX11_within (ad := ad) (cs := cs) (ts := ts) (adK := adK) (adV := adV) (σ := σ) rfl) kt_X11_107 ⟨Nat.le_of_ble_eq_true rfl, Nat.le_of_ble_eq_true rfl⟩ rfl hl.1 rfl (Nat.le_of_ble_eq_true rfl) ⟨Nat.zero_le _, Nat.zero_le _⟩ dX11_isDay_5 (fun H locs hw => ?_)
  exact g_zret (XWd_ok D ad cs ts adK adV) S hr hlk hw (zzX11_within ..) dX11_isDay_8 hf rfl
theorem zzX11_isDay (x0 : Int32) : narrow .boolean (.int (fX11_isDay x0)) = .int (fX11_isDay x0) := by
  unfold fX11_isDay
  repeat' split
  all_goals first | rfl | exact zzX11_within .. | exact zzX12_isIn ..
def fX4_ownerOn_68 (N : Nat) (σ : St) (k8 : Int32 → Int32 → Int32 → Int32 → Int32 → Option Int32) (x1 : Int32) (x2 : Int32) (x3 : Int32) (x4 : Int32) (x5 : Int32) : Option Int32 :=
  nm (x5 + (1 : Int32)) fun v10 => k8 x1 x2 x3 x4 v10
set_option maxHeartbeats 2000000 in
set_option maxRecDepth 20000 in
theorem wX4_ownerOn_68 {r : Int32} {N : Nat} {σ : St} (S : CallFix p m c cX4_ownerOn 6 s av BG RX4) (hr : meth.sig.returnType = some .int) (hlk : meth.locks = false) {k8 : Int32 → Int32 → Int32 → Int32 → Int32 → Option Int32} (hk8 : ∀ (x1 : Int32) (x2 : Int32) (x3 : Int32) (x4 : Int32) (x5 : Int32) (ls : Array Slot) (H : Heap) (locs : List Loc), Hw (XWd D ad cs ts adK adV) s σ H locs → lv_has ls 6 [(0, .ref (ad 1)), (1, .int x1), (2, .int x2), (3, .int x3), (4, .int x4), (5, .int x5)] → k8 x1 x2 x3 x4 x5 = some r → W p l e (RM 0 0) s m av below meth c H locs 0 0 (QI below (XWd D ad cs ts adK adV) av s r σ) (F0 m 8 ls []))  {x1 : Int32} {x2 : Int32} {x3 : Int32} {x4 : Int32} {x5 : Int32} {ls : Array Slot} {H : Heap} {locs : List Loc} (hw : Hw (XWd D ad cs ts adK adV) s σ H locs) (hl : lv_has ls 6 [(0, .ref (ad 1)), (1, .int x1), (2, .int x2), (3, .int x3), (4, .int x4), (5, .int x5)]) (hf : fX4_ownerOn_68 N σ k8 x1 x2 x3 x4 x5 = some r) : W p l e (RM 0 0) s m av below meth c H locs 0 0 (QI below (XWd D ad cs ts adK adV) av s r σ) (F0 m 68 ls []) := by
  unfold fX4_ownerOn_68 at hf
  obtain ⟨v10, e11⟩ : ∃ z : Int32, z = x5 + (1 : Int32) := ⟨_, rfl⟩
  have hf := nm_s e11 hf
  refine lv_iinc (v := v10) (lv' := [(5, .int v10), (0, .ref (ad 1)), (1, .int x1), (2, .int x2), (3, .int x3), (4, .int x4)]) S.1 S.2.1 dX4_ownerOn_68 hl (k := 5) rfl (by rw [e11]; rfl) (by decide) rfl (fun ls hl => ?_)
  refine lv_goto (tgt := 8) S.1 S.2.1 dX4_ownerOn_71 (by decide) ?_
  exact hk8 x1 x2 x3 x4 v10 _ _ _ hw (lv_sub hl [1, 2, 3, 4, 5, 0] rfl) hf
def fX4_ownerOn_8b (N : Nat) (σ : St) (k8 : Int32 → Int32 → Int32 → Int32 → Int32 → Option Int32) (x1 : Int32) (x2 : Int32) (x3 : Int32) (x4 : Int32) (x5 : Int32) : Option Int32 :=
  if (σ.1 1) ≤ x5 then (some x3) else (if ix x5 40 = true then if (aR σ 12 x5) = x1 then (if ix x5 40 = true then if (aR σ 14 x5) < x4 then (fX4_ownerOn_68 N σ k8 x1 x2 x3 x4 x5) else (if ix x5 40 = true then if x2 < (aR σ 14 x5) then (fX4_ownerOn_68 N σ k8 x1 x2 x3 x4 x5) else (if ix x5 40 = true then nm (aR σ 14 x5) fun v5 => if ix x5 40 = true then nm (aR σ 13 x5) fun v8 => fX4_ownerOn_68 N σ k8 x1 x2 v8 v5 x5 else none else none) else none) else none) else (fX4_ownerOn_68 N σ k8 x1 x2 x3 x4 x5) else none)
set_option maxHeartbeats 2000000 in
set_option maxRecDepth 20000 in
theorem wX4_ownerOn_8b {r : Int32} {N : Nat} {σ : St} (S : CallFix p m c cX4_ownerOn 6 s av BG RX4) (hr : meth.sig.returnType = some .int) (hlk : meth.locks = false) {k8 : Int32 → Int32 → Int32 → Int32 → Int32 → Option Int32} (hk8 : ∀ (x1 : Int32) (x2 : Int32) (x3 : Int32) (x4 : Int32) (x5 : Int32) (ls : Array Slot) (H : Heap) (locs : List Loc), Hw (XWd D ad cs ts adK adV) s σ H locs → lv_has ls 6 [(0, .ref (ad 1)), (1, .int x1), (2, .int x2), (3, .int x3), (4, .int x4), (5, .int x5)] → k8 x1 x2 x3 x4 x5 = some r → W p l e (RM 0 0) s m av below meth c H locs 0 0 (QI below (XWd D ad cs ts adK adV) av s r σ) (F0 m 8 ls []))  {x1 : Int32} {x2 : Int32} {x3 : Int32} {x4 : Int32} {x5 : Int32} {ls : Array Slot} {H : Heap} {locs : List Loc} (hw : Hw (XWd D ad cs ts adK adV) s σ H locs) (hl : lv_has ls 6 [(0, .ref (ad 1)), (1, .int x1), (2, .int x2), (3, .int x3), (4, .int x4), (5, .int x5)]) (hf : fX4_ownerOn_8b N σ k8 x1 x2 x3 x4 x5 = some r) : W p l e (RM 0 0) s m av below meth c H locs 0 0 (QI below (XWd D ad cs ts adK adV) av s r σ) (F0 m 8 ls []) := by
  unfold fX4_ownerOn_8b at hf
  refine lv_iload S.1 S.2.1 dX4_ownerOn_8 (lv_at hl 5 rfl) ?_
  refine lv_aload_n S.1 S.2.1 dX4_ownerOn_10 rfl (lv_at hl 0 rfl) ?_
  refine xg_Land_sales S hw kf_X4_52 dX4_ownerOn_11 ?_
  refine lv_icmp_ge (tgt := 74) S.1 S.2.1 dX4_ownerOn_14 (by decide) (fun hc => ?_) (fun hc => ?_)
  · have hf := itt hf hc
    refine lv_iload_n S.1 S.2.1 dX4_ownerOn_74 rfl (lv_at hl 3 rfl) ?_
    exact g_iret (XWd_ok D ad cs ts adK adV) S hr hlk hw dX4_ownerOn_75 (Option.some.inj hf) rfl
  · have hf := itf hf hc
    refine lv_aload_n S.1 S.2.1 dX4_ownerOn_17 rfl (lv_at hl 0 rfl) ?_
    refine xg_Land_salePlots S hw kf_X4_9 dX4_ownerOn_18 ?_
    refine lv_iload S.1 S.2.1 dX4_ownerOn_21 (lv_at hl 5 rfl) ?_
    obtain ⟨h1, hf⟩ := gd_ix hf
    refine g_iald S hw 12 0 xe_12 rfl h1 dX4_ownerOn_23 ?_
    refine lv_iload_n S.1 S.2.1 dX4_ownerOn_24 rfl (lv_at hl 1 rfl) ?_
    refine lv_icmp_ne (tgt := 68) S.1 S.2.1 dX4_ownerOn_25 (by decide) (fun hc => ?_) (fun hc => ?_)
    · have hf := itf hf hc
      exact wX4_ownerOn_68 S hr hlk hk8 hw (lv_sub hl [0, 1, 2, 3, 4, 5] rfl) hf
    · have hf := itt hf hc
      refine lv_aload_n S.1 S.2.1 dX4_ownerOn_28 rfl (lv_at hl 0 rfl) ?_
      refine xg_Land_saleDays S hw kf_X4_18 dX4_ownerOn_29 ?_
      refine lv_iload S.1 S.2.1 dX4_ownerOn_32 (lv_at hl 5 rfl) ?_
      obtain ⟨h2, hf⟩ := gd_ix hf
      refine g_iald S hw 14 0 xe_14 rfl h2 dX4_ownerOn_34 ?_
      refine lv_iload S.1 S.2.1 dX4_ownerOn_35 (lv_at hl 4 rfl) ?_
      refine lv_icmp_lt (tgt := 68) S.1 S.2.1 dX4_ownerOn_37 (by decide) (fun hc => ?_) (fun hc => ?_)
      · have hf := itt hf hc
        exact wX4_ownerOn_68 S hr hlk hk8 hw (lv_sub hl [0, 1, 2, 3, 4, 5] rfl) hf
      · have hf := itf hf hc
        refine lv_aload_n S.1 S.2.1 dX4_ownerOn_40 rfl (lv_at hl 0 rfl) ?_
        refine xg_Land_saleDays S hw kf_X4_18 dX4_ownerOn_41 ?_
        refine lv_iload S.1 S.2.1 dX4_ownerOn_44 (lv_at hl 5 rfl) ?_
        obtain ⟨h3, hf⟩ := gd_ix hf
        refine g_iald S hw 14 0 xe_14 rfl h3 dX4_ownerOn_46 ?_
        refine lv_iload_n S.1 S.2.1 dX4_ownerOn_47 rfl (lv_at hl 2 rfl) ?_
        refine lv_icmp_gt (tgt := 68) S.1 S.2.1 dX4_ownerOn_48 (by decide) (fun hc => ?_) (fun hc => ?_)
        · have hf := itt hf hc
          exact wX4_ownerOn_68 S hr hlk hk8 hw (lv_sub hl [0, 1, 2, 3, 4, 5] rfl) hf
        · have hf := itf hf hc
          refine lv_aload_n S.1 S.2.1 dX4_ownerOn_51 rfl (lv_at hl 0 rfl) ?_
          refine xg_Land_saleDays S hw kf_X4_18 dX4_ownerOn_52 ?_
          refine lv_iload S.1 S.2.1 dX4_ownerOn_55 (lv_at hl 5 rfl) ?_
          obtain ⟨h4, hf⟩ := gd_ix hf
          refine g_iald S hw 14 0 xe_14 rfl h4 dX4_ownerOn_57 ?_
          refine lv_topi (fun v5 e6 => ?_)
          have hf := nm_s e6 hf
          refine lv_istore (lv' := [(4, .int v5), (0, .ref (ad 1)), (1, .int x1), (2, .int x2), (3, .int x3), (5, .int x5)]) S.1 S.2.1 dX4_ownerOn_58 hl (by decide) rfl (fun ls hl => ?_)
          refine lv_aload_n S.1 S.2.1 dX4_ownerOn_60 rfl (lv_at hl 1 rfl) ?_
          refine xg_Land_saleOwners S hw kf_X4_15 dX4_ownerOn_61 ?_
          refine lv_iload S.1 S.2.1 dX4_ownerOn_64 (lv_at hl 5 rfl) ?_
          obtain ⟨h7, hf⟩ := gd_ix hf
          refine g_iald S hw 13 0 xe_13 rfl h7 dX4_ownerOn_66 ?_
          refine lv_topi (fun v8 e9 => ?_)
          have hf := nm_s e9 hf
          refine lv_istore_n (lv' := [(3, .int v8), (4, .int v5), (0, .ref (ad 1)), (1, .int x1), (2, .int x2), (5, .int x5)]) S.1 S.2.1 dX4_ownerOn_67 rfl hl (by decide) rfl (fun ls hl => ?_)
          exact wX4_ownerOn_68 S hr hlk hk8 hw (lv_sub hl [2, 3, 4, 0, 1, 5] rfl) hf
def fX4_ownerOn_8 (N : Nat) (σ : St) : Nat → Int32 → Int32 → Int32 → Int32 → Int32 → Option Int32
  | 0 => fun _ _ _ _ _ => none
  | n + 1 => fX4_ownerOn_8b N σ (fX4_ownerOn_8 N σ n)
theorem wX4_ownerOn_8 {r : Int32} {N : Nat} {σ : St} (S : CallFix p m c cX4_ownerOn 6 s av BG RX4) (hr : meth.sig.returnType = some .int) (hlk : meth.locks = false) : ∀ (n : Nat), ∀ (x1 : Int32) (x2 : Int32) (x3 : Int32) (x4 : Int32) (x5 : Int32) (ls : Array Slot) (H : Heap) (locs : List Loc), Hw (XWd D ad cs ts adK adV) s σ H locs → lv_has ls 6 [(0, .ref (ad 1)), (1, .int x1), (2, .int x2), (3, .int x3), (4, .int x4), (5, .int x5)] → fX4_ownerOn_8 N σ n x1 x2 x3 x4 x5 = some r → W p l e (RM 0 0) s m av below meth c H locs 0 0 (QI below (XWd D ad cs ts adK adV) av s r σ) (F0 m 8 ls []) := by
  intro n
  induction n with
  | zero => intro _ _ _ _ _ ls H locs hw hl hf; cases hf
  | succ n ih => intro _ _ _ _ _ ls H locs hw hl hf; exact wX4_ownerOn_8b S hr hlk ih hw hl hf
def fX4_ownerOn (N : Nat) (σ : St) (x1 : Int32) (x2 : Int32) : Option Int32 :=
  fX4_ownerOn_8 N σ N x1 x2 (0 : Int32) (0 : Int32) (0 : Int32)
set_option maxHeartbeats 2000000 in
set_option maxRecDepth 20000 in
theorem tX4_ownerOn {r : Int32} {N : Nat} {σ : St} {x1 : Int32} {x2 : Int32} (hf : fX4_ownerOn N σ x1 x2 = some r) : CI l (XWd D ad cs ts adK adV) yX4_ownerOn cX4_ownerOn 6 (some .int) 0 0 [.ref (ad 1), .int x1, .int x2] σ r σ := by
  refine CI.of (by decide) (Nat.le_of_ble_eq_true rfl) ?_
  intro p e s m below meth c ls S hr hlk hw hl
  have hl : lv_has ls 6 [(0, .ref (ad 1)), (1, .int x1), (2, .int x2)] := hl
  unfold fX4_ownerOn at hf
  refine lv_iconst (v := 0) S.1 S.2.1 dX4_ownerOn_0 (by decide) ?_
  refine lv_istore_n (lv' := [(3, .int (0 : Int32)), (0, .ref (ad 1)), (1, .int x1), (2, .int x2)]) S.1 S.2.1 dX4_ownerOn_1 rfl hl (by decide) rfl (fun ls hl => ?_)
  refine lv_iconst (v := 0) S.1 S.2.1 dX4_ownerOn_2 (by decide) ?_
  refine lv_istore (lv' := [(4, .int (0 : Int32)), (3, .int (0 : Int32)), (0, .ref (ad 1)), (1, .int x1), (2, .int x2)]) S.1 S.2.1 dX4_ownerOn_3 hl (by decide) rfl (fun ls hl => ?_)
  refine lv_iconst (v := 0) S.1 S.2.1 dX4_ownerOn_5 (by decide) ?_
  refine lv_istore (lv' := [(5, .int (0 : Int32)), (4, .int (0 : Int32)), (3, .int (0 : Int32)), (0, .ref (ad 1)), (1, .int x1), (2, .int x2)]) S.1 S.2.1 dX4_ownerOn_6 hl (by decide) rfl (fun ls hl => ?_)
  exact wX4_ownerOn_8 S hr hlk N x1 x2 (0 : Int32) (0 : Int32) (0 : Int32) _ _ _ hw (lv_sub hl [3, 4, 5, 2, 1, 0] rfl) hf
def fX11_owner (N : Nat) (σ : St) (x1 : Int32) (x2 : Int32) : Option Int32 :=
  if (fX11_isPlot x1) = 0 then (some (-2 : Int32)) else (if (fX11_isDay x2) = 0 then (some (-2 : Int32)) else (bd (fX4_ownerOn N σ x1 x2) fun r1 => some r1))
set_option maxHeartbeats 2000000 in
set_option maxRecDepth 20000 in
theorem tX11_owner {r : Int32} {N : Nat} {σ : St} {x1 : Int32} {x2 : Int32} (hf : fX11_owner N σ x1 x2 = some r) : CI l (XWd D ad cs ts adK adV) yX11_owner cX11_owner 3 (some .int) 2 42 [.ref (ad 0), .int x1, .int x2] σ r σ := by
  refine CI.of (by decide) (Nat.le_of_ble_eq_true rfl) ?_
  intro p e s m below meth c ls S hr hlk hw hl
  have hl : lv_has ls 3 [(0, .ref (ad 0)), (1, .int x1), (2, .int x2)] := hl
  unfold fX11_owner at hf
  refine lv_iload_n S.1 S.2.1 dX11_owner_0 rfl (lv_at hl 1 rfl) ?_
  refine g_Si (rest := []) (XWd_ok D ad cs ts adK adV) S hw (tX11_isPlot (ad := ad) (cs := cs) (ts := ts) (adK := adK) (adV := adV) (σ := σ) rfl) kt_X11_115 ⟨Nat.le_of_ble_eq_true rfl, Nat.le_of_ble_eq_true rfl⟩ rfl hl.1 rfl (Nat.le_of_ble_eq_true rfl) ⟨Nat.zero_le _, Nat.zero_le _⟩ dX11_owner_1 (fun H locs hw => ?_)
  refine lv_if_eq (tgt := 14) S.1 S.2.1 dX11_owner_4 (by decide) (fun hc => ?_) (fun hc => ?_)
  · have hf := itt hf hc
    refine lv_bipush (v := -2) S.1 S.2.1 dX11_owner_14 (by decide) ?_
    exact g_iret (XWd_ok D ad cs ts adK adV) S hr hlk hw dX11_owner_16 (Option.some.inj hf) rfl
  · have hf := itf hf hc
    refine lv_iload_n S.1 S.2.1 dX11_owner_7 rfl (lv_at hl 2 rfl) ?_
    refine g_Si (rest := []) (XWd_ok D ad cs ts adK adV) S hw (tX11_isDay (ad := ad) (cs := cs) (ts := ts) (adK := adK) (adV := adV) (σ := σ) rfl) kt_X11_132 ⟨Nat.le_of_ble_eq_true rfl, Nat.le_of_ble_eq_true rfl⟩ rfl hl.1 rfl (Nat.le_of_ble_eq_true rfl) ⟨Nat.zero_le _, Nat.zero_le _⟩ dX11_owner_8 (fun H locs hw => ?_)
    refine lv_if_ne (tgt := 17) S.1 S.2.1 dX11_owner_11 (by decide) (fun hc => ?_) (fun hc => ?_)
    · have hf := itf hf hc
      refine lv_aload_n S.1 S.2.1 dX11_owner_17 rfl (lv_at hl 0 rfl) ?_
      refine xg_WayLeaves_land S hw kf_X11_10 dX11_owner_18 ?_
      refine lv_iload_n S.1 S.2.1 dX11_owner_21 rfl (lv_at hl 1 rfl) ?_
      refine lv_iload_n S.1 S.2.1 dX11_owner_22 rfl (lv_at hl 2 rfl) ?_
      obtain ⟨r1, g2, hf⟩ := bd_s hf
      refine g_Vi (rest := []) (XWd_ok D ad cs ts adK adV) S hw (tX4_ownerOn g2) kt_X11_135 1 xe_1 rfl rfl ⟨Nat.le_of_ble_eq_true rfl, Nat.le_of_ble_eq_true rfl⟩ rfl hl.1 rfl (Nat.le_of_ble_eq_true rfl) ⟨Nat.zero_le _, Nat.zero_le _⟩ dX11_owner_23 (fun H locs hw => ?_)
      exact g_iret (XWd_ok D ad cs ts adK adV) S hr hlk hw dX11_owner_26 (Option.some.inj hf) rfl
    · have hf := itt hf hc
      refine lv_bipush (v := -2) S.1 S.2.1 dX11_owner_14 (by decide) ?_
      exact g_iret (XWd_ok D ad cs ts adK adV) S hr hlk hw dX11_owner_16 (Option.some.inj hf) rfl
def fX11_pass (N : Nat) (σ : St) (x1 : Int32) : Option (Int32 × St) :=
  if (fX11_within x1 (1 : Int32) (2000 : Int32)) = 0 then (some ((-2 : Int32), σ)) else (if ((σ.1 0) + x1) ≤ (9999 : Int32) then (nm (sI σ 0 ((σ.1 0) + x1)) fun σ1 => some ((σ1.1 0), σ1)) else (some ((-4 : Int32), σ)))
set_option maxHeartbeats 2000000 in
set_option maxRecDepth 20000 in
theorem tX11_pass {r : Int32} {σ' : St} {N : Nat} {σ : St} {x1 : Int32} (hf : fX11_pass N σ x1 = some (r, σ')) : CI l (XWd D ad cs ts adK adV) yX11_pass cX11_pass 2 (some .int) 1 22 [.ref (ad 0), .int x1] σ r σ' := by
  refine CI.of (by decide) (Nat.le_of_ble_eq_true rfl) ?_
  intro p e s m below meth c ls S hr hlk hw hl
  have hl : lv_has ls 2 [(0, .ref (ad 0)), (1, .int x1)] := hl
  unfold fX11_pass at hf
  refine lv_iload_n S.1 S.2.1 dX11_pass_0 rfl (lv_at hl 1 rfl) ?_
  refine lv_iconst (v := 1) S.1 S.2.1 dX11_pass_1 (by decide) ?_
  refine lv_sipush (v := 2000) S.1 S.2.1 dX11_pass_2 (by decide) ?_
  refine g_Si (rest := []) (XWd_ok D ad cs ts adK adV) S hw (tX11_within (ad := ad) (cs := cs) (ts := ts) (adK := adK) (adV := adV) (σ := σ) rfl) kt_X11_107 ⟨Nat.le_of_ble_eq_true rfl, Nat.le_of_ble_eq_true rfl⟩ rfl hl.1 rfl (Nat.le_of_ble_eq_true rfl) ⟨Nat.zero_le _, Nat.zero_le _⟩ dX11_pass_5 (fun H locs hw => ?_)
  refine lv_if_ne (tgt := 14) S.1 S.2.1 dX11_pass_8 (by decide) (fun hc => ?_) (fun hc => ?_)
  · have hf := itf hf hc
    refine lv_aload_n S.1 S.2.1 dX11_pass_14 rfl (lv_at hl 0 rfl) ?_
    refine xg_WayLeaves_land S hw kf_X11_10 dX11_pass_15 ?_
    refine xg_Land_day S hw kf_X11_111 dX11_pass_18 ?_
    refine lv_iload_n S.1 S.2.1 dX11_pass_21 rfl (lv_at hl 1 rfl) ?_
    refine lv_iadd S.1 S.2.1 dX11_pass_22 ?_
    refine lv_sipush (v := 9999) S.1 S.2.1 dX11_pass_23 (by decide) ?_
    refine lv_icmp_le (tgt := 32) S.1 S.2.1 dX11_pass_26 (by decide) (fun hc => ?_) (fun hc => ?_)
    · have hf := itt hf hc
      refine lv_aload_n S.1 S.2.1 dX11_pass_32 rfl (lv_at hl 0 rfl) ?_
      refine xg_WayLeaves_land S hw kf_X11_10 dX11_pass_33 ?_
      refine lv_dup S.1 S.2.1 dX11_pass_36 rfl ?_
      refine xg_Land_day S hw kf_X11_111 dX11_pass_37 ?_
      refine lv_iload_n S.1 S.2.1 dX11_pass_40 rfl (lv_at hl 1 rfl) ?_
      refine lv_iadd S.1 S.2.1 dX11_pass_41 ?_
      obtain ⟨σ1, e2⟩ : ∃ z : St, z = sI σ 0 ((σ.1 0) + x1) := ⟨_, rfl⟩
      have hf := nm_s e2 hf
      refine xp_Land_day S hw e2 kf_X11_111 dX11_pass_42 (fun H locs hw => ?_)
      refine lv_aload_n S.1 S.2.1 dX11_pass_45 rfl (lv_at hl 0 rfl) ?_
      refine xg_WayLeaves_land S hw kf_X11_10 dX11_pass_46 ?_
      refine xg_Land_day S hw kf_X11_111 dX11_pass_49 ?_
      exact g_iret (XWd_ok D ad cs ts adK adV) S hr hlk hw dX11_pass_52 (Prod.mk.inj (Option.some.inj hf)).1 (Prod.mk.inj (Option.some.inj hf)).2
    · have hf := itf hf hc
      refine lv_bipush (v := -4) S.1 S.2.1 dX11_pass_29 (by decide) ?_
      exact g_iret (XWd_ok D ad cs ts adK adV) S hr hlk hw dX11_pass_31 (Prod.mk.inj (Option.some.inj hf)).1 (Prod.mk.inj (Option.some.inj hf)).2
  · have hf := itt hf hc
    refine lv_bipush (v := -2) S.1 S.2.1 dX11_pass_11 (by decide) ?_
    exact g_iret (XWd_ok D ad cs ts adK adV) S hr hlk hw dX11_pass_13 (Prod.mk.inj (Option.some.inj hf)).1 (Prod.mk.inj (Option.some.inj hf)).2
def fX4_tell (N : Nat) (σ : St) (x1 : Int32) (x2 : Int32) (x3 : Int32) : Option (Int32 × St) :=
  if ix x2 4 = true then if ix x1 48 = true then nm (aR σ (17 + (x2).toNatClampNeg) x1) fun v3 => if ix x2 4 = true then if ix x1 48 = true then nm (aW σ (17 + (x2).toNatClampNeg) x1 x3) fun σ7 => some (v3, σ7) else none else none else none else none
set_option maxHeartbeats 2000000 in
set_option maxRecDepth 20000 in
theorem tX4_tell {r : Int32} {σ' : St} {N : Nat} {σ : St} {x1 : Int32} {x2 : Int32} {x3 : Int32} (hf : fX4_tell N σ x1 x2 x3 = some (r, σ')) : CI l (XWd D ad cs ts adK adV) yX4_tell cX4_tell 5 (some .int) 0 0 [.ref (ad 1), .int x1, .int x2, .int x3] σ r σ' := by
  refine CI.of (by decide) (Nat.le_of_ble_eq_true rfl) ?_
  intro p e s m below meth c ls S hr hlk hw hl
  have hl : lv_has ls 5 [(0, .ref (ad 1)), (1, .int x1), (2, .int x2), (3, .int x3)] := hl
  unfold fX4_tell at hf
  refine lv_aload_n S.1 S.2.1 dX4_tell_0 rfl (lv_at hl 0 rfl) ?_
  refine xg_Land_told S hw kf_X4_26 dX4_tell_1 ?_
  refine lv_iload_n S.1 S.2.1 dX4_tell_4 rfl (lv_at hl 2 rfl) ?_
  obtain ⟨h1, hf⟩ := gd_ix hf
  refine g_aald S hw 16 3 xe_16 rfl h1 dX4_tell_5 ?_
  refine lv_iload_n S.1 S.2.1 dX4_tell_6 rfl (lv_at hl 1 rfl) ?_
  obtain ⟨h2, hf⟩ := gd_ix hf
  refine g_iald S hw (17 + (x2).toNatClampNeg) 0 (x2_17 (vp_lt h1)) rfl h2 dX4_tell_7 ?_
  refine lv_topi (fun v3 e4 => ?_)
  have hf := nm_s e4 hf
  refine lv_istore (lv' := [(4, .int v3), (0, .ref (ad 1)), (1, .int x1), (2, .int x2), (3, .int x3)]) S.1 S.2.1 dX4_tell_8 hl (by decide) rfl (fun ls hl => ?_)
  refine lv_aload_n S.1 S.2.1 dX4_tell_10 rfl (lv_at hl 1 rfl) ?_
  refine xg_Land_told S hw kf_X4_26 dX4_tell_11 ?_
  refine lv_iload_n S.1 S.2.1 dX4_tell_14 rfl (lv_at hl 3 rfl) ?_
  obtain ⟨h5, hf⟩ := gd_ix hf
  refine g_aald S hw 16 3 xe_16 rfl h5 dX4_tell_15 ?_
  refine lv_iload_n S.1 S.2.1 dX4_tell_16 rfl (lv_at hl 2 rfl) ?_
  refine lv_iload_n S.1 S.2.1 dX4_tell_17 rfl (lv_at hl 4 rfl) ?_
  obtain ⟨h6, hf⟩ := gd_ix hf
  obtain ⟨σ7, e8⟩ : ∃ z : St, z = aW σ (17 + (x2).toNatClampNeg) x1 x3 := ⟨_, rfl⟩
  have hf := nm_s e8 hf
  refine g_iast (σ' := σ7) S hw (17 + (x2).toNatClampNeg) 0 (x2_17 (vp_lt h5)) rfl (by rw [e8]; exact xt_17 (vp_lt h5) _) h6 dX4_tell_18 (fun H locs hw => ?_)
  refine lv_iload S.1 S.2.1 dX4_tell_19 (lv_at hl 0 rfl) ?_
  exact g_iret (XWd_ok D ad cs ts adK adV) S hr hlk hw dX4_tell_21 (Prod.mk.inj (Option.some.inj hf)).1 (Prod.mk.inj (Option.some.inj hf)).2
def fX11_set (N : Nat) (σ : St) (x1 : Int32) (x2 : Int32) (x3 : Int32) : Option (Int32 × St) :=
  if (fX11_isPlot x1) = 0 then (some ((-2 : Int32), σ)) else (if (fX11_within x2 (0 : Int32) (3 : Int32)) = 0 then (some ((-2 : Int32), σ)) else (if ix x2 4 = true then if ix x2 4 = true then if (fX11_within x3 (stT 0 (x2).toNatClampNeg) (stT 1 (x2).toNatClampNeg)) = 0 then (some ((-2 : Int32), σ)) else (bd2 (fX4_tell N σ x1 x2 x3) fun r5 σ3 => some (r5, σ3)) else none else none))
set_option maxHeartbeats 2000000 in
set_option maxRecDepth 20000 in
theorem tX11_set {r : Int32} {σ' : St} {N : Nat} {σ : St} {x1 : Int32} {x2 : Int32} {x3 : Int32} (hf : fX11_set N σ x1 x2 x3 = some (r, σ')) : CI l (XWd D ad cs ts adK adV) yX11_set cX11_set 4 (some .int) 2 42 [.ref (ad 0), .int x1, .int x2, .int x3] σ r σ' := by
  refine CI.of (by decide) (Nat.le_of_ble_eq_true rfl) ?_
  intro p e s m below meth c ls S hr hlk hw hl
  have hl : lv_has ls 4 [(0, .ref (ad 0)), (1, .int x1), (2, .int x2), (3, .int x3)] := hl
  unfold fX11_set at hf
  refine lv_iload_n S.1 S.2.1 dX11_set_0 rfl (lv_at hl 1 rfl) ?_
  refine g_Si (rest := []) (XWd_ok D ad cs ts adK adV) S hw (tX11_isPlot (ad := ad) (cs := cs) (ts := ts) (adK := adK) (adV := adV) (σ := σ) rfl) kt_X11_115 ⟨Nat.le_of_ble_eq_true rfl, Nat.le_of_ble_eq_true rfl⟩ rfl hl.1 rfl (Nat.le_of_ble_eq_true rfl) ⟨Nat.zero_le _, Nat.zero_le _⟩ dX11_set_1 (fun H locs hw => ?_)
  refine lv_if_eq (tgt := 16) S.1 S.2.1 dX11_set_4 (by decide) (fun hc => ?_) (fun hc => ?_)
  · have hf := itt hf hc
    refine lv_bipush (v := -2) S.1 S.2.1 dX11_set_16 (by decide) ?_
    exact g_iret (XWd_ok D ad cs ts adK adV) S hr hlk hw dX11_set_18 (Prod.mk.inj (Option.some.inj hf)).1 (Prod.mk.inj (Option.some.inj hf)).2
  · have hf := itf hf hc
    refine lv_iload_n S.1 S.2.1 dX11_set_7 rfl (lv_at hl 2 rfl) ?_
    refine lv_iconst (v := 0) S.1 S.2.1 dX11_set_8 (by decide) ?_
    refine lv_iconst (v := 3) S.1 S.2.1 dX11_set_9 (by decide) ?_
    refine g_Si (rest := []) (XWd_ok D ad cs ts adK adV) S hw (tX11_within (ad := ad) (cs := cs) (ts := ts) (adK := adK) (adV := adV) (σ := σ) rfl) kt_X11_107 ⟨Nat.le_of_ble_eq_true rfl, Nat.le_of_ble_eq_true rfl⟩ rfl hl.1 rfl (Nat.le_of_ble_eq_true rfl) ⟨Nat.zero_le _, Nat.zero_le _⟩ dX11_set_10 (fun H locs hw => ?_)
    refine lv_if_ne (tgt := 19) S.1 S.2.1 dX11_set_13 (by decide) (fun hc => ?_) (fun hc => ?_)
    · have hf := itf hf hc
      refine lv_iload_n S.1 S.2.1 dX11_set_19 rfl (lv_at hl 3 rfl) ?_
      refine x_gs S hw 0 (by decide) kf_X11_142 dX11_set_20 ?_
      refine lv_iload_n S.1 S.2.1 dX11_set_23 rfl (lv_at hl 2 rfl) ?_
      obtain ⟨h1, hf⟩ := gd_ix hf
      refine x_ti S hw 0 (by decide) h1 dX11_set_24 ?_
      refine x_gs S hw 1 (by decide) kf_X11_146 dX11_set_25 ?_
      refine lv_iload_n S.1 S.2.1 dX11_set_28 rfl (lv_at hl 2 rfl) ?_
      obtain ⟨h2, hf⟩ := gd_ix hf
      refine x_ti S hw 1 (by decide) h2 dX11_set_29 ?_
      refine g_Si (rest := []) (XWd_ok D ad cs ts adK adV) S hw (tX11_within (ad := ad) (cs := cs) (ts := ts) (adK := adK) (adV := adV) (σ := σ) rfl) kt_X11_107 ⟨Nat.le_of_ble_eq_true rfl, Nat.le_of_ble_eq_true rfl⟩ rfl hl.1 rfl (Nat.le_of_ble_eq_true rfl) ⟨Nat.zero_le _, Nat.zero_le _⟩ dX11_set_30 (fun H locs hw => ?_)
      refine lv_if_ne (tgt := 39) S.1 S.2.1 dX11_set_33 (by decide) (fun hc => ?_) (fun hc => ?_)
      · have hf := itf hf hc
        refine lv_aload_n S.1 S.2.1 dX11_set_39 rfl (lv_at hl 0 rfl) ?_
        refine xg_WayLeaves_land S hw kf_X11_10 dX11_set_40 ?_
        refine lv_iload_n S.1 S.2.1 dX11_set_43 rfl (lv_at hl 1 rfl) ?_
        refine lv_iload_n S.1 S.2.1 dX11_set_44 rfl (lv_at hl 2 rfl) ?_
        refine lv_iload_n S.1 S.2.1 dX11_set_45 rfl (lv_at hl 3 rfl) ?_
        obtain ⟨r5, σ3, g4, hf⟩ := bd2_s hf
        refine g_Vi (rest := []) (XWd_ok D ad cs ts adK adV) S hw (tX4_tell g4) kt_X11_149 1 xe_1 rfl rfl ⟨Nat.le_of_ble_eq_true rfl, Nat.le_of_ble_eq_true rfl⟩ rfl hl.1 rfl (Nat.le_of_ble_eq_true rfl) ⟨Nat.zero_le _, Nat.zero_le _⟩ dX11_set_46 (fun H locs hw => ?_)
        exact g_iret (XWd_ok D ad cs ts adK adV) S hr hlk hw dX11_set_49 (Prod.mk.inj (Option.some.inj hf)).1 (Prod.mk.inj (Option.some.inj hf)).2
      · have hf := itt hf hc
        refine lv_bipush (v := -2) S.1 S.2.1 dX11_set_36 (by decide) ?_
        exact g_iret (XWd_ok D ad cs ts adK adV) S hr hlk hw dX11_set_38 (Prod.mk.inj (Option.some.inj hf)).1 (Prod.mk.inj (Option.some.inj hf)).2
    · have hf := itt hf hc
      refine lv_bipush (v := -2) S.1 S.2.1 dX11_set_16 (by decide) ?_
      exact g_iret (XWd_ok D ad cs ts adK adV) S hr hlk hw dX11_set_18 (Prod.mk.inj (Option.some.inj hf)).1 (Prod.mk.inj (Option.some.inj hf)).2
end METH
