/-! METHODS (printed by wip/whole/emit.py) -/
section METH
variable {p : Program} {l : Launch} {e : Env} {s : State} {m : MethodId} {av : Array Value} {below : List Frame} {meth : Method} {c : Code} {D : va_G} {ad : Nat → Nat} {cs : Nat → ClassId} {ts adK adV : Nat → Nat}
def fX3_comesTo_5b (N : Nat) (σ : St) (k5 : Int32 → Int64 → Int32 → Option Int64) (x1 : Int32) (x2 : Int64) (x4 : Int32) : Option Int64 :=
  if (10 : Int32) ≤ x4 then (some x2) else (bd (fX3_part N σ x4 x1) fun r1 => nm (x2 + r1) fun v3 => nm (x4 + (1 : Int32)) fun v5 => k5 x1 v3 v5)
set_option maxHeartbeats 2000000 in
set_option maxRecDepth 20000 in
theorem wX3_comesTo_5b {r : Int64} {N : Nat} {σ : St} (S : CallFix p m c cX3_comesTo 5 s av BG RX3) (hr : meth.sig.returnType = some .long) (hlk : meth.locks = false) {k5 : Int32 → Int64 → Int32 → Option Int64} (hk5 : ∀ (x1 : Int32) (x2 : Int64) (x4 : Int32) (ls : Array Slot) (H : Heap) (locs : List Loc), Hw (XWd D ad cs ts adK adV) s σ H locs → lv_has ls 5 [(0, .ref (ad 2)), (1, .int x1), (2, .long x2), (4, .int x4)] → k5 x1 x2 x4 = some r → W p l e (RM 1 28) s m av below meth c H locs 0 0 (QJ below (XWd D ad cs ts adK adV) av s r σ) (F0 m 5 ls []))  {x1 : Int32} {x2 : Int64} {x4 : Int32} {ls : Array Slot} {H : Heap} {locs : List Loc} (hw : Hw (XWd D ad cs ts adK adV) s σ H locs) (hl : lv_has ls 5 [(0, .ref (ad 2)), (1, .int x1), (2, .long x2), (4, .int x4)]) (hf : fX3_comesTo_5b N σ k5 x1 x2 x4 = some r) : W p l e (RM 1 28) s m av below meth c H locs 0 0 (QJ below (XWd D ad cs ts adK adV) av s r σ) (F0 m 5 ls []) := by
  unfold fX3_comesTo_5b at hf
  refine lv_iload S.1 S.2.1 dX3_comesTo_5 (lv_at hl 3 rfl) ?_
  refine lv_bipush (v := 10) S.1 S.2.1 dX3_comesTo_7 (by decide) ?_
  refine lv_icmp_ge (tgt := 28) S.1 S.2.1 dX3_comesTo_9 (by decide) (fun hc => ?_) (fun hc => ?_)
  · have hf := itt hf hc
    refine lv_lload_n S.1 S.2.1 dX3_comesTo_28 rfl (lv_at hl 2 rfl) ?_
    exact g_jret (XWd_ok D ad cs ts adK adV) S hr hlk hw dX3_comesTo_29 (Option.some.inj hf) rfl
  · have hf := itf hf hc
    refine lv_lload_n S.1 S.2.1 dX3_comesTo_12 rfl (lv_at hl 2 rfl) ?_
    refine lv_aload_n S.1 S.2.1 dX3_comesTo_13 rfl (lv_at hl 0 rfl) ?_
    refine lv_iload S.1 S.2.1 dX3_comesTo_14 (lv_at hl 3 rfl) ?_
    refine lv_iload_n S.1 S.2.1 dX3_comesTo_16 rfl (lv_at hl 1 rfl) ?_
    obtain ⟨r1, g2, hf⟩ := bd_s hf
    refine g_Vj (rest := [.long x2]) (XWd_ok D ad cs ts adK adV) S hw (tX3_part g2) kt_X3_26 2 xe_2 rfl rfl ⟨Nat.le_of_ble_eq_true rfl, Nat.le_of_ble_eq_true rfl⟩ rfl hl.1 rfl (Nat.le_of_ble_eq_true rfl) ⟨Nat.zero_le _, Nat.zero_le _⟩ dX3_comesTo_17 (fun H locs hw => ?_)
    refine lv_ladd S.1 S.2.1 dX3_comesTo_20 ?_
    refine lv_topl (fun v3 e4 => ?_)
    have hf := nm_s e4 hf
    refine lv_lstore_n (lv' := [(2, .long v3), (0, .ref (ad 2)), (1, .int x1), (4, .int x4)]) S.1 S.2.1 dX3_comesTo_21 rfl hl (by decide) rfl (fun ls hl => ?_)
    obtain ⟨v5, e6⟩ : ∃ z : Int32, z = x4 + (1 : Int32) := ⟨_, rfl⟩
    have hf := nm_s e6 hf
    refine lv_iinc (v := v5) (lv' := [(4, .int v5), (2, .long v3), (0, .ref (ad 2)), (1, .int x1)]) S.1 S.2.1 dX3_comesTo_22 hl (k := 3) rfl (by rw [e6]; rfl) (by decide) rfl (fun ls hl => ?_)
    refine lv_goto (tgt := 5) S.1 S.2.1 dX3_comesTo_25 (by decide) ?_
    exact hk5 x1 v3 v5 _ _ _ hw (lv_sub hl [2, 3, 1, 0] rfl) hf
def fX3_comesTo_5 (N : Nat) (σ : St) : Nat → Int32 → Int64 → Int32 → Option Int64
  | 0 => fun _ _ _ => none
  | n + 1 => fX3_comesTo_5b N σ (fX3_comesTo_5 N σ n)
theorem wX3_comesTo_5 {r : Int64} {N : Nat} {σ : St} (S : CallFix p m c cX3_comesTo 5 s av BG RX3) (hr : meth.sig.returnType = some .long) (hlk : meth.locks = false) : ∀ (n : Nat), ∀ (x1 : Int32) (x2 : Int64) (x4 : Int32) (ls : Array Slot) (H : Heap) (locs : List Loc), Hw (XWd D ad cs ts adK adV) s σ H locs → lv_has ls 5 [(0, .ref (ad 2)), (1, .int x1), (2, .long x2), (4, .int x4)] → fX3_comesTo_5 N σ n x1 x2 x4 = some r → W p l e (RM 1 28) s m av below meth c H locs 0 0 (QJ below (XWd D ad cs ts adK adV) av s r σ) (F0 m 5 ls []) := by
  intro n
  induction n with
  | zero => intro _ _ _ ls H locs hw hl hf; cases hf
  | succ n ih => intro _ _ _ ls H locs hw hl hf; exact wX3_comesTo_5b S hr hlk ih hw hl hf
def fX3_comesTo (N : Nat) (σ : St) (x1 : Int32) : Option Int64 :=
  fX3_comesTo_5 N σ N x1 (0 : Int64) (0 : Int32)
set_option maxHeartbeats 2000000 in
set_option maxRecDepth 20000 in
theorem tX3_comesTo {r : Int64} {N : Nat} {σ : St} {x1 : Int32} (hf : fX3_comesTo N σ x1 = some r) : CJ l (XWd D ad cs ts adK adV) yX3_comesTo cX3_comesTo 5 (some .long) 1 28 [.ref (ad 2), .int x1] σ r σ := by
  refine CJ.of (by decide) (Nat.le_of_ble_eq_true rfl) ?_
  intro p e s m below meth c ls S hr hlk hw hl
  have hl : lv_has ls 5 [(0, .ref (ad 2)), (1, .int x1)] := hl
  unfold fX3_comesTo at hf
  refine lv_lconst (v := 0) S.1 S.2.1 dX3_comesTo_0 (by decide) ?_
  refine lv_lstore_n (lv' := [(2, .long (0 : Int64)), (0, .ref (ad 2)), (1, .int x1)]) S.1 S.2.1 dX3_comesTo_1 rfl hl (by decide) rfl (fun ls hl => ?_)
  refine lv_iconst (v := 0) S.1 S.2.1 dX3_comesTo_2 (by decide) ?_
  refine lv_istore (lv' := [(4, .int (0 : Int32)), (2, .long (0 : Int64)), (0, .ref (ad 2)), (1, .int x1)]) S.1 S.2.1 dX3_comesTo_3 hl (by decide) rfl (fun ls hl => ?_)
  exact wX3_comesTo_5 S hr hlk N x1 (0 : Int64) (0 : Int32) _ _ _ hw (lv_sub hl [2, 3, 1, 0] rfl) hf
def fX3_emptyTill (N : Nat) (σ : St) : Option St :=
  nm (sJ σ 35 (flJ (σ.2.2 35) 10 (0 : Int64))) fun σ1 => some σ1
set_option maxHeartbeats 2000000 in
set_option maxRecDepth 20000 in
theorem tX3_emptyTill {σ' : St} {N : Nat} {σ : St} (hf : fX3_emptyTill N σ = some σ') : CV l (XWd D ad cs ts adK adV) yX3_emptyTill cX3_emptyTill 1 1 24 [.ref (ad 2)] σ σ' := by
  refine CV.of (by decide) (Nat.le_of_ble_eq_true rfl) ?_
  intro p e s m below meth c ls S hr hlk hw hl
  have hl : lv_has ls 1 [(0, .ref (ad 2))] := hl
  unfold fX3_emptyTill at hf
  refine lv_aload_n S.1 S.2.1 dX3_emptyTill_0 rfl (lv_at hl 0 rfl) ?_
  refine xg_Heirs_till S hw kf_X3_16 dX3_emptyTill_1 ?_
  refine lv_lconst (v := 0) S.1 S.2.1 dX3_emptyTill_4 (by decide) ?_
  obtain ⟨σ1, e2⟩ : ∃ z : St, z = sJ σ 35 (flJ (σ.2.2 35) 10 (0 : Int64)) := ⟨_, rfl⟩
  have hf := nm_s e2 hf
  refine g_Sv (σ' := σ1) (rest := []) (XWd_ok D ad cs ts adK adV) S hw (by rw [e2]; exact tfillJ (b := ad 35) (XWd_ok D ad cs ts adK adV) 35 (fun f => rfl) (fun f g => rfl) rfl (by decide)) kt_X3_20 ⟨Nat.le_of_ble_eq_true rfl, Nat.le_of_ble_eq_true rfl⟩ rfl hl.1 rfl (Nat.le_of_ble_eq_true rfl) ⟨Nat.zero_le _, Nat.zero_le _⟩ dX3_emptyTill_5 (fun H locs hw => ?_)
  exact g_vret (XWd_ok D ad cs ts adK adV) S hr hlk hw dX3_emptyTill_8 (Option.some.inj hf)
def fX3_pay (N : Nat) (σ : St) (x1 : Int32) (x2 : Int64) : Option St :=
  if ix x1 10 = true then if ix x1 10 = true then nm (jW σ 35 x1 ((jR σ 35 x1) + x2)) fun σ3 => some σ3 else none else none
set_option maxHeartbeats 2000000 in
set_option maxRecDepth 20000 in
theorem tX3_pay {σ' : St} {N : Nat} {σ : St} {x1 : Int32} {x2 : Int64} (hf : fX3_pay N σ x1 x2 = some σ') : CV l (XWd D ad cs ts adK adV) yX3_pay cX3_pay 4 0 0 [.ref (ad 2), .int x1, .long x2] σ σ' := by
  refine CV.of (by decide) (Nat.le_of_ble_eq_true rfl) ?_
  intro p e s m below meth c ls S hr hlk hw hl
  have hl : lv_has ls 4 [(0, .ref (ad 2)), (1, .int x1), (2, .long x2)] := hl
  unfold fX3_pay at hf
  refine lv_aload_n S.1 S.2.1 dX3_pay_0 rfl (lv_at hl 0 rfl) ?_
  refine xg_Heirs_till S hw kf_X3_16 dX3_pay_1 ?_
  refine lv_iload_n S.1 S.2.1 dX3_pay_4 rfl (lv_at hl 1 rfl) ?_
  refine lv_dup2_11 S.1 S.2.1 dX3_pay_5 rfl rfl ?_
  obtain ⟨h1, hf⟩ := gd_ix hf
  refine g_lald S hw 35 1 xe_35 rfl h1 dX3_pay_6 ?_
  refine lv_lload_n S.1 S.2.1 dX3_pay_7 rfl (lv_at hl 2 rfl) ?_
  refine lv_ladd S.1 S.2.1 dX3_pay_8 ?_
  obtain ⟨h2, hf⟩ := gd_ix hf
  obtain ⟨σ3, e4⟩ : ∃ z : St, z = jW σ 35 x1 ((jR σ 35 x1) + x2) := ⟨_, rfl⟩
  have hf := nm_s e4 hf
  refine g_last (σ' := σ3) S hw 35 1 xe_35 rfl (by rw [e4]; exact xs_35 _) h2 dX3_pay_9 (fun H locs hw => ?_)
  exact g_vret (XWd_ok D ad cs ts adK adV) S hr hlk hw dX3_pay_10 (Option.some.inj hf)
def fX2_dueTo_103 (N : Nat) (k9 : St → Int32 → Int32 → Option (Int64 × St)) (σ : St) (x1 : Int32) (x2 : Int32) : Option (Int64 × St) :=
  nm (x2 + (1 : Int32)) fun v17 => k9 σ x1 v17
set_option maxHeartbeats 2000000 in
set_option maxRecDepth 20000 in
theorem wX2_dueTo_103 {r : Int64} {σ' : St} {N : Nat} (S : CallFix p m c cX2_dueTo 4 s av BG RX2) (hr : meth.sig.returnType = some .long) (hlk : meth.locks = false) {k9 : St → Int32 → Int32 → Option (Int64 × St)} (hk9 : ∀ (σ : St) (x1 : Int32) (x2 : Int32) (ls : Array Slot) (H : Heap) (locs : List Loc), Hw (XWd D ad cs ts adK adV) s σ H locs → lv_has ls 4 [(0, .ref (ad 7)), (1, .int x1), (2, .int x2)] → k9 σ x1 x2 = some (r, σ') → W p l e (RM 5 115) s m av below meth c H locs 0 0 (QJ below (XWd D ad cs ts adK adV) av s r σ') (F0 m 9 ls []))  {σ : St} {x1 : Int32} {x2 : Int32} {ls : Array Slot} {H : Heap} {locs : List Loc} (hw : Hw (XWd D ad cs ts adK adV) s σ H locs) (hl : lv_has ls 4 [(0, .ref (ad 7)), (1, .int x1), (2, .int x2)]) (hf : fX2_dueTo_103 N k9 σ x1 x2 = some (r, σ')) : W p l e (RM 5 115) s m av below meth c H locs 0 0 (QJ below (XWd D ad cs ts adK adV) av s r σ') (F0 m 103 ls []) := by
  unfold fX2_dueTo_103 at hf
  obtain ⟨v17, e18⟩ : ∃ z : Int32, z = x2 + (1 : Int32) := ⟨_, rfl⟩
  have hf := nm_s e18 hf
  refine lv_iinc (v := v17) (lv' := [(2, .int v17), (0, .ref (ad 7)), (1, .int x1)]) S.1 S.2.1 dX2_dueTo_103 hl (k := 2) rfl (by rw [e18]; rfl) (by decide) rfl (fun ls hl => ?_)
  refine lv_goto (tgt := 9) S.1 S.2.1 dX2_dueTo_106 (by decide) ?_
  exact hk9 σ x1 v17 _ _ _ hw (lv_sub hl [1, 2, 0] rfl) hf
def fX2_dueTo_57 (N : Nat) (k9 : St → Int32 → Int32 → Option (Int64 × St)) (σ : St) (x1 : Int32) (x2 : Int32) (y0 : Int32) : Option (Int64 × St) :=
  if y0 = 0 then (fX2_dueTo_103 N k9 σ x1 x2) else (if ix x2 30 = true then if ix x2 30 = true then if ix x2 30 = true then bd2 (fX0_comesTo N σ (aR σ 67 x2) (1 : Int32)) fun r14 σ12 => bd (fX3_pay N σ12 (aR σ 66 x2) ((if (0 : Int32) < (if r14 < (aR σ 68 x2) then r14 else (aR σ 68 x2)) then (if r14 < (aR σ 68 x2) then r14 else (aR σ 68 x2)) else (0 : Int32))).toInt64) fun σ15 => fX2_dueTo_103 N k9 σ15 x1 x2 else none else none else none)
set_option maxHeartbeats 2000000 in
set_option maxRecDepth 20000 in
theorem wX2_dueTo_57 {r : Int64} {σ' : St} {N : Nat} (S : CallFix p m c cX2_dueTo 4 s av BG RX2) (hr : meth.sig.returnType = some .long) (hlk : meth.locks = false) {k9 : St → Int32 → Int32 → Option (Int64 × St)} (hk9 : ∀ (σ : St) (x1 : Int32) (x2 : Int32) (ls : Array Slot) (H : Heap) (locs : List Loc), Hw (XWd D ad cs ts adK adV) s σ H locs → lv_has ls 4 [(0, .ref (ad 7)), (1, .int x1), (2, .int x2)] → k9 σ x1 x2 = some (r, σ') → W p l e (RM 5 115) s m av below meth c H locs 0 0 (QJ below (XWd D ad cs ts adK adV) av s r σ') (F0 m 9 ls []))  {σ : St} {x1 : Int32} {x2 : Int32} {y0 : Int32} {ls : Array Slot} {H : Heap} {locs : List Loc} (hw : Hw (XWd D ad cs ts adK adV) s σ H locs) (hl : lv_has ls 4 [(0, .ref (ad 7)), (1, .int x1), (2, .int x2)]) (hf : fX2_dueTo_57 N k9 σ x1 x2 y0 = some (r, σ')) : W p l e (RM 5 115) s m av below meth c H locs 0 0 (QJ below (XWd D ad cs ts adK adV) av s r σ') (F0 m 57 ls [.int y0]) := by
  unfold fX2_dueTo_57 at hf
  refine lv_istore_n (lv' := [(3, .int y0), (0, .ref (ad 7)), (1, .int x1), (2, .int x2)]) S.1 S.2.1 dX2_dueTo_57 rfl hl (by decide) rfl (fun ls hl => ?_)
  refine lv_iload_n S.1 S.2.1 dX2_dueTo_58 rfl (lv_at hl 0 rfl) ?_
  refine lv_if_eq (tgt := 103) S.1 S.2.1 dX2_dueTo_59 (by decide) (fun hc => ?_) (fun hc => ?_)
  · have hf := itt hf hc
    exact wX2_dueTo_103 S hr hlk hk9 hw (lv_sub hl [1, 2, 3] rfl) hf
  · have hf := itf hf hc
    refine lv_aload_n S.1 S.2.1 dX2_dueTo_62 rfl (lv_at hl 1 rfl) ?_
    refine xg_Claims_heirs S hw kf_X2_33 dX2_dueTo_63 ?_
    refine lv_aload_n S.1 S.2.1 dX2_dueTo_66 rfl (lv_at hl 1 rfl) ?_
    refine xg_Claims_owners S hw kf_X2_9 dX2_dueTo_67 ?_
    refine lv_iload_n S.1 S.2.1 dX2_dueTo_70 rfl (lv_at hl 3 rfl) ?_
    obtain ⟨h9, hf⟩ := gd_ix hf
    refine g_iald S hw 66 0 xe_66 rfl h9 dX2_dueTo_71 ?_
    refine lv_iconst (v := 0) S.1 S.2.1 dX2_dueTo_72 (by decide) ?_
    refine lv_aload_n S.1 S.2.1 dX2_dueTo_73 rfl (lv_at hl 1 rfl) ?_
    refine xg_Claims_sums S hw kf_X2_18 dX2_dueTo_74 ?_
    refine lv_iload_n S.1 S.2.1 dX2_dueTo_77 rfl (lv_at hl 3 rfl) ?_
    obtain ⟨h10, hf⟩ := gd_ix hf
    refine g_iald S hw 68 0 xe_68 rfl h10 dX2_dueTo_78 ?_
    refine lv_aload_n S.1 S.2.1 dX2_dueTo_79 rfl (lv_at hl 1 rfl) ?_
    refine xg_Claims_acts S hw kf_X2_29 dX2_dueTo_80 ?_
    refine lv_aload_n S.1 S.2.1 dX2_dueTo_83 rfl (lv_at hl 1 rfl) ?_
    refine xg_Claims_spans S hw kf_X2_15 dX2_dueTo_84 ?_
    refine lv_iload_n S.1 S.2.1 dX2_dueTo_87 rfl (lv_at hl 3 rfl) ?_
    obtain ⟨h11, hf⟩ := gd_ix hf
    refine g_iald S hw 67 0 xe_67 rfl h11 dX2_dueTo_88 ?_
    refine lv_iconst (v := 1) S.1 S.2.1 dX2_dueTo_89 (by decide) ?_
    obtain ⟨r14, σ12, g13, hf⟩ := bd2_s hf
    refine g_Vi (rest := [.int (aR σ 68 x2), .int (0 : Int32), .int (aR σ 66 x2), .ref (ad 2)]) (XWd_ok D ad cs ts adK adV) S hw (tX0_comesTo g13) kt_X2_64 6 xe_6 rfl rfl ⟨Nat.le_of_ble_eq_true rfl, Nat.le_of_ble_eq_true rfl⟩ rfl hl.1 rfl (Nat.le_of_ble_eq_true rfl) ⟨Nat.zero_le _, Nat.zero_le _⟩ dX2_dueTo_90 (fun H locs hw => ?_)
    refine g_mmin S hl.1 kt_X2_69 (Nat.le_of_ble_eq_true rfl) (Nat.le_of_ble_eq_true rfl) (Nat.zero_le _) (Nat.zero_le _) dX2_dueTo_93 ?_
    refine g_mmax S hl.1 kt_X2_74 (Nat.le_of_ble_eq_true rfl) (Nat.le_of_ble_eq_true rfl) (Nat.zero_le _) (Nat.zero_le _) dX2_dueTo_96 ?_
    refine lv_i2l S.1 S.2.1 dX2_dueTo_99 rfl ?_
    obtain ⟨σ15, g16, hf⟩ := bd_s hf
    refine g_Vv (rest := []) (XWd_ok D ad cs ts adK adV) S hw (tX3_pay g16) kt_X2_77 2 xe_2 rfl rfl ⟨Nat.le_of_ble_eq_true rfl, Nat.le_of_ble_eq_true rfl⟩ rfl hl.1 rfl (Nat.le_of_ble_eq_true rfl) ⟨Nat.zero_le _, Nat.zero_le _⟩ dX2_dueTo_100 (fun H locs hw => ?_)
    exact wX2_dueTo_103 S hr hlk hk9 hw (lv_sub hl [1, 2, 3] rfl) hf
def fX2_dueTo_56 (N : Nat) (k9 : St → Int32 → Int32 → Option (Int64 × St)) (σ : St) (x1 : Int32) (x2 : Int32) : Option (Int64 × St) :=
  fX2_dueTo_57 N k9 σ x1 x2 (0 : Int32)
set_option maxHeartbeats 2000000 in
set_option maxRecDepth 20000 in
theorem wX2_dueTo_56 {r : Int64} {σ' : St} {N : Nat} (S : CallFix p m c cX2_dueTo 4 s av BG RX2) (hr : meth.sig.returnType = some .long) (hlk : meth.locks = false) {k9 : St → Int32 → Int32 → Option (Int64 × St)} (hk9 : ∀ (σ : St) (x1 : Int32) (x2 : Int32) (ls : Array Slot) (H : Heap) (locs : List Loc), Hw (XWd D ad cs ts adK adV) s σ H locs → lv_has ls 4 [(0, .ref (ad 7)), (1, .int x1), (2, .int x2)] → k9 σ x1 x2 = some (r, σ') → W p l e (RM 5 115) s m av below meth c H locs 0 0 (QJ below (XWd D ad cs ts adK adV) av s r σ') (F0 m 9 ls []))  {σ : St} {x1 : Int32} {x2 : Int32} {ls : Array Slot} {H : Heap} {locs : List Loc} (hw : Hw (XWd D ad cs ts adK adV) s σ H locs) (hl : lv_has ls 4 [(0, .ref (ad 7)), (1, .int x1), (2, .int x2)]) (hf : fX2_dueTo_56 N k9 σ x1 x2 = some (r, σ')) : W p l e (RM 5 115) s m av below meth c H locs 0 0 (QJ below (XWd D ad cs ts adK adV) av s r σ') (F0 m 56 ls []) := by
  unfold fX2_dueTo_56 at hf
  refine lv_iconst (v := 0) S.1 S.2.1 dX2_dueTo_56 (by decide) ?_
  exact wX2_dueTo_57 S hr hlk hk9 hw (lv_sub hl [0, 1, 2] rfl) hf
def fX2_dueTo_9b (N : Nat) (k9 : St → Int32 → Int32 → Option (Int64 × St)) (σ : St) (x1 : Int32) (x2 : Int32) : Option (Int64 × St) :=
  if (σ.1 13) ≤ x2 then (bd (fX3_comesTo N σ x1) fun r3 => some (r3, σ)) else (if (((σ.1 14) >>> (x2 &&& 31)) &&& (1 : Int32)) = 0 then (if ix x2 30 = true then bd2 (fX5_hasOn N σ (aR σ 67 x2) (σ.1 0)) fun r8 σ6 => if r8 = (1 : Int32) then (fX2_dueTo_56 N k9 σ6 x1 x2) else (fX2_dueTo_57 N k9 σ6 x1 x2 (1 : Int32)) else none) else (fX2_dueTo_56 N k9 σ x1 x2))
set_option maxHeartbeats 2000000 in
set_option maxRecDepth 20000 in
theorem wX2_dueTo_9b {r : Int64} {σ' : St} {N : Nat} (S : CallFix p m c cX2_dueTo 4 s av BG RX2) (hr : meth.sig.returnType = some .long) (hlk : meth.locks = false) {k9 : St → Int32 → Int32 → Option (Int64 × St)} (hk9 : ∀ (σ : St) (x1 : Int32) (x2 : Int32) (ls : Array Slot) (H : Heap) (locs : List Loc), Hw (XWd D ad cs ts adK adV) s σ H locs → lv_has ls 4 [(0, .ref (ad 7)), (1, .int x1), (2, .int x2)] → k9 σ x1 x2 = some (r, σ') → W p l e (RM 5 115) s m av below meth c H locs 0 0 (QJ below (XWd D ad cs ts adK adV) av s r σ') (F0 m 9 ls []))  {σ : St} {x1 : Int32} {x2 : Int32} {ls : Array Slot} {H : Heap} {locs : List Loc} (hw : Hw (XWd D ad cs ts adK adV) s σ H locs) (hl : lv_has ls 4 [(0, .ref (ad 7)), (1, .int x1), (2, .int x2)]) (hf : fX2_dueTo_9b N k9 σ x1 x2 = some (r, σ')) : W p l e (RM 5 115) s m av below meth c H locs 0 0 (QJ below (XWd D ad cs ts adK adV) av s r σ') (F0 m 9 ls []) := by
  unfold fX2_dueTo_9b at hf
  refine lv_iload_n S.1 S.2.1 dX2_dueTo_9 rfl (lv_at hl 2 rfl) ?_
  refine lv_aload_n S.1 S.2.1 dX2_dueTo_10 rfl (lv_at hl 0 rfl) ?_
  refine xg_Claims_count S hw kf_X2_45 dX2_dueTo_11 ?_
  refine lv_icmp_ge (tgt := 109) S.1 S.2.1 dX2_dueTo_14 (by decide) (fun hc => ?_) (fun hc => ?_)
  · have hf := itt hf hc
    refine lv_aload_n S.1 S.2.1 dX2_dueTo_109 rfl (lv_at hl 0 rfl) ?_
    refine xg_Claims_heirs S hw kf_X2_33 dX2_dueTo_110 ?_
    refine lv_iload_n S.1 S.2.1 dX2_dueTo_113 rfl (lv_at hl 1 rfl) ?_
    obtain ⟨r3, g4, hf⟩ := bd_s hf
    refine g_Vj (rest := []) (XWd_ok D ad cs ts adK adV) S hw (tX3_comesTo g4) kt_X2_81 2 xe_2 rfl rfl ⟨Nat.le_of_ble_eq_true rfl, Nat.le_of_ble_eq_true rfl⟩ rfl hl.1 rfl (Nat.le_of_ble_eq_true rfl) ⟨Nat.zero_le _, Nat.zero_le _⟩ dX2_dueTo_114 (fun H locs hw => ?_)
    exact g_jret (XWd_ok D ad cs ts adK adV) S hr hlk hw dX2_dueTo_117 (Prod.mk.inj (Option.some.inj hf)).1 (Prod.mk.inj (Option.some.inj hf)).2
  · have hf := itf hf hc
    refine lv_aload_n S.1 S.2.1 dX2_dueTo_17 rfl (lv_at hl 0 rfl) ?_
    refine xg_Claims_doubles S hw kf_X2_41 dX2_dueTo_18 ?_
    refine lv_iload_n S.1 S.2.1 dX2_dueTo_21 rfl (lv_at hl 2 rfl) ?_
    refine lv_ishr S.1 S.2.1 dX2_dueTo_22 ?_
    refine lv_iconst (v := 1) S.1 S.2.1 dX2_dueTo_23 (by decide) ?_
    refine lv_iand S.1 S.2.1 dX2_dueTo_24 ?_
    refine lv_if_ne (tgt := 56) S.1 S.2.1 dX2_dueTo_25 (by decide) (fun hc => ?_) (fun hc => ?_)
    · have hf := itf hf hc
      exact wX2_dueTo_56 S hr hlk hk9 hw (lv_sub hl [0, 1, 2] rfl) hf
    · have hf := itt hf hc
      refine lv_aload_n S.1 S.2.1 dX2_dueTo_28 rfl (lv_at hl 0 rfl) ?_
      refine xg_Claims_leaves S hw kf_X2_25 dX2_dueTo_29 ?_
      refine lv_aload_n S.1 S.2.1 dX2_dueTo_32 rfl (lv_at hl 0 rfl) ?_
      refine xg_Claims_spans S hw kf_X2_15 dX2_dueTo_33 ?_
      refine lv_iload_n S.1 S.2.1 dX2_dueTo_36 rfl (lv_at hl 2 rfl) ?_
      obtain ⟨h5, hf⟩ := gd_ix hf
      refine g_iald S hw 67 0 xe_67 rfl h5 dX2_dueTo_37 ?_
      refine lv_aload_n S.1 S.2.1 dX2_dueTo_38 rfl (lv_at hl 0 rfl) ?_
      refine xg_Claims_land S hw kf_X2_21 dX2_dueTo_39 ?_
      refine xg_Land_day S hw kf_X2_53 dX2_dueTo_42 ?_
      obtain ⟨r8, σ6, g7, hf⟩ := bd2_s hf
      refine g_Vi (rest := []) (XWd_ok D ad cs ts adK adV) S hw (tX5_hasOn g7) kt_X2_58 4 xe_4 rfl rfl ⟨Nat.le_of_ble_eq_true rfl, Nat.le_of_ble_eq_true rfl⟩ rfl hl.1 rfl (Nat.le_of_ble_eq_true rfl) ⟨Nat.zero_le _, Nat.zero_le _⟩ dX2_dueTo_45 (fun H locs hw => ?_)
      refine lv_iconst (v := 1) S.1 S.2.1 dX2_dueTo_48 (by decide) ?_
      refine lv_icmp_eq (tgt := 56) S.1 S.2.1 dX2_dueTo_49 (by decide) (fun hc => ?_) (fun hc => ?_)
      · have hf := itt hf hc
        exact wX2_dueTo_56 S hr hlk hk9 hw (lv_sub hl [0, 1, 2] rfl) hf
      · have hf := itf hf hc
        refine lv_iconst (v := 1) S.1 S.2.1 dX2_dueTo_52 (by decide) ?_
        refine lv_goto (tgt := 57) S.1 S.2.1 dX2_dueTo_53 (by decide) ?_
        exact wX2_dueTo_57 S hr hlk hk9 hw (lv_sub hl [0, 1, 2] rfl) hf
def fX2_dueTo_9 (N : Nat) : Nat → St → Int32 → Int32 → Option (Int64 × St)
  | 0 => fun _ _ _ => none
  | n + 1 => fX2_dueTo_9b N (fX2_dueTo_9 N n)
theorem wX2_dueTo_9 {r : Int64} {σ' : St} {N : Nat} (S : CallFix p m c cX2_dueTo 4 s av BG RX2) (hr : meth.sig.returnType = some .long) (hlk : meth.locks = false) : ∀ (n : Nat), ∀ (σ : St) (x1 : Int32) (x2 : Int32) (ls : Array Slot) (H : Heap) (locs : List Loc), Hw (XWd D ad cs ts adK adV) s σ H locs → lv_has ls 4 [(0, .ref (ad 7)), (1, .int x1), (2, .int x2)] → fX2_dueTo_9 N n σ x1 x2 = some (r, σ') → W p l e (RM 5 115) s m av below meth c H locs 0 0 (QJ below (XWd D ad cs ts adK adV) av s r σ') (F0 m 9 ls []) := by
  intro n
  induction n with
  | zero => intro _ _ _ ls H locs hw hl hf; cases hf
  | succ n ih => intro _ _ _ ls H locs hw hl hf; exact wX2_dueTo_9b S hr hlk ih hw hl hf
def fX2_dueTo (N : Nat) (σ : St) (x1 : Int32) : Option (Int64 × St) :=
  bd (fX3_emptyTill N σ) fun σ1 => fX2_dueTo_9 N N σ1 x1 (0 : Int32)
set_option maxHeartbeats 2000000 in
set_option maxRecDepth 20000 in
theorem tX2_dueTo {r : Int64} {σ' : St} {N : Nat} {σ : St} {x1 : Int32} (hf : fX2_dueTo N σ x1 = some (r, σ')) : CJ l (XWd D ad cs ts adK adV) yX2_dueTo cX2_dueTo 4 (some .long) 5 115 [.ref (ad 7), .int x1] σ r σ' := by
  refine CJ.of (by decide) (Nat.le_of_ble_eq_true rfl) ?_
  intro p e s m below meth c ls S hr hlk hw hl
  have hl : lv_has ls 4 [(0, .ref (ad 7)), (1, .int x1)] := hl
  unfold fX2_dueTo at hf
  refine lv_aload_n S.1 S.2.1 dX2_dueTo_0 rfl (lv_at hl 0 rfl) ?_
  refine xg_Claims_heirs S hw kf_X2_33 dX2_dueTo_1 ?_
  obtain ⟨σ1, g2, hf⟩ := bd_s hf
  refine g_Vv (rest := []) (XWd_ok D ad cs ts adK adV) S hw (tX3_emptyTill g2) kt_X2_48 2 xe_2 rfl rfl ⟨Nat.le_of_ble_eq_true rfl, Nat.le_of_ble_eq_true rfl⟩ rfl hl.1 rfl (Nat.le_of_ble_eq_true rfl) ⟨Nat.zero_le _, Nat.zero_le _⟩ dX2_dueTo_4 (fun H locs hw => ?_)
  refine lv_iconst (v := 0) S.1 S.2.1 dX2_dueTo_7 (by decide) ?_
  refine lv_istore_n (lv' := [(2, .int (0 : Int32)), (0, .ref (ad 7)), (1, .int x1)]) S.1 S.2.1 dX2_dueTo_8 rfl hl (by decide) rfl (fun ls hl => ?_)
  exact wX2_dueTo_9 S hr hlk N σ1 x1 (0 : Int32) _ _ _ hw (lv_sub hl [1, 2, 0] rfl) hf
def fX3_giveShares (N : Nat) (σ : St) (x1 : Int32) (x2 : Int32) (x3 : Int32) : Option (Int32 × St) :=
  if ix x1 10 = true then if ix x2 10 = true then nm (aR σ (25 + (x1).toNatClampNeg) x2) fun v3 => if ix x1 10 = true then if ix x2 10 = true then nm (aW σ (25 + (x1).toNatClampNeg) x2 x3) fun σ7 => some (v3, σ7) else none else none else none else none
set_option maxHeartbeats 2000000 in
set_option maxRecDepth 20000 in
theorem tX3_giveShares {r : Int32} {σ' : St} {N : Nat} {σ : St} {x1 : Int32} {x2 : Int32} {x3 : Int32} (hf : fX3_giveShares N σ x1 x2 x3 = some (r, σ')) : CI l (XWd D ad cs ts adK adV) yX3_giveShares cX3_giveShares 5 (some .int) 0 0 [.ref (ad 2), .int x1, .int x2, .int x3] σ r σ' := by
  refine CI.of (by decide) (Nat.le_of_ble_eq_true rfl) ?_
  intro p e s m below meth c ls S hr hlk hw hl
  have hl : lv_has ls 5 [(0, .ref (ad 2)), (1, .int x1), (2, .int x2), (3, .int x3)] := hl
  unfold fX3_giveShares at hf
  refine lv_aload_n S.1 S.2.1 dX3_giveShares_0 rfl (lv_at hl 0 rfl) ?_
  refine xg_Heirs_shares S hw kf_X3_11 dX3_giveShares_1 ?_
  refine lv_iload_n S.1 S.2.1 dX3_giveShares_4 rfl (lv_at hl 1 rfl) ?_
  obtain ⟨h1, hf⟩ := gd_ix hf
  refine g_aald S hw 24 3 xe_24 rfl h1 dX3_giveShares_5 ?_
  refine lv_iload_n S.1 S.2.1 dX3_giveShares_6 rfl (lv_at hl 2 rfl) ?_
  obtain ⟨h2, hf⟩ := gd_ix hf
  refine g_iald S hw (25 + (x1).toNatClampNeg) 0 (x2_25 (vp_lt h1)) rfl h2 dX3_giveShares_7 ?_
  refine lv_topi (fun v3 e4 => ?_)
  have hf := nm_s e4 hf
  refine lv_istore (lv' := [(4, .int v3), (0, .ref (ad 2)), (1, .int x1), (2, .int x2), (3, .int x3)]) S.1 S.2.1 dX3_giveShares_8 hl (by decide) rfl (fun ls hl => ?_)
  refine lv_aload_n S.1 S.2.1 dX3_giveShares_10 rfl (lv_at hl 1 rfl) ?_
  refine xg_Heirs_shares S hw kf_X3_11 dX3_giveShares_11 ?_
  refine lv_iload_n S.1 S.2.1 dX3_giveShares_14 rfl (lv_at hl 2 rfl) ?_
  obtain ⟨h5, hf⟩ := gd_ix hf
  refine g_aald S hw 24 3 xe_24 rfl h5 dX3_giveShares_15 ?_
  refine lv_iload_n S.1 S.2.1 dX3_giveShares_16 rfl (lv_at hl 3 rfl) ?_
  refine lv_iload_n S.1 S.2.1 dX3_giveShares_17 rfl (lv_at hl 4 rfl) ?_
  obtain ⟨h6, hf⟩ := gd_ix hf
  obtain ⟨σ7, e8⟩ : ∃ z : St, z = aW σ (25 + (x1).toNatClampNeg) x2 x3 := ⟨_, rfl⟩
  have hf := nm_s e8 hf
  refine g_iast (σ' := σ7) S hw (25 + (x1).toNatClampNeg) 0 (x2_25 (vp_lt h5)) rfl (by rw [e8]; exact xt_25 (vp_lt h5) _) h6 dX3_giveShares_18 (fun H locs hw => ?_)
  refine lv_iload S.1 S.2.1 dX3_giveShares_19 (lv_at hl 0 rfl) ?_
  exact g_iret (XWd_ok D ad cs ts adK adV) S hr hlk hw dX3_giveShares_21 (Prod.mk.inj (Option.some.inj hf)).1 (Prod.mk.inj (Option.some.inj hf)).2
def fX4_isStillToCome (σ : St) (x1 : Int32) : Int32 :=
  (fX11_within x1 (σ.1 0) (9999 : Int32))
set_option maxHeartbeats 2000000 in
set_option maxRecDepth 20000 in
theorem tX4_isStillToCome {r : Int32} {σ : St} {x1 : Int32} (hf : fX4_isStillToCome σ x1 = r) : CI l (XWd D ad cs ts adK adV) yX4_isStillToCome cX4_isStillToCome 2 (some .boolean) 1 22 [.ref (ad 1), .int x1] σ r σ := by
  refine CI.of (by decide) (Nat.le_of_ble_eq_true rfl) ?_
  intro p e s m below meth c ls S hr hlk hw hl
  have hl : lv_has ls 2 [(0, .ref (ad 1)), (1, .int x1)] := hl
  unfold fX4_isStillToCome at hf
  refine lv_iload_n S.1 S.2.1 dX4_isStillToCome_0 rfl (lv_at hl 1 rfl) ?_
  refine lv_aload_n S.1 S.2.1 dX4_isStillToCome_1 rfl (lv_at hl 0 rfl) ?_
  refine xg_Land_day S hw kf_X4_44 dX4_isStillToCome_2 ?_
  refine lv_sipush (v := 9999) S.1 S.2.1 dX4_isStillToCome_5 (by decide) ?_
  refine g_Ni (rest := []) (XWd_ok D ad cs ts adK adV) S hw (tX11_within (ad := ad) (cs := cs) (ts := ts) (adK := adK) (adV := adV) (σ := σ) rfl) kn_X11_within (x_nw hw 1 rfl) ⟨Nat.le_of_ble_eq_true rfl, Nat.le_of_ble_eq_true rfl⟩ rfl hl.1 rfl (Nat.le_of_ble_eq_true rfl) ⟨Nat.zero_le _, Nat.zero_le _⟩ dX4_isStillToCome_8 (fun H locs hw => ?_)
  exact g_zret (XWd_ok D ad cs ts adK adV) S hr hlk hw (zzX11_within ..) dX4_isStillToCome_11 hf rfl
theorem zzX4_isStillToCome (σ : St) (x1 : Int32) : narrow .boolean (.int (fX4_isStillToCome σ x1)) = .int (fX4_isStillToCome σ x1) := by
  unfold fX4_isStillToCome
  repeat' split
  all_goals first | rfl | exact zzX11_within .. | exact zzX12_isIn ..
def fX4_addSale (N : Nat) (σ : St) (x1 : Int32) (x2 : Int32) (x3 : Int32) : Option (Int32 × St) :=
  if ix (σ.1 1) 40 = true then nm (aW σ 12 (σ.1 1) x1) fun σ2 => if ix (σ2.1 1) 40 = true then nm (aW σ2 13 (σ2.1 1) x2) fun σ5 => if ix (σ5.1 1) 40 = true then nm (aW σ5 14 (σ5.1 1) x3) fun σ8 => nm (sI σ8 1 ((σ8.1 1) + (1 : Int32))) fun σ10 => some ((σ10.1 1), σ10) else none else none else none
set_option maxHeartbeats 2000000 in
set_option maxRecDepth 20000 in
theorem tX4_addSale {r : Int32} {σ' : St} {N : Nat} {σ : St} {x1 : Int32} {x2 : Int32} {x3 : Int32} (hf : fX4_addSale N σ x1 x2 x3 = some (r, σ')) : CI l (XWd D ad cs ts adK adV) yX4_addSale cX4_addSale 4 (some .int) 0 0 [.ref (ad 1), .int x1, .int x2, .int x3] σ r σ' := by
  refine CI.of (by decide) (Nat.le_of_ble_eq_true rfl) ?_
  intro p e s m below meth c ls S hr hlk hw hl
  have hl : lv_has ls 4 [(0, .ref (ad 1)), (1, .int x1), (2, .int x2), (3, .int x3)] := hl
  unfold fX4_addSale at hf
  refine lv_aload_n S.1 S.2.1 dX4_addSale_0 rfl (lv_at hl 0 rfl) ?_
  refine xg_Land_salePlots S hw kf_X4_9 dX4_addSale_1 ?_
  refine lv_aload_n S.1 S.2.1 dX4_addSale_4 rfl (lv_at hl 0 rfl) ?_
  refine xg_Land_sales S hw kf_X4_52 dX4_addSale_5 ?_
  refine lv_iload_n S.1 S.2.1 dX4_addSale_8 rfl (lv_at hl 1 rfl) ?_
  obtain ⟨h1, hf⟩ := gd_ix hf
  obtain ⟨σ2, e3⟩ : ∃ z : St, z = aW σ 12 (σ.1 1) x1 := ⟨_, rfl⟩
  have hf := nm_s e3 hf
  refine g_iast (σ' := σ2) S hw 12 0 xe_12 rfl (by rw [e3]; exact xs_12 _) h1 dX4_addSale_9 (fun H locs hw => ?_)
  refine lv_aload_n S.1 S.2.1 dX4_addSale_10 rfl (lv_at hl 0 rfl) ?_
  refine xg_Land_saleOwners S hw kf_X4_15 dX4_addSale_11 ?_
  refine lv_aload_n S.1 S.2.1 dX4_addSale_14 rfl (lv_at hl 0 rfl) ?_
  refine xg_Land_sales S hw kf_X4_52 dX4_addSale_15 ?_
  refine lv_iload_n S.1 S.2.1 dX4_addSale_18 rfl (lv_at hl 2 rfl) ?_
  obtain ⟨h4, hf⟩ := gd_ix hf
  obtain ⟨σ5, e6⟩ : ∃ z : St, z = aW σ2 13 (σ2.1 1) x2 := ⟨_, rfl⟩
  have hf := nm_s e6 hf
  refine g_iast (σ' := σ5) S hw 13 0 xe_13 rfl (by rw [e6]; exact xs_13 _) h4 dX4_addSale_19 (fun H locs hw => ?_)
  refine lv_aload_n S.1 S.2.1 dX4_addSale_20 rfl (lv_at hl 0 rfl) ?_
  refine xg_Land_saleDays S hw kf_X4_18 dX4_addSale_21 ?_
  refine lv_aload_n S.1 S.2.1 dX4_addSale_24 rfl (lv_at hl 0 rfl) ?_
  refine xg_Land_sales S hw kf_X4_52 dX4_addSale_25 ?_
  refine lv_iload_n S.1 S.2.1 dX4_addSale_28 rfl (lv_at hl 3 rfl) ?_
  obtain ⟨h7, hf⟩ := gd_ix hf
  obtain ⟨σ8, e9⟩ : ∃ z : St, z = aW σ5 14 (σ5.1 1) x3 := ⟨_, rfl⟩
  have hf := nm_s e9 hf
  refine g_iast (σ' := σ8) S hw 14 0 xe_14 rfl (by rw [e9]; exact xs_14 _) h7 dX4_addSale_29 (fun H locs hw => ?_)
  refine lv_aload_n S.1 S.2.1 dX4_addSale_30 rfl (lv_at hl 0 rfl) ?_
  refine lv_dup S.1 S.2.1 dX4_addSale_31 rfl ?_
  refine xg_Land_sales S hw kf_X4_52 dX4_addSale_32 ?_
  refine lv_iconst (v := 1) S.1 S.2.1 dX4_addSale_35 (by decide) ?_
  refine lv_iadd S.1 S.2.1 dX4_addSale_36 ?_
  obtain ⟨σ10, e11⟩ : ∃ z : St, z = sI σ8 1 ((σ8.1 1) + (1 : Int32)) := ⟨_, rfl⟩
  have hf := nm_s e11 hf
  refine xp_Land_sales S hw e11 kf_X4_52 dX4_addSale_37 (fun H locs hw => ?_)
  refine lv_aload_n S.1 S.2.1 dX4_addSale_40 rfl (lv_at hl 0 rfl) ?_
  refine xg_Land_sales S hw kf_X4_52 dX4_addSale_41 ?_
  exact g_iret (XWd_ok D ad cs ts adK adV) S hr hlk hw dX4_addSale_44 (Prod.mk.inj (Option.some.inj hf)).1 (Prod.mk.inj (Option.some.inj hf)).2
def fX4_tell (N : Nat) (σ : St) (x1 : Int32) (x2 : Int32) (x3 : Int32) : Option (Int32 × St) :=
  if ix x2 4 = true then if ix x1 48 = true then nm (aR σ (17 + (x2).toNatClampNeg) x1) fun v3 => if ix x2 4 = true then if ix x1 48 = true then nm (aW σ (17 + (x2).toNatClampNeg) x1 x3) fun σ7 => some (v3, σ7) else none else none else none else none
set_option maxHeartbeats 2000000 in
set_option maxRecDepth 20000 in
theorem tX4_tell {r : Int32} {σ' : St} {N : Nat} {σ : St} {x1 : Int32} {x2 : Int32} {x3 : Int32} (hf : fX4_tell N σ x1 x2 x3 = some (r, σ')) : CI l (XWd D ad cs ts adK adV) yX4_tell cX4_tell 5 (some .int) 0 0 [.ref (ad 1), .int x1, .int x2, .int x3] σ r σ' := by
  refine CI.of (by decide) (Nat.le_of_ble_eq_true rfl) ?_
  intro p e s m below meth c ls S hr hlk hw hl
  have hl : lv_has ls 5 [(0, .ref (ad 1)), (1, .int x1), (2, .int x2), (3, .int x3)] := hl
  unfold fX4_tell at hf
  refine lv_aload_n S.1 S.2.1 dX4_tell_0 rfl (lv_at hl 0 rfl) ?_
  refine xg_Land_told S hw kf_X4_26 dX4_tell_1 ?_
  refine lv_iload_n S.1 S.2.1 dX4_tell_4 rfl (lv_at hl 2 rfl) ?_
  obtain ⟨h1, hf⟩ := gd_ix hf
  refine g_aald S hw 16 3 xe_16 rfl h1 dX4_tell_5 ?_
  refine lv_iload_n S.1 S.2.1 dX4_tell_6 rfl (lv_at hl 1 rfl) ?_
  obtain ⟨h2, hf⟩ := gd_ix hf
  refine g_iald S hw (17 + (x2).toNatClampNeg) 0 (x2_17 (vp_lt h1)) rfl h2 dX4_tell_7 ?_
  refine lv_topi (fun v3 e4 => ?_)
  have hf := nm_s e4 hf
  refine lv_istore (lv' := [(4, .int v3), (0, .ref (ad 1)), (1, .int x1), (2, .int x2), (3, .int x3)]) S.1 S.2.1 dX4_tell_8 hl (by decide) rfl (fun ls hl => ?_)
  refine lv_aload_n S.1 S.2.1 dX4_tell_10 rfl (lv_at hl 1 rfl) ?_
  refine xg_Land_told S hw kf_X4_26 dX4_tell_11 ?_
  refine lv_iload_n S.1 S.2.1 dX4_tell_14 rfl (lv_at hl 3 rfl) ?_
  obtain ⟨h5, hf⟩ := gd_ix hf
  refine g_aald S hw 16 3 xe_16 rfl h5 dX4_tell_15 ?_
  refine lv_iload_n S.1 S.2.1 dX4_tell_16 rfl (lv_at hl 2 rfl) ?_
  refine lv_iload_n S.1 S.2.1 dX4_tell_17 rfl (lv_at hl 4 rfl) ?_
  obtain ⟨h6, hf⟩ := gd_ix hf
  obtain ⟨σ7, e8⟩ : ∃ z : St, z = aW σ (17 + (x2).toNatClampNeg) x1 x3 := ⟨_, rfl⟩
  have hf := nm_s e8 hf
  refine g_iast (σ' := σ7) S hw (17 + (x2).toNatClampNeg) 0 (x2_17 (vp_lt h5)) rfl (by rw [e8]; exact xt_17 (vp_lt h5) _) h6 dX4_tell_18 (fun H locs hw => ?_)
  refine lv_iload S.1 S.2.1 dX4_tell_19 (lv_at hl 0 rfl) ?_
  exact g_iret (XWd_ok D ad cs ts adK adV) S hr hlk hw dX4_tell_21 (Prod.mk.inj (Option.some.inj hf)).1 (Prod.mk.inj (Option.some.inj hf)).2
def fX4_plant (N : Nat) (σ : St) (x1 : Int32) (x2 : Int32) (x3 : Int32) : Option (Int32 × St) :=
  bd (fX4_treesNow N σ x1) fun r1 => if ix x1 48 = true then nm (aW σ 21 x1 x2) fun σ4 => if ix x1 48 = true then nm (aW σ4 22 x1 x3) fun σ7 => if ix x1 48 = true then nm (aW σ7 23 x1 (σ7.1 0)) fun σ10 => some (r1, σ10) else none else none else none
set_option maxHeartbeats 2000000 in
set_option maxRecDepth 20000 in
theorem tX4_plant {r : Int32} {σ' : St} {N : Nat} {σ : St} {x1 : Int32} {x2 : Int32} {x3 : Int32} (hf : fX4_plant N σ x1 x2 x3 = some (r, σ')) : CI l (XWd D ad cs ts adK adV) yX4_plant cX4_plant 5 (some .int) 1 21 [.ref (ad 1), .int x1, .int x2, .int x3] σ r σ' := by
  refine CI.of (by decide) (Nat.le_of_ble_eq_true rfl) ?_
  intro p e s m below meth c ls S hr hlk hw hl
  have hl : lv_has ls 5 [(0, .ref (ad 1)), (1, .int x1), (2, .int x2), (3, .int x3)] := hl
  unfold fX4_plant at hf
  refine lv_aload_n S.1 S.2.1 dX4_plant_0 rfl (lv_at hl 0 rfl) ?_
  refine lv_iload_n S.1 S.2.1 dX4_plant_1 rfl (lv_at hl 1 rfl) ?_
  obtain ⟨r1, g2, hf⟩ := bd_s hf
  refine g_Vi (rest := []) (XWd_ok D ad cs ts adK adV) S hw (tX4_treesNow g2) kt_X4_61 1 xe_1 rfl rfl ⟨Nat.le_of_ble_eq_true rfl, Nat.le_of_ble_eq_true rfl⟩ rfl hl.1 rfl (Nat.le_of_ble_eq_true rfl) ⟨Nat.zero_le _, Nat.zero_le _⟩ dX4_plant_2 (fun H locs hw => ?_)
  refine lv_istore (lv' := [(4, .int r1), (0, .ref (ad 1)), (1, .int x1), (2, .int x2), (3, .int x3)]) S.1 S.2.1 dX4_plant_5 hl (by decide) rfl (fun ls hl => ?_)
  refine lv_aload_n S.1 S.2.1 dX4_plant_7 rfl (lv_at hl 1 rfl) ?_
  refine xg_Land_treeHeights S hw kf_X4_29 dX4_plant_8 ?_
  refine lv_iload_n S.1 S.2.1 dX4_plant_11 rfl (lv_at hl 2 rfl) ?_
  refine lv_iload_n S.1 S.2.1 dX4_plant_12 rfl (lv_at hl 3 rfl) ?_
  obtain ⟨h3, hf⟩ := gd_ix hf
  obtain ⟨σ4, e5⟩ : ∃ z : St, z = aW σ 21 x1 x2 := ⟨_, rfl⟩
  have hf := nm_s e5 hf
  refine g_iast (σ' := σ4) S hw 21 0 xe_21 rfl (by rw [e5]; exact xs_21 _) h3 dX4_plant_13 (fun H locs hw => ?_)
  refine lv_aload_n S.1 S.2.1 dX4_plant_14 rfl (lv_at hl 1 rfl) ?_
  refine xg_Land_treeGrowths S hw kf_X4_32 dX4_plant_15 ?_
  refine lv_iload_n S.1 S.2.1 dX4_plant_18 rfl (lv_at hl 2 rfl) ?_
  refine lv_iload_n S.1 S.2.1 dX4_plant_19 rfl (lv_at hl 4 rfl) ?_
  obtain ⟨h6, hf⟩ := gd_ix hf
  obtain ⟨σ7, e8⟩ : ∃ z : St, z = aW σ4 22 x1 x3 := ⟨_, rfl⟩
  have hf := nm_s e8 hf
  refine g_iast (σ' := σ7) S hw 22 0 xe_22 rfl (by rw [e8]; exact xs_22 _) h6 dX4_plant_20 (fun H locs hw => ?_)
  refine lv_aload_n S.1 S.2.1 dX4_plant_21 rfl (lv_at hl 1 rfl) ?_
  refine xg_Land_treeDays S hw kf_X4_35 dX4_plant_22 ?_
  refine lv_iload_n S.1 S.2.1 dX4_plant_25 rfl (lv_at hl 2 rfl) ?_
  refine lv_aload_n S.1 S.2.1 dX4_plant_26 rfl (lv_at hl 1 rfl) ?_
  refine xg_Land_day S hw kf_X4_44 dX4_plant_27 ?_
  obtain ⟨h9, hf⟩ := gd_ix hf
  obtain ⟨σ10, e11⟩ : ∃ z : St, z = aW σ7 23 x1 (σ7.1 0) := ⟨_, rfl⟩
  have hf := nm_s e11 hf
  refine g_iast (σ' := σ10) S hw 23 0 xe_23 rfl (by rw [e11]; exact xs_23 _) h9 dX4_plant_30 (fun H locs hw => ?_)
  refine lv_iload S.1 S.2.1 dX4_plant_31 (lv_at hl 0 rfl) ?_
  exact g_iret (XWd_ok D ad cs ts adK adV) S hr hlk hw dX4_plant_33 (Prod.mk.inj (Option.some.inj hf)).1 (Prod.mk.inj (Option.some.inj hf)).2
def fX5_isLeave (σ : St) (x1 : Int32) : Int32 :=
  (fX11_within x1 (0 : Int32) ((σ.1 4) - (1 : Int32)))
set_option maxHeartbeats 2000000 in
set_option maxRecDepth 20000 in
theorem tX5_isLeave {r : Int32} {σ : St} {x1 : Int32} (hf : fX5_isLeave σ x1 = r) : CI l (XWd D ad cs ts adK adV) yX5_isLeave cX5_isLeave 2 (some .boolean) 1 22 [.ref (ad 4), .int x1] σ r σ := by
  refine CI.of (by decide) (Nat.le_of_ble_eq_true rfl) ?_
  intro p e s m below meth c ls S hr hlk hw hl
  have hl : lv_has ls 2 [(0, .ref (ad 4)), (1, .int x1)] := hl
  unfold fX5_isLeave at hf
  refine lv_iload_n S.1 S.2.1 dX5_isLeave_0 rfl (lv_at hl 1 rfl) ?_
  refine lv_iconst (v := 0) S.1 S.2.1 dX5_isLeave_1 (by decide) ?_
  refine lv_aload_n S.1 S.2.1 dX5_isLeave_2 rfl (lv_at hl 0 rfl) ?_
  refine xg_Leaves_count S hw kf_X5_52 dX5_isLeave_3 ?_
  refine lv_iconst (v := 1) S.1 S.2.1 dX5_isLeave_6 (by decide) ?_
  refine lv_isub S.1 S.2.1 dX5_isLeave_7 ?_
  refine g_Ni (rest := []) (XWd_ok D ad cs ts adK adV) S hw (tX11_within (ad := ad) (cs := cs) (ts := ts) (adK := adK) (adV := adV) (σ := σ) rfl) kn_X11_within (x_nw hw 3 rfl) ⟨Nat.le_of_ble_eq_true rfl, Nat.le_of_ble_eq_true rfl⟩ rfl hl.1 rfl (Nat.le_of_ble_eq_true rfl) ⟨Nat.zero_le _, Nat.zero_le _⟩ dX5_isLeave_8 (fun H locs hw => ?_)
  exact g_zret (XWd_ok D ad cs ts adK adV) S hr hlk hw (zzX11_within ..) dX5_isLeave_11 hf rfl
theorem zzX5_isLeave (σ : St) (x1 : Int32) : narrow .boolean (.int (fX5_isLeave σ x1)) = .int (fX5_isLeave σ x1) := by
  unfold fX5_isLeave
  repeat' split
  all_goals first | rfl | exact zzX11_within .. | exact zzX12_isIn ..
def fX5_add (N : Nat) (σ : St) (x1 : Int32) (x2 : Int32) (x3 : Int32) (x4 : Int32) (x5 : Int32) : Option (Int32 × St) :=
  if ix (σ.1 4) 24 = true then nm (aW σ 42 (σ.1 4) x1) fun σ2 => if ix (σ2.1 4) 24 = true then nm (aW σ2 43 (σ2.1 4) x2) fun σ5 => if ix (σ5.1 4) 24 = true then nm (aW σ5 44 (σ5.1 4) x3) fun σ8 => if ix (σ8.1 4) 24 = true then nm (aW σ8 45 (σ8.1 4) x4) fun σ11 => if ix (σ11.1 4) 24 = true then nm (aW σ11 46 (σ11.1 4) x5) fun σ14 => if ix (σ14.1 4) 24 = true then nm (aW σ14 48 (σ14.1 4) (-1 : Int32)) fun σ17 => nm (sI σ17 4 ((σ17.1 4) + (1 : Int32))) fun σ19 => some (((σ19.1 4) - (1 : Int32)), σ19) else none else none else none else none else none else none
set_option maxHeartbeats 2000000 in
set_option maxRecDepth 20000 in
theorem tX5_add {r : Int32} {σ' : St} {N : Nat} {σ : St} {x1 : Int32} {x2 : Int32} {x3 : Int32} {x4 : Int32} {x5 : Int32} (hf : fX5_add N σ x1 x2 x3 x4 x5 = some (r, σ')) : CI l (XWd D ad cs ts adK adV) yX5_add cX5_add 6 (some .int) 0 0 [.ref (ad 4), .int x1, .int x2, .int x3, .int x4, .int x5] σ r σ' := by
  refine CI.of (by decide) (Nat.le_of_ble_eq_true rfl) ?_
  intro p e s m below meth c ls S hr hlk hw hl
  have hl : lv_has ls 6 [(0, .ref (ad 4)), (1, .int x1), (2, .int x2), (3, .int x3), (4, .int x4), (5, .int x5)] := hl
  unfold fX5_add at hf
  refine lv_aload_n S.1 S.2.1 dX5_add_0 rfl (lv_at hl 0 rfl) ?_
  refine xg_Leaves_kinds S hw kf_X5_9 dX5_add_1 ?_
  refine lv_aload_n S.1 S.2.1 dX5_add_4 rfl (lv_at hl 0 rfl) ?_
  refine xg_Leaves_count S hw kf_X5_52 dX5_add_5 ?_
  refine lv_iload_n S.1 S.2.1 dX5_add_8 rfl (lv_at hl 1 rfl) ?_
  obtain ⟨h1, hf⟩ := gd_ix hf
  obtain ⟨σ2, e3⟩ : ∃ z : St, z = aW σ 42 (σ.1 4) x1 := ⟨_, rfl⟩
  have hf := nm_s e3 hf
  refine g_iast (σ' := σ2) S hw 42 0 xe_42 rfl (by rw [e3]; exact xs_42 _) h1 dX5_add_9 (fun H locs hw => ?_)
  refine lv_aload_n S.1 S.2.1 dX5_add_10 rfl (lv_at hl 0 rfl) ?_
  refine xg_Leaves_spans S hw kf_X5_15 dX5_add_11 ?_
  refine lv_aload_n S.1 S.2.1 dX5_add_14 rfl (lv_at hl 0 rfl) ?_
  refine xg_Leaves_count S hw kf_X5_52 dX5_add_15 ?_
  refine lv_iload_n S.1 S.2.1 dX5_add_18 rfl (lv_at hl 2 rfl) ?_
  obtain ⟨h4, hf⟩ := gd_ix hf
  obtain ⟨σ5, e6⟩ : ∃ z : St, z = aW σ2 43 (σ2.1 4) x2 := ⟨_, rfl⟩
  have hf := nm_s e6 hf
  refine g_iast (σ' := σ5) S hw 43 0 xe_43 rfl (by rw [e6]; exact xs_43 _) h4 dX5_add_19 (fun H locs hw => ?_)
  refine lv_aload_n S.1 S.2.1 dX5_add_20 rfl (lv_at hl 0 rfl) ?_
  refine xg_Leaves_sums S hw kf_X5_18 dX5_add_21 ?_
  refine lv_aload_n S.1 S.2.1 dX5_add_24 rfl (lv_at hl 0 rfl) ?_
  refine xg_Leaves_count S hw kf_X5_52 dX5_add_25 ?_
  refine lv_iload_n S.1 S.2.1 dX5_add_28 rfl (lv_at hl 3 rfl) ?_
  obtain ⟨h7, hf⟩ := gd_ix hf
  obtain ⟨σ8, e9⟩ : ∃ z : St, z = aW σ5 44 (σ5.1 4) x3 := ⟨_, rfl⟩
  have hf := nm_s e9 hf
  refine g_iast (σ' := σ8) S hw 44 0 xe_44 rfl (by rw [e9]; exact xs_44 _) h7 dX5_add_29 (fun H locs hw => ?_)
  refine lv_aload_n S.1 S.2.1 dX5_add_30 rfl (lv_at hl 0 rfl) ?_
  refine xg_Leaves_begins S hw kf_X5_21 dX5_add_31 ?_
  refine lv_aload_n S.1 S.2.1 dX5_add_34 rfl (lv_at hl 0 rfl) ?_
  refine xg_Leaves_count S hw kf_X5_52 dX5_add_35 ?_
  refine lv_iload S.1 S.2.1 dX5_add_38 (lv_at hl 4 rfl) ?_
  obtain ⟨h10, hf⟩ := gd_ix hf
  obtain ⟨σ11, e12⟩ : ∃ z : St, z = aW σ8 45 (σ8.1 4) x4 := ⟨_, rfl⟩
  have hf := nm_s e12 hf
  refine g_iast (σ' := σ11) S hw 45 0 xe_45 rfl (by rw [e12]; exact xs_45 _) h10 dX5_add_40 (fun H locs hw => ?_)
  refine lv_aload_n S.1 S.2.1 dX5_add_41 rfl (lv_at hl 0 rfl) ?_
  refine xg_Leaves_ons S hw kf_X5_24 dX5_add_42 ?_
  refine lv_aload_n S.1 S.2.1 dX5_add_45 rfl (lv_at hl 0 rfl) ?_
  refine xg_Leaves_count S hw kf_X5_52 dX5_add_46 ?_
  refine lv_iload S.1 S.2.1 dX5_add_49 (lv_at hl 5 rfl) ?_
  obtain ⟨h13, hf⟩ := gd_ix hf
  obtain ⟨σ14, e15⟩ : ∃ z : St, z = aW σ11 46 (σ11.1 4) x5 := ⟨_, rfl⟩
  have hf := nm_s e15 hf
  refine g_iast (σ' := σ14) S hw 46 0 xe_46 rfl (by rw [e15]; exact xs_46 _) h13 dX5_add_51 (fun H locs hw => ?_)
  refine lv_aload_n S.1 S.2.1 dX5_add_52 rfl (lv_at hl 0 rfl) ?_
  refine xg_Leaves_undone S hw kf_X5_30 dX5_add_53 ?_
  refine lv_aload_n S.1 S.2.1 dX5_add_56 rfl (lv_at hl 0 rfl) ?_
  refine xg_Leaves_count S hw kf_X5_52 dX5_add_57 ?_
  refine lv_iconst (v := -1) S.1 S.2.1 dX5_add_60 (by decide) ?_
  obtain ⟨h16, hf⟩ := gd_ix hf
  obtain ⟨σ17, e18⟩ : ∃ z : St, z = aW σ14 48 (σ14.1 4) (-1 : Int32) := ⟨_, rfl⟩
  have hf := nm_s e18 hf
  refine g_iast (σ' := σ17) S hw 48 0 xe_48 rfl (by rw [e18]; exact xs_48 _) h16 dX5_add_61 (fun H locs hw => ?_)
  refine lv_aload_n S.1 S.2.1 dX5_add_62 rfl (lv_at hl 0 rfl) ?_
  refine lv_dup S.1 S.2.1 dX5_add_63 rfl ?_
  refine xg_Leaves_count S hw kf_X5_52 dX5_add_64 ?_
  refine lv_iconst (v := 1) S.1 S.2.1 dX5_add_67 (by decide) ?_
  refine lv_iadd S.1 S.2.1 dX5_add_68 ?_
  obtain ⟨σ19, e20⟩ : ∃ z : St, z = sI σ17 4 ((σ17.1 4) + (1 : Int32)) := ⟨_, rfl⟩
  have hf := nm_s e20 hf
  refine xp_Leaves_count S hw e20 kf_X5_52 dX5_add_69 (fun H locs hw => ?_)
  refine lv_aload_n S.1 S.2.1 dX5_add_72 rfl (lv_at hl 0 rfl) ?_
  refine xg_Leaves_count S hw kf_X5_52 dX5_add_73 ?_
  refine lv_iconst (v := 1) S.1 S.2.1 dX5_add_76 (by decide) ?_
  refine lv_isub S.1 S.2.1 dX5_add_77 ?_
  exact g_iret (XWd_ok D ad cs ts adK adV) S hr hlk hw dX5_add_78 (Prod.mk.inj (Option.some.inj hf)).1 (Prod.mk.inj (Option.some.inj hf)).2
def fX5_yearlyOf (N : Nat) (σ : St) (x1 : Int32) : Option Int32 :=
  if ix x1 24 = true then nm ((aR σ 44 x1) / (15 : Int32)) fun v2 => if ix x1 24 = true then nm (aR σ 42 x1) fun v5 => if v5 = (1 : Int32) then (some (0 : Int32)) else (if v5 = (2 : Int32) then (some ((2 : Int32) * v2)) else (if v5 = (3 : Int32) then (if ix x1 24 = true then some ((aR σ 44 x1) / (100 : Int32)) else none) else (if v5 = (4 : Int32) then (some v2) else (if v5 = (5 : Int32) then (some ((2 : Int32) * v2)) else (some v2))))) else none else none
set_option maxHeartbeats 2000000 in
set_option maxRecDepth 20000 in
theorem tX5_yearlyOf {r : Int32} {N : Nat} {σ : St} {x1 : Int32} (hf : fX5_yearlyOf N σ x1 = some r) : CI l (XWd D ad cs ts adK adV) yX5_yearlyOf cX5_yearlyOf 3 (some .int) 0 0 [.ref (ad 4), .int x1] σ r σ := by
  refine CI.of (by decide) (Nat.le_of_ble_eq_true rfl) ?_
  intro p e s m below meth c ls S hr hlk hw hl
  have hl : lv_has ls 3 [(0, .ref (ad 4)), (1, .int x1)] := hl
  unfold fX5_yearlyOf at hf
  refine lv_aload_n S.1 S.2.1 dX5_yearlyOf_0 rfl (lv_at hl 0 rfl) ?_
  refine xg_Leaves_sums S hw kf_X5_18 dX5_yearlyOf_1 ?_
  refine lv_iload_n S.1 S.2.1 dX5_yearlyOf_4 rfl (lv_at hl 1 rfl) ?_
  obtain ⟨h1, hf⟩ := gd_ix hf
  refine g_iald S hw 44 0 xe_44 rfl h1 dX5_yearlyOf_5 ?_
  refine lv_bipush (v := 15) S.1 S.2.1 dX5_yearlyOf_6 (by decide) ?_
  refine lv_idiv S.1 S.2.1 dX5_yearlyOf_8 (by decide) ?_
  refine lv_topi (fun v2 e3 => ?_)
  have hf := nm_s e3 hf
  refine lv_istore_n (lv' := [(2, .int v2), (0, .ref (ad 4)), (1, .int x1)]) S.1 S.2.1 dX5_yearlyOf_9 rfl hl (by decide) rfl (fun ls hl => ?_)
  refine lv_aload_n S.1 S.2.1 dX5_yearlyOf_10 rfl (lv_at hl 1 rfl) ?_
  refine xg_Leaves_kinds S hw kf_X5_9 dX5_yearlyOf_11 ?_
  refine lv_iload_n S.1 S.2.1 dX5_yearlyOf_14 rfl (lv_at hl 2 rfl) ?_
  obtain ⟨h4, hf⟩ := gd_ix hf
  refine g_iald S hw 42 0 xe_42 rfl h4 dX5_yearlyOf_15 ?_
  refine lv_topi (fun v5 e6 => ?_)
  have hf := nm_s e6 hf
  by_cases h7 : v5 = (1 : Int32)
  · have hf := itt hf h7
    refine lv_tableIn (off := 36) (tgt := 52) S.1 S.2.1 dX5_yearlyOf_16 (by rw [h7]; decide) (by rw [h7]; decide) (by rw [h7]; rfl) (by decide) ?_
    refine lv_iconst (v := 0) S.1 S.2.1 dX5_yearlyOf_52 (by decide) ?_
    exact g_iret (XWd_ok D ad cs ts adK adV) S hr hlk hw dX5_yearlyOf_53 (Option.some.inj hf) rfl
  have hf := itf hf h7
  by_cases h8 : v5 = (2 : Int32)
  · have hf := itt hf h8
    refine lv_tableIn (off := 38) (tgt := 54) S.1 S.2.1 dX5_yearlyOf_16 (by rw [h8]; decide) (by rw [h8]; decide) (by rw [h8]; rfl) (by decide) ?_
    refine lv_iconst (v := 2) S.1 S.2.1 dX5_yearlyOf_54 (by decide) ?_
    refine lv_iload_n S.1 S.2.1 dX5_yearlyOf_55 rfl (lv_at hl 0 rfl) ?_
    refine lv_imul S.1 S.2.1 dX5_yearlyOf_56 ?_
    exact g_iret (XWd_ok D ad cs ts adK adV) S hr hlk hw dX5_yearlyOf_57 (Option.some.inj hf) rfl
  have hf := itf hf h8
  by_cases h9 : v5 = (3 : Int32)
  · have hf := itt hf h9
    refine lv_tableIn (off := 42) (tgt := 58) S.1 S.2.1 dX5_yearlyOf_16 (by rw [h9]; decide) (by rw [h9]; decide) (by rw [h9]; rfl) (by decide) ?_
    refine lv_aload_n S.1 S.2.1 dX5_yearlyOf_58 rfl (lv_at hl 1 rfl) ?_
    refine xg_Leaves_sums S hw kf_X5_18 dX5_yearlyOf_59 ?_
    refine lv_iload_n S.1 S.2.1 dX5_yearlyOf_62 rfl (lv_at hl 2 rfl) ?_
    obtain ⟨h10, hf⟩ := gd_ix hf
    refine g_iald S hw 44 0 xe_44 rfl h10 dX5_yearlyOf_63 ?_
    refine lv_bipush (v := 100) S.1 S.2.1 dX5_yearlyOf_64 (by decide) ?_
    refine lv_idiv S.1 S.2.1 dX5_yearlyOf_66 (by decide) ?_
    exact g_iret (XWd_ok D ad cs ts adK adV) S hr hlk hw dX5_yearlyOf_67 (Option.some.inj hf) rfl
  have hf := itf hf h9
  by_cases h11 : v5 = (4 : Int32)
  · have hf := itt hf h11
    refine lv_tableIn (off := 56) (tgt := 72) S.1 S.2.1 dX5_yearlyOf_16 (by rw [h11]; decide) (by rw [h11]; decide) (by rw [h11]; rfl) (by decide) ?_
    refine lv_iload_n S.1 S.2.1 dX5_yearlyOf_72 rfl (lv_at hl 0 rfl) ?_
    exact g_iret (XWd_ok D ad cs ts adK adV) S hr hlk hw dX5_yearlyOf_73 (Option.some.inj hf) rfl
  have hf := itf hf h11
  by_cases h12 : v5 = (5 : Int32)
  · have hf := itt hf h12
    refine lv_tableIn (off := 52) (tgt := 68) S.1 S.2.1 dX5_yearlyOf_16 (by rw [h12]; decide) (by rw [h12]; decide) (by rw [h12]; rfl) (by decide) ?_
    refine lv_iconst (v := 2) S.1 S.2.1 dX5_yearlyOf_68 (by decide) ?_
    refine lv_iload_n S.1 S.2.1 dX5_yearlyOf_69 rfl (lv_at hl 0 rfl) ?_
    refine lv_imul S.1 S.2.1 dX5_yearlyOf_70 ?_
    exact g_iret (XWd_ok D ad cs ts adK adV) S hr hlk hw dX5_yearlyOf_71 (Option.some.inj hf) rfl
  have hf := itf hf h12
  refine lv_tableOut (tgt := 72) S.1 S.2.1 dX5_yearlyOf_16 (by have h7 := lv_neT h7 (a := 1) (by decide); have h8 := lv_neT h8 (a := 2) (by decide); have h9 := lv_neT h9 (a := 3) (by decide); have h11 := lv_neT h11 (a := 4) (by decide); have h12 := lv_neT h12 (a := 5) (by decide); omega) (by decide) ?_
  refine lv_iload_n S.1 S.2.1 dX5_yearlyOf_72 rfl (lv_at hl 0 rfl) ?_
  exact g_iret (XWd_ok D ad cs ts adK adV) S hr hlk hw dX5_yearlyOf_73 (Option.some.inj hf) rfl
def fX5_isUnder_34 (N : Nat) (σ : St) (x2 : Int32) (x3 : Int32) : Option Int32 :=
  if x3 = x2 then (some (1 : Int32)) else (some (0 : Int32))
set_option maxHeartbeats 2000000 in
set_option maxRecDepth 20000 in
theorem wX5_isUnder_34 {r : Int32} {N : Nat} {σ : St} (S : CallFix p m c cX5_isUnder 5 s av BG RX5) (hr : meth.sig.returnType = some .boolean) (hlk : meth.locks = false)  {x2 : Int32} {x3 : Int32} {ls : Array Slot} {H : Heap} {locs : List Loc} (hw : Hw (XWd D ad cs ts adK adV) s σ H locs) (hl : lv_has ls 5 [(0, .ref (ad 4)), (2, .int x2), (3, .int x3)]) (hf : fX5_isUnder_34 N σ x2 x3 = some r) : W p l e (RM 0 0) s m av below meth c H locs 0 0 (QI below (XWd D ad cs ts adK adV) av s r σ) (F0 m 34 ls []) := by
  unfold fX5_isUnder_34 at hf
  refine lv_iload_n S.1 S.2.1 dX5_isUnder_34 rfl (lv_at hl 2 rfl) ?_
  refine lv_iload_n S.1 S.2.1 dX5_isUnder_35 rfl (lv_at hl 1 rfl) ?_
  refine lv_icmp_ne (tgt := 43) S.1 S.2.1 dX5_isUnder_36 (by decide) (fun hc => ?_) (fun hc => ?_)
  · have hf := itf hf hc
    refine lv_iconst (v := 0) S.1 S.2.1 dX5_isUnder_43 (by decide) ?_
    exact g_zret (XWd_ok D ad cs ts adK adV) S hr hlk hw rfl dX5_isUnder_44 (Option.some.inj hf) rfl
  · have hf := itt hf hc
    refine lv_iconst (v := 1) S.1 S.2.1 dX5_isUnder_39 (by decide) ?_
    refine lv_goto (tgt := 44) S.1 S.2.1 dX5_isUnder_40 (by decide) ?_
    exact g_zret (XWd_ok D ad cs ts adK adV) S hr hlk hw rfl dX5_isUnder_44 (Option.some.inj hf) rfl
def fX5_isUnder_10b (N : Nat) (σ : St) (k10 : Int32 → Int32 → Int32 → Option Int32) (x2 : Int32) (x3 : Int32) (x4 : Int32) : Option Int32 :=
  if (6 : Int32) ≤ x4 then (fX5_isUnder_34 N σ x2 x3) else (if x3 ≤ x2 then (fX5_isUnder_34 N σ x2 x3) else (if ix x3 6 = true then nm (stT 4 (x3).toNatClampNeg) fun v5 => nm (x4 + (1 : Int32)) fun v7 => k10 x2 v5 v7 else none))
set_option maxHeartbeats 2000000 in
set_option maxRecDepth 20000 in
theorem wX5_isUnder_10b {r : Int32} {N : Nat} {σ : St} (S : CallFix p m c cX5_isUnder 5 s av BG RX5) (hr : meth.sig.returnType = some .boolean) (hlk : meth.locks = false) {k10 : Int32 → Int32 → Int32 → Option Int32} (hk10 : ∀ (x2 : Int32) (x3 : Int32) (x4 : Int32) (ls : Array Slot) (H : Heap) (locs : List Loc), Hw (XWd D ad cs ts adK adV) s σ H locs → lv_has ls 5 [(0, .ref (ad 4)), (2, .int x2), (3, .int x3), (4, .int x4)] → k10 x2 x3 x4 = some r → W p l e (RM 0 0) s m av below meth c H locs 0 0 (QI below (XWd D ad cs ts adK adV) av s r σ) (F0 m 10 ls []))  {x2 : Int32} {x3 : Int32} {x4 : Int32} {ls : Array Slot} {H : Heap} {locs : List Loc} (hw : Hw (XWd D ad cs ts adK adV) s σ H locs) (hl : lv_has ls 5 [(0, .ref (ad 4)), (2, .int x2), (3, .int x3), (4, .int x4)]) (hf : fX5_isUnder_10b N σ k10 x2 x3 x4 = some r) : W p l e (RM 0 0) s m av below meth c H locs 0 0 (QI below (XWd D ad cs ts adK adV) av s r σ) (F0 m 10 ls []) := by
  unfold fX5_isUnder_10b at hf
  refine lv_iload S.1 S.2.1 dX5_isUnder_10 (lv_at hl 3 rfl) ?_
  refine lv_bipush (v := 6) S.1 S.2.1 dX5_isUnder_12 (by decide) ?_
  refine lv_icmp_ge (tgt := 34) S.1 S.2.1 dX5_isUnder_14 (by decide) (fun hc => ?_) (fun hc => ?_)
  · have hf := itt hf hc
    exact wX5_isUnder_34 S hr hlk hw (lv_sub hl [0, 1, 2] rfl) hf
  · have hf := itf hf hc
    refine lv_iload_n S.1 S.2.1 dX5_isUnder_17 rfl (lv_at hl 2 rfl) ?_
    refine lv_iload_n S.1 S.2.1 dX5_isUnder_18 rfl (lv_at hl 1 rfl) ?_
    refine lv_icmp_le (tgt := 34) S.1 S.2.1 dX5_isUnder_19 (by decide) (fun hc => ?_) (fun hc => ?_)
    · have hf := itt hf hc
      exact wX5_isUnder_34 S hr hlk hw (lv_sub hl [0, 1, 2] rfl) hf
    · have hf := itf hf hc
      refine x_gn S hw 4 (by decide) 4 rfl dX5_isUnder_22 ?_
      refine lv_iload_n S.1 S.2.1 dX5_isUnder_25 rfl (lv_at hl 2 rfl) ?_
      obtain ⟨h4, hf⟩ := gd_ix hf
      refine x_ti S hw 4 (by decide) h4 dX5_isUnder_26 ?_
      refine lv_topi (fun v5 e6 => ?_)
      have hf := nm_s e6 hf
      refine lv_istore_n (lv' := [(3, .int v5), (0, .ref (ad 4)), (2, .int x2), (4, .int x4)]) S.1 S.2.1 dX5_isUnder_27 rfl hl (by decide) rfl (fun ls hl => ?_)
      obtain ⟨v7, e8⟩ : ∃ z : Int32, z = x4 + (1 : Int32) := ⟨_, rfl⟩
      have hf := nm_s e8 hf
      refine lv_iinc (v := v7) (lv' := [(4, .int v7), (3, .int v5), (0, .ref (ad 4)), (2, .int x2)]) S.1 S.2.1 dX5_isUnder_28 hl (k := 3) rfl (by rw [e8]; rfl) (by decide) rfl (fun ls hl => ?_)
      refine lv_goto (tgt := 10) S.1 S.2.1 dX5_isUnder_31 (by decide) ?_
      exact hk10 x2 v5 v7 _ _ _ hw (lv_sub hl [2, 3, 1, 0] rfl) hf
def fX5_isUnder_10 (N : Nat) (σ : St) : Nat → Int32 → Int32 → Int32 → Option Int32
  | 0 => fun _ _ _ => none
  | n + 1 => fX5_isUnder_10b N σ (fX5_isUnder_10 N σ n)
theorem wX5_isUnder_10 {r : Int32} {N : Nat} {σ : St} (S : CallFix p m c cX5_isUnder 5 s av BG RX5) (hr : meth.sig.returnType = some .boolean) (hlk : meth.locks = false) : ∀ (n : Nat), ∀ (x2 : Int32) (x3 : Int32) (x4 : Int32) (ls : Array Slot) (H : Heap) (locs : List Loc), Hw (XWd D ad cs ts adK adV) s σ H locs → lv_has ls 5 [(0, .ref (ad 4)), (2, .int x2), (3, .int x3), (4, .int x4)] → fX5_isUnder_10 N σ n x2 x3 x4 = some r → W p l e (RM 0 0) s m av below meth c H locs 0 0 (QI below (XWd D ad cs ts adK adV) av s r σ) (F0 m 10 ls []) := by
  intro n
  induction n with
  | zero => intro _ _ _ ls H locs hw hl hf; cases hf
  | succ n ih => intro _ _ _ ls H locs hw hl hf; exact wX5_isUnder_10b S hr hlk ih hw hl hf
def fX5_isUnder (N : Nat) (σ : St) (x1 : Int32) (x2 : Int32) : Option Int32 :=
  if ix x1 24 = true then nm (aR σ 42 x1) fun v2 => fX5_isUnder_10 N σ N x2 v2 (0 : Int32) else none
set_option maxHeartbeats 2000000 in
set_option maxRecDepth 20000 in
theorem tX5_isUnder {r : Int32} {N : Nat} {σ : St} {x1 : Int32} {x2 : Int32} (hf : fX5_isUnder N σ x1 x2 = some r) : CI l (XWd D ad cs ts adK adV) yX5_isUnder cX5_isUnder 5 (some .boolean) 0 0 [.ref (ad 4), .int x1, .int x2] σ r σ := by
  refine CI.of (by decide) (Nat.le_of_ble_eq_true rfl) ?_
  intro p e s m below meth c ls S hr hlk hw hl
  have hl : lv_has ls 5 [(0, .ref (ad 4)), (1, .int x1), (2, .int x2)] := hl
  unfold fX5_isUnder at hf
  refine lv_aload_n S.1 S.2.1 dX5_isUnder_0 rfl (lv_at hl 0 rfl) ?_
  refine xg_Leaves_kinds S hw kf_X5_9 dX5_isUnder_1 ?_
  refine lv_iload_n S.1 S.2.1 dX5_isUnder_4 rfl (lv_at hl 1 rfl) ?_
  obtain ⟨h1, hf⟩ := gd_ix hf
  refine g_iald S hw 42 0 xe_42 rfl h1 dX5_isUnder_5 ?_
  refine lv_topi (fun v2 e3 => ?_)
  have hf := nm_s e3 hf
  refine lv_istore_n (lv' := [(3, .int v2), (0, .ref (ad 4)), (1, .int x1), (2, .int x2)]) S.1 S.2.1 dX5_isUnder_6 rfl hl (by decide) rfl (fun ls hl => ?_)
  refine lv_iconst (v := 0) S.1 S.2.1 dX5_isUnder_7 (by decide) ?_
  refine lv_istore (lv' := [(4, .int (0 : Int32)), (3, .int v2), (0, .ref (ad 4)), (1, .int x1), (2, .int x2)]) S.1 S.2.1 dX5_isUnder_8 hl (by decide) rfl (fun ls hl => ?_)
  exact wX5_isUnder_10 S hr hlk N x2 v2 (0 : Int32) _ _ _ hw (lv_sub hl [2, 4, 1, 0] rfl) hf
def fX5_isInForce (N : Nat) (σ : St) (x1 : Int32) (x2 : Int32) : Option (Int32 × St) :=
  if ix x1 24 = true then bd (fX5_markInForce N σ (aR σ 43 x1) x2) fun σ2 => if ix x1 24 = true then if bz (aR σ2 50 x1) = true then some ((aR σ2 50 x1), σ2) else none else none else none
set_option maxHeartbeats 2000000 in
set_option maxRecDepth 20000 in
theorem tX5_isInForce {r : Int32} {σ' : St} {N : Nat} {σ : St} {x1 : Int32} {x2 : Int32} (hf : fX5_isInForce N σ x1 x2 = some (r, σ')) : CI l (XWd D ad cs ts adK adV) yX5_isInForce cX5_isInForce 3 (some .boolean) 3 74 [.ref (ad 4), .int x1, .int x2] σ r σ' := by
  refine CI.of (by decide) (Nat.le_of_ble_eq_true rfl) ?_
  intro p e s m below meth c ls S hr hlk hw hl
  have hl : lv_has ls 3 [(0, .ref (ad 4)), (1, .int x1), (2, .int x2)] := hl
  unfold fX5_isInForce at hf
  refine lv_aload_n S.1 S.2.1 dX5_isInForce_0 rfl (lv_at hl 0 rfl) ?_
  refine lv_aload_n S.1 S.2.1 dX5_isInForce_1 rfl (lv_at hl 0 rfl) ?_
  refine xg_Leaves_spans S hw kf_X5_15 dX5_isInForce_2 ?_
  refine lv_iload_n S.1 S.2.1 dX5_isInForce_5 rfl (lv_at hl 1 rfl) ?_
  obtain ⟨h1, hf⟩ := gd_ix hf
  refine g_iald S hw 43 0 xe_43 rfl h1 dX5_isInForce_6 ?_
  refine lv_iload_n S.1 S.2.1 dX5_isInForce_7 rfl (lv_at hl 2 rfl) ?_
  obtain ⟨σ2, g3, hf⟩ := bd_s hf
  refine g_Vv (rest := []) (XWd_ok D ad cs ts adK adV) S hw (tX5_markInForce g3) kt_X5_88 4 xe_4 rfl rfl ⟨Nat.le_of_ble_eq_true rfl, Nat.le_of_ble_eq_true rfl⟩ rfl hl.1 rfl (Nat.le_of_ble_eq_true rfl) ⟨Nat.zero_le _, Nat.zero_le _⟩ dX5_isInForce_8 (fun H locs hw => ?_)
  refine lv_aload_n S.1 S.2.1 dX5_isInForce_11 rfl (lv_at hl 0 rfl) ?_
  refine xg_Leaves_marks S hw kf_X5_37 dX5_isInForce_12 ?_
  refine lv_iload_n S.1 S.2.1 dX5_isInForce_15 rfl (lv_at hl 1 rfl) ?_
  obtain ⟨h4, hf⟩ := gd_ix hf
  refine g_zald S hw 50 2 xe_50 rfl h4 dX5_isInForce_16 ?_
  obtain ⟨h5, hf⟩ := gd_t hf
  exact g_zret (XWd_ok D ad cs ts adK adV) S hr hlk hw (bz_n h5) dX5_isInForce_17 (Prod.mk.inj (Option.some.inj hf)).1 (Prod.mk.inj (Option.some.inj hf)).2
def fX5_hangingOn_69 (N : Nat) (k4 : St → Int32 → Int32 → Int32 → Option (Int32 × St)) (σ : St) (x1 : Int32) (x2 : Int32) (x3 : Int32) : Option (Int32 × St) :=
  nm (x3 + (1 : Int32)) fun v11 => k4 σ x1 x2 v11
set_option maxHeartbeats 2000000 in
set_option maxRecDepth 20000 in
theorem wX5_hangingOn_69 {r : Int32} {σ' : St} {N : Nat} (S : CallFix p m c cX5_hangingOn 4 s av BG RX5) (hr : meth.sig.returnType = some .int) (hlk : meth.locks = false) {k4 : St → Int32 → Int32 → Int32 → Option (Int32 × St)} (hk4 : ∀ (σ : St) (x1 : Int32) (x2 : Int32) (x3 : Int32) (ls : Array Slot) (H : Heap) (locs : List Loc), Hw (XWd D ad cs ts adK adV) s σ H locs → lv_has ls 4 [(0, .ref (ad 4)), (1, .int x1), (2, .int x2), (3, .int x3)] → k4 σ x1 x2 x3 = some (r, σ') → W p l e (RM 0 0) s m av below meth c H locs 0 0 (QI below (XWd D ad cs ts adK adV) av s r σ') (F0 m 4 ls []))  {σ : St} {x1 : Int32} {x2 : Int32} {x3 : Int32} {ls : Array Slot} {H : Heap} {locs : List Loc} (hw : Hw (XWd D ad cs ts adK adV) s σ H locs) (hl : lv_has ls 4 [(0, .ref (ad 4)), (1, .int x1), (2, .int x2), (3, .int x3)]) (hf : fX5_hangingOn_69 N k4 σ x1 x2 x3 = some (r, σ')) : W p l e (RM 0 0) s m av below meth c H locs 0 0 (QI below (XWd D ad cs ts adK adV) av s r σ') (F0 m 69 ls []) := by
  unfold fX5_hangingOn_69 at hf
  obtain ⟨v11, e12⟩ : ∃ z : Int32, z = x3 + (1 : Int32) := ⟨_, rfl⟩
  have hf := nm_s e12 hf
  refine lv_iinc (v := v11) (lv' := [(3, .int v11), (0, .ref (ad 4)), (1, .int x1), (2, .int x2)]) S.1 S.2.1 dX5_hangingOn_69 hl (k := 3) rfl (by rw [e12]; rfl) (by decide) rfl (fun ls hl => ?_)
  refine lv_goto (tgt := 4) S.1 S.2.1 dX5_hangingOn_72 (by decide) ?_
  exact hk4 σ x1 x2 v11 _ _ _ hw (lv_sub hl [1, 2, 3, 0] rfl) hf
def fX5_hangingOn_56 (N : Nat) (k4 : St → Int32 → Int32 → Int32 → Option (Int32 × St)) (σ : St) (x1 : Int32) (x2 : Int32) (x3 : Int32) (y1 : Int32) (y2 : Int32) : Option (Int32 × St) :=
  if ix y1 24 = true then nm (aW σ 50 y1 (vp_nar .boolean y2)) fun σ6 => if ix x3 24 = true then if (aR σ6 50 x3) = 0 then (fX5_hangingOn_69 N k4 σ6 x1 x2 x3) else (nm (x2 + (1 : Int32)) fun v9 => fX5_hangingOn_69 N k4 σ6 x1 v9 x3) else none else none
set_option maxHeartbeats 2000000 in
set_option maxRecDepth 20000 in
theorem wX5_hangingOn_56 {r : Int32} {σ' : St} {N : Nat} (S : CallFix p m c cX5_hangingOn 4 s av BG RX5) (hr : meth.sig.returnType = some .int) (hlk : meth.locks = false) {k4 : St → Int32 → Int32 → Int32 → Option (Int32 × St)} (hk4 : ∀ (σ : St) (x1 : Int32) (x2 : Int32) (x3 : Int32) (ls : Array Slot) (H : Heap) (locs : List Loc), Hw (XWd D ad cs ts adK adV) s σ H locs → lv_has ls 4 [(0, .ref (ad 4)), (1, .int x1), (2, .int x2), (3, .int x3)] → k4 σ x1 x2 x3 = some (r, σ') → W p l e (RM 0 0) s m av below meth c H locs 0 0 (QI below (XWd D ad cs ts adK adV) av s r σ') (F0 m 4 ls []))  {σ : St} {x1 : Int32} {x2 : Int32} {x3 : Int32} {y1 : Int32} {y2 : Int32} {ls : Array Slot} {H : Heap} {locs : List Loc} (hw : Hw (XWd D ad cs ts adK adV) s σ H locs) (hl : lv_has ls 4 [(0, .ref (ad 4)), (1, .int x1), (2, .int x2), (3, .int x3)]) (hf : fX5_hangingOn_56 N k4 σ x1 x2 x3 y1 y2 = some (r, σ')) : W p l e (RM 0 0) s m av below meth c H locs 0 0 (QI below (XWd D ad cs ts adK adV) av s r σ') (F0 m 56 ls [.int y2, .int y1, .ref (ad 50)]) := by
  unfold fX5_hangingOn_56 at hf
  obtain ⟨h5, hf⟩ := gd_ix hf
  obtain ⟨σ6, e7⟩ : ∃ z : St, z = aW σ 50 y1 (vp_nar .boolean y2) := ⟨_, rfl⟩
  have hf := nm_s e7 hf
  refine g_zast (σ' := σ6) S hw 50 2 xe_50 rfl (by rw [e7]; exact xs_50 _) h5 dX5_hangingOn_56 (fun H locs hw => ?_)
  refine lv_aload_n S.1 S.2.1 dX5_hangingOn_57 rfl (lv_at hl 0 rfl) ?_
  refine xg_Leaves_marks S hw kf_X5_37 dX5_hangingOn_58 ?_
  refine lv_iload_n S.1 S.2.1 dX5_hangingOn_61 rfl (lv_at hl 3 rfl) ?_
  obtain ⟨h8, hf⟩ := gd_ix hf
  refine g_zald S hw 50 2 xe_50 rfl h8 dX5_hangingOn_62 ?_
  refine lv_if_eq (tgt := 69) S.1 S.2.1 dX5_hangingOn_63 (by decide) (fun hc => ?_) (fun hc => ?_)
  · have hf := itt hf hc
    exact wX5_hangingOn_69 S hr hlk hk4 hw (lv_sub hl [0, 1, 2, 3] rfl) hf
  · have hf := itf hf hc
    obtain ⟨v9, e10⟩ : ∃ z : Int32, z = x2 + (1 : Int32) := ⟨_, rfl⟩
    have hf := nm_s e10 hf
    refine lv_iinc (v := v9) (lv' := [(2, .int v9), (0, .ref (ad 4)), (1, .int x1), (3, .int x3)]) S.1 S.2.1 dX5_hangingOn_66 hl (k := 2) rfl (by rw [e10]; rfl) (by decide) rfl (fun ls hl => ?_)
    exact wX5_hangingOn_69 S hr hlk hk4 hw (lv_sub hl [1, 2, 0, 3] rfl) hf
def fX5_hangingOn_51 (N : Nat) (k4 : St → Int32 → Int32 → Int32 → Option (Int32 × St)) (σ : St) (x1 : Int32) (x2 : Int32) (x3 : Int32) (y1 : Int32) : Option (Int32 × St) :=
  fX5_hangingOn_56 N k4 σ x1 x2 x3 y1 (1 : Int32)
set_option maxHeartbeats 2000000 in
set_option maxRecDepth 20000 in
theorem wX5_hangingOn_51 {r : Int32} {σ' : St} {N : Nat} (S : CallFix p m c cX5_hangingOn 4 s av BG RX5) (hr : meth.sig.returnType = some .int) (hlk : meth.locks = false) {k4 : St → Int32 → Int32 → Int32 → Option (Int32 × St)} (hk4 : ∀ (σ : St) (x1 : Int32) (x2 : Int32) (x3 : Int32) (ls : Array Slot) (H : Heap) (locs : List Loc), Hw (XWd D ad cs ts adK adV) s σ H locs → lv_has ls 4 [(0, .ref (ad 4)), (1, .int x1), (2, .int x2), (3, .int x3)] → k4 σ x1 x2 x3 = some (r, σ') → W p l e (RM 0 0) s m av below meth c H locs 0 0 (QI below (XWd D ad cs ts adK adV) av s r σ') (F0 m 4 ls []))  {σ : St} {x1 : Int32} {x2 : Int32} {x3 : Int32} {y1 : Int32} {ls : Array Slot} {H : Heap} {locs : List Loc} (hw : Hw (XWd D ad cs ts adK adV) s σ H locs) (hl : lv_has ls 4 [(0, .ref (ad 4)), (1, .int x1), (2, .int x2), (3, .int x3)]) (hf : fX5_hangingOn_51 N k4 σ x1 x2 x3 y1 = some (r, σ')) : W p l e (RM 0 0) s m av below meth c H locs 0 0 (QI below (XWd D ad cs ts adK adV) av s r σ') (F0 m 51 ls [.int y1, .ref (ad 50)]) := by
  unfold fX5_hangingOn_51 at hf
  refine lv_iconst (v := 1) S.1 S.2.1 dX5_hangingOn_51 (by decide) ?_
  refine lv_goto (tgt := 56) S.1 S.2.1 dX5_hangingOn_52 (by decide) ?_
  exact wX5_hangingOn_56 S hr hlk hk4 hw (lv_sub hl [0, 1, 2, 3] rfl) hf
def fX5_hangingOn_55 (N : Nat) (k4 : St → Int32 → Int32 → Int32 → Option (Int32 × St)) (σ : St) (x1 : Int32) (x2 : Int32) (x3 : Int32) (y1 : Int32) : Option (Int32 × St) :=
  fX5_hangingOn_56 N k4 σ x1 x2 x3 y1 (0 : Int32)
set_option maxHeartbeats 2000000 in
set_option maxRecDepth 20000 in
theorem wX5_hangingOn_55 {r : Int32} {σ' : St} {N : Nat} (S : CallFix p m c cX5_hangingOn 4 s av BG RX5) (hr : meth.sig.returnType = some .int) (hlk : meth.locks = false) {k4 : St → Int32 → Int32 → Int32 → Option (Int32 × St)} (hk4 : ∀ (σ : St) (x1 : Int32) (x2 : Int32) (x3 : Int32) (ls : Array Slot) (H : Heap) (locs : List Loc), Hw (XWd D ad cs ts adK adV) s σ H locs → lv_has ls 4 [(0, .ref (ad 4)), (1, .int x1), (2, .int x2), (3, .int x3)] → k4 σ x1 x2 x3 = some (r, σ') → W p l e (RM 0 0) s m av below meth c H locs 0 0 (QI below (XWd D ad cs ts adK adV) av s r σ') (F0 m 4 ls []))  {σ : St} {x1 : Int32} {x2 : Int32} {x3 : Int32} {y1 : Int32} {ls : Array Slot} {H : Heap} {locs : List Loc} (hw : Hw (XWd D ad cs ts adK adV) s σ H locs) (hl : lv_has ls 4 [(0, .ref (ad 4)), (1, .int x1), (2, .int x2), (3, .int x3)]) (hf : fX5_hangingOn_55 N k4 σ x1 x2 x3 y1 = some (r, σ')) : W p l e (RM 0 0) s m av below meth c H locs 0 0 (QI below (XWd D ad cs ts adK adV) av s r σ') (F0 m 55 ls [.int y1, .ref (ad 50)]) := by
  unfold fX5_hangingOn_55 at hf
  refine lv_iconst (v := 0) S.1 S.2.1 dX5_hangingOn_55 (by decide) ?_
  exact wX5_hangingOn_56 S hr hlk hk4 hw (lv_sub hl [0, 1, 2, 3] rfl) hf
def fX5_hangingOn_4b (N : Nat) (k4 : St → Int32 → Int32 → Int32 → Option (Int32 × St)) (σ : St) (x1 : Int32) (x2 : Int32) (x3 : Int32) : Option (Int32 × St) :=
  if (σ.1 4) ≤ x3 then (some (x2, σ)) else (if ix x3 24 = true then if (aR σ 46 x3) = (-1 : Int32) then (fX5_hangingOn_55 N k4 σ x1 x2 x3 x3) else (if ix x3 24 = true then if (aR σ 46 x3) = x1 then (fX5_hangingOn_51 N k4 σ x1 x2 x3 x3) else (if ix x3 24 = true then if ix (aR σ 46 x3) 24 = true then if (aR σ 50 (aR σ 46 x3)) = 0 then (fX5_hangingOn_55 N k4 σ x1 x2 x3 x3) else (fX5_hangingOn_51 N k4 σ x1 x2 x3 x3) else none else none) else none) else none)
set_option maxHeartbeats 2000000 in
set_option maxRecDepth 20000 in
theorem wX5_hangingOn_4b {r : Int32} {σ' : St} {N : Nat} (S : CallFix p m c cX5_hangingOn 4 s av BG RX5) (hr : meth.sig.returnType = some .int) (hlk : meth.locks = false) {k4 : St → Int32 → Int32 → Int32 → Option (Int32 × St)} (hk4 : ∀ (σ : St) (x1 : Int32) (x2 : Int32) (x3 : Int32) (ls : Array Slot) (H : Heap) (locs : List Loc), Hw (XWd D ad cs ts adK adV) s σ H locs → lv_has ls 4 [(0, .ref (ad 4)), (1, .int x1), (2, .int x2), (3, .int x3)] → k4 σ x1 x2 x3 = some (r, σ') → W p l e (RM 0 0) s m av below meth c H locs 0 0 (QI below (XWd D ad cs ts adK adV) av s r σ') (F0 m 4 ls []))  {σ : St} {x1 : Int32} {x2 : Int32} {x3 : Int32} {ls : Array Slot} {H : Heap} {locs : List Loc} (hw : Hw (XWd D ad cs ts adK adV) s σ H locs) (hl : lv_has ls 4 [(0, .ref (ad 4)), (1, .int x1), (2, .int x2), (3, .int x3)]) (hf : fX5_hangingOn_4b N k4 σ x1 x2 x3 = some (r, σ')) : W p l e (RM 0 0) s m av below meth c H locs 0 0 (QI below (XWd D ad cs ts adK adV) av s r σ') (F0 m 4 ls []) := by
  unfold fX5_hangingOn_4b at hf
  refine lv_iload_n S.1 S.2.1 dX5_hangingOn_4 rfl (lv_at hl 3 rfl) ?_
  refine lv_aload_n S.1 S.2.1 dX5_hangingOn_5 rfl (lv_at hl 0 rfl) ?_
  refine xg_Leaves_count S hw kf_X5_52 dX5_hangingOn_6 ?_
  refine lv_icmp_ge (tgt := 75) S.1 S.2.1 dX5_hangingOn_9 (by decide) (fun hc => ?_) (fun hc => ?_)
  · have hf := itt hf hc
    refine lv_iload_n S.1 S.2.1 dX5_hangingOn_75 rfl (lv_at hl 2 rfl) ?_
    exact g_iret (XWd_ok D ad cs ts adK adV) S hr hlk hw dX5_hangingOn_76 (Prod.mk.inj (Option.some.inj hf)).1 (Prod.mk.inj (Option.some.inj hf)).2
  · have hf := itf hf hc
    refine lv_aload_n S.1 S.2.1 dX5_hangingOn_12 rfl (lv_at hl 0 rfl) ?_
    refine xg_Leaves_marks S hw kf_X5_37 dX5_hangingOn_13 ?_
    refine lv_iload_n S.1 S.2.1 dX5_hangingOn_16 rfl (lv_at hl 3 rfl) ?_
    refine lv_aload_n S.1 S.2.1 dX5_hangingOn_17 rfl (lv_at hl 0 rfl) ?_
    refine xg_Leaves_ons S hw kf_X5_24 dX5_hangingOn_18 ?_
    refine lv_iload_n S.1 S.2.1 dX5_hangingOn_21 rfl (lv_at hl 3 rfl) ?_
    obtain ⟨h1, hf⟩ := gd_ix hf
    refine g_iald S hw 46 0 xe_46 rfl h1 dX5_hangingOn_22 ?_
    refine lv_iconst (v := -1) S.1 S.2.1 dX5_hangingOn_23 (by decide) ?_
    refine lv_icmp_eq (tgt := 55) S.1 S.2.1 dX5_hangingOn_24 (by decide) (fun hc => ?_) (fun hc => ?_)
    · have hf := itt hf hc
      exact wX5_hangingOn_55 S hr hlk hk4 hw (lv_sub hl [0, 1, 2, 3] rfl) hf
    · have hf := itf hf hc
      refine lv_aload_n S.1 S.2.1 dX5_hangingOn_27 rfl (lv_at hl 0 rfl) ?_
      refine xg_Leaves_ons S hw kf_X5_24 dX5_hangingOn_28 ?_
      refine lv_iload_n S.1 S.2.1 dX5_hangingOn_31 rfl (lv_at hl 3 rfl) ?_
      obtain ⟨h2, hf⟩ := gd_ix hf
      refine g_iald S hw 46 0 xe_46 rfl h2 dX5_hangingOn_32 ?_
      refine lv_iload_n S.1 S.2.1 dX5_hangingOn_33 rfl (lv_at hl 1 rfl) ?_
      refine lv_icmp_eq (tgt := 51) S.1 S.2.1 dX5_hangingOn_34 (by decide) (fun hc => ?_) (fun hc => ?_)
      · have hf := itt hf hc
        exact wX5_hangingOn_51 S hr hlk hk4 hw (lv_sub hl [0, 1, 2, 3] rfl) hf
      · have hf := itf hf hc
        refine lv_aload_n S.1 S.2.1 dX5_hangingOn_37 rfl (lv_at hl 0 rfl) ?_
        refine xg_Leaves_marks S hw kf_X5_37 dX5_hangingOn_38 ?_
        refine lv_aload_n S.1 S.2.1 dX5_hangingOn_41 rfl (lv_at hl 0 rfl) ?_
        refine xg_Leaves_ons S hw kf_X5_24 dX5_hangingOn_42 ?_
        refine lv_iload_n S.1 S.2.1 dX5_hangingOn_45 rfl (lv_at hl 3 rfl) ?_
        obtain ⟨h3, hf⟩ := gd_ix hf
        refine g_iald S hw 46 0 xe_46 rfl h3 dX5_hangingOn_46 ?_
        obtain ⟨h4, hf⟩ := gd_ix hf
        refine g_zald S hw 50 2 xe_50 rfl h4 dX5_hangingOn_47 ?_
        refine lv_if_eq (tgt := 55) S.1 S.2.1 dX5_hangingOn_48 (by decide) (fun hc => ?_) (fun hc => ?_)
        · have hf := itt hf hc
          exact wX5_hangingOn_55 S hr hlk hk4 hw (lv_sub hl [0, 1, 2, 3] rfl) hf
        · have hf := itf hf hc
          exact wX5_hangingOn_51 S hr hlk hk4 hw (lv_sub hl [0, 1, 2, 3] rfl) hf
def fX5_hangingOn_4 (N : Nat) : Nat → St → Int32 → Int32 → Int32 → Option (Int32 × St)
  | 0 => fun _ _ _ _ => none
  | n + 1 => fX5_hangingOn_4b N (fX5_hangingOn_4 N n)
theorem wX5_hangingOn_4 {r : Int32} {σ' : St} {N : Nat} (S : CallFix p m c cX5_hangingOn 4 s av BG RX5) (hr : meth.sig.returnType = some .int) (hlk : meth.locks = false) : ∀ (n : Nat), ∀ (σ : St) (x1 : Int32) (x2 : Int32) (x3 : Int32) (ls : Array Slot) (H : Heap) (locs : List Loc), Hw (XWd D ad cs ts adK adV) s σ H locs → lv_has ls 4 [(0, .ref (ad 4)), (1, .int x1), (2, .int x2), (3, .int x3)] → fX5_hangingOn_4 N n σ x1 x2 x3 = some (r, σ') → W p l e (RM 0 0) s m av below meth c H locs 0 0 (QI below (XWd D ad cs ts adK adV) av s r σ') (F0 m 4 ls []) := by
  intro n
  induction n with
  | zero => intro _ _ _ _ ls H locs hw hl hf; cases hf
  | succ n ih => intro _ _ _ _ ls H locs hw hl hf; exact wX5_hangingOn_4b S hr hlk ih hw hl hf
def fX5_hangingOn (N : Nat) (σ : St) (x1 : Int32) : Option (Int32 × St) :=
  fX5_hangingOn_4 N N σ x1 (0 : Int32) (0 : Int32)
set_option maxHeartbeats 2000000 in
set_option maxRecDepth 20000 in
theorem tX5_hangingOn {r : Int32} {σ' : St} {N : Nat} {σ : St} {x1 : Int32} (hf : fX5_hangingOn N σ x1 = some (r, σ')) : CI l (XWd D ad cs ts adK adV) yX5_hangingOn cX5_hangingOn 4 (some .int) 0 0 [.ref (ad 4), .int x1] σ r σ' := by
  refine CI.of (by decide) (Nat.le_of_ble_eq_true rfl) ?_
  intro p e s m below meth c ls S hr hlk hw hl
  have hl : lv_has ls 4 [(0, .ref (ad 4)), (1, .int x1)] := hl
  unfold fX5_hangingOn at hf
  refine lv_iconst (v := 0) S.1 S.2.1 dX5_hangingOn_0 (by decide) ?_
  refine lv_istore_n (lv' := [(2, .int (0 : Int32)), (0, .ref (ad 4)), (1, .int x1)]) S.1 S.2.1 dX5_hangingOn_1 rfl hl (by decide) rfl (fun ls hl => ?_)
  refine lv_iconst (v := 0) S.1 S.2.1 dX5_hangingOn_2 (by decide) ?_
  refine lv_istore_n (lv' := [(3, .int (0 : Int32)), (2, .int (0 : Int32)), (0, .ref (ad 4)), (1, .int x1)]) S.1 S.2.1 dX5_hangingOn_3 rfl hl (by decide) rfl (fun ls hl => ?_)
  exact wX5_hangingOn_4 S hr hlk N σ x1 (0 : Int32) (0 : Int32) _ _ _ hw (lv_sub hl [2, 3, 1, 0] rfl) hf
def fX5_yearlyTo_67 (N : Nat) (k15 : St → Int32 → Int32 → Int32 → Option (Int64 × St)) (σ : St) (x1 : Int32) (x2 : Int32) (x3 : Int32) : Option (Int64 × St) :=
  nm (x3 + (1 : Int32)) fun v16 => k15 σ x1 x2 v16
set_option maxHeartbeats 2000000 in
set_option maxRecDepth 20000 in
theorem wX5_yearlyTo_67 {r : Int64} {σ' : St} {N : Nat} (S : CallFix p m c cX5_yearlyTo 4 s av BG RX5) (hr : meth.sig.returnType = some .long) (hlk : meth.locks = false) {k15 : St → Int32 → Int32 → Int32 → Option (Int64 × St)} (hk15 : ∀ (σ : St) (x1 : Int32) (x2 : Int32) (x3 : Int32) (ls : Array Slot) (H : Heap) (locs : List Loc), Hw (XWd D ad cs ts adK adV) s σ H locs → lv_has ls 4 [(0, .ref (ad 4)), (1, .int x1), (2, .int x2), (3, .int x3)] → k15 σ x1 x2 x3 = some (r, σ') → W p l e (RM 3 74) s m av below meth c H locs 0 0 (QJ below (XWd D ad cs ts adK adV) av s r σ') (F0 m 15 ls []))  {σ : St} {x1 : Int32} {x2 : Int32} {x3 : Int32} {ls : Array Slot} {H : Heap} {locs : List Loc} (hw : Hw (XWd D ad cs ts adK adV) s σ H locs) (hl : lv_has ls 4 [(0, .ref (ad 4)), (1, .int x1), (2, .int x2), (3, .int x3)]) (hf : fX5_yearlyTo_67 N k15 σ x1 x2 x3 = some (r, σ')) : W p l e (RM 3 74) s m av below meth c H locs 0 0 (QJ below (XWd D ad cs ts adK adV) av s r σ') (F0 m 67 ls []) := by
  unfold fX5_yearlyTo_67 at hf
  obtain ⟨v16, e17⟩ : ∃ z : Int32, z = x3 + (1 : Int32) := ⟨_, rfl⟩
  have hf := nm_s e17 hf
  refine lv_iinc (v := v16) (lv' := [(3, .int v16), (0, .ref (ad 4)), (1, .int x1), (2, .int x2)]) S.1 S.2.1 dX5_yearlyTo_67 hl (k := 3) rfl (by rw [e17]; rfl) (by decide) rfl (fun ls hl => ?_)
  refine lv_goto (tgt := 15) S.1 S.2.1 dX5_yearlyTo_70 (by decide) ?_
  exact hk15 σ x1 x2 v16 _ _ _ hw (lv_sub hl [1, 2, 3, 0] rfl) hf
def fX5_yearlyTo_15b (N : Nat) (k15 : St → Int32 → Int32 → Int32 → Option (Int64 × St)) (σ : St) (x1 : Int32) (x2 : Int32) (x3 : Int32) : Option (Int64 × St) :=
  if (σ.1 4) ≤ x3 then (bd (fX3_comesTo N σ x1) fun r5 => some (r5, σ)) else (if ix x3 24 = true then if (aR σ 50 x3) = 0 then (fX5_yearlyTo_67 N k15 σ x1 x2 x3) else (if ix x3 24 = true then if ix (aR σ 43 x3) 16 = true then bd (fX4_ownerOn N σ (aR σ 37 (aR σ 43 x3)) x2) fun r10 => bd (fX5_yearlyOf N σ x3) fun r12 => bd (fX3_pay N σ r10 (r12).toInt64) fun σ14 => fX5_yearlyTo_67 N k15 σ14 x1 x2 x3 else none else none) else none)
set_option maxHeartbeats 2000000 in
set_option maxRecDepth 20000 in
theorem wX5_yearlyTo_15b {r : Int64} {σ' : St} {N : Nat} (S : CallFix p m c cX5_yearlyTo 4 s av BG RX5) (hr : meth.sig.returnType = some .long) (hlk : meth.locks = false) {k15 : St → Int32 → Int32 → Int32 → Option (Int64 × St)} (hk15 : ∀ (σ : St) (x1 : Int32) (x2 : Int32) (x3 : Int32) (ls : Array Slot) (H : Heap) (locs : List Loc), Hw (XWd D ad cs ts adK adV) s σ H locs → lv_has ls 4 [(0, .ref (ad 4)), (1, .int x1), (2, .int x2), (3, .int x3)] → k15 σ x1 x2 x3 = some (r, σ') → W p l e (RM 3 74) s m av below meth c H locs 0 0 (QJ below (XWd D ad cs ts adK adV) av s r σ') (F0 m 15 ls []))  {σ : St} {x1 : Int32} {x2 : Int32} {x3 : Int32} {ls : Array Slot} {H : Heap} {locs : List Loc} (hw : Hw (XWd D ad cs ts adK adV) s σ H locs) (hl : lv_has ls 4 [(0, .ref (ad 4)), (1, .int x1), (2, .int x2), (3, .int x3)]) (hf : fX5_yearlyTo_15b N k15 σ x1 x2 x3 = some (r, σ')) : W p l e (RM 3 74) s m av below meth c H locs 0 0 (QJ below (XWd D ad cs ts adK adV) av s r σ') (F0 m 15 ls []) := by
  unfold fX5_yearlyTo_15b at hf
  refine lv_iload_n S.1 S.2.1 dX5_yearlyTo_15 rfl (lv_at hl 3 rfl) ?_
  refine lv_aload_n S.1 S.2.1 dX5_yearlyTo_16 rfl (lv_at hl 0 rfl) ?_
  refine xg_Leaves_count S hw kf_X5_52 dX5_yearlyTo_17 ?_
  refine lv_icmp_ge (tgt := 73) S.1 S.2.1 dX5_yearlyTo_20 (by decide) (fun hc => ?_) (fun hc => ?_)
  · have hf := itt hf hc
    refine lv_aload_n S.1 S.2.1 dX5_yearlyTo_73 rfl (lv_at hl 0 rfl) ?_
    refine xg_Leaves_heirs S hw kf_X5_48 dX5_yearlyTo_74 ?_
    refine lv_iload_n S.1 S.2.1 dX5_yearlyTo_77 rfl (lv_at hl 1 rfl) ?_
    obtain ⟨r5, g6, hf⟩ := bd_s hf
    refine g_Vj (rest := []) (XWd_ok D ad cs ts adK adV) S hw (tX3_comesTo g6) kt_X5_121 2 xe_2 rfl rfl ⟨Nat.le_of_ble_eq_true rfl, Nat.le_of_ble_eq_true rfl⟩ rfl hl.1 rfl (Nat.le_of_ble_eq_true rfl) ⟨Nat.zero_le _, Nat.zero_le _⟩ dX5_yearlyTo_78 (fun H locs hw => ?_)
    exact g_jret (XWd_ok D ad cs ts adK adV) S hr hlk hw dX5_yearlyTo_81 (Prod.mk.inj (Option.some.inj hf)).1 (Prod.mk.inj (Option.some.inj hf)).2
  · have hf := itf hf hc
    refine lv_aload_n S.1 S.2.1 dX5_yearlyTo_23 rfl (lv_at hl 0 rfl) ?_
    refine xg_Leaves_marks S hw kf_X5_37 dX5_yearlyTo_24 ?_
    refine lv_iload_n S.1 S.2.1 dX5_yearlyTo_27 rfl (lv_at hl 3 rfl) ?_
    obtain ⟨h7, hf⟩ := gd_ix hf
    refine g_zald S hw 50 2 xe_50 rfl h7 dX5_yearlyTo_28 ?_
    refine lv_if_eq (tgt := 67) S.1 S.2.1 dX5_yearlyTo_29 (by decide) (fun hc => ?_) (fun hc => ?_)
    · have hf := itt hf hc
      exact wX5_yearlyTo_67 S hr hlk hk15 hw (lv_sub hl [0, 1, 2, 3] rfl) hf
    · have hf := itf hf hc
      refine lv_aload_n S.1 S.2.1 dX5_yearlyTo_32 rfl (lv_at hl 0 rfl) ?_
      refine xg_Leaves_heirs S hw kf_X5_48 dX5_yearlyTo_33 ?_
      refine lv_aload_n S.1 S.2.1 dX5_yearlyTo_36 rfl (lv_at hl 0 rfl) ?_
      refine xg_Leaves_land S hw kf_X5_40 dX5_yearlyTo_37 ?_
      refine lv_aload_n S.1 S.2.1 dX5_yearlyTo_40 rfl (lv_at hl 0 rfl) ?_
      refine xg_Leaves_line S hw kf_X5_44 dX5_yearlyTo_41 ?_
      refine xg_Line_plots S hw kf_X5_73 dX5_yearlyTo_44 ?_
      refine lv_aload_n S.1 S.2.1 dX5_yearlyTo_47 rfl (lv_at hl 0 rfl) ?_
      refine xg_Leaves_spans S hw kf_X5_15 dX5_yearlyTo_48 ?_
      refine lv_iload_n S.1 S.2.1 dX5_yearlyTo_51 rfl (lv_at hl 3 rfl) ?_
      obtain ⟨h8, hf⟩ := gd_ix hf
      refine g_iald S hw 43 0 xe_43 rfl h8 dX5_yearlyTo_52 ?_
      obtain ⟨h9, hf⟩ := gd_ix hf
      refine g_iald S hw 37 0 xe_37 rfl h9 dX5_yearlyTo_53 ?_
      refine lv_iload_n S.1 S.2.1 dX5_yearlyTo_54 rfl (lv_at hl 2 rfl) ?_
      obtain ⟨r10, g11, hf⟩ := bd_s hf
      refine g_Vi (rest := [.ref (ad 2)]) (XWd_ok D ad cs ts adK adV) S hw (tX4_ownerOn g11) kt_X5_78 1 xe_1 rfl rfl ⟨Nat.le_of_ble_eq_true rfl, Nat.le_of_ble_eq_true rfl⟩ rfl hl.1 rfl (Nat.le_of_ble_eq_true rfl) ⟨Nat.zero_le _, Nat.zero_le _⟩ dX5_yearlyTo_55 (fun H locs hw => ?_)
      refine lv_aload_n S.1 S.2.1 dX5_yearlyTo_58 rfl (lv_at hl 0 rfl) ?_
      refine lv_iload_n S.1 S.2.1 dX5_yearlyTo_59 rfl (lv_at hl 3 rfl) ?_
      obtain ⟨r12, g13, hf⟩ := bd_s hf
      refine g_Vi (rest := [.int r10, .ref (ad 2)]) (XWd_ok D ad cs ts adK adV) S hw (tX5_yearlyOf g13) kt_X5_114 4 xe_4 rfl rfl ⟨Nat.le_of_ble_eq_true rfl, Nat.le_of_ble_eq_true rfl⟩ rfl hl.1 rfl (Nat.le_of_ble_eq_true rfl) ⟨Nat.zero_le _, Nat.zero_le _⟩ dX5_yearlyTo_60 (fun H locs hw => ?_)
      refine lv_i2l S.1 S.2.1 dX5_yearlyTo_63 rfl ?_
      obtain ⟨σ14, g15, hf⟩ := bd_s hf
      refine g_Vv (rest := []) (XWd_ok D ad cs ts adK adV) S hw (tX3_pay g15) kt_X5_117 2 xe_2 rfl rfl ⟨Nat.le_of_ble_eq_true rfl, Nat.le_of_ble_eq_true rfl⟩ rfl hl.1 rfl (Nat.le_of_ble_eq_true rfl) ⟨Nat.zero_le _, Nat.zero_le _⟩ dX5_yearlyTo_64 (fun H locs hw => ?_)
      exact wX5_yearlyTo_67 S hr hlk hk15 hw (lv_sub hl [0, 1, 2, 3] rfl) hf
def fX5_yearlyTo_15 (N : Nat) : Nat → St → Int32 → Int32 → Int32 → Option (Int64 × St)
  | 0 => fun _ _ _ _ => none
  | n + 1 => fX5_yearlyTo_15b N (fX5_yearlyTo_15 N n)
theorem wX5_yearlyTo_15 {r : Int64} {σ' : St} {N : Nat} (S : CallFix p m c cX5_yearlyTo 4 s av BG RX5) (hr : meth.sig.returnType = some .long) (hlk : meth.locks = false) : ∀ (n : Nat), ∀ (σ : St) (x1 : Int32) (x2 : Int32) (x3 : Int32) (ls : Array Slot) (H : Heap) (locs : List Loc), Hw (XWd D ad cs ts adK adV) s σ H locs → lv_has ls 4 [(0, .ref (ad 4)), (1, .int x1), (2, .int x2), (3, .int x3)] → fX5_yearlyTo_15 N n σ x1 x2 x3 = some (r, σ') → W p l e (RM 3 74) s m av below meth c H locs 0 0 (QJ below (XWd D ad cs ts adK adV) av s r σ') (F0 m 15 ls []) := by
  intro n
  induction n with
  | zero => intro _ _ _ _ ls H locs hw hl hf; cases hf
  | succ n ih => intro _ _ _ _ ls H locs hw hl hf; exact wX5_yearlyTo_15b S hr hlk ih hw hl hf
def fX5_yearlyTo (N : Nat) (σ : St) (x1 : Int32) (x2 : Int32) : Option (Int64 × St) :=
  bd (fX5_markInForce N σ (-1 : Int32) x2) fun σ1 => bd (fX3_emptyTill N σ1) fun σ3 => fX5_yearlyTo_15 N N σ3 x1 x2 (0 : Int32)
set_option maxHeartbeats 2000000 in
set_option maxRecDepth 20000 in
theorem tX5_yearlyTo {r : Int64} {σ' : St} {N : Nat} {σ : St} {x1 : Int32} {x2 : Int32} (hf : fX5_yearlyTo N σ x1 x2 = some (r, σ')) : CJ l (XWd D ad cs ts adK adV) yX5_yearlyTo cX5_yearlyTo 4 (some .long) 3 74 [.ref (ad 4), .int x1, .int x2] σ r σ' := by
  refine CJ.of (by decide) (Nat.le_of_ble_eq_true rfl) ?_
  intro p e s m below meth c ls S hr hlk hw hl
  have hl : lv_has ls 4 [(0, .ref (ad 4)), (1, .int x1), (2, .int x2)] := hl
  unfold fX5_yearlyTo at hf
  refine lv_aload_n S.1 S.2.1 dX5_yearlyTo_0 rfl (lv_at hl 0 rfl) ?_
  refine lv_iconst (v := -1) S.1 S.2.1 dX5_yearlyTo_1 (by decide) ?_
  refine lv_iload_n S.1 S.2.1 dX5_yearlyTo_2 rfl (lv_at hl 2 rfl) ?_
  obtain ⟨σ1, g2, hf⟩ := bd_s hf
  refine g_Vv (rest := []) (XWd_ok D ad cs ts adK adV) S hw (tX5_markInForce g2) kt_X5_88 4 xe_4 rfl rfl ⟨Nat.le_of_ble_eq_true rfl, Nat.le_of_ble_eq_true rfl⟩ rfl hl.1 rfl (Nat.le_of_ble_eq_true rfl) ⟨Nat.zero_le _, Nat.zero_le _⟩ dX5_yearlyTo_3 (fun H locs hw => ?_)
  refine lv_aload_n S.1 S.2.1 dX5_yearlyTo_6 rfl (lv_at hl 0 rfl) ?_
  refine xg_Leaves_heirs S hw kf_X5_48 dX5_yearlyTo_7 ?_
  obtain ⟨σ3, g4, hf⟩ := bd_s hf
  refine g_Vv (rest := []) (XWd_ok D ad cs ts adK adV) S hw (tX3_emptyTill g4) kt_X5_109 2 xe_2 rfl rfl ⟨Nat.le_of_ble_eq_true rfl, Nat.le_of_ble_eq_true rfl⟩ rfl hl.1 rfl (Nat.le_of_ble_eq_true rfl) ⟨Nat.zero_le _, Nat.zero_le _⟩ dX5_yearlyTo_10 (fun H locs hw => ?_)
  refine lv_iconst (v := 0) S.1 S.2.1 dX5_yearlyTo_13 (by decide) ?_
  refine lv_istore_n (lv' := [(3, .int (0 : Int32)), (0, .ref (ad 4)), (1, .int x1), (2, .int x2)]) S.1 S.2.1 dX5_yearlyTo_14 rfl hl (by decide) rfl (fun ls hl => ?_)
  exact wX5_yearlyTo_15 S hr hlk N σ3 x1 x2 (0 : Int32) _ _ _ hw (lv_sub hl [1, 2, 3, 0] rfl) hf
def fX5_bareSpans_33 (N : Nat) (k4 : St → Int32 → Int32 → Option (Int32 × St)) (σ : St) (x1 : Int32) (x2 : Int32) : Option (Int32 × St) :=
  nm (x2 + (1 : Int32)) fun v6 => k4 σ x1 v6
set_option maxHeartbeats 2000000 in
set_option maxRecDepth 20000 in
theorem wX5_bareSpans_33 {r : Int32} {σ' : St} {N : Nat} (S : CallFix p m c cX5_bareSpans 3 s av BG RX5) (hr : meth.sig.returnType = some .int) (hlk : meth.locks = false) {k4 : St → Int32 → Int32 → Option (Int32 × St)} (hk4 : ∀ (σ : St) (x1 : Int32) (x2 : Int32) (ls : Array Slot) (H : Heap) (locs : List Loc), Hw (XWd D ad cs ts adK adV) s σ H locs → lv_has ls 3 [(0, .ref (ad 4)), (1, .int x1), (2, .int x2)] → k4 σ x1 x2 = some (r, σ') → W p l e (RM 4 98) s m av below meth c H locs 0 0 (QI below (XWd D ad cs ts adK adV) av s r σ') (F0 m 4 ls []))  {σ : St} {x1 : Int32} {x2 : Int32} {ls : Array Slot} {H : Heap} {locs : List Loc} (hw : Hw (XWd D ad cs ts adK adV) s σ H locs) (hl : lv_has ls 3 [(0, .ref (ad 4)), (1, .int x1), (2, .int x2)]) (hf : fX5_bareSpans_33 N k4 σ x1 x2 = some (r, σ')) : W p l e (RM 4 98) s m av below meth c H locs 0 0 (QI below (XWd D ad cs ts adK adV) av s r σ') (F0 m 33 ls []) := by
  unfold fX5_bareSpans_33 at hf
  obtain ⟨v6, e7⟩ : ∃ z : Int32, z = x2 + (1 : Int32) := ⟨_, rfl⟩
  have hf := nm_s e7 hf
  refine lv_iinc (v := v6) (lv' := [(2, .int v6), (0, .ref (ad 4)), (1, .int x1)]) S.1 S.2.1 dX5_bareSpans_33 hl (k := 2) rfl (by rw [e7]; rfl) (by decide) rfl (fun ls hl => ?_)
  refine lv_goto (tgt := 4) S.1 S.2.1 dX5_bareSpans_36 (by decide) ?_
  exact hk4 σ x1 v6 _ _ _ hw (lv_sub hl [1, 2, 0] rfl) hf
def fX5_bareSpans_4b (N : Nat) (k4 : St → Int32 → Int32 → Option (Int32 × St)) (σ : St) (x1 : Int32) (x2 : Int32) : Option (Int32 × St) :=
  if (σ.1 3) ≤ x2 then (some (x1, σ)) else (bd2 (fX5_hasOn N σ x2 (σ.1 0)) fun r3 σ1 => if r3 = 0 then (nm (x1 + (1 : Int32)) fun v4 => fX5_bareSpans_33 N k4 σ1 v4 x2) else (fX5_bareSpans_33 N k4 σ1 x1 x2))
set_option maxHeartbeats 2000000 in
set_option maxRecDepth 20000 in
theorem wX5_bareSpans_4b {r : Int32} {σ' : St} {N : Nat} (S : CallFix p m c cX5_bareSpans 3 s av BG RX5) (hr : meth.sig.returnType = some .int) (hlk : meth.locks = false) {k4 : St → Int32 → Int32 → Option (Int32 × St)} (hk4 : ∀ (σ : St) (x1 : Int32) (x2 : Int32) (ls : Array Slot) (H : Heap) (locs : List Loc), Hw (XWd D ad cs ts adK adV) s σ H locs → lv_has ls 3 [(0, .ref (ad 4)), (1, .int x1), (2, .int x2)] → k4 σ x1 x2 = some (r, σ') → W p l e (RM 4 98) s m av below meth c H locs 0 0 (QI below (XWd D ad cs ts adK adV) av s r σ') (F0 m 4 ls []))  {σ : St} {x1 : Int32} {x2 : Int32} {ls : Array Slot} {H : Heap} {locs : List Loc} (hw : Hw (XWd D ad cs ts adK adV) s σ H locs) (hl : lv_has ls 3 [(0, .ref (ad 4)), (1, .int x1), (2, .int x2)]) (hf : fX5_bareSpans_4b N k4 σ x1 x2 = some (r, σ')) : W p l e (RM 4 98) s m av below meth c H locs 0 0 (QI below (XWd D ad cs ts adK adV) av s r σ') (F0 m 4 ls []) := by
  unfold fX5_bareSpans_4b at hf
  refine lv_iload_n S.1 S.2.1 dX5_bareSpans_4 rfl (lv_at hl 2 rfl) ?_
  refine lv_aload_n S.1 S.2.1 dX5_bareSpans_5 rfl (lv_at hl 0 rfl) ?_
  refine xg_Leaves_line S hw kf_X5_44 dX5_bareSpans_6 ?_
  refine xg_Line_spans S hw kf_X5_125 dX5_bareSpans_9 ?_
  refine lv_icmp_ge (tgt := 39) S.1 S.2.1 dX5_bareSpans_12 (by decide) (fun hc => ?_) (fun hc => ?_)
  · have hf := itt hf hc
    refine lv_iload_n S.1 S.2.1 dX5_bareSpans_39 rfl (lv_at hl 1 rfl) ?_
    exact g_iret (XWd_ok D ad cs ts adK adV) S hr hlk hw dX5_bareSpans_40 (Prod.mk.inj (Option.some.inj hf)).1 (Prod.mk.inj (Option.some.inj hf)).2
  · have hf := itf hf hc
    refine lv_aload_n S.1 S.2.1 dX5_bareSpans_15 rfl (lv_at hl 0 rfl) ?_
    refine lv_iload_n S.1 S.2.1 dX5_bareSpans_16 rfl (lv_at hl 2 rfl) ?_
    refine lv_aload_n S.1 S.2.1 dX5_bareSpans_17 rfl (lv_at hl 0 rfl) ?_
    refine xg_Leaves_land S hw kf_X5_40 dX5_bareSpans_18 ?_
    refine xg_Land_day S hw kf_X5_92 dX5_bareSpans_21 ?_
    obtain ⟨r3, σ1, g2, hf⟩ := bd2_s hf
    refine g_Vi (rest := []) (XWd_ok D ad cs ts adK adV) S hw (tX5_hasOn g2) kt_X5_95 4 xe_4 rfl rfl ⟨Nat.le_of_ble_eq_true rfl, Nat.le_of_ble_eq_true rfl⟩ rfl hl.1 rfl (Nat.le_of_ble_eq_true rfl) ⟨Nat.zero_le _, Nat.zero_le _⟩ dX5_bareSpans_24 (fun H locs hw => ?_)
    refine lv_if_ne (tgt := 33) S.1 S.2.1 dX5_bareSpans_27 (by decide) (fun hc => ?_) (fun hc => ?_)
    · have hf := itf hf hc
      exact wX5_bareSpans_33 S hr hlk hk4 hw (lv_sub hl [0, 1, 2] rfl) hf
    · have hf := itt hf hc
      obtain ⟨v4, e5⟩ : ∃ z : Int32, z = x1 + (1 : Int32) := ⟨_, rfl⟩
      have hf := nm_s e5 hf
      refine lv_iinc (v := v4) (lv' := [(1, .int v4), (0, .ref (ad 4)), (2, .int x2)]) S.1 S.2.1 dX5_bareSpans_30 hl (k := 1) rfl (by rw [e5]; rfl) (by decide) rfl (fun ls hl => ?_)
      exact wX5_bareSpans_33 S hr hlk hk4 hw (lv_sub hl [1, 0, 2] rfl) hf
def fX5_bareSpans_4 (N : Nat) : Nat → St → Int32 → Int32 → Option (Int32 × St)
  | 0 => fun _ _ _ => none
  | n + 1 => fX5_bareSpans_4b N (fX5_bareSpans_4 N n)
theorem wX5_bareSpans_4 {r : Int32} {σ' : St} {N : Nat} (S : CallFix p m c cX5_bareSpans 3 s av BG RX5) (hr : meth.sig.returnType = some .int) (hlk : meth.locks = false) : ∀ (n : Nat), ∀ (σ : St) (x1 : Int32) (x2 : Int32) (ls : Array Slot) (H : Heap) (locs : List Loc), Hw (XWd D ad cs ts adK adV) s σ H locs → lv_has ls 3 [(0, .ref (ad 4)), (1, .int x1), (2, .int x2)] → fX5_bareSpans_4 N n σ x1 x2 = some (r, σ') → W p l e (RM 4 98) s m av below meth c H locs 0 0 (QI below (XWd D ad cs ts adK adV) av s r σ') (F0 m 4 ls []) := by
  intro n
  induction n with
  | zero => intro _ _ _ ls H locs hw hl hf; cases hf
  | succ n ih => intro _ _ _ ls H locs hw hl hf; exact wX5_bareSpans_4b S hr hlk ih hw hl hf
def fX5_bareSpans (N : Nat) (σ : St) : Option (Int32 × St) :=
  fX5_bareSpans_4 N N σ (0 : Int32) (0 : Int32)
set_option maxHeartbeats 2000000 in
set_option maxRecDepth 20000 in
theorem tX5_bareSpans {r : Int32} {σ' : St} {N : Nat} {σ : St} (hf : fX5_bareSpans N σ = some (r, σ')) : CI l (XWd D ad cs ts adK adV) yX5_bareSpans cX5_bareSpans 3 (some .int) 4 98 [.ref (ad 4)] σ r σ' := by
  refine CI.of (by decide) (Nat.le_of_ble_eq_true rfl) ?_
  intro p e s m below meth c ls S hr hlk hw hl
  have hl : lv_has ls 3 [(0, .ref (ad 4))] := hl
  unfold fX5_bareSpans at hf
  refine lv_iconst (v := 0) S.1 S.2.1 dX5_bareSpans_0 (by decide) ?_
  refine lv_istore_n (lv' := [(1, .int (0 : Int32)), (0, .ref (ad 4))]) S.1 S.2.1 dX5_bareSpans_1 rfl hl (by decide) rfl (fun ls hl => ?_)
  refine lv_iconst (v := 0) S.1 S.2.1 dX5_bareSpans_2 (by decide) ?_
  refine lv_istore_n (lv' := [(2, .int (0 : Int32)), (1, .int (0 : Int32)), (0, .ref (ad 4))]) S.1 S.2.1 dX5_bareSpans_3 rfl hl (by decide) rfl (fun ls hl => ?_)
  exact wX5_bareSpans_4 S hr hlk N σ (0 : Int32) (0 : Int32) _ _ _ hw (lv_sub hl [2, 1, 0] rfl) hf
def fX6_isTower (σ : St) (x1 : Int32) : Int32 :=
  (fX11_within x1 (0 : Int32) ((σ.1 2) - (1 : Int32)))
set_option maxHeartbeats 2000000 in
set_option maxRecDepth 20000 in
theorem tX6_isTower {r : Int32} {σ : St} {x1 : Int32} (hf : fX6_isTower σ x1 = r) : CI l (XWd D ad cs ts adK adV) yX6_isTower cX6_isTower 2 (some .boolean) 1 22 [.ref (ad 3), .int x1] σ r σ := by
  refine CI.of (by decide) (Nat.le_of_ble_eq_true rfl) ?_
  intro p e s m below meth c ls S hr hlk hw hl
  have hl : lv_has ls 2 [(0, .ref (ad 3)), (1, .int x1)] := hl
  unfold fX6_isTower at hf
  refine lv_iload_n S.1 S.2.1 dX6_isTower_0 rfl (lv_at hl 1 rfl) ?_
  refine lv_iconst (v := 0) S.1 S.2.1 dX6_isTower_1 (by decide) ?_
  refine lv_aload_n S.1 S.2.1 dX6_isTower_2 rfl (lv_at hl 0 rfl) ?_
  refine xg_Line_towers S hw kf_X6_34 dX6_isTower_3 ?_
  refine lv_iconst (v := 1) S.1 S.2.1 dX6_isTower_6 (by decide) ?_
  refine lv_isub S.1 S.2.1 dX6_isTower_7 ?_
  refine g_Ni (rest := []) (XWd_ok D ad cs ts adK adV) S hw (tX11_within (ad := ad) (cs := cs) (ts := ts) (adK := adK) (adV := adV) (σ := σ) rfl) kn_X11_within (x_nw hw 2 rfl) ⟨Nat.le_of_ble_eq_true rfl, Nat.le_of_ble_eq_true rfl⟩ rfl hl.1 rfl (Nat.le_of_ble_eq_true rfl) ⟨Nat.zero_le _, Nat.zero_le _⟩ dX6_isTower_8 (fun H locs hw => ?_)
  exact g_zret (XWd_ok D ad cs ts adK adV) S hr hlk hw (zzX11_within ..) dX6_isTower_11 hf rfl
theorem zzX6_isTower (σ : St) (x1 : Int32) : narrow .boolean (.int (fX6_isTower σ x1)) = .int (fX6_isTower σ x1) := by
  unfold fX6_isTower
  repeat' split
  all_goals first | rfl | exact zzX11_within .. | exact zzX12_isIn ..
def fX6_isSpan (σ : St) (x1 : Int32) : Int32 :=
  (fX11_within x1 (0 : Int32) ((σ.1 3) - (1 : Int32)))
set_option maxHeartbeats 2000000 in
set_option maxRecDepth 20000 in
theorem tX6_isSpan {r : Int32} {σ : St} {x1 : Int32} (hf : fX6_isSpan σ x1 = r) : CI l (XWd D ad cs ts adK adV) yX6_isSpan cX6_isSpan 2 (some .boolean) 1 22 [.ref (ad 3), .int x1] σ r σ := by
  refine CI.of (by decide) (Nat.le_of_ble_eq_true rfl) ?_
  intro p e s m below meth c ls S hr hlk hw hl
  have hl : lv_has ls 2 [(0, .ref (ad 3)), (1, .int x1)] := hl
  unfold fX6_isSpan at hf
  refine lv_iload_n S.1 S.2.1 dX6_isSpan_0 rfl (lv_at hl 1 rfl) ?_
  refine lv_iconst (v := 0) S.1 S.2.1 dX6_isSpan_1 (by decide) ?_
  refine lv_aload_n S.1 S.2.1 dX6_isSpan_2 rfl (lv_at hl 0 rfl) ?_
  refine xg_Line_spans S hw kf_X6_42 dX6_isSpan_3 ?_
  refine lv_iconst (v := 1) S.1 S.2.1 dX6_isSpan_6 (by decide) ?_
  refine lv_isub S.1 S.2.1 dX6_isSpan_7 ?_
  refine g_Ni (rest := []) (XWd_ok D ad cs ts adK adV) S hw (tX11_within (ad := ad) (cs := cs) (ts := ts) (adK := adK) (adV := adV) (σ := σ) rfl) kn_X11_within (x_nw hw 2 rfl) ⟨Nat.le_of_ble_eq_true rfl, Nat.le_of_ble_eq_true rfl⟩ rfl hl.1 rfl (Nat.le_of_ble_eq_true rfl) ⟨Nat.zero_le _, Nat.zero_le _⟩ dX6_isSpan_8 (fun H locs hw => ?_)
  exact g_zret (XWd_ok D ad cs ts adK adV) S hr hlk hw (zzX11_within ..) dX6_isSpan_11 hf rfl
theorem zzX6_isSpan (σ : St) (x1 : Int32) : narrow .boolean (.int (fX6_isSpan σ x1)) = .int (fX6_isSpan σ x1) := by
  unfold fX6_isSpan
  repeat' split
  all_goals first | rfl | exact zzX11_within .. | exact zzX12_isIn ..
def fX6_addTower (N : Nat) (σ : St) (x1 : Int32) : Option (Int32 × St) :=
  if ix (σ.1 2) 16 = true then nm (aW σ 36 (σ.1 2) x1) fun σ2 => nm (sI σ2 2 ((σ2.1 2) + (1 : Int32))) fun σ4 => some (((σ4.1 2) - (1 : Int32)), σ4) else none
set_option maxHeartbeats 2000000 in
set_option maxRecDepth 20000 in
theorem tX6_addTower {r : Int32} {σ' : St} {N : Nat} {σ : St} {x1 : Int32} (hf : fX6_addTower N σ x1 = some (r, σ')) : CI l (XWd D ad cs ts adK adV) yX6_addTower cX6_addTower 2 (some .int) 0 0 [.ref (ad 3), .int x1] σ r σ' := by
  refine CI.of (by decide) (Nat.le_of_ble_eq_true rfl) ?_
  intro p e s m below meth c ls S hr hlk hw hl
  have hl : lv_has ls 2 [(0, .ref (ad 3)), (1, .int x1)] := hl
  unfold fX6_addTower at hf
  refine lv_aload_n S.1 S.2.1 dX6_addTower_0 rfl (lv_at hl 0 rfl) ?_
  refine xg_Line_heights S hw kf_X6_9 dX6_addTower_1 ?_
  refine lv_aload_n S.1 S.2.1 dX6_addTower_4 rfl (lv_at hl 0 rfl) ?_
  refine xg_Line_towers S hw kf_X6_34 dX6_addTower_5 ?_
  refine lv_iload_n S.1 S.2.1 dX6_addTower_8 rfl (lv_at hl 1 rfl) ?_
  obtain ⟨h1, hf⟩ := gd_ix hf
  obtain ⟨σ2, e3⟩ : ∃ z : St, z = aW σ 36 (σ.1 2) x1 := ⟨_, rfl⟩
  have hf := nm_s e3 hf
  refine g_iast (σ' := σ2) S hw 36 0 xe_36 rfl (by rw [e3]; exact xs_36 _) h1 dX6_addTower_9 (fun H locs hw => ?_)
  refine lv_aload_n S.1 S.2.1 dX6_addTower_10 rfl (lv_at hl 0 rfl) ?_
  refine lv_dup S.1 S.2.1 dX6_addTower_11 rfl ?_
  refine xg_Line_towers S hw kf_X6_34 dX6_addTower_12 ?_
  refine lv_iconst (v := 1) S.1 S.2.1 dX6_addTower_15 (by decide) ?_
  refine lv_iadd S.1 S.2.1 dX6_addTower_16 ?_
  obtain ⟨σ4, e5⟩ : ∃ z : St, z = sI σ2 2 ((σ2.1 2) + (1 : Int32)) := ⟨_, rfl⟩
  have hf := nm_s e5 hf
  refine xp_Line_towers S hw e5 kf_X6_34 dX6_addTower_17 (fun H locs hw => ?_)
  refine lv_aload_n S.1 S.2.1 dX6_addTower_20 rfl (lv_at hl 0 rfl) ?_
  refine xg_Line_towers S hw kf_X6_34 dX6_addTower_21 ?_
  refine lv_iconst (v := 1) S.1 S.2.1 dX6_addTower_24 (by decide) ?_
  refine lv_isub S.1 S.2.1 dX6_addTower_25 ?_
  exact g_iret (XWd_ok D ad cs ts adK adV) S hr hlk hw dX6_addTower_26 (Prod.mk.inj (Option.some.inj hf)).1 (Prod.mk.inj (Option.some.inj hf)).2
def fX6_addSpan (N : Nat) (σ : St) (x1 : Int32) (x2 : Int32) (x3 : Int32) (x4 : Int32) : Option (Int32 × St) :=
  if ix (σ.1 3) 16 = true then nm (aW σ 37 (σ.1 3) x3) fun σ2 => if ix (σ2.1 3) 16 = true then nm (aW σ2 38 (σ2.1 3) x4) fun σ5 => if ix x1 16 = true then if ix x2 16 = true then if ix (σ5.1 3) 16 = true then nm (aW σ5 39 (σ5.1 3) (if (aR σ5 36 x2) < (aR σ5 36 x1) then (aR σ5 36 x2) else (aR σ5 36 x1))) fun σ10 => if ix (σ10.1 3) 16 = true then nm (aW σ10 40 (σ10.1 3) (20 : Int32)) fun σ13 => if ix (σ13.1 3) 16 = true then nm (aW σ13 41 (σ13.1 3) (1 : Int32)) fun σ16 => nm (sI σ16 3 ((σ16.1 3) + (1 : Int32))) fun σ18 => some (((σ18.1 3) - (1 : Int32)), σ18) else none else none else none else none else none else none else none
set_option maxHeartbeats 2000000 in
set_option maxRecDepth 20000 in
theorem tX6_addSpan {r : Int32} {σ' : St} {N : Nat} {σ : St} {x1 : Int32} {x2 : Int32} {x3 : Int32} {x4 : Int32} (hf : fX6_addSpan N σ x1 x2 x3 x4 = some (r, σ')) : CI l (XWd D ad cs ts adK adV) yX6_addSpan cX6_addSpan 5 (some .int) 1 21 [.ref (ad 3), .int x1, .int x2, .int x3, .int x4] σ r σ' := by
  refine CI.of (by decide) (Nat.le_of_ble_eq_true rfl) ?_
  intro p e s m below meth c ls S hr hlk hw hl
  have hl : lv_has ls 5 [(0, .ref (ad 3)), (1, .int x1), (2, .int x2), (3, .int x3), (4, .int x4)] := hl
  unfold fX6_addSpan at hf
  refine lv_aload_n S.1 S.2.1 dX6_addSpan_0 rfl (lv_at hl 0 rfl) ?_
  refine xg_Line_plots S hw kf_X6_15 dX6_addSpan_1 ?_
  refine lv_aload_n S.1 S.2.1 dX6_addSpan_4 rfl (lv_at hl 0 rfl) ?_
  refine xg_Line_spans S hw kf_X6_42 dX6_addSpan_5 ?_
  refine lv_iload_n S.1 S.2.1 dX6_addSpan_8 rfl (lv_at hl 3 rfl) ?_
  obtain ⟨h1, hf⟩ := gd_ix hf
  obtain ⟨σ2, e3⟩ : ∃ z : St, z = aW σ 37 (σ.1 3) x3 := ⟨_, rfl⟩
  have hf := nm_s e3 hf
  refine g_iast (σ' := σ2) S hw 37 0 xe_37 rfl (by rw [e3]; exact xs_37 _) h1 dX6_addSpan_9 (fun H locs hw => ?_)
  refine lv_aload_n S.1 S.2.1 dX6_addSpan_10 rfl (lv_at hl 0 rfl) ?_
  refine xg_Line_lengths S hw kf_X6_18 dX6_addSpan_11 ?_
  refine lv_aload_n S.1 S.2.1 dX6_addSpan_14 rfl (lv_at hl 0 rfl) ?_
  refine xg_Line_spans S hw kf_X6_42 dX6_addSpan_15 ?_
  refine lv_iload S.1 S.2.1 dX6_addSpan_18 (lv_at hl 4 rfl) ?_
  obtain ⟨h4, hf⟩ := gd_ix hf
  obtain ⟨σ5, e6⟩ : ∃ z : St, z = aW σ2 38 (σ2.1 3) x4 := ⟨_, rfl⟩
  have hf := nm_s e6 hf
  refine g_iast (σ' := σ5) S hw 38 0 xe_38 rfl (by rw [e6]; exact xs_38 _) h4 dX6_addSpan_20 (fun H locs hw => ?_)
  refine lv_aload_n S.1 S.2.1 dX6_addSpan_21 rfl (lv_at hl 0 rfl) ?_
  refine xg_Line_lesserHeights S hw kf_X6_21 dX6_addSpan_22 ?_
  refine lv_aload_n S.1 S.2.1 dX6_addSpan_25 rfl (lv_at hl 0 rfl) ?_
  refine xg_Line_spans S hw kf_X6_42 dX6_addSpan_26 ?_
  refine lv_aload_n S.1 S.2.1 dX6_addSpan_29 rfl (lv_at hl 0 rfl) ?_
  refine xg_Line_heights S hw kf_X6_9 dX6_addSpan_30 ?_
  refine lv_iload_n S.1 S.2.1 dX6_addSpan_33 rfl (lv_at hl 1 rfl) ?_
  obtain ⟨h7, hf⟩ := gd_ix hf
  refine g_iald S hw 36 0 xe_36 rfl h7 dX6_addSpan_34 ?_
  refine lv_aload_n S.1 S.2.1 dX6_addSpan_35 rfl (lv_at hl 0 rfl) ?_
  refine xg_Line_heights S hw kf_X6_9 dX6_addSpan_36 ?_
  refine lv_iload_n S.1 S.2.1 dX6_addSpan_39 rfl (lv_at hl 2 rfl) ?_
  obtain ⟨h8, hf⟩ := gd_ix hf
  refine g_iald S hw 36 0 xe_36 rfl h8 dX6_addSpan_40 ?_
  refine g_mmin S hl.1 kt_X6_45 (Nat.le_of_ble_eq_true rfl) (Nat.le_of_ble_eq_true rfl) (Nat.zero_le _) (Nat.zero_le _) dX6_addSpan_41 ?_
  obtain ⟨h9, hf⟩ := gd_ix hf
  obtain ⟨σ10, e11⟩ : ∃ z : St, z = aW σ5 39 (σ5.1 3) (if (aR σ5 36 x2) < (aR σ5 36 x1) then (aR σ5 36 x2) else (aR σ5 36 x1)) := ⟨_, rfl⟩
  have hf := nm_s e11 hf
  refine g_iast (σ' := σ10) S hw 39 0 xe_39 rfl (by rw [e11]; exact xs_39 _) h9 dX6_addSpan_44 (fun H locs hw => ?_)
  refine lv_aload_n S.1 S.2.1 dX6_addSpan_45 rfl (lv_at hl 0 rfl) ?_
  refine xg_Line_heats S hw kf_X6_24 dX6_addSpan_46 ?_
  refine lv_aload_n S.1 S.2.1 dX6_addSpan_49 rfl (lv_at hl 0 rfl) ?_
  refine xg_Line_spans S hw kf_X6_42 dX6_addSpan_50 ?_
  refine lv_bipush (v := 20) S.1 S.2.1 dX6_addSpan_53 (by decide) ?_
  obtain ⟨h12, hf⟩ := gd_ix hf
  obtain ⟨σ13, e14⟩ : ∃ z : St, z = aW σ10 40 (σ10.1 3) (20 : Int32) := ⟨_, rfl⟩
  have hf := nm_s e14 hf
  refine g_iast (σ' := σ13) S hw 40 0 xe_40 rfl (by rw [e14]; exact xs_40 _) h12 dX6_addSpan_55 (fun H locs hw => ?_)
  refine lv_aload_n S.1 S.2.1 dX6_addSpan_56 rfl (lv_at hl 0 rfl) ?_
  refine xg_Line_askDays S hw kf_X6_27 dX6_addSpan_57 ?_
  refine lv_aload_n S.1 S.2.1 dX6_addSpan_60 rfl (lv_at hl 0 rfl) ?_
  refine xg_Line_spans S hw kf_X6_42 dX6_addSpan_61 ?_
  refine lv_iconst (v := 1) S.1 S.2.1 dX6_addSpan_64 (by decide) ?_
  obtain ⟨h15, hf⟩ := gd_ix hf
  obtain ⟨σ16, e17⟩ : ∃ z : St, z = aW σ13 41 (σ13.1 3) (1 : Int32) := ⟨_, rfl⟩
  have hf := nm_s e17 hf
  refine g_iast (σ' := σ16) S hw 41 0 xe_41 rfl (by rw [e17]; exact xs_41 _) h15 dX6_addSpan_65 (fun H locs hw => ?_)
  refine lv_aload_n S.1 S.2.1 dX6_addSpan_66 rfl (lv_at hl 0 rfl) ?_
  refine lv_dup S.1 S.2.1 dX6_addSpan_67 rfl ?_
  refine xg_Line_spans S hw kf_X6_42 dX6_addSpan_68 ?_
  refine lv_iconst (v := 1) S.1 S.2.1 dX6_addSpan_71 (by decide) ?_
  refine lv_iadd S.1 S.2.1 dX6_addSpan_72 ?_
  obtain ⟨σ18, e19⟩ : ∃ z : St, z = sI σ16 3 ((σ16.1 3) + (1 : Int32)) := ⟨_, rfl⟩
  have hf := nm_s e19 hf
  refine xp_Line_spans S hw e19 kf_X6_42 dX6_addSpan_73 (fun H locs hw => ?_)
  refine lv_aload_n S.1 S.2.1 dX6_addSpan_76 rfl (lv_at hl 0 rfl) ?_
  refine xg_Line_spans S hw kf_X6_42 dX6_addSpan_77 ?_
  refine lv_iconst (v := 1) S.1 S.2.1 dX6_addSpan_80 (by decide) ?_
  refine lv_isub S.1 S.2.1 dX6_addSpan_81 ?_
  exact g_iret (XWd_ok D ad cs ts adK adV) S hr hlk hw dX6_addSpan_82 (Prod.mk.inj (Option.some.inj hf)).1 (Prod.mk.inj (Option.some.inj hf)).2
def fX6_changeHeat (N : Nat) (σ : St) (x1 : Int32) (x2 : Int32) : Option (Int32 × St) :=
  if ix x1 16 = true then nm (aR σ 40 x1) fun v2 => if ix x1 16 = true then nm (aW σ 40 x1 x2) fun σ5 => some (v2, σ5) else none else none
set_option maxHeartbeats 2000000 in
set_option maxRecDepth 20000 in
theorem tX6_changeHeat {r : Int32} {σ' : St} {N : Nat} {σ : St} {x1 : Int32} {x2 : Int32} (hf : fX6_changeHeat N σ x1 x2 = some (r, σ')) : CI l (XWd D ad cs ts adK adV) yX6_changeHeat cX6_changeHeat 4 (some .int) 0 0 [.ref (ad 3), .int x1, .int x2] σ r σ' := by
  refine CI.of (by decide) (Nat.le_of_ble_eq_true rfl) ?_
  intro p e s m below meth c ls S hr hlk hw hl
  have hl : lv_has ls 4 [(0, .ref (ad 3)), (1, .int x1), (2, .int x2)] := hl
  unfold fX6_changeHeat at hf
  refine lv_aload_n S.1 S.2.1 dX6_changeHeat_0 rfl (lv_at hl 0 rfl) ?_
  refine xg_Line_heats S hw kf_X6_24 dX6_changeHeat_1 ?_
  refine lv_iload_n S.1 S.2.1 dX6_changeHeat_4 rfl (lv_at hl 1 rfl) ?_
  obtain ⟨h1, hf⟩ := gd_ix hf
  refine g_iald S hw 40 0 xe_40 rfl h1 dX6_changeHeat_5 ?_
  refine lv_topi (fun v2 e3 => ?_)
  have hf := nm_s e3 hf
  refine lv_istore_n (lv' := [(3, .int v2), (0, .ref (ad 3)), (1, .int x1), (2, .int x2)]) S.1 S.2.1 dX6_changeHeat_6 rfl hl (by decide) rfl (fun ls hl => ?_)
  refine lv_aload_n S.1 S.2.1 dX6_changeHeat_7 rfl (lv_at hl 1 rfl) ?_
  refine xg_Line_heats S hw kf_X6_24 dX6_changeHeat_8 ?_
  refine lv_iload_n S.1 S.2.1 dX6_changeHeat_11 rfl (lv_at hl 2 rfl) ?_
  refine lv_iload_n S.1 S.2.1 dX6_changeHeat_12 rfl (lv_at hl 3 rfl) ?_
  obtain ⟨h4, hf⟩ := gd_ix hf
  obtain ⟨σ5, e6⟩ : ∃ z : St, z = aW σ 40 x1 x2 := ⟨_, rfl⟩
  have hf := nm_s e6 hf
  refine g_iast (σ' := σ5) S hw 40 0 xe_40 rfl (by rw [e6]; exact xs_40 _) h4 dX6_changeHeat_13 (fun H locs hw => ?_)
  refine lv_iload_n S.1 S.2.1 dX6_changeHeat_14 rfl (lv_at hl 0 rfl) ?_
  exact g_iret (XWd_ok D ad cs ts adK adV) S hr hlk hw dX6_changeHeat_15 (Prod.mk.inj (Option.some.inj hf)).1 (Prod.mk.inj (Option.some.inj hf)).2
def fX6_isTooNear (N : Nat) (σ : St) (x1 : Int32) : Option Int32 :=
  bd (fX6_near N σ x1) fun r1 => if (6 : Int32) ≤ r1 then (some (0 : Int32)) else (some (1 : Int32))
set_option maxHeartbeats 2000000 in
set_option maxRecDepth 20000 in
theorem tX6_isTooNear {r : Int32} {N : Nat} {σ : St} {x1 : Int32} (hf : fX6_isTooNear N σ x1 = some r) : CI l (XWd D ad cs ts adK adV) yX6_isTooNear cX6_isTooNear 2 (some .boolean) 3 66 [.ref (ad 3), .int x1] σ r σ := by
  refine CI.of (by decide) (Nat.le_of_ble_eq_true rfl) ?_
  intro p e s m below meth c ls S hr hlk hw hl
  have hl : lv_has ls 2 [(0, .ref (ad 3)), (1, .int x1)] := hl
  unfold fX6_isTooNear at hf
  refine lv_aload_n S.1 S.2.1 dX6_isTooNear_0 rfl (lv_at hl 0 rfl) ?_
  refine lv_iload_n S.1 S.2.1 dX6_isTooNear_1 rfl (lv_at hl 1 rfl) ?_
  obtain ⟨r1, g2, hf⟩ := bd_s hf
  refine g_Vi (rest := []) (XWd_ok D ad cs ts adK adV) S hw (tX6_near g2) kt_X6_70 3 xe_3 rfl rfl ⟨Nat.le_of_ble_eq_true rfl, Nat.le_of_ble_eq_true rfl⟩ rfl hl.1 rfl (Nat.le_of_ble_eq_true rfl) ⟨Nat.zero_le _, Nat.zero_le _⟩ dX6_isTooNear_2 (fun H locs hw => ?_)
  refine lv_bipush (v := 6) S.1 S.2.1 dX6_isTooNear_5 (by decide) ?_
  refine lv_icmp_ge (tgt := 14) S.1 S.2.1 dX6_isTooNear_7 (by decide) (fun hc => ?_) (fun hc => ?_)
  · have hf := itt hf hc
    refine lv_iconst (v := 0) S.1 S.2.1 dX6_isTooNear_14 (by decide) ?_
    exact g_zret (XWd_ok D ad cs ts adK adV) S hr hlk hw rfl dX6_isTooNear_15 (Option.some.inj hf) rfl
  · have hf := itf hf hc
    refine lv_iconst (v := 1) S.1 S.2.1 dX6_isTooNear_10 (by decide) ?_
    refine lv_goto (tgt := 15) S.1 S.2.1 dX6_isTooNear_11 (by decide) ?_
    exact g_zret (XWd_ok D ad cs ts adK adV) S hr hlk hw rfl dX6_isTooNear_15 (Option.some.inj hf) rfl
def fX6_tooNearSpans_23 (N : Nat) (σ : St) (k4 : Int32 → Int32 → Option Int32) (x1 : Int32) (x2 : Int32) : Option Int32 :=
  nm (x2 + (1 : Int32)) fun v5 => k4 x1 v5
set_option maxHeartbeats 2000000 in
set_option maxRecDepth 20000 in
theorem wX6_tooNearSpans_23 {r : Int32} {N : Nat} {σ : St} (S : CallFix p m c cX6_tooNearSpans 3 s av BG RX6) (hr : meth.sig.returnType = some .int) (hlk : meth.locks = false) {k4 : Int32 → Int32 → Option Int32} (hk4 : ∀ (x1 : Int32) (x2 : Int32) (ls : Array Slot) (H : Heap) (locs : List Loc), Hw (XWd D ad cs ts adK adV) s σ H locs → lv_has ls 3 [(0, .ref (ad 3)), (1, .int x1), (2, .int x2)] → k4 x1 x2 = some r → W p l e (RM 4 87) s m av below meth c H locs 0 0 (QI below (XWd D ad cs ts adK adV) av s r σ) (F0 m 4 ls []))  {x1 : Int32} {x2 : Int32} {ls : Array Slot} {H : Heap} {locs : List Loc} (hw : Hw (XWd D ad cs ts adK adV) s σ H locs) (hl : lv_has ls 3 [(0, .ref (ad 3)), (1, .int x1), (2, .int x2)]) (hf : fX6_tooNearSpans_23 N σ k4 x1 x2 = some r) : W p l e (RM 4 87) s m av below meth c H locs 0 0 (QI below (XWd D ad cs ts adK adV) av s r σ) (F0 m 23 ls []) := by
  unfold fX6_tooNearSpans_23 at hf
  obtain ⟨v5, e6⟩ : ∃ z : Int32, z = x2 + (1 : Int32) := ⟨_, rfl⟩
  have hf := nm_s e6 hf
  refine lv_iinc (v := v5) (lv' := [(2, .int v5), (0, .ref (ad 3)), (1, .int x1)]) S.1 S.2.1 dX6_tooNearSpans_23 hl (k := 2) rfl (by rw [e6]; rfl) (by decide) rfl (fun ls hl => ?_)
  refine lv_goto (tgt := 4) S.1 S.2.1 dX6_tooNearSpans_26 (by decide) ?_
  exact hk4 x1 v5 _ _ _ hw (lv_sub hl [1, 2, 0] rfl) hf
def fX6_tooNearSpans_4b (N : Nat) (σ : St) (k4 : Int32 → Int32 → Option Int32) (x1 : Int32) (x2 : Int32) : Option Int32 :=
  if (σ.1 3) ≤ x2 then (some x1) else (bd (fX6_isTooNear N σ x2) fun r1 => if r1 = 0 then (fX6_tooNearSpans_23 N σ k4 x1 x2) else (nm (x1 + (1 : Int32)) fun v3 => fX6_tooNearSpans_23 N σ k4 v3 x2))
set_option maxHeartbeats 2000000 in
set_option maxRecDepth 20000 in
theorem wX6_tooNearSpans_4b {r : Int32} {N : Nat} {σ : St} (S : CallFix p m c cX6_tooNearSpans 3 s av BG RX6) (hr : meth.sig.returnType = some .int) (hlk : meth.locks = false) {k4 : Int32 → Int32 → Option Int32} (hk4 : ∀ (x1 : Int32) (x2 : Int32) (ls : Array Slot) (H : Heap) (locs : List Loc), Hw (XWd D ad cs ts adK adV) s σ H locs → lv_has ls 3 [(0, .ref (ad 3)), (1, .int x1), (2, .int x2)] → k4 x1 x2 = some r → W p l e (RM 4 87) s m av below meth c H locs 0 0 (QI below (XWd D ad cs ts adK adV) av s r σ) (F0 m 4 ls []))  {x1 : Int32} {x2 : Int32} {ls : Array Slot} {H : Heap} {locs : List Loc} (hw : Hw (XWd D ad cs ts adK adV) s σ H locs) (hl : lv_has ls 3 [(0, .ref (ad 3)), (1, .int x1), (2, .int x2)]) (hf : fX6_tooNearSpans_4b N σ k4 x1 x2 = some r) : W p l e (RM 4 87) s m av below meth c H locs 0 0 (QI below (XWd D ad cs ts adK adV) av s r σ) (F0 m 4 ls []) := by
  unfold fX6_tooNearSpans_4b at hf
  refine lv_iload_n S.1 S.2.1 dX6_tooNearSpans_4 rfl (lv_at hl 2 rfl) ?_
  refine lv_aload_n S.1 S.2.1 dX6_tooNearSpans_5 rfl (lv_at hl 0 rfl) ?_
  refine xg_Line_spans S hw kf_X6_42 dX6_tooNearSpans_6 ?_
  refine lv_icmp_ge (tgt := 29) S.1 S.2.1 dX6_tooNearSpans_9 (by decide) (fun hc => ?_) (fun hc => ?_)
  · have hf := itt hf hc
    refine lv_iload_n S.1 S.2.1 dX6_tooNearSpans_29 rfl (lv_at hl 1 rfl) ?_
    exact g_iret (XWd_ok D ad cs ts adK adV) S hr hlk hw dX6_tooNearSpans_30 (Option.some.inj hf) rfl
  · have hf := itf hf hc
    refine lv_aload_n S.1 S.2.1 dX6_tooNearSpans_12 rfl (lv_at hl 0 rfl) ?_
    refine lv_iload_n S.1 S.2.1 dX6_tooNearSpans_13 rfl (lv_at hl 2 rfl) ?_
    obtain ⟨r1, g2, hf⟩ := bd_s hf
    refine g_Vi (rest := []) (XWd_ok D ad cs ts adK adV) S hw (tX6_isTooNear g2) kt_X6_73 3 xe_3 rfl rfl ⟨Nat.le_of_ble_eq_true rfl, Nat.le_of_ble_eq_true rfl⟩ rfl hl.1 rfl (Nat.le_of_ble_eq_true rfl) ⟨Nat.zero_le _, Nat.zero_le _⟩ dX6_tooNearSpans_14 (fun H locs hw => ?_)
    refine lv_if_eq (tgt := 23) S.1 S.2.1 dX6_tooNearSpans_17 (by decide) (fun hc => ?_) (fun hc => ?_)
    · have hf := itt hf hc
      exact wX6_tooNearSpans_23 S hr hlk hk4 hw (lv_sub hl [0, 1, 2] rfl) hf
    · have hf := itf hf hc
      obtain ⟨v3, e4⟩ : ∃ z : Int32, z = x1 + (1 : Int32) := ⟨_, rfl⟩
      have hf := nm_s e4 hf
      refine lv_iinc (v := v3) (lv' := [(1, .int v3), (0, .ref (ad 3)), (2, .int x2)]) S.1 S.2.1 dX6_tooNearSpans_20 hl (k := 1) rfl (by rw [e4]; rfl) (by decide) rfl (fun ls hl => ?_)
      exact wX6_tooNearSpans_23 S hr hlk hk4 hw (lv_sub hl [1, 0, 2] rfl) hf
def fX6_tooNearSpans_4 (N : Nat) (σ : St) : Nat → Int32 → Int32 → Option Int32
  | 0 => fun _ _ => none
  | n + 1 => fX6_tooNearSpans_4b N σ (fX6_tooNearSpans_4 N σ n)
theorem wX6_tooNearSpans_4 {r : Int32} {N : Nat} {σ : St} (S : CallFix p m c cX6_tooNearSpans 3 s av BG RX6) (hr : meth.sig.returnType = some .int) (hlk : meth.locks = false) : ∀ (n : Nat), ∀ (x1 : Int32) (x2 : Int32) (ls : Array Slot) (H : Heap) (locs : List Loc), Hw (XWd D ad cs ts adK adV) s σ H locs → lv_has ls 3 [(0, .ref (ad 3)), (1, .int x1), (2, .int x2)] → fX6_tooNearSpans_4 N σ n x1 x2 = some r → W p l e (RM 4 87) s m av below meth c H locs 0 0 (QI below (XWd D ad cs ts adK adV) av s r σ) (F0 m 4 ls []) := by
  intro n
  induction n with
  | zero => intro _ _ ls H locs hw hl hf; cases hf
  | succ n ih => intro _ _ ls H locs hw hl hf; exact wX6_tooNearSpans_4b S hr hlk ih hw hl hf
def fX6_tooNearSpans (N : Nat) (σ : St) : Option Int32 :=
  fX6_tooNearSpans_4 N σ N (0 : Int32) (0 : Int32)
set_option maxHeartbeats 2000000 in
set_option maxRecDepth 20000 in
theorem tX6_tooNearSpans {r : Int32} {N : Nat} {σ : St} (hf : fX6_tooNearSpans N σ = some r) : CI l (XWd D ad cs ts adK adV) yX6_tooNearSpans cX6_tooNearSpans 3 (some .int) 4 87 [.ref (ad 3)] σ r σ := by
  refine CI.of (by decide) (Nat.le_of_ble_eq_true rfl) ?_
  intro p e s m below meth c ls S hr hlk hw hl
  have hl : lv_has ls 3 [(0, .ref (ad 3))] := hl
  unfold fX6_tooNearSpans at hf
  refine lv_iconst (v := 0) S.1 S.2.1 dX6_tooNearSpans_0 (by decide) ?_
  refine lv_istore_n (lv' := [(1, .int (0 : Int32)), (0, .ref (ad 3))]) S.1 S.2.1 dX6_tooNearSpans_1 rfl hl (by decide) rfl (fun ls hl => ?_)
  refine lv_iconst (v := 0) S.1 S.2.1 dX6_tooNearSpans_2 (by decide) ?_
  refine lv_istore_n (lv' := [(2, .int (0 : Int32)), (1, .int (0 : Int32)), (0, .ref (ad 3))]) S.1 S.2.1 dX6_tooNearSpans_3 rfl hl (by decide) rfl (fun ls hl => ?_)
  exact wX6_tooNearSpans_4 S hr hlk N (0 : Int32) (0 : Int32) _ _ _ hw (lv_sub hl [2, 1, 0] rfl) hf
def fX7_add (N : Nat) (σ : St) (x1 : Int32) (x2 : Int32) (x3 : Int32) : Option (Int32 × St) :=
  nm ((x2 * x3) / (100 : Int32)) fun v1 => if ix (σ.1 15) 20 = true then nm (aW σ 69 (σ.1 15) x1) fun σ4 => if ix (σ4.1 15) 20 = true then nm (aW σ4 70 (σ4.1 15) (x2 - v1)) fun σ7 => if ix (σ7.1 15) 20 = true then nm (aW σ7 71 (σ7.1 15) (x2 + v1)) fun σ10 => nm (sI σ10 15 ((σ10.1 15) + (1 : Int32))) fun σ12 => some ((σ12.1 15), σ12) else none else none else none
set_option maxHeartbeats 2000000 in
set_option maxRecDepth 20000 in
theorem tX7_add {r : Int32} {σ' : St} {N : Nat} {σ : St} {x1 : Int32} {x2 : Int32} {x3 : Int32} (hf : fX7_add N σ x1 x2 x3 = some (r, σ')) : CI l (XWd D ad cs ts adK adV) yX7_add cX7_add 5 (some .int) 0 0 [.ref (ad 8), .int x1, .int x2, .int x3] σ r σ' := by
  refine CI.of (by decide) (Nat.le_of_ble_eq_true rfl) ?_
  intro p e s m below meth c ls S hr hlk hw hl
  have hl : lv_has ls 5 [(0, .ref (ad 8)), (1, .int x1), (2, .int x2), (3, .int x3)] := hl
  unfold fX7_add at hf
  refine lv_iload_n S.1 S.2.1 dX7_add_0 rfl (lv_at hl 2 rfl) ?_
  refine lv_iload_n S.1 S.2.1 dX7_add_1 rfl (lv_at hl 3 rfl) ?_
  refine lv_imul S.1 S.2.1 dX7_add_2 ?_
  refine lv_bipush (v := 100) S.1 S.2.1 dX7_add_3 (by decide) ?_
  refine lv_idiv S.1 S.2.1 dX7_add_5 (by decide) ?_
  refine lv_topi (fun v1 e2 => ?_)
  have hf := nm_s e2 hf
  refine lv_istore (lv' := [(4, .int v1), (0, .ref (ad 8)), (1, .int x1), (2, .int x2), (3, .int x3)]) S.1 S.2.1 dX7_add_6 hl (by decide) rfl (fun ls hl => ?_)
  refine lv_aload_n S.1 S.2.1 dX7_add_8 rfl (lv_at hl 1 rfl) ?_
  refine xg_Looks_plots S hw kf_X7_9 dX7_add_9 ?_
  refine lv_aload_n S.1 S.2.1 dX7_add_12 rfl (lv_at hl 1 rfl) ?_
  refine xg_Looks_count S hw kf_X7_21 dX7_add_13 ?_
  refine lv_iload_n S.1 S.2.1 dX7_add_16 rfl (lv_at hl 2 rfl) ?_
  obtain ⟨h3, hf⟩ := gd_ix hf
  obtain ⟨σ4, e5⟩ : ∃ z : St, z = aW σ 69 (σ.1 15) x1 := ⟨_, rfl⟩
  have hf := nm_s e5 hf
  refine g_iast (σ' := σ4) S hw 69 0 xe_69 rfl (by rw [e5]; exact xs_69 _) h3 dX7_add_17 (fun H locs hw => ?_)
  refine lv_aload_n S.1 S.2.1 dX7_add_18 rfl (lv_at hl 1 rfl) ?_
  refine xg_Looks_lowers S hw kf_X7_15 dX7_add_19 ?_
  refine lv_aload_n S.1 S.2.1 dX7_add_22 rfl (lv_at hl 1 rfl) ?_
  refine xg_Looks_count S hw kf_X7_21 dX7_add_23 ?_
  refine lv_iload_n S.1 S.2.1 dX7_add_26 rfl (lv_at hl 3 rfl) ?_
  refine lv_iload S.1 S.2.1 dX7_add_27 (lv_at hl 0 rfl) ?_
  refine lv_isub S.1 S.2.1 dX7_add_29 ?_
  obtain ⟨h6, hf⟩ := gd_ix hf
  obtain ⟨σ7, e8⟩ : ∃ z : St, z = aW σ4 70 (σ4.1 15) (x2 - v1) := ⟨_, rfl⟩
  have hf := nm_s e8 hf
  refine g_iast (σ' := σ7) S hw 70 0 xe_70 rfl (by rw [e8]; exact xs_70 _) h6 dX7_add_30 (fun H locs hw => ?_)
  refine lv_aload_n S.1 S.2.1 dX7_add_31 rfl (lv_at hl 1 rfl) ?_
  refine xg_Looks_uppers S hw kf_X7_18 dX7_add_32 ?_
  refine lv_aload_n S.1 S.2.1 dX7_add_35 rfl (lv_at hl 1 rfl) ?_
  refine xg_Looks_count S hw kf_X7_21 dX7_add_36 ?_
  refine lv_iload_n S.1 S.2.1 dX7_add_39 rfl (lv_at hl 3 rfl) ?_
  refine lv_iload S.1 S.2.1 dX7_add_40 (lv_at hl 0 rfl) ?_
  refine lv_iadd S.1 S.2.1 dX7_add_42 ?_
  obtain ⟨h9, hf⟩ := gd_ix hf
  obtain ⟨σ10, e11⟩ : ∃ z : St, z = aW σ7 71 (σ7.1 15) (x2 + v1) := ⟨_, rfl⟩
  have hf := nm_s e11 hf
  refine g_iast (σ' := σ10) S hw 71 0 xe_71 rfl (by rw [e11]; exact xs_71 _) h9 dX7_add_43 (fun H locs hw => ?_)
  refine lv_aload_n S.1 S.2.1 dX7_add_44 rfl (lv_at hl 1 rfl) ?_
  refine lv_dup S.1 S.2.1 dX7_add_45 rfl ?_
  refine xg_Looks_count S hw kf_X7_21 dX7_add_46 ?_
  refine lv_iconst (v := 1) S.1 S.2.1 dX7_add_49 (by decide) ?_
  refine lv_iadd S.1 S.2.1 dX7_add_50 ?_
  obtain ⟨σ12, e13⟩ : ∃ z : St, z = sI σ10 15 ((σ10.1 15) + (1 : Int32)) := ⟨_, rfl⟩
  have hf := nm_s e13 hf
  refine xp_Looks_count S hw e13 kf_X7_21 dX7_add_51 (fun H locs hw => ?_)
  refine lv_aload_n S.1 S.2.1 dX7_add_54 rfl (lv_at hl 1 rfl) ?_
  refine xg_Looks_count S hw kf_X7_21 dX7_add_55 ?_
  exact g_iret (XWd_ok D ad cs ts adK adV) S hr hlk hw dX7_add_58 (Prod.mk.inj (Option.some.inj hf)).1 (Prod.mk.inj (Option.some.inj hf)).2
def fX7_boundOf_55 (N : Nat) (σ : St) (k9 : Int32 → Int32 → Int32 → Int32 → Int32 → Option Int32) (x1 : Int32) (x2 : Int32) (x3 : Int32) (x4 : Int32) (x5 : Int32) : Option Int32 :=
  nm (x5 + (1 : Int32)) fun v8 => k9 x1 x2 x3 x4 v8
set_option maxHeartbeats 2000000 in
set_option maxRecDepth 20000 in
theorem wX7_boundOf_55 {r : Int32} {N : Nat} {σ : St} (S : CallFix p m c cX7_boundOf 6 s av BG RX7) (hr : meth.sig.returnType = some .int) (hlk : meth.locks = false) {k9 : Int32 → Int32 → Int32 → Int32 → Int32 → Option Int32} (hk9 : ∀ (x1 : Int32) (x2 : Int32) (x3 : Int32) (x4 : Int32) (x5 : Int32) (ls : Array Slot) (H : Heap) (locs : List Loc), Hw (XWd D ad cs ts adK adV) s σ H locs → lv_has ls 6 [(0, .ref (ad 8)), (1, .int x1), (2, .int x2), (3, .int x3), (4, .int x4), (5, .int x5)] → k9 x1 x2 x3 x4 x5 = some r → W p l e (RM 1 21) s m av below meth c H locs 0 0 (QI below (XWd D ad cs ts adK adV) av s r σ) (F0 m 9 ls []))  {x1 : Int32} {x2 : Int32} {x3 : Int32} {x4 : Int32} {x5 : Int32} {ls : Array Slot} {H : Heap} {locs : List Loc} (hw : Hw (XWd D ad cs ts adK adV) s σ H locs) (hl : lv_has ls 6 [(0, .ref (ad 8)), (1, .int x1), (2, .int x2), (3, .int x3), (4, .int x4), (5, .int x5)]) (hf : fX7_boundOf_55 N σ k9 x1 x2 x3 x4 x5 = some r) : W p l e (RM 1 21) s m av below meth c H locs 0 0 (QI below (XWd D ad cs ts adK adV) av s r σ) (F0 m 55 ls []) := by
  unfold fX7_boundOf_55 at hf
  obtain ⟨v8, e9⟩ : ∃ z : Int32, z = x5 + (1 : Int32) := ⟨_, rfl⟩
  have hf := nm_s e9 hf
  refine lv_iinc (v := v8) (lv' := [(5, .int v8), (0, .ref (ad 8)), (1, .int x1), (2, .int x2), (3, .int x3), (4, .int x4)]) S.1 S.2.1 dX7_boundOf_55 hl (k := 5) rfl (by rw [e9]; rfl) (by decide) rfl (fun ls hl => ?_)
  refine lv_goto (tgt := 9) S.1 S.2.1 dX7_boundOf_58 (by decide) ?_
  exact hk9 x1 x2 x3 x4 v8 _ _ _ hw (lv_sub hl [1, 2, 3, 4, 5, 0] rfl) hf
def fX7_boundOf_9b (N : Nat) (σ : St) (k9 : Int32 → Int32 → Int32 → Int32 → Int32 → Option Int32) (x1 : Int32) (x2 : Int32) (x3 : Int32) (x4 : Int32) (x5 : Int32) : Option Int32 :=
  if (σ.1 15) ≤ x5 then (if x3 = (-1 : Int32) then (some (-1 : Int32)) else (if x3 ≤ x4 then (if x2 = 0 then (some x3) else (some x4)) else (some (-2 : Int32)))) else (if ix x5 20 = true then if (aR σ 69 x5) = x1 then (if ix x5 20 = true then nm (if x3 < (aR σ 70 x5) then (aR σ 70 x5) else x3) fun v3 => if ix x5 20 = true then nm (if (aR σ 71 x5) < x4 then (aR σ 71 x5) else x4) fun v6 => fX7_boundOf_55 N σ k9 x1 x2 v3 v6 x5 else none else none) else (fX7_boundOf_55 N σ k9 x1 x2 x3 x4 x5) else none)
set_option maxHeartbeats 2000000 in
set_option maxRecDepth 20000 in
theorem wX7_boundOf_9b {r : Int32} {N : Nat} {σ : St} (S : CallFix p m c cX7_boundOf 6 s av BG RX7) (hr : meth.sig.returnType = some .int) (hlk : meth.locks = false) {k9 : Int32 → Int32 → Int32 → Int32 → Int32 → Option Int32} (hk9 : ∀ (x1 : Int32) (x2 : Int32) (x3 : Int32) (x4 : Int32) (x5 : Int32) (ls : Array Slot) (H : Heap) (locs : List Loc), Hw (XWd D ad cs ts adK adV) s σ H locs → lv_has ls 6 [(0, .ref (ad 8)), (1, .int x1), (2, .int x2), (3, .int x3), (4, .int x4), (5, .int x5)] → k9 x1 x2 x3 x4 x5 = some r → W p l e (RM 1 21) s m av below meth c H locs 0 0 (QI below (XWd D ad cs ts adK adV) av s r σ) (F0 m 9 ls []))  {x1 : Int32} {x2 : Int32} {x3 : Int32} {x4 : Int32} {x5 : Int32} {ls : Array Slot} {H : Heap} {locs : List Loc} (hw : Hw (XWd D ad cs ts adK adV) s σ H locs) (hl : lv_has ls 6 [(0, .ref (ad 8)), (1, .int x1), (2, .int x2), (3, .int x3), (4, .int x4), (5, .int x5)]) (hf : fX7_boundOf_9b N σ k9 x1 x2 x3 x4 x5 = some r) : W p l e (RM 1 21) s m av below meth c H locs 0 0 (QI below (XWd D ad cs ts adK adV) av s r σ) (F0 m 9 ls []) := by
  unfold fX7_boundOf_9b at hf
  refine lv_iload S.1 S.2.1 dX7_boundOf_9 (lv_at hl 5 rfl) ?_
  refine lv_aload_n S.1 S.2.1 dX7_boundOf_11 rfl (lv_at hl 0 rfl) ?_
  refine xg_Looks_count S hw kf_X7_21 dX7_boundOf_12 ?_
  refine lv_icmp_ge (tgt := 61) S.1 S.2.1 dX7_boundOf_15 (by decide) (fun hc => ?_) (fun hc => ?_)
  · have hf := itt hf hc
    refine lv_iload_n S.1 S.2.1 dX7_boundOf_61 rfl (lv_at hl 3 rfl) ?_
    refine lv_iconst (v := -1) S.1 S.2.1 dX7_boundOf_62 (by decide) ?_
    refine lv_icmp_ne (tgt := 68) S.1 S.2.1 dX7_boundOf_63 (by decide) (fun hc => ?_) (fun hc => ?_)
    · have hf := itf hf hc
      refine lv_iload_n S.1 S.2.1 dX7_boundOf_68 rfl (lv_at hl 3 rfl) ?_
      refine lv_iload S.1 S.2.1 dX7_boundOf_69 (lv_at hl 4 rfl) ?_
      refine lv_icmp_le (tgt := 77) S.1 S.2.1 dX7_boundOf_71 (by decide) (fun hc => ?_) (fun hc => ?_)
      · have hf := itt hf hc
        refine lv_iload_n S.1 S.2.1 dX7_boundOf_77 rfl (lv_at hl 2 rfl) ?_
        refine lv_if_ne (tgt := 85) S.1 S.2.1 dX7_boundOf_78 (by decide) (fun hc => ?_) (fun hc => ?_)
        · have hf := itf hf hc
          refine lv_iload S.1 S.2.1 dX7_boundOf_85 (lv_at hl 4 rfl) ?_
          exact g_iret (XWd_ok D ad cs ts adK adV) S hr hlk hw dX7_boundOf_87 (Option.some.inj hf) rfl
        · have hf := itt hf hc
          refine lv_iload_n S.1 S.2.1 dX7_boundOf_81 rfl (lv_at hl 3 rfl) ?_
          refine lv_goto (tgt := 87) S.1 S.2.1 dX7_boundOf_82 (by decide) ?_
          exact g_iret (XWd_ok D ad cs ts adK adV) S hr hlk hw dX7_boundOf_87 (Option.some.inj hf) rfl
      · have hf := itf hf hc
        refine lv_bipush (v := -2) S.1 S.2.1 dX7_boundOf_74 (by decide) ?_
        exact g_iret (XWd_ok D ad cs ts adK adV) S hr hlk hw dX7_boundOf_76 (Option.some.inj hf) rfl
    · have hf := itt hf hc
      refine lv_iconst (v := -1) S.1 S.2.1 dX7_boundOf_66 (by decide) ?_
      exact g_iret (XWd_ok D ad cs ts adK adV) S hr hlk hw dX7_boundOf_67 (Option.some.inj hf) rfl
  · have hf := itf hf hc
    refine lv_aload_n S.1 S.2.1 dX7_boundOf_18 rfl (lv_at hl 0 rfl) ?_
    refine xg_Looks_plots S hw kf_X7_9 dX7_boundOf_19 ?_
    refine lv_iload S.1 S.2.1 dX7_boundOf_22 (lv_at hl 5 rfl) ?_
    obtain ⟨h1, hf⟩ := gd_ix hf
    refine g_iald S hw 69 0 xe_69 rfl h1 dX7_boundOf_24 ?_
    refine lv_iload_n S.1 S.2.1 dX7_boundOf_25 rfl (lv_at hl 1 rfl) ?_
    refine lv_icmp_ne (tgt := 55) S.1 S.2.1 dX7_boundOf_26 (by decide) (fun hc => ?_) (fun hc => ?_)
    · have hf := itf hf hc
      exact wX7_boundOf_55 S hr hlk hk9 hw (lv_sub hl [0, 1, 2, 3, 4, 5] rfl) hf
    · have hf := itt hf hc
      refine lv_iload_n S.1 S.2.1 dX7_boundOf_29 rfl (lv_at hl 3 rfl) ?_
      refine lv_aload_n S.1 S.2.1 dX7_boundOf_30 rfl (lv_at hl 0 rfl) ?_
      refine xg_Looks_lowers S hw kf_X7_15 dX7_boundOf_31 ?_
      refine lv_iload S.1 S.2.1 dX7_boundOf_34 (lv_at hl 5 rfl) ?_
      obtain ⟨h2, hf⟩ := gd_ix hf
      refine g_iald S hw 70 0 xe_70 rfl h2 dX7_boundOf_36 ?_
      refine g_mmax S hl.1 kt_X7_26 (Nat.le_of_ble_eq_true rfl) (Nat.le_of_ble_eq_true rfl) (Nat.zero_le _) (Nat.zero_le _) dX7_boundOf_37 ?_
      refine lv_topi (fun v3 e4 => ?_)
      have hf := nm_s e4 hf
      refine lv_istore_n (lv' := [(3, .int v3), (0, .ref (ad 8)), (1, .int x1), (2, .int x2), (4, .int x4), (5, .int x5)]) S.1 S.2.1 dX7_boundOf_40 rfl hl (by decide) rfl (fun ls hl => ?_)
      refine lv_iload S.1 S.2.1 dX7_boundOf_41 (lv_at hl 4 rfl) ?_
      refine lv_aload_n S.1 S.2.1 dX7_boundOf_43 rfl (lv_at hl 1 rfl) ?_
      refine xg_Looks_uppers S hw kf_X7_18 dX7_boundOf_44 ?_
      refine lv_iload S.1 S.2.1 dX7_boundOf_47 (lv_at hl 5 rfl) ?_
      obtain ⟨h5, hf⟩ := gd_ix hf
      refine g_iald S hw 71 0 xe_71 rfl h5 dX7_boundOf_49 ?_
      refine g_mmin S hl.1 kt_X7_32 (Nat.le_of_ble_eq_true rfl) (Nat.le_of_ble_eq_true rfl) (Nat.zero_le _) (Nat.zero_le _) dX7_boundOf_50 ?_
      refine lv_topi (fun v6 e7 => ?_)
      have hf := nm_s e7 hf
      refine lv_istore (lv' := [(4, .int v6), (3, .int v3), (0, .ref (ad 8)), (1, .int x1), (2, .int x2), (5, .int x5)]) S.1 S.2.1 dX7_boundOf_53 hl (by decide) rfl (fun ls hl => ?_)
      exact wX7_boundOf_55 S hr hlk hk9 hw (lv_sub hl [2, 3, 4, 1, 0, 5] rfl) hf
def fX7_boundOf_9 (N : Nat) (σ : St) : Nat → Int32 → Int32 → Int32 → Int32 → Int32 → Option Int32
  | 0 => fun _ _ _ _ _ => none
  | n + 1 => fX7_boundOf_9b N σ (fX7_boundOf_9 N σ n)
theorem wX7_boundOf_9 {r : Int32} {N : Nat} {σ : St} (S : CallFix p m c cX7_boundOf 6 s av BG RX7) (hr : meth.sig.returnType = some .int) (hlk : meth.locks = false) : ∀ (n : Nat), ∀ (x1 : Int32) (x2 : Int32) (x3 : Int32) (x4 : Int32) (x5 : Int32) (ls : Array Slot) (H : Heap) (locs : List Loc), Hw (XWd D ad cs ts adK adV) s σ H locs → lv_has ls 6 [(0, .ref (ad 8)), (1, .int x1), (2, .int x2), (3, .int x3), (4, .int x4), (5, .int x5)] → fX7_boundOf_9 N σ n x1 x2 x3 x4 x5 = some r → W p l e (RM 1 21) s m av below meth c H locs 0 0 (QI below (XWd D ad cs ts adK adV) av s r σ) (F0 m 9 ls []) := by
  intro n
  induction n with
  | zero => intro _ _ _ _ _ ls H locs hw hl hf; cases hf
  | succ n ih => intro _ _ _ _ _ ls H locs hw hl hf; exact wX7_boundOf_9b S hr hlk ih hw hl hf
def fX7_boundOf (N : Nat) (σ : St) (x1 : Int32) (x2 : Int32) : Option Int32 :=
  fX7_boundOf_9 N σ N x1 x2 (-1 : Int32) (199998 : Int32) (0 : Int32)
set_option maxHeartbeats 2000000 in
set_option maxRecDepth 20000 in
theorem tX7_boundOf {r : Int32} {N : Nat} {σ : St} {x1 : Int32} {x2 : Int32} (hf : fX7_boundOf N σ x1 x2 = some r) : CI l (XWd D ad cs ts adK adV) yX7_boundOf cX7_boundOf 6 (some .int) 1 21 [.ref (ad 8), .int x1, .int x2] σ r σ := by
  refine CI.of (by decide) (Nat.le_of_ble_eq_true rfl) ?_
  intro p e s m below meth c ls S hr hlk hw hl
  have hl : lv_has ls 6 [(0, .ref (ad 8)), (1, .int x1), (2, .int x2)] := hl
  unfold fX7_boundOf at hf
  refine lv_iconst (v := -1) S.1 S.2.1 dX7_boundOf_0 (by decide) ?_
  refine lv_istore_n (lv' := [(3, .int (-1 : Int32)), (0, .ref (ad 8)), (1, .int x1), (2, .int x2)]) S.1 S.2.1 dX7_boundOf_1 rfl hl (by decide) rfl (fun ls hl => ?_)
  refine lv_ldc S.1 S.2.1 S.2.2.2.1 (S.2.2.2.2 _ kc_X7_25) dX7_boundOf_2 ?_
  refine lv_istore (lv' := [(4, .int (199998 : Int32)), (3, .int (-1 : Int32)), (0, .ref (ad 8)), (1, .int x1), (2, .int x2)]) S.1 S.2.1 dX7_boundOf_4 hl (by decide) rfl (fun ls hl => ?_)
  refine lv_iconst (v := 0) S.1 S.2.1 dX7_boundOf_6 (by decide) ?_
  refine lv_istore (lv' := [(5, .int (0 : Int32)), (4, .int (199998 : Int32)), (3, .int (-1 : Int32)), (0, .ref (ad 8)), (1, .int x1), (2, .int x2)]) S.1 S.2.1 dX7_boundOf_7 hl (by decide) rfl (fun ls hl => ?_)
  exact wX7_boundOf_9 S hr hlk N x1 x2 (-1 : Int32) (199998 : Int32) (0 : Int32) _ _ _ hw (lv_sub hl [3, 4, 5, 2, 1, 0] rfl) hf
def fX8_take (N : Nat) (σ : St) (x1 : Int32) : Option St :=
  if (σ.1 5) < (160 : Int32) then (if ix (σ.1 5) 160 = true then nm (aW σ 51 (σ.1 5) x1) fun σ2 => nm (sI σ2 5 ((σ2.1 5) + (1 : Int32))) fun σ4 => some σ4 else none) else (some σ)
set_option maxHeartbeats 2000000 in
set_option maxRecDepth 20000 in
theorem tX8_take {σ' : St} {N : Nat} {σ : St} {x1 : Int32} (hf : fX8_take N σ x1 = some σ') : CV l (XWd D ad cs ts adK adV) yX8_take cX8_take 2 0 0 [.ref (ad 5), .int x1] σ σ' := by
  refine CV.of (by decide) (Nat.le_of_ble_eq_true rfl) ?_
  intro p e s m below meth c ls S hr hlk hw hl
  have hl : lv_has ls 2 [(0, .ref (ad 5)), (1, .int x1)] := hl
  unfold fX8_take at hf
  refine lv_aload_n S.1 S.2.1 dX8_take_0 rfl (lv_at hl 0 rfl) ?_
  refine xg_Reader_size S hw kf_X8_27 dX8_take_1 ?_
  refine lv_sipush (v := 160) S.1 S.2.1 dX8_take_4 (by decide) ?_
  refine lv_icmp_lt (tgt := 11) S.1 S.2.1 dX8_take_7 (by decide) (fun hc => ?_) (fun hc => ?_)
  · have hf := itt hf hc
    refine lv_aload_n S.1 S.2.1 dX8_take_11 rfl (lv_at hl 0 rfl) ?_
    refine xg_Reader_tape S hw kf_X8_9 dX8_take_12 ?_
    refine lv_aload_n S.1 S.2.1 dX8_take_15 rfl (lv_at hl 0 rfl) ?_
    refine xg_Reader_size S hw kf_X8_27 dX8_take_16 ?_
    refine lv_iload_n S.1 S.2.1 dX8_take_19 rfl (lv_at hl 1 rfl) ?_
    obtain ⟨h1, hf⟩ := gd_ix hf
    obtain ⟨σ2, e3⟩ : ∃ z : St, z = aW σ 51 (σ.1 5) x1 := ⟨_, rfl⟩
    have hf := nm_s e3 hf
    refine g_iast (σ' := σ2) S hw 51 0 xe_51 rfl (by rw [e3]; exact xs_51 _) h1 dX8_take_20 (fun H locs hw => ?_)
    refine lv_aload_n S.1 S.2.1 dX8_take_21 rfl (lv_at hl 0 rfl) ?_
    refine lv_dup S.1 S.2.1 dX8_take_22 rfl ?_
    refine xg_Reader_size S hw kf_X8_27 dX8_take_23 ?_
    refine lv_iconst (v := 1) S.1 S.2.1 dX8_take_26 (by decide) ?_
    refine lv_iadd S.1 S.2.1 dX8_take_27 ?_
    obtain ⟨σ4, e5⟩ : ∃ z : St, z = sI σ2 5 ((σ2.1 5) + (1 : Int32)) := ⟨_, rfl⟩
    have hf := nm_s e5 hf
    refine xp_Reader_size S hw e5 kf_X8_27 dX8_take_28 (fun H locs hw => ?_)
    exact g_vret (XWd_ok D ad cs ts adK adV) S hr hlk hw dX8_take_31 (Option.some.inj hf)
  · have hf := itf hf hc
    exact g_vret (XWd_ok D ad cs ts adK adV) S hr hlk hw dX8_take_10 (Option.some.inj hf)
def fX8_takeTheAct_2b (N : Nat) (k2 : St → Int32 → Option St) (σ : St) (x1 : Int32) : Option St :=
  if (nI (stLen.getD 0 0)) ≤ x1 then (some σ) else (if ix x1 (stLen.getD 0 0) = true then bd (fX8_take N σ (chS 0 x1)) fun σ2 => nm (x1 + (1 : Int32)) fun v4 => k2 σ2 v4 else none)
set_option maxHeartbeats 2000000 in
set_option maxRecDepth 20000 in
theorem wX8_takeTheAct_2b {σ' : St} {N : Nat} (S : CallFix p m c cX8_takeTheAct 2 s av BG RX8) (hr : meth.sig.returnType = none) (hlk : meth.locks = false) {k2 : St → Int32 → Option St} (hk2 : ∀ (σ : St) (x1 : Int32) (ls : Array Slot) (H : Heap) (locs : List Loc), Hw (XWd D ad cs ts adK adV) s σ H locs → lv_has ls 2 [(0, .ref (ad 5)), (1, .int x1)] → k2 σ x1 = some σ' → W p l e (RM 4 85) s m av below meth c H locs 0 0 (QV below (XWd D ad cs ts adK adV) av s σ') (F0 m 2 ls []))  {σ : St} {x1 : Int32} {ls : Array Slot} {H : Heap} {locs : List Loc} (hw : Hw (XWd D ad cs ts adK adV) s σ H locs) (hl : lv_has ls 2 [(0, .ref (ad 5)), (1, .int x1)]) (hf : fX8_takeTheAct_2b N k2 σ x1 = some σ') : W p l e (RM 4 85) s m av below meth c H locs 0 0 (QV below (XWd D ad cs ts adK adV) av s σ') (F0 m 2 ls []) := by
  unfold fX8_takeTheAct_2b at hf
  refine lv_iload_n S.1 S.2.1 dX8_takeTheAct_2 rfl (lv_at hl 1 rfl) ?_
  refine x_ldcS S hw 0 rfl dX8_takeTheAct_3 ?_
  refine g_Ti (As := []) (rest := [.int x1]) (XWd_ok D ad cs ts adK adV) S hw (t_length (i := 0) (by decide)) kt_X8_33 (x_rc hw (by decide)) ⟨Nat.le_of_ble_eq_true rfl, Nat.le_of_ble_eq_true rfl⟩ rfl hl.1 rfl (Nat.le_of_ble_eq_true rfl) ⟨Nat.zero_le _, Nat.zero_le _⟩ dX8_takeTheAct_5 (fun H locs hw => ?_)
  refine lv_icmp_ge (tgt := 27) S.1 S.2.1 dX8_takeTheAct_8 (by decide) (fun hc => ?_) (fun hc => ?_)
  · have hf := itt hf hc
    exact g_vret (XWd_ok D ad cs ts adK adV) S hr hlk hw dX8_takeTheAct_27 (Option.some.inj hf)
  · have hf := itf hf hc
    refine lv_aload_n S.1 S.2.1 dX8_takeTheAct_11 rfl (lv_at hl 0 rfl) ?_
    refine x_ldcS S hw 0 rfl dX8_takeTheAct_12 ?_
    refine lv_iload_n S.1 S.2.1 dX8_takeTheAct_14 rfl (lv_at hl 1 rfl) ?_
    obtain ⟨h1, hf⟩ := gd_ix hf
    refine g_Ti (As := [.int x1]) (rest := [.ref (ad 5)]) (XWd_ok D ad cs ts adK adV) S hw (t_charAt (i := 0) (by decide) h1) kt_X8_39 (x_rc hw (by decide)) ⟨Nat.le_of_ble_eq_true rfl, Nat.le_of_ble_eq_true rfl⟩ rfl hl.1 rfl (Nat.le_of_ble_eq_true rfl) ⟨Nat.zero_le _, Nat.zero_le _⟩ dX8_takeTheAct_15 (fun H locs hw => ?_)
    obtain ⟨σ2, g3, hf⟩ := bd_s hf
    refine g_Vv (rest := []) (XWd_ok D ad cs ts adK adV) S hw (tX8_take g3) kt_X8_43 5 xe_5 rfl rfl ⟨Nat.le_of_ble_eq_true rfl, Nat.le_of_ble_eq_true rfl⟩ rfl hl.1 rfl (Nat.le_of_ble_eq_true rfl) ⟨Nat.zero_le _, Nat.zero_le _⟩ dX8_takeTheAct_18 (fun H locs hw => ?_)
    obtain ⟨v4, e5⟩ : ∃ z : Int32, z = x1 + (1 : Int32) := ⟨_, rfl⟩
    have hf := nm_s e5 hf
    refine lv_iinc (v := v4) (lv' := [(1, .int v4), (0, .ref (ad 5))]) S.1 S.2.1 dX8_takeTheAct_21 hl (k := 1) rfl (by rw [e5]; rfl) (by decide) rfl (fun ls hl => ?_)
    refine lv_goto (tgt := 2) S.1 S.2.1 dX8_takeTheAct_24 (by decide) ?_
    exact hk2 σ2 v4 _ _ _ hw (lv_sub hl [1, 0] rfl) hf
def fX8_takeTheAct_2 (N : Nat) : Nat → St → Int32 → Option St
  | 0 => fun _ _ => none
  | n + 1 => fX8_takeTheAct_2b N (fX8_takeTheAct_2 N n)
theorem wX8_takeTheAct_2 {σ' : St} {N : Nat} (S : CallFix p m c cX8_takeTheAct 2 s av BG RX8) (hr : meth.sig.returnType = none) (hlk : meth.locks = false) : ∀ (n : Nat), ∀ (σ : St) (x1 : Int32) (ls : Array Slot) (H : Heap) (locs : List Loc), Hw (XWd D ad cs ts adK adV) s σ H locs → lv_has ls 2 [(0, .ref (ad 5)), (1, .int x1)] → fX8_takeTheAct_2 N n σ x1 = some σ' → W p l e (RM 4 85) s m av below meth c H locs 0 0 (QV below (XWd D ad cs ts adK adV) av s σ') (F0 m 2 ls []) := by
  intro n
  induction n with
  | zero => intro _ _ ls H locs hw hl hf; cases hf
  | succ n ih => intro _ _ ls H locs hw hl hf; exact wX8_takeTheAct_2b S hr hlk ih hw hl hf
def fX8_takeTheAct (N : Nat) (σ : St) : Option St :=
  fX8_takeTheAct_2 N N σ (0 : Int32)
set_option maxHeartbeats 2000000 in
set_option maxRecDepth 20000 in
theorem tX8_takeTheAct {σ' : St} {N : Nat} {σ : St} (hf : fX8_takeTheAct N σ = some σ') : CV l (XWd D ad cs ts adK adV) yX8_takeTheAct cX8_takeTheAct 2 4 85 [.ref (ad 5)] σ σ' := by
  refine CV.of (by decide) (Nat.le_of_ble_eq_true rfl) ?_
  intro p e s m below meth c ls S hr hlk hw hl
  have hl : lv_has ls 2 [(0, .ref (ad 5))] := hl
  unfold fX8_takeTheAct at hf
  refine lv_iconst (v := 0) S.1 S.2.1 dX8_takeTheAct_0 (by decide) ?_
  refine lv_istore_n (lv' := [(1, .int (0 : Int32)), (0, .ref (ad 5))]) S.1 S.2.1 dX8_takeTheAct_1 rfl hl (by decide) rfl (fun ls hl => ?_)
  exact wX8_takeTheAct_2 S hr hlk N σ (0 : Int32) _ _ _ hw (lv_sub hl [1, 0] rfl) hf
def fX8_accept (N : Nat) (σ : St) (x1 : Int32) : Option (Int32 × St) :=
  if ix (σ.1 7) 161 = true then if (aR σ 52 (σ.1 7)) = x1 then (nm (sI σ 7 ((σ.1 7) + (1 : Int32))) fun σ2 => some ((1 : Int32), σ2)) else (some ((0 : Int32), σ)) else none
set_option maxHeartbeats 2000000 in
set_option maxRecDepth 20000 in
theorem tX8_accept {r : Int32} {σ' : St} {N : Nat} {σ : St} {x1 : Int32} (hf : fX8_accept N σ x1 = some (r, σ')) : CI l (XWd D ad cs ts adK adV) yX8_accept cX8_accept 2 (some .boolean) 0 0 [.ref (ad 5), .int x1] σ r σ' := by
  refine CI.of (by decide) (Nat.le_of_ble_eq_true rfl) ?_
  intro p e s m below meth c ls S hr hlk hw hl
  have hl : lv_has ls 2 [(0, .ref (ad 5)), (1, .int x1)] := hl
  unfold fX8_accept at hf
  refine lv_aload_n S.1 S.2.1 dX8_accept_0 rfl (lv_at hl 0 rfl) ?_
  refine xg_Reader_tokens S hw kf_X8_15 dX8_accept_1 ?_
  refine lv_aload_n S.1 S.2.1 dX8_accept_4 rfl (lv_at hl 0 rfl) ?_
  refine xg_Reader_at S hw kf_X8_50 dX8_accept_5 ?_
  obtain ⟨h1, hf⟩ := gd_ix hf
  refine g_iald S hw 52 0 xe_52 rfl h1 dX8_accept_8 ?_
  refine lv_iload_n S.1 S.2.1 dX8_accept_9 rfl (lv_at hl 1 rfl) ?_
  refine lv_icmp_eq (tgt := 15) S.1 S.2.1 dX8_accept_10 (by decide) (fun hc => ?_) (fun hc => ?_)
  · have hf := itt hf hc
    refine lv_aload_n S.1 S.2.1 dX8_accept_15 rfl (lv_at hl 0 rfl) ?_
    refine lv_dup S.1 S.2.1 dX8_accept_16 rfl ?_
    refine xg_Reader_at S hw kf_X8_50 dX8_accept_17 ?_
    refine lv_iconst (v := 1) S.1 S.2.1 dX8_accept_20 (by decide) ?_
    refine lv_iadd S.1 S.2.1 dX8_accept_21 ?_
    obtain ⟨σ2, e3⟩ : ∃ z : St, z = sI σ 7 ((σ.1 7) + (1 : Int32)) := ⟨_, rfl⟩
    have hf := nm_s e3 hf
    refine xp_Reader_at S hw e3 kf_X8_50 dX8_accept_22 (fun H locs hw => ?_)
    refine lv_iconst (v := 1) S.1 S.2.1 dX8_accept_25 (by decide) ?_
    exact g_zret (XWd_ok D ad cs ts adK adV) S hr hlk hw rfl dX8_accept_26 (Prod.mk.inj (Option.some.inj hf)).1 (Prod.mk.inj (Option.some.inj hf)).2
  · have hf := itf hf hc
    refine lv_iconst (v := 0) S.1 S.2.1 dX8_accept_13 (by decide) ?_
    exact g_zret (XWd_ok D ad cs ts adK adV) S hr hlk hw rfl dX8_accept_14 (Prod.mk.inj (Option.some.inj hf)).1 (Prod.mk.inj (Option.some.inj hf)).2
def fX8_emit (N : Nat) (σ : St) (x1 : Int32) : Option St :=
  if (σ.1 8) < (160 : Int32) then (if ix (σ.1 8) 160 = true then nm (aW σ 55 (σ.1 8) x1) fun σ2 => nm (sI σ2 8 ((σ2.1 8) + (1 : Int32))) fun σ4 => some σ4 else none) else (some σ)
set_option maxHeartbeats 2000000 in
set_option maxRecDepth 20000 in
theorem tX8_emit {σ' : St} {N : Nat} {σ : St} {x1 : Int32} (hf : fX8_emit N σ x1 = some σ') : CV l (XWd D ad cs ts adK adV) yX8_emit cX8_emit 2 0 0 [.ref (ad 5), .int x1] σ σ' := by
  refine CV.of (by decide) (Nat.le_of_ble_eq_true rfl) ?_
  intro p e s m below meth c ls S hr hlk hw hl
  have hl : lv_has ls 2 [(0, .ref (ad 5)), (1, .int x1)] := hl
  unfold fX8_emit at hf
  refine lv_aload_n S.1 S.2.1 dX8_emit_0 rfl (lv_at hl 0 rfl) ?_
  refine xg_Reader_length S hw kf_X8_53 dX8_emit_1 ?_
  refine lv_sipush (v := 160) S.1 S.2.1 dX8_emit_4 (by decide) ?_
  refine lv_icmp_lt (tgt := 11) S.1 S.2.1 dX8_emit_7 (by decide) (fun hc => ?_) (fun hc => ?_)
  · have hf := itt hf hc
    refine lv_aload_n S.1 S.2.1 dX8_emit_11 rfl (lv_at hl 0 rfl) ?_
    refine xg_Reader_code S hw kf_X8_24 dX8_emit_12 ?_
    refine lv_aload_n S.1 S.2.1 dX8_emit_15 rfl (lv_at hl 0 rfl) ?_
    refine xg_Reader_length S hw kf_X8_53 dX8_emit_16 ?_
    refine lv_iload_n S.1 S.2.1 dX8_emit_19 rfl (lv_at hl 1 rfl) ?_
    obtain ⟨h1, hf⟩ := gd_ix hf
    obtain ⟨σ2, e3⟩ : ∃ z : St, z = aW σ 55 (σ.1 8) x1 := ⟨_, rfl⟩
    have hf := nm_s e3 hf
    refine g_iast (σ' := σ2) S hw 55 0 xe_55 rfl (by rw [e3]; exact xs_55 _) h1 dX8_emit_20 (fun H locs hw => ?_)
    refine lv_aload_n S.1 S.2.1 dX8_emit_21 rfl (lv_at hl 0 rfl) ?_
    refine lv_dup S.1 S.2.1 dX8_emit_22 rfl ?_
    refine xg_Reader_length S hw kf_X8_53 dX8_emit_23 ?_
    refine lv_iconst (v := 1) S.1 S.2.1 dX8_emit_26 (by decide) ?_
    refine lv_iadd S.1 S.2.1 dX8_emit_27 ?_
    obtain ⟨σ4, e5⟩ : ∃ z : St, z = sI σ2 8 ((σ2.1 8) + (1 : Int32)) := ⟨_, rfl⟩
    have hf := nm_s e5 hf
    refine xp_Reader_length S hw e5 kf_X8_53 dX8_emit_28 (fun H locs hw => ?_)
    exact g_vret (XWd_ok D ad cs ts adK adV) S hr hlk hw dX8_emit_31 (Option.some.inj hf)
  · have hf := itf hf hc
    exact g_vret (XWd_ok D ad cs ts adK adV) S hr hlk hw dX8_emit_10 (Option.some.inj hf)
def fX8_isSignOf (x0 : Int32) (x1 : Int32) : Int32 :=
  if x0 = (0 : Int32) then (if x1 = (130 : Int32) then ((1 : Int32)) else ((0 : Int32))) else (if x0 = (1 : Int32) then (if x1 = (131 : Int32) then ((1 : Int32)) else ((0 : Int32))) else (if x0 = (2 : Int32) then (if x1 = (60 : Int32) then ((1 : Int32)) else (if x1 = (61 : Int32) then ((1 : Int32)) else ((0 : Int32)))) else (if x0 = (3 : Int32) then (if x1 = (43 : Int32) then ((1 : Int32)) else (if x1 = (45 : Int32) then ((1 : Int32)) else ((0 : Int32)))) else (if x1 = (42 : Int32) then ((1 : Int32)) else ((0 : Int32))))))
set_option maxHeartbeats 2000000 in
set_option maxRecDepth 20000 in
theorem tX8_isSignOf {r : Int32} {σ : St} {x0 : Int32} {x1 : Int32} (hf : fX8_isSignOf x0 x1 = r) : CI l (XWd D ad cs ts adK adV) yX8_isSignOf cX8_isSignOf 2 (some .boolean) 0 0 [.int x0, .int x1] σ r σ := by
  refine CI.of (by decide) (Nat.le_of_ble_eq_true rfl) ?_
  intro p e s m below meth c ls S hr hlk hw hl
  have hl : lv_has ls 2 [(0, .int x0), (1, .int x1)] := hl
  unfold fX8_isSignOf at hf
  refine lv_iload_n S.1 S.2.1 dX8_isSignOf_0 rfl (lv_at hl 0 rfl) ?_
  by_cases h1 : x0 = (0 : Int32)
  · have hf := itt hf h1
    refine lv_tableIn (off := 31) (tgt := 32) S.1 S.2.1 dX8_isSignOf_1 (by rw [h1]; decide) (by rw [h1]; decide) (by rw [h1]; rfl) (by decide) ?_
    refine lv_iload_n S.1 S.2.1 dX8_isSignOf_32 rfl (lv_at hl 1 rfl) ?_
    refine lv_sipush (v := 130) S.1 S.2.1 dX8_isSignOf_33 (by decide) ?_
    refine lv_icmp_ne (tgt := 43) S.1 S.2.1 dX8_isSignOf_36 (by decide) (fun hc => ?_) (fun hc => ?_)
    · have hf := itf hf hc
      refine lv_iconst (v := 0) S.1 S.2.1 dX8_isSignOf_43 (by decide) ?_
      exact g_zret (XWd_ok D ad cs ts adK adV) S hr hlk hw rfl dX8_isSignOf_44 hf rfl
    · have hf := itt hf hc
      refine lv_iconst (v := 1) S.1 S.2.1 dX8_isSignOf_39 (by decide) ?_
      refine lv_goto (tgt := 44) S.1 S.2.1 dX8_isSignOf_40 (by decide) ?_
      exact g_zret (XWd_ok D ad cs ts adK adV) S hr hlk hw rfl dX8_isSignOf_44 hf rfl
  have hf := itf hf h1
  by_cases h2 : x0 = (1 : Int32)
  · have hf := itt hf h2
    refine lv_tableIn (off := 44) (tgt := 45) S.1 S.2.1 dX8_isSignOf_1 (by rw [h2]; decide) (by rw [h2]; decide) (by rw [h2]; rfl) (by decide) ?_
    refine lv_iload_n S.1 S.2.1 dX8_isSignOf_45 rfl (lv_at hl 1 rfl) ?_
    refine lv_sipush (v := 131) S.1 S.2.1 dX8_isSignOf_46 (by decide) ?_
    refine lv_icmp_ne (tgt := 56) S.1 S.2.1 dX8_isSignOf_49 (by decide) (fun hc => ?_) (fun hc => ?_)
    · have hf := itf hf hc
      refine lv_iconst (v := 0) S.1 S.2.1 dX8_isSignOf_56 (by decide) ?_
      exact g_zret (XWd_ok D ad cs ts adK adV) S hr hlk hw rfl dX8_isSignOf_57 hf rfl
    · have hf := itt hf hc
      refine lv_iconst (v := 1) S.1 S.2.1 dX8_isSignOf_52 (by decide) ?_
      refine lv_goto (tgt := 57) S.1 S.2.1 dX8_isSignOf_53 (by decide) ?_
      exact g_zret (XWd_ok D ad cs ts adK adV) S hr hlk hw rfl dX8_isSignOf_57 hf rfl
  have hf := itf hf h2
  by_cases h3 : x0 = (2 : Int32)
  · have hf := itt hf h3
    refine lv_tableIn (off := 57) (tgt := 58) S.1 S.2.1 dX8_isSignOf_1 (by rw [h3]; decide) (by rw [h3]; decide) (by rw [h3]; rfl) (by decide) ?_
    refine lv_iload_n S.1 S.2.1 dX8_isSignOf_58 rfl (lv_at hl 1 rfl) ?_
    refine lv_bipush (v := 60) S.1 S.2.1 dX8_isSignOf_59 (by decide) ?_
    refine lv_icmp_eq (tgt := 70) S.1 S.2.1 dX8_isSignOf_61 (by decide) (fun hc => ?_) (fun hc => ?_)
    · have hf := itt hf hc
      refine lv_iconst (v := 1) S.1 S.2.1 dX8_isSignOf_70 (by decide) ?_
      refine lv_goto (tgt := 75) S.1 S.2.1 dX8_isSignOf_71 (by decide) ?_
      exact g_zret (XWd_ok D ad cs ts adK adV) S hr hlk hw rfl dX8_isSignOf_75 hf rfl
    · have hf := itf hf hc
      refine lv_iload_n S.1 S.2.1 dX8_isSignOf_64 rfl (lv_at hl 1 rfl) ?_
      refine lv_bipush (v := 61) S.1 S.2.1 dX8_isSignOf_65 (by decide) ?_
      refine lv_icmp_ne (tgt := 74) S.1 S.2.1 dX8_isSignOf_67 (by decide) (fun hc => ?_) (fun hc => ?_)
      · have hf := itf hf hc
        refine lv_iconst (v := 0) S.1 S.2.1 dX8_isSignOf_74 (by decide) ?_
        exact g_zret (XWd_ok D ad cs ts adK adV) S hr hlk hw rfl dX8_isSignOf_75 hf rfl
      · have hf := itt hf hc
        refine lv_iconst (v := 1) S.1 S.2.1 dX8_isSignOf_70 (by decide) ?_
        refine lv_goto (tgt := 75) S.1 S.2.1 dX8_isSignOf_71 (by decide) ?_
        exact g_zret (XWd_ok D ad cs ts adK adV) S hr hlk hw rfl dX8_isSignOf_75 hf rfl
  have hf := itf hf h3
  by_cases h4 : x0 = (3 : Int32)
  · have hf := itt hf h4
    refine lv_tableIn (off := 75) (tgt := 76) S.1 S.2.1 dX8_isSignOf_1 (by rw [h4]; decide) (by rw [h4]; decide) (by rw [h4]; rfl) (by decide) ?_
    refine lv_iload_n S.1 S.2.1 dX8_isSignOf_76 rfl (lv_at hl 1 rfl) ?_
    refine lv_bipush (v := 43) S.1 S.2.1 dX8_isSignOf_77 (by decide) ?_
    refine lv_icmp_eq (tgt := 88) S.1 S.2.1 dX8_isSignOf_79 (by decide) (fun hc => ?_) (fun hc => ?_)
    · have hf := itt hf hc
      refine lv_iconst (v := 1) S.1 S.2.1 dX8_isSignOf_88 (by decide) ?_
      refine lv_goto (tgt := 93) S.1 S.2.1 dX8_isSignOf_89 (by decide) ?_
      exact g_zret (XWd_ok D ad cs ts adK adV) S hr hlk hw rfl dX8_isSignOf_93 hf rfl
    · have hf := itf hf hc
      refine lv_iload_n S.1 S.2.1 dX8_isSignOf_82 rfl (lv_at hl 1 rfl) ?_
      refine lv_bipush (v := 45) S.1 S.2.1 dX8_isSignOf_83 (by decide) ?_
      refine lv_icmp_ne (tgt := 92) S.1 S.2.1 dX8_isSignOf_85 (by decide) (fun hc => ?_) (fun hc => ?_)
      · have hf := itf hf hc
        refine lv_iconst (v := 0) S.1 S.2.1 dX8_isSignOf_92 (by decide) ?_
        exact g_zret (XWd_ok D ad cs ts adK adV) S hr hlk hw rfl dX8_isSignOf_93 hf rfl
      · have hf := itt hf hc
        refine lv_iconst (v := 1) S.1 S.2.1 dX8_isSignOf_88 (by decide) ?_
        refine lv_goto (tgt := 93) S.1 S.2.1 dX8_isSignOf_89 (by decide) ?_
        exact g_zret (XWd_ok D ad cs ts adK adV) S hr hlk hw rfl dX8_isSignOf_93 hf rfl
  have hf := itf hf h4
  refine lv_tableOut (tgt := 94) S.1 S.2.1 dX8_isSignOf_1 (by have h1 := lv_neT h1 (a := 0) (by decide); have h2 := lv_neT h2 (a := 1) (by decide); have h3 := lv_neT h3 (a := 2) (by decide); have h4 := lv_neT h4 (a := 3) (by decide); omega) (by decide) ?_
  refine lv_iload_n S.1 S.2.1 dX8_isSignOf_94 rfl (lv_at hl 1 rfl) ?_
  refine lv_bipush (v := 42) S.1 S.2.1 dX8_isSignOf_95 (by decide) ?_
  refine lv_icmp_ne (tgt := 104) S.1 S.2.1 dX8_isSignOf_97 (by decide) (fun hc => ?_) (fun hc => ?_)
  · have hf := itf hf hc
    refine lv_iconst (v := 0) S.1 S.2.1 dX8_isSignOf_104 (by decide) ?_
    exact g_zret (XWd_ok D ad cs ts adK adV) S hr hlk hw rfl dX8_isSignOf_105 hf rfl
  · have hf := itt hf hc
    refine lv_iconst (v := 1) S.1 S.2.1 dX8_isSignOf_100 (by decide) ?_
    refine lv_goto (tgt := 105) S.1 S.2.1 dX8_isSignOf_101 (by decide) ?_
    exact g_zret (XWd_ok D ad cs ts adK adV) S hr hlk hw rfl dX8_isSignOf_105 hf rfl
theorem zzX8_isSignOf (x0 : Int32) (x1 : Int32) : narrow .boolean (.int (fX8_isSignOf x0 x1)) = .int (fX8_isSignOf x0 x1) := by
  unfold fX8_isSignOf
  repeat' split
  all_goals first | rfl | exact zzX11_within .. | exact zzX12_isIn ..
def fX8_readOpened (N : Nat) (rl : St → Int32 → Int32 → Option (Int32 × St)) (σ : St) (x1 : Int32) (x2 : Int32) (x3 : Int32) : Option (Int32 × St) :=
  if x3 < (5 : Int32) then (nm (sI σ 7 ((σ.1 7) + (1 : Int32))) fun σ1 => bd2 (rl σ1 x2 (x3 + (1 : Int32))) fun r5 σ3 => if r5 = 0 then (some ((0 : Int32), σ3)) else (if x1 = 0 then (some ((1 : Int32), σ3)) else (bd (fX8_emit N σ3 (-x1)) fun σ6 => some ((1 : Int32), σ6)))) else (some ((0 : Int32), σ))
set_option maxHeartbeats 2000000 in
set_option maxRecDepth 20000 in
theorem tX8_readOpened {r : Int32} {σ' : St} {N : Nat} {rl : St → Int32 → Int32 → Option (Int32 × St)} {d : Nat} (hrl : ∀ {σ : St} {a b r : Int32} {σ' : St}, rl σ a b = some (r, σ') → CI l (XWd D ad cs ts adK adV) yX8_readLevel cX8_readLevel 6 (some .boolean) (3 * d + 2) (100 * d + 60) [.ref (ad 5), .int a, .int b] σ r σ') {σ : St} {x1 : Int32} {x2 : Int32} {x3 : Int32} (hf : fX8_readOpened N rl σ x1 x2 x3 = some (r, σ')) : CI l (XWd D ad cs ts adK adV) yX8_readOpened cX8_readOpened 4 (some .boolean) (3 * d + 3) (100 * d + 100) [.ref (ad 5), .int x1, .int x2, .int x3] σ r σ' := by
  refine CI.of (by decide) (Nat.le_of_ble_eq_true rfl) ?_
  intro p e s m below meth c ls S hr hlk hw hl
  have hl : lv_has ls 4 [(0, .ref (ad 5)), (1, .int x1), (2, .int x2), (3, .int x3)] := hl
  unfold fX8_readOpened at hf
  refine lv_iload_n S.1 S.2.1 dX8_readOpened_0 rfl (lv_at hl 3 rfl) ?_
  refine lv_iconst (v := 5) S.1 S.2.1 dX8_readOpened_1 (by decide) ?_
  refine lv_icmp_lt (tgt := 7) S.1 S.2.1 dX8_readOpened_2 (by decide) (fun hc => ?_) (fun hc => ?_)
  · have hf := itt hf hc
    refine lv_aload_n S.1 S.2.1 dX8_readOpened_7 rfl (lv_at hl 0 rfl) ?_
    refine lv_dup S.1 S.2.1 dX8_readOpened_8 rfl ?_
    refine xg_Reader_at S hw kf_X8_50 dX8_readOpened_9 ?_
    refine lv_iconst (v := 1) S.1 S.2.1 dX8_readOpened_12 (by decide) ?_
    refine lv_iadd S.1 S.2.1 dX8_readOpened_13 ?_
    obtain ⟨σ1, e2⟩ : ∃ z : St, z = sI σ 7 ((σ.1 7) + (1 : Int32)) := ⟨_, rfl⟩
    have hf := nm_s e2 hf
    refine xp_Reader_at S hw e2 kf_X8_50 dX8_readOpened_14 (fun H locs hw => ?_)
    refine lv_aload_n S.1 S.2.1 dX8_readOpened_17 rfl (lv_at hl 0 rfl) ?_
    refine lv_iload_n S.1 S.2.1 dX8_readOpened_18 rfl (lv_at hl 2 rfl) ?_
    refine lv_iload_n S.1 S.2.1 dX8_readOpened_19 rfl (lv_at hl 3 rfl) ?_
    refine lv_iconst (v := 1) S.1 S.2.1 dX8_readOpened_20 (by decide) ?_
    refine lv_iadd S.1 S.2.1 dX8_readOpened_21 ?_
    obtain ⟨r5, σ3, g4, hf⟩ := bd2_s hf
    refine g_Vi (rest := []) (XWd_ok D ad cs ts adK adV) S hw (hrl g4) kt_X8_132 5 xe_5 rfl rfl ⟨by show 3 * d + 2 + 1 ≤ 3 * d + 3; omega, by show 8 + (6 + 11) + (100 * d + 60) ≤ 100 * d + 100; omega⟩ rfl hl.1 rfl (Nat.le_of_ble_eq_true rfl) ⟨Nat.zero_le _, Nat.zero_le _⟩ dX8_readOpened_22 (fun H locs hw => ?_)
    refine lv_if_ne (tgt := 30) S.1 S.2.1 dX8_readOpened_25 (by decide) (fun hc => ?_) (fun hc => ?_)
    · have hf := itf hf hc
      refine lv_iload_n S.1 S.2.1 dX8_readOpened_30 rfl (lv_at hl 1 rfl) ?_
      refine lv_if_eq (tgt := 40) S.1 S.2.1 dX8_readOpened_31 (by decide) (fun hc => ?_) (fun hc => ?_)
      · have hf := itt hf hc
        refine lv_iconst (v := 1) S.1 S.2.1 dX8_readOpened_40 (by decide) ?_
        exact g_zret (XWd_ok D ad cs ts adK adV) S hr hlk hw rfl dX8_readOpened_41 (Prod.mk.inj (Option.some.inj hf)).1 (Prod.mk.inj (Option.some.inj hf)).2
      · have hf := itf hf hc
        refine lv_aload_n S.1 S.2.1 dX8_readOpened_34 rfl (lv_at hl 0 rfl) ?_
        refine lv_iload_n S.1 S.2.1 dX8_readOpened_35 rfl (lv_at hl 1 rfl) ?_
        refine lv_ineg S.1 S.2.1 dX8_readOpened_36 ?_
        obtain ⟨σ6, g7, hf⟩ := bd_s hf
        refine g_Vv (rest := []) (XWd_ok D ad cs ts adK adV) S hw (tX8_emit g7) kt_X8_145 5 xe_5 rfl rfl ⟨by show 0 + 1 ≤ 3 * d + 3; omega, by show 8 + (2 + 11) + (0) ≤ 100 * d + 100; omega⟩ rfl hl.1 rfl (Nat.le_of_ble_eq_true rfl) ⟨Nat.zero_le _, Nat.zero_le _⟩ dX8_readOpened_37 (fun H locs hw => ?_)
        refine lv_iconst (v := 1) S.1 S.2.1 dX8_readOpened_40 (by decide) ?_
        exact g_zret (XWd_ok D ad cs ts adK adV) S hr hlk hw rfl dX8_readOpened_41 (Prod.mk.inj (Option.some.inj hf)).1 (Prod.mk.inj (Option.some.inj hf)).2
    · have hf := itt hf hc
      refine lv_iconst (v := 0) S.1 S.2.1 dX8_readOpened_28 (by decide) ?_
      exact g_zret (XWd_ok D ad cs ts adK adV) S hr hlk hw rfl dX8_readOpened_29 (Prod.mk.inj (Option.some.inj hf)).1 (Prod.mk.inj (Option.some.inj hf)).2
  · have hf := itf hf hc
    refine lv_iconst (v := 0) S.1 S.2.1 dX8_readOpened_5 (by decide) ?_
    exact g_zret (XWd_ok D ad cs ts adK adV) S hr hlk hw rfl dX8_readOpened_6 (Prod.mk.inj (Option.some.inj hf)).1 (Prod.mk.inj (Option.some.inj hf)).2
def fX8_readOne_97 (N : Nat) (rl : St → Int32 → Int32 → Option (Int32 × St)) (σ : St) (y1 : Int32) : Option (Int32 × St) :=
  bd (fX8_emit N σ y1) fun σ15 => nm (sI σ15 7 ((σ15.1 7) + (1 : Int32))) fun σ17 => some ((1 : Int32), σ17)
set_option maxHeartbeats 2000000 in
set_option maxRecDepth 20000 in
theorem wX8_readOne_97 {r : Int32} {σ' : St} {N : Nat} {rl : St → Int32 → Int32 → Option (Int32 × St)} {d : Nat} (hrl : ∀ {σ : St} {a b r : Int32} {σ' : St}, rl σ a b = some (r, σ') → CI l (XWd D ad cs ts adK adV) yX8_readLevel cX8_readLevel 6 (some .boolean) (3 * d + 2) (100 * d + 60) [.ref (ad 5), .int a, .int b] σ r σ') (S : CallFix p m c cX8_readOne 3 s av BG RX8) (hr : meth.sig.returnType = some .boolean) (hlk : meth.locks = false)  {σ : St} {y1 : Int32} {ls : Array Slot} {H : Heap} {locs : List Loc} (hw : Hw (XWd D ad cs ts adK adV) s σ H locs) (hl : lv_has ls 3 [(0, .ref (ad 5))]) (hf : fX8_readOne_97 N rl σ y1 = some (r, σ')) : W p l e (RM (3 * d + 4) (100 * d + 130)) s m av below meth c H locs 0 0 (QI below (XWd D ad cs ts adK adV) av s r σ') (F0 m 97 ls [.int y1, .ref (ad 5)]) := by
  unfold fX8_readOne_97 at hf
  obtain ⟨σ15, g16, hf⟩ := bd_s hf
  refine g_Vv (rest := []) (XWd_ok D ad cs ts adK adV) S hw (tX8_emit g16) kt_X8_145 5 xe_5 rfl rfl ⟨by show 0 + 1 ≤ 3 * d + 4; omega, by show 8 + (2 + 11) + (0) ≤ 100 * d + 130; omega⟩ rfl hl.1 rfl (Nat.le_of_ble_eq_true rfl) ⟨Nat.zero_le _, Nat.zero_le _⟩ dX8_readOne_97 (fun H locs hw => ?_)
  refine lv_aload_n S.1 S.2.1 dX8_readOne_100 rfl (lv_at hl 0 rfl) ?_
  refine lv_dup S.1 S.2.1 dX8_readOne_101 rfl ?_
  refine xg_Reader_at S hw kf_X8_50 dX8_readOne_102 ?_
  refine lv_iconst (v := 1) S.1 S.2.1 dX8_readOne_105 (by decide) ?_
  refine lv_iadd S.1 S.2.1 dX8_readOne_106 ?_
  obtain ⟨σ17, e18⟩ : ∃ z : St, z = sI σ15 7 ((σ15.1 7) + (1 : Int32)) := ⟨_, rfl⟩
  have hf := nm_s e18 hf
  refine xp_Reader_at S hw e18 kf_X8_50 dX8_readOne_107 (fun H locs hw => ?_)
  refine lv_iconst (v := 1) S.1 S.2.1 dX8_readOne_110 (by decide) ?_
  exact g_zret (XWd_ok D ad cs ts adK adV) S hr hlk hw rfl dX8_readOne_111 (Prod.mk.inj (Option.some.inj hf)).1 (Prod.mk.inj (Option.some.inj hf)).2
def fX8_readOne_77 (N : Nat) (rl : St → Int32 → Int32 → Option (Int32 × St)) (σ : St) (x2 : Int32) : Option (Int32 × St) :=
  if x2 = (2 : Int32) then (if ix (σ.1 7) 161 = true then fX8_readOne_97 N rl σ (aR σ 54 (σ.1 7)) else none) else (fX8_readOne_97 N rl σ (-x2))
set_option maxHeartbeats 2000000 in
set_option maxRecDepth 20000 in
theorem wX8_readOne_77 {r : Int32} {σ' : St} {N : Nat} {rl : St → Int32 → Int32 → Option (Int32 × St)} {d : Nat} (hrl : ∀ {σ : St} {a b r : Int32} {σ' : St}, rl σ a b = some (r, σ') → CI l (XWd D ad cs ts adK adV) yX8_readLevel cX8_readLevel 6 (some .boolean) (3 * d + 2) (100 * d + 60) [.ref (ad 5), .int a, .int b] σ r σ') (S : CallFix p m c cX8_readOne 3 s av BG RX8) (hr : meth.sig.returnType = some .boolean) (hlk : meth.locks = false)  {σ : St} {x2 : Int32} {ls : Array Slot} {H : Heap} {locs : List Loc} (hw : Hw (XWd D ad cs ts adK adV) s σ H locs) (hl : lv_has ls 3 [(0, .ref (ad 5)), (2, .int x2)]) (hf : fX8_readOne_77 N rl σ x2 = some (r, σ')) : W p l e (RM (3 * d + 4) (100 * d + 130)) s m av below meth c H locs 0 0 (QI below (XWd D ad cs ts adK adV) av s r σ') (F0 m 77 ls []) := by
  unfold fX8_readOne_77 at hf
  refine lv_aload_n S.1 S.2.1 dX8_readOne_77 rfl (lv_at hl 0 rfl) ?_
  refine lv_iload_n S.1 S.2.1 dX8_readOne_78 rfl (lv_at hl 1 rfl) ?_
  refine lv_iconst (v := 2) S.1 S.2.1 dX8_readOne_79 (by decide) ?_
  refine lv_icmp_ne (tgt := 95) S.1 S.2.1 dX8_readOne_80 (by decide) (fun hc => ?_) (fun hc => ?_)
  · have hf := itf hf hc
    refine lv_iload_n S.1 S.2.1 dX8_readOne_95 rfl (lv_at hl 1 rfl) ?_
    refine lv_ineg S.1 S.2.1 dX8_readOne_96 ?_
    exact wX8_readOne_97 hrl S hr hlk hw (lv_sub hl [0] rfl) hf
  · have hf := itt hf hc
    refine lv_aload_n S.1 S.2.1 dX8_readOne_83 rfl (lv_at hl 0 rfl) ?_
    refine xg_Reader_numbers S hw kf_X8_21 dX8_readOne_84 ?_
    refine lv_aload_n S.1 S.2.1 dX8_readOne_87 rfl (lv_at hl 0 rfl) ?_
    refine xg_Reader_at S hw kf_X8_50 dX8_readOne_88 ?_
    obtain ⟨h14, hf⟩ := gd_ix hf
    refine g_iald S hw 54 0 xe_54 rfl h14 dX8_readOne_91 ?_
    refine lv_goto (tgt := 97) S.1 S.2.1 dX8_readOne_92 (by decide) ?_
    exact wX8_readOne_97 hrl S hr hlk hw (lv_sub hl [0] rfl) hf
def fX8_readOne (N : Nat) (rl : St → Int32 → Int32 → Option (Int32 × St)) (σ : St) (x1 : Int32) : Option (Int32 × St) :=
  if ix (σ.1 7) 161 = true then nm (aR σ 52 (σ.1 7)) fun v2 => if v2 = (45 : Int32) then (bd2 (fX8_readOpened N rl σ (133 : Int32) (5 : Int32) x1) fun r12 σ10 => if bz r12 = true then some (r12, σ10) else none) else (if v2 = (40 : Int32) then (bd2 (fX8_readOpened N rl σ (0 : Int32) (0 : Int32) x1) fun r6 σ4 => if r6 = 0 then (some ((0 : Int32), σ4)) else (bd2 (fX8_accept N σ4 (41 : Int32)) fun r9 σ7 => if r9 = 0 then (some ((0 : Int32), σ7)) else (some ((1 : Int32), σ7)))) else (if v2 = (2 : Int32) then (fX8_readOne_77 N rl σ v2) else (if (fX11_within v2 (134 : Int32) (139 : Int32)) = 0 then (some ((0 : Int32), σ)) else (fX8_readOne_77 N rl σ v2)))) else none
set_option maxHeartbeats 2000000 in
set_option maxRecDepth 20000 in
theorem tX8_readOne {r : Int32} {σ' : St} {N : Nat} {rl : St → Int32 → Int32 → Option (Int32 × St)} {d : Nat} (hrl : ∀ {σ : St} {a b r : Int32} {σ' : St}, rl σ a b = some (r, σ') → CI l (XWd D ad cs ts adK adV) yX8_readLevel cX8_readLevel 6 (some .boolean) (3 * d + 2) (100 * d + 60) [.ref (ad 5), .int a, .int b] σ r σ') {σ : St} {x1 : Int32} (hf : fX8_readOne N rl σ x1 = some (r, σ')) : CI l (XWd D ad cs ts adK adV) yX8_readOne cX8_readOne 3 (some .boolean) (3 * d + 4) (100 * d + 130) [.ref (ad 5), .int x1] σ r σ' := by
  refine CI.of (by decide) (Nat.le_of_ble_eq_true rfl) ?_
  intro p e s m below meth c ls S hr hlk hw hl
  have hl : lv_has ls 3 [(0, .ref (ad 5)), (1, .int x1)] := hl
  unfold fX8_readOne at hf
  refine lv_aload_n S.1 S.2.1 dX8_readOne_0 rfl (lv_at hl 0 rfl) ?_
  refine xg_Reader_tokens S hw kf_X8_15 dX8_readOne_1 ?_
  refine lv_aload_n S.1 S.2.1 dX8_readOne_4 rfl (lv_at hl 0 rfl) ?_
  refine xg_Reader_at S hw kf_X8_50 dX8_readOne_5 ?_
  obtain ⟨h1, hf⟩ := gd_ix hf
  refine g_iald S hw 52 0 xe_52 rfl h1 dX8_readOne_8 ?_
  refine lv_topi (fun v2 e3 => ?_)
  have hf := nm_s e3 hf
  refine lv_istore_n (lv' := [(2, .int v2), (0, .ref (ad 5)), (1, .int x1)]) S.1 S.2.1 dX8_readOne_9 rfl hl (by decide) rfl (fun ls hl => ?_)
  refine lv_iload_n S.1 S.2.1 dX8_readOne_10 rfl (lv_at hl 0 rfl) ?_
  refine lv_bipush (v := 45) S.1 S.2.1 dX8_readOne_11 (by decide) ?_
  refine lv_icmp_ne (tgt := 26) S.1 S.2.1 dX8_readOne_13 (by decide) (fun hc => ?_) (fun hc => ?_)
  · have hf := itf hf hc
    refine lv_iload_n S.1 S.2.1 dX8_readOne_26 rfl (lv_at hl 0 rfl) ?_
    refine lv_bipush (v := 40) S.1 S.2.1 dX8_readOne_27 (by decide) ?_
    refine lv_icmp_ne (tgt := 57) S.1 S.2.1 dX8_readOne_29 (by decide) (fun hc => ?_) (fun hc => ?_)
    · have hf := itf hf hc
      refine lv_iload_n S.1 S.2.1 dX8_readOne_57 rfl (lv_at hl 0 rfl) ?_
      refine lv_iconst (v := 2) S.1 S.2.1 dX8_readOne_58 (by decide) ?_
      refine lv_icmp_eq (tgt := 77) S.1 S.2.1 dX8_readOne_59 (by decide) (fun hc => ?_) (fun hc => ?_)
      · have hf := itt hf hc
        exact wX8_readOne_77 hrl S hr hlk hw (lv_sub hl [1, 0] rfl) hf
      · have hf := itf hf hc
        refine lv_iload_n S.1 S.2.1 dX8_readOne_62 rfl (lv_at hl 0 rfl) ?_
        refine lv_sipush (v := 134) S.1 S.2.1 dX8_readOne_63 (by decide) ?_
        refine lv_sipush (v := 139) S.1 S.2.1 dX8_readOne_66 (by decide) ?_
        refine g_Ni (rest := []) (XWd_ok D ad cs ts adK adV) S hw (tX11_within (ad := ad) (cs := cs) (ts := ts) (adK := adK) (adV := adV) (σ := σ) rfl) kn_X11_within (x_nw hw 0 rfl) ⟨by show 0 + 1 ≤ 3 * d + 4; omega, by show 8 + (3 + 11) + (0) ≤ 100 * d + 130; omega⟩ rfl hl.1 rfl (Nat.le_of_ble_eq_true rfl) ⟨Nat.zero_le _, Nat.zero_le _⟩ dX8_readOne_69 (fun H locs hw => ?_)
        refine lv_if_ne (tgt := 77) S.1 S.2.1 dX8_readOne_72 (by decide) (fun hc => ?_) (fun hc => ?_)
        · have hf := itf hf hc
          exact wX8_readOne_77 hrl S hr hlk hw (lv_sub hl [1, 0] rfl) hf
        · have hf := itt hf hc
          refine lv_iconst (v := 0) S.1 S.2.1 dX8_readOne_75 (by decide) ?_
          exact g_zret (XWd_ok D ad cs ts adK adV) S hr hlk hw rfl dX8_readOne_76 (Prod.mk.inj (Option.some.inj hf)).1 (Prod.mk.inj (Option.some.inj hf)).2
    · have hf := itt hf hc
      refine lv_aload_n S.1 S.2.1 dX8_readOne_32 rfl (lv_at hl 1 rfl) ?_
      refine lv_iconst (v := 0) S.1 S.2.1 dX8_readOne_33 (by decide) ?_
      refine lv_iconst (v := 0) S.1 S.2.1 dX8_readOne_34 (by decide) ?_
      refine lv_iload_n S.1 S.2.1 dX8_readOne_35 rfl (lv_at hl 2 rfl) ?_
      obtain ⟨r6, σ4, g5, hf⟩ := bd2_s hf
      refine g_Vi (rest := []) (XWd_ok D ad cs ts adK adV) S hw (tX8_readOpened hrl g5) kt_X8_139 5 xe_5 rfl rfl ⟨by show 3 * d + 3 + 1 ≤ 3 * d + 4; omega, by show 8 + (4 + 11) + (100 * d + 100) ≤ 100 * d + 130; omega⟩ rfl hl.1 rfl (Nat.le_of_ble_eq_true rfl) ⟨Nat.zero_le _, Nat.zero_le _⟩ dX8_readOne_36 (fun H locs hw => ?_)
      refine lv_if_eq (tgt := 55) S.1 S.2.1 dX8_readOne_39 (by decide) (fun hc => ?_) (fun hc => ?_)
      · have hf := itt hf hc
        refine lv_iconst (v := 0) S.1 S.2.1 dX8_readOne_55 (by decide) ?_
        exact g_zret (XWd_ok D ad cs ts adK adV) S hr hlk hw rfl dX8_readOne_56 (Prod.mk.inj (Option.some.inj hf)).1 (Prod.mk.inj (Option.some.inj hf)).2
      · have hf := itf hf hc
        refine lv_aload_n S.1 S.2.1 dX8_readOne_42 rfl (lv_at hl 1 rfl) ?_
        refine lv_bipush (v := 41) S.1 S.2.1 dX8_readOne_43 (by decide) ?_
        obtain ⟨r9, σ7, g8, hf⟩ := bd2_s hf
        refine g_Vi (rest := []) (XWd_ok D ad cs ts adK adV) S hw (tX8_accept g8) kt_X8_129 5 xe_5 rfl rfl ⟨by show 0 + 1 ≤ 3 * d + 4; omega, by show 8 + (2 + 11) + (0) ≤ 100 * d + 130; omega⟩ rfl hl.1 rfl (Nat.le_of_ble_eq_true rfl) ⟨Nat.zero_le _, Nat.zero_le _⟩ dX8_readOne_45 (fun H locs hw => ?_)
        refine lv_if_eq (tgt := 55) S.1 S.2.1 dX8_readOne_48 (by decide) (fun hc => ?_) (fun hc => ?_)
        · have hf := itt hf hc
          refine lv_iconst (v := 0) S.1 S.2.1 dX8_readOne_55 (by decide) ?_
          exact g_zret (XWd_ok D ad cs ts adK adV) S hr hlk hw rfl dX8_readOne_56 (Prod.mk.inj (Option.some.inj hf)).1 (Prod.mk.inj (Option.some.inj hf)).2
        · have hf := itf hf hc
          refine lv_iconst (v := 1) S.1 S.2.1 dX8_readOne_51 (by decide) ?_
          refine lv_goto (tgt := 56) S.1 S.2.1 dX8_readOne_52 (by decide) ?_
          exact g_zret (XWd_ok D ad cs ts adK adV) S hr hlk hw rfl dX8_readOne_56 (Prod.mk.inj (Option.some.inj hf)).1 (Prod.mk.inj (Option.some.inj hf)).2
  · have hf := itt hf hc
    refine lv_aload_n S.1 S.2.1 dX8_readOne_16 rfl (lv_at hl 1 rfl) ?_
    refine lv_sipush (v := 133) S.1 S.2.1 dX8_readOne_17 (by decide) ?_
    refine lv_iconst (v := 5) S.1 S.2.1 dX8_readOne_20 (by decide) ?_
    refine lv_iload_n S.1 S.2.1 dX8_readOne_21 rfl (lv_at hl 2 rfl) ?_
    obtain ⟨r12, σ10, g11, hf⟩ := bd2_s hf
    refine g_Vi (rest := []) (XWd_ok D ad cs ts adK adV) S hw (tX8_readOpened hrl g11) kt_X8_139 5 xe_5 rfl rfl ⟨by show 3 * d + 3 + 1 ≤ 3 * d + 4; omega, by show 8 + (4 + 11) + (100 * d + 100) ≤ 100 * d + 130; omega⟩ rfl hl.1 rfl (Nat.le_of_ble_eq_true rfl) ⟨Nat.zero_le _, Nat.zero_le _⟩ dX8_readOne_22 (fun H locs hw => ?_)
    obtain ⟨h13, hf⟩ := gd_t hf
    exact g_zret (XWd_ok D ad cs ts adK adV) S hr hlk hw (bz_n h13) dX8_readOne_25 (Prod.mk.inj (Option.some.inj hf)).1 (Prod.mk.inj (Option.some.inj hf)).2
def fX8_readLevel_70b (N : Nat) (rl : St → Int32 → Int32 → Option (Int32 × St)) (k70 : St → Int32 → Int32 → Int32 → Int32 → Option (Int32 × St)) (σ : St) (x1 : Int32) (x2 : Int32) (x3 : Int32) (x4 : Int32) : Option (Int32 × St) :=
  if x3 ≤ x4 then (some ((1 : Int32), σ)) else (if ix (σ.1 7) 161 = true then if (fX8_isSignOf x1 (aR σ 52 (σ.1 7))) = 0 then (some ((1 : Int32), σ)) else (if ix (σ.1 7) 161 = true then nm (aR σ 52 (σ.1 7)) fun v15 => nm (sI σ 7 ((σ.1 7) + (1 : Int32))) fun σ17 => bd2 (rl σ17 (x1 + (1 : Int32)) x2) fun r21 σ19 => if r21 = 0 then (some ((0 : Int32), σ19)) else (bd (fX8_emit N σ19 (-v15)) fun σ22 => nm (x4 + (1 : Int32)) fun v24 => k70 σ22 x1 x2 x3 v24) else none) else none)
set_option maxHeartbeats 2000000 in
set_option maxRecDepth 20000 in
theorem wX8_readLevel_70b {r : Int32} {σ' : St} {N : Nat} {rl : St → Int32 → Int32 → Option (Int32 × St)} {d : Nat} (hrl : ∀ {σ : St} {a b r : Int32} {σ' : St}, rl σ a b = some (r, σ') → CI l (XWd D ad cs ts adK adV) yX8_readLevel cX8_readLevel 6 (some .boolean) (3 * d + 2) (100 * d + 60) [.ref (ad 5), .int a, .int b] σ r σ') (S : CallFix p m c cX8_readLevel 6 s av BG RX8) (hr : meth.sig.returnType = some .boolean) (hlk : meth.locks = false) {k70 : St → Int32 → Int32 → Int32 → Int32 → Option (Int32 × St)} (hk70 : ∀ (σ : St) (x1 : Int32) (x2 : Int32) (x3 : Int32) (x4 : Int32) (ls : Array Slot) (H : Heap) (locs : List Loc), Hw (XWd D ad cs ts adK adV) s σ H locs → lv_has ls 6 [(0, .ref (ad 5)), (1, .int x1), (2, .int x2), (3, .int x3), (4, .int x4)] → k70 σ x1 x2 x3 x4 = some (r, σ') → W p l e (RM (3 * d + 5) (100 * d + 160)) s m av below meth c H locs 0 0 (QI below (XWd D ad cs ts adK adV) av s r σ') (F0 m 70 ls []))  {σ : St} {x1 : Int32} {x2 : Int32} {x3 : Int32} {x4 : Int32} {ls : Array Slot} {H : Heap} {locs : List Loc} (hw : Hw (XWd D ad cs ts adK adV) s σ H locs) (hl : lv_has ls 6 [(0, .ref (ad 5)), (1, .int x1), (2, .int x2), (3, .int x3), (4, .int x4)]) (hf : fX8_readLevel_70b N rl k70 σ x1 x2 x3 x4 = some (r, σ')) : W p l e (RM (3 * d + 5) (100 * d + 160)) s m av below meth c H locs 0 0 (QI below (XWd D ad cs ts adK adV) av s r σ') (F0 m 70 ls []) := by
  unfold fX8_readLevel_70b at hf
  refine lv_iload S.1 S.2.1 dX8_readLevel_70 (lv_at hl 4 rfl) ?_
  refine lv_iload_n S.1 S.2.1 dX8_readLevel_72 rfl (lv_at hl 3 rfl) ?_
  refine lv_icmp_ge (tgt := 139) S.1 S.2.1 dX8_readLevel_73 (by decide) (fun hc => ?_) (fun hc => ?_)
  · have hf := itt hf hc
    refine lv_iconst (v := 1) S.1 S.2.1 dX8_readLevel_139 (by decide) ?_
    exact g_zret (XWd_ok D ad cs ts adK adV) S hr hlk hw rfl dX8_readLevel_140 (Prod.mk.inj (Option.some.inj hf)).1 (Prod.mk.inj (Option.some.inj hf)).2
  · have hf := itf hf hc
    refine lv_iload_n S.1 S.2.1 dX8_readLevel_76 rfl (lv_at hl 1 rfl) ?_
    refine lv_aload_n S.1 S.2.1 dX8_readLevel_77 rfl (lv_at hl 0 rfl) ?_
    refine xg_Reader_tokens S hw kf_X8_15 dX8_readLevel_78 ?_
    refine lv_aload_n S.1 S.2.1 dX8_readLevel_81 rfl (lv_at hl 0 rfl) ?_
    refine xg_Reader_at S hw kf_X8_50 dX8_readLevel_82 ?_
    obtain ⟨h13, hf⟩ := gd_ix hf
    refine g_iald S hw 52 0 xe_52 rfl h13 dX8_readLevel_85 ?_
    refine g_Si (rest := []) (XWd_ok D ad cs ts adK adV) S hw (tX8_isSignOf (ad := ad) (cs := cs) (ts := ts) (adK := adK) (adV := adV) (σ := σ) rfl) kt_X8_142 ⟨by show 0 + 1 ≤ 3 * d + 5; omega, by show 8 + (2 + 11) + (0) ≤ 100 * d + 160; omega⟩ rfl hl.1 rfl (Nat.le_of_ble_eq_true rfl) ⟨Nat.zero_le _, Nat.zero_le _⟩ dX8_readLevel_86 (fun H locs hw => ?_)
    refine lv_if_eq (tgt := 139) S.1 S.2.1 dX8_readLevel_89 (by decide) (fun hc => ?_) (fun hc => ?_)
    · have hf := itt hf hc
      refine lv_iconst (v := 1) S.1 S.2.1 dX8_readLevel_139 (by decide) ?_
      exact g_zret (XWd_ok D ad cs ts adK adV) S hr hlk hw rfl dX8_readLevel_140 (Prod.mk.inj (Option.some.inj hf)).1 (Prod.mk.inj (Option.some.inj hf)).2
    · have hf := itf hf hc
      refine lv_aload_n S.1 S.2.1 dX8_readLevel_92 rfl (lv_at hl 0 rfl) ?_
      refine xg_Reader_tokens S hw kf_X8_15 dX8_readLevel_93 ?_
      refine lv_aload_n S.1 S.2.1 dX8_readLevel_96 rfl (lv_at hl 0 rfl) ?_
      refine xg_Reader_at S hw kf_X8_50 dX8_readLevel_97 ?_
      obtain ⟨h14, hf⟩ := gd_ix hf
      refine g_iald S hw 52 0 xe_52 rfl h14 dX8_readLevel_100 ?_
      refine lv_topi (fun v15 e16 => ?_)
      have hf := nm_s e16 hf
      refine lv_istore (lv' := [(5, .int v15), (0, .ref (ad 5)), (1, .int x1), (2, .int x2), (3, .int x3), (4, .int x4)]) S.1 S.2.1 dX8_readLevel_101 hl (by decide) rfl (fun ls hl => ?_)
      refine lv_aload_n S.1 S.2.1 dX8_readLevel_103 rfl (lv_at hl 1 rfl) ?_
      refine lv_dup S.1 S.2.1 dX8_readLevel_104 rfl ?_
      refine xg_Reader_at S hw kf_X8_50 dX8_readLevel_105 ?_
      refine lv_iconst (v := 1) S.1 S.2.1 dX8_readLevel_108 (by decide) ?_
      refine lv_iadd S.1 S.2.1 dX8_readLevel_109 ?_
      obtain ⟨σ17, e18⟩ : ∃ z : St, z = sI σ 7 ((σ.1 7) + (1 : Int32)) := ⟨_, rfl⟩
      have hf := nm_s e18 hf
      refine xp_Reader_at S hw e18 kf_X8_50 dX8_readLevel_110 (fun H locs hw => ?_)
      refine lv_aload_n S.1 S.2.1 dX8_readLevel_113 rfl (lv_at hl 1 rfl) ?_
      refine lv_iload_n S.1 S.2.1 dX8_readLevel_114 rfl (lv_at hl 2 rfl) ?_
      refine lv_iconst (v := 1) S.1 S.2.1 dX8_readLevel_115 (by decide) ?_
      refine lv_iadd S.1 S.2.1 dX8_readLevel_116 ?_
      refine lv_iload_n S.1 S.2.1 dX8_readLevel_117 rfl (lv_at hl 3 rfl) ?_
      obtain ⟨r21, σ19, g20, hf⟩ := bd2_s hf
      refine g_Vi (rest := []) (XWd_ok D ad cs ts adK adV) S hw (hrl g20) kt_X8_132 5 xe_5 rfl rfl ⟨by show 3 * d + 2 + 1 ≤ 3 * d + 5; omega, by show 8 + (6 + 11) + (100 * d + 60) ≤ 100 * d + 160; omega⟩ rfl hl.1 rfl (Nat.le_of_ble_eq_true rfl) ⟨Nat.zero_le _, Nat.zero_le _⟩ dX8_readLevel_118 (fun H locs hw => ?_)
      refine lv_if_ne (tgt := 126) S.1 S.2.1 dX8_readLevel_121 (by decide) (fun hc => ?_) (fun hc => ?_)
      · have hf := itf hf hc
        refine lv_aload_n S.1 S.2.1 dX8_readLevel_126 rfl (lv_at hl 1 rfl) ?_
        refine lv_iload S.1 S.2.1 dX8_readLevel_127 (lv_at hl 0 rfl) ?_
        refine lv_ineg S.1 S.2.1 dX8_readLevel_129 ?_
        obtain ⟨σ22, g23, hf⟩ := bd_s hf
        refine g_Vv (rest := []) (XWd_ok D ad cs ts adK adV) S hw (tX8_emit g23) kt_X8_145 5 xe_5 rfl rfl ⟨by show 0 + 1 ≤ 3 * d + 5; omega, by show 8 + (2 + 11) + (0) ≤ 100 * d + 160; omega⟩ rfl hl.1 rfl (Nat.le_of_ble_eq_true rfl) ⟨Nat.zero_le _, Nat.zero_le _⟩ dX8_readLevel_130 (fun H locs hw => ?_)
        obtain ⟨v24, e25⟩ : ∃ z : Int32, z = x4 + (1 : Int32) := ⟨_, rfl⟩
        have hf := nm_s e25 hf
        refine lv_iinc (v := v24) (lv' := [(4, .int v24), (5, .int v15), (0, .ref (ad 5)), (1, .int x1), (2, .int x2), (3, .int x3)]) S.1 S.2.1 dX8_readLevel_133 hl (k := 5) rfl (by rw [e25]; rfl) (by decide) rfl (fun ls hl => ?_)
        refine lv_goto (tgt := 70) S.1 S.2.1 dX8_readLevel_136 (by decide) ?_
        exact hk70 σ22 x1 x2 x3 v24 _ _ _ hw (lv_sub hl [2, 3, 4, 5, 0] rfl) hf
      · have hf := itt hf hc
        refine lv_iconst (v := 0) S.1 S.2.1 dX8_readLevel_124 (by decide) ?_
        exact g_zret (XWd_ok D ad cs ts adK adV) S hr hlk hw rfl dX8_readLevel_125 (Prod.mk.inj (Option.some.inj hf)).1 (Prod.mk.inj (Option.some.inj hf)).2
def fX8_readLevel_70 (N : Nat) (rl : St → Int32 → Int32 → Option (Int32 × St)) : Nat → St → Int32 → Int32 → Int32 → Int32 → Option (Int32 × St)
  | 0 => fun _ _ _ _ _ => none
  | n + 1 => fX8_readLevel_70b N rl (fX8_readLevel_70 N rl n)
theorem wX8_readLevel_70 {r : Int32} {σ' : St} {N : Nat} {rl : St → Int32 → Int32 → Option (Int32 × St)} {d : Nat} (hrl : ∀ {σ : St} {a b r : Int32} {σ' : St}, rl σ a b = some (r, σ') → CI l (XWd D ad cs ts adK adV) yX8_readLevel cX8_readLevel 6 (some .boolean) (3 * d + 2) (100 * d + 60) [.ref (ad 5), .int a, .int b] σ r σ') (S : CallFix p m c cX8_readLevel 6 s av BG RX8) (hr : meth.sig.returnType = some .boolean) (hlk : meth.locks = false) : ∀ (n : Nat), ∀ (σ : St) (x1 : Int32) (x2 : Int32) (x3 : Int32) (x4 : Int32) (ls : Array Slot) (H : Heap) (locs : List Loc), Hw (XWd D ad cs ts adK adV) s σ H locs → lv_has ls 6 [(0, .ref (ad 5)), (1, .int x1), (2, .int x2), (3, .int x3), (4, .int x4)] → fX8_readLevel_70 N rl n σ x1 x2 x3 x4 = some (r, σ') → W p l e (RM (3 * d + 5) (100 * d + 160)) s m av below meth c H locs 0 0 (QI below (XWd D ad cs ts adK adV) av s r σ') (F0 m 70 ls []) := by
  intro n
  induction n with
  | zero => intro _ _ _ _ _ ls H locs hw hl hf; cases hf
  | succ n ih => intro _ _ _ _ _ ls H locs hw hl hf; exact wX8_readLevel_70b hrl S hr hlk ih hw hl hf
def fX8_readLevel_66 (N : Nat) (rl : St → Int32 → Int32 → Option (Int32 × St)) (σ : St) (x1 : Int32) (x2 : Int32) (y0 : Int32) : Option (Int32 × St) :=
  fX8_readLevel_70 N rl N σ x1 x2 y0 (0 : Int32)
set_option maxHeartbeats 2000000 in
set_option maxRecDepth 20000 in
theorem wX8_readLevel_66 {r : Int32} {σ' : St} {N : Nat} {rl : St → Int32 → Int32 → Option (Int32 × St)} {d : Nat} (hrl : ∀ {σ : St} {a b r : Int32} {σ' : St}, rl σ a b = some (r, σ') → CI l (XWd D ad cs ts adK adV) yX8_readLevel cX8_readLevel 6 (some .boolean) (3 * d + 2) (100 * d + 60) [.ref (ad 5), .int a, .int b] σ r σ') (S : CallFix p m c cX8_readLevel 6 s av BG RX8) (hr : meth.sig.returnType = some .boolean) (hlk : meth.locks = false)  {σ : St} {x1 : Int32} {x2 : Int32} {y0 : Int32} {ls : Array Slot} {H : Heap} {locs : List Loc} (hw : Hw (XWd D ad cs ts adK adV) s σ H locs) (hl : lv_has ls 6 [(0, .ref (ad 5)), (1, .int x1), (2, .int x2)]) (hf : fX8_readLevel_66 N rl σ x1 x2 y0 = some (r, σ')) : W p l e (RM (3 * d + 5) (100 * d + 160)) s m av below meth c H locs 0 0 (QI below (XWd D ad cs ts adK adV) av s r σ') (F0 m 66 ls [.int y0]) := by
  unfold fX8_readLevel_66 at hf
  refine lv_istore_n (lv' := [(3, .int y0), (0, .ref (ad 5)), (1, .int x1), (2, .int x2)]) S.1 S.2.1 dX8_readLevel_66 rfl hl (by decide) rfl (fun ls hl => ?_)
  refine lv_iconst (v := 0) S.1 S.2.1 dX8_readLevel_67 (by decide) ?_
  refine lv_istore (lv' := [(4, .int (0 : Int32)), (3, .int y0), (0, .ref (ad 5)), (1, .int x1), (2, .int x2)]) S.1 S.2.1 dX8_readLevel_68 hl (by decide) rfl (fun ls hl => ?_)
  exact wX8_readLevel_70 hrl S hr hlk N σ x1 x2 y0 (0 : Int32) _ _ _ hw (lv_sub hl [2, 3, 4, 1, 0] rfl) hf
def fX8_readLevel_41 (N : Nat) (rl : St → Int32 → Int32 → Option (Int32 × St)) (σ : St) (x1 : Int32) (x2 : Int32) : Option (Int32 × St) :=
  bd2 (rl σ (x1 + (1 : Int32)) x2) fun r12 σ10 => if r12 = 0 then (some ((0 : Int32), σ10)) else (if x1 = (2 : Int32) then (fX8_readLevel_66 N rl σ10 x1 x2 (1 : Int32)) else (fX8_readLevel_66 N rl σ10 x1 x2 (160 : Int32)))
set_option maxHeartbeats 2000000 in
set_option maxRecDepth 20000 in
theorem wX8_readLevel_41 {r : Int32} {σ' : St} {N : Nat} {rl : St → Int32 → Int32 → Option (Int32 × St)} {d : Nat} (hrl : ∀ {σ : St} {a b r : Int32} {σ' : St}, rl σ a b = some (r, σ') → CI l (XWd D ad cs ts adK adV) yX8_readLevel cX8_readLevel 6 (some .boolean) (3 * d + 2) (100 * d + 60) [.ref (ad 5), .int a, .int b] σ r σ') (S : CallFix p m c cX8_readLevel 6 s av BG RX8) (hr : meth.sig.returnType = some .boolean) (hlk : meth.locks = false)  {σ : St} {x1 : Int32} {x2 : Int32} {ls : Array Slot} {H : Heap} {locs : List Loc} (hw : Hw (XWd D ad cs ts adK adV) s σ H locs) (hl : lv_has ls 6 [(0, .ref (ad 5)), (1, .int x1), (2, .int x2)]) (hf : fX8_readLevel_41 N rl σ x1 x2 = some (r, σ')) : W p l e (RM (3 * d + 5) (100 * d + 160)) s m av below meth c H locs 0 0 (QI below (XWd D ad cs ts adK adV) av s r σ') (F0 m 41 ls []) := by
  unfold fX8_readLevel_41 at hf
  refine lv_aload_n S.1 S.2.1 dX8_readLevel_41 rfl (lv_at hl 0 rfl) ?_
  refine lv_iload_n S.1 S.2.1 dX8_readLevel_42 rfl (lv_at hl 1 rfl) ?_
  refine lv_iconst (v := 1) S.1 S.2.1 dX8_readLevel_43 (by decide) ?_
  refine lv_iadd S.1 S.2.1 dX8_readLevel_44 ?_
  refine lv_iload_n S.1 S.2.1 dX8_readLevel_45 rfl (lv_at hl 2 rfl) ?_
  obtain ⟨r12, σ10, g11, hf⟩ := bd2_s hf
  refine g_Vi (rest := []) (XWd_ok D ad cs ts adK adV) S hw (hrl g11) kt_X8_132 5 xe_5 rfl rfl ⟨by show 3 * d + 2 + 1 ≤ 3 * d + 5; omega, by show 8 + (6 + 11) + (100 * d + 60) ≤ 100 * d + 160; omega⟩ rfl hl.1 rfl (Nat.le_of_ble_eq_true rfl) ⟨Nat.zero_le _, Nat.zero_le _⟩ dX8_readLevel_46 (fun H locs hw => ?_)
  refine lv_if_ne (tgt := 54) S.1 S.2.1 dX8_readLevel_49 (by decide) (fun hc => ?_) (fun hc => ?_)
  · have hf := itf hf hc
    refine lv_iload_n S.1 S.2.1 dX8_readLevel_54 rfl (lv_at hl 1 rfl) ?_
    refine lv_iconst (v := 2) S.1 S.2.1 dX8_readLevel_55 (by decide) ?_
    refine lv_icmp_ne (tgt := 63) S.1 S.2.1 dX8_readLevel_56 (by decide) (fun hc => ?_) (fun hc => ?_)
    · have hf := itf hf hc
      refine lv_sipush (v := 160) S.1 S.2.1 dX8_readLevel_63 (by decide) ?_
      exact wX8_readLevel_66 hrl S hr hlk hw (lv_sub hl [0, 1, 2] rfl) hf
    · have hf := itt hf hc
      refine lv_iconst (v := 1) S.1 S.2.1 dX8_readLevel_59 (by decide) ?_
      refine lv_goto (tgt := 66) S.1 S.2.1 dX8_readLevel_60 (by decide) ?_
      exact wX8_readLevel_66 hrl S hr hlk hw (lv_sub hl [0, 1, 2] rfl) hf
  · have hf := itt hf hc
    refine lv_iconst (v := 0) S.1 S.2.1 dX8_readLevel_52 (by decide) ?_
    exact g_zret (XWd_ok D ad cs ts adK adV) S hr hlk hw rfl dX8_readLevel_53 (Prod.mk.inj (Option.some.inj hf)).1 (Prod.mk.inj (Option.some.inj hf)).2
def fX8_readLevel (N : Nat) (rl : St → Int32 → Int32 → Option (Int32 × St)) (σ : St) (x1 : Int32) (x2 : Int32) : Option (Int32 × St) :=
  if x1 < (5 : Int32) then (if x1 = (2 : Int32) then (if ix (σ.1 7) 161 = true then if (aR σ 52 (σ.1 7)) = (132 : Int32) then (bd2 (fX8_readOpened N rl σ (132 : Int32) (2 : Int32) x2) fun r4 σ2 => if bz r4 = true then some (r4, σ2) else none) else (fX8_readLevel_41 N rl σ x1 x2) else none) else (fX8_readLevel_41 N rl σ x1 x2)) else (bd2 (fX8_readOne N rl σ x2) fun r8 σ6 => if bz r8 = true then some (r8, σ6) else none)
set_option maxHeartbeats 2000000 in
set_option maxRecDepth 20000 in
theorem tX8_readLevel {r : Int32} {σ' : St} {N : Nat} {rl : St → Int32 → Int32 → Option (Int32 × St)} {d : Nat} (hrl : ∀ {σ : St} {a b r : Int32} {σ' : St}, rl σ a b = some (r, σ') → CI l (XWd D ad cs ts adK adV) yX8_readLevel cX8_readLevel 6 (some .boolean) (3 * d + 2) (100 * d + 60) [.ref (ad 5), .int a, .int b] σ r σ') {σ : St} {x1 : Int32} {x2 : Int32} (hf : fX8_readLevel N rl σ x1 x2 = some (r, σ')) : CI l (XWd D ad cs ts adK adV) yX8_readLevel cX8_readLevel 6 (some .boolean) (3 * d + 5) (100 * d + 160) [.ref (ad 5), .int x1, .int x2] σ r σ' := by
  refine CI.of (by decide) (Nat.le_of_ble_eq_true rfl) ?_
  intro p e s m below meth c ls S hr hlk hw hl
  have hl : lv_has ls 6 [(0, .ref (ad 5)), (1, .int x1), (2, .int x2)] := hl
  unfold fX8_readLevel at hf
  refine lv_iload_n S.1 S.2.1 dX8_readLevel_0 rfl (lv_at hl 1 rfl) ?_
  refine lv_iconst (v := 5) S.1 S.2.1 dX8_readLevel_1 (by decide) ?_
  refine lv_icmp_lt (tgt := 11) S.1 S.2.1 dX8_readLevel_2 (by decide) (fun hc => ?_) (fun hc => ?_)
  · have hf := itt hf hc
    refine lv_iload_n S.1 S.2.1 dX8_readLevel_11 rfl (lv_at hl 1 rfl) ?_
    refine lv_iconst (v := 2) S.1 S.2.1 dX8_readLevel_12 (by decide) ?_
    refine lv_icmp_ne (tgt := 41) S.1 S.2.1 dX8_readLevel_13 (by decide) (fun hc => ?_) (fun hc => ?_)
    · have hf := itf hf hc
      exact wX8_readLevel_41 hrl S hr hlk hw (lv_sub hl [0, 1, 2] rfl) hf
    · have hf := itt hf hc
      refine lv_aload_n S.1 S.2.1 dX8_readLevel_16 rfl (lv_at hl 0 rfl) ?_
      refine xg_Reader_tokens S hw kf_X8_15 dX8_readLevel_17 ?_
      refine lv_aload_n S.1 S.2.1 dX8_readLevel_20 rfl (lv_at hl 0 rfl) ?_
      refine xg_Reader_at S hw kf_X8_50 dX8_readLevel_21 ?_
      obtain ⟨h1, hf⟩ := gd_ix hf
      refine g_iald S hw 52 0 xe_52 rfl h1 dX8_readLevel_24 ?_
      refine lv_sipush (v := 132) S.1 S.2.1 dX8_readLevel_25 (by decide) ?_
      refine lv_icmp_ne (tgt := 41) S.1 S.2.1 dX8_readLevel_28 (by decide) (fun hc => ?_) (fun hc => ?_)
      · have hf := itf hf hc
        exact wX8_readLevel_41 hrl S hr hlk hw (lv_sub hl [0, 1, 2] rfl) hf
      · have hf := itt hf hc
        refine lv_aload_n S.1 S.2.1 dX8_readLevel_31 rfl (lv_at hl 0 rfl) ?_
        refine lv_sipush (v := 132) S.1 S.2.1 dX8_readLevel_32 (by decide) ?_
        refine lv_iconst (v := 2) S.1 S.2.1 dX8_readLevel_35 (by decide) ?_
        refine lv_iload_n S.1 S.2.1 dX8_readLevel_36 rfl (lv_at hl 2 rfl) ?_
        obtain ⟨r4, σ2, g3, hf⟩ := bd2_s hf
        refine g_Vi (rest := []) (XWd_ok D ad cs ts adK adV) S hw (tX8_readOpened hrl g3) kt_X8_139 5 xe_5 rfl rfl ⟨by show 3 * d + 3 + 1 ≤ 3 * d + 5; omega, by show 8 + (4 + 11) + (100 * d + 100) ≤ 100 * d + 160; omega⟩ rfl hl.1 rfl (Nat.le_of_ble_eq_true rfl) ⟨Nat.zero_le _, Nat.zero_le _⟩ dX8_readLevel_37 (fun H locs hw => ?_)
        obtain ⟨h5, hf⟩ := gd_t hf
        exact g_zret (XWd_ok D ad cs ts adK adV) S hr hlk hw (bz_n h5) dX8_readLevel_40 (Prod.mk.inj (Option.some.inj hf)).1 (Prod.mk.inj (Option.some.inj hf)).2
  · have hf := itf hf hc
    refine lv_aload_n S.1 S.2.1 dX8_readLevel_5 rfl (lv_at hl 0 rfl) ?_
    refine lv_iload_n S.1 S.2.1 dX8_readLevel_6 rfl (lv_at hl 2 rfl) ?_
    obtain ⟨r8, σ6, g7, hf⟩ := bd2_s hf
    refine g_Vi (rest := []) (XWd_ok D ad cs ts adK adV) S hw (tX8_readOne hrl g7) kt_X8_136 5 xe_5 rfl rfl ⟨by show 3 * d + 4 + 1 ≤ 3 * d + 5; omega, by show 8 + (3 + 11) + (100 * d + 130) ≤ 100 * d + 160; omega⟩ rfl hl.1 rfl (Nat.le_of_ble_eq_true rfl) ⟨Nat.zero_le _, Nat.zero_le _⟩ dX8_readLevel_7 (fun H locs hw => ?_)
    obtain ⟨h9, hf⟩ := gd_t hf
    exact g_zret (XWd_ok D ad cs ts adK adV) S hr hlk hw (bz_n h9) dX8_readLevel_10 (Prod.mk.inj (Option.some.inj hf)).1 (Prod.mk.inj (Option.some.inj hf)).2
def fRL (N : Nat) : Nat → St → Int32 → Int32 → Option (Int32 × St)
  | 0 => fun _ _ _ => none
  | d + 1 => fX8_readLevel N (fRL N d)
theorem tRL {N : Nat} : ∀ (d : Nat) {σ : St} {a b r : Int32} {σ' : St}, fRL N d σ a b = some (r, σ') → CI l (XWd D ad cs ts adK adV) yX8_readLevel cX8_readLevel 6 (some .boolean) (3 * d + 2) (100 * d + 60) [.ref (ad 5), .int a, .int b] σ r σ' := by
  intro d
  induction d with
  | zero => intro σ a b r σ1 h; cases h
  | succ d ih => intro σ a b r σ1 h; exact tX8_readLevel (d := d) ih h
def fX8_readParts (N : Nat) (σ : St) : Option (Int32 × St) :=
  bd2 (fX8_accept N σ (128 : Int32)) fun r3 σ1 => if r3 = 0 then (some ((0 : Int32), σ1)) else (bd2 (fRL N 60 σ1 (0 : Int32) (0 : Int32)) fun r6 σ4 => if r6 = 0 then (some ((0 : Int32), σ4)) else (bd2 (fX8_accept N σ4 (59 : Int32)) fun r9 σ7 => if r9 = 0 then (some ((0 : Int32), σ7)) else (nm (sI σ7 9 (σ7.1 8)) fun σ10 => bd2 (fX8_accept N σ10 (129 : Int32)) fun r14 σ12 => if r14 = 0 then (some ((0 : Int32), σ12)) else (bd2 (fRL N 60 σ12 (0 : Int32) (0 : Int32)) fun r17 σ15 => if r17 = 0 then (some ((0 : Int32), σ15)) else (bd2 (fX8_accept N σ15 (59 : Int32)) fun r20 σ18 => if r20 = 0 then (some ((0 : Int32), σ18)) else (if ix (σ18.1 7) 161 = true then if (aR σ18 52 (σ18.1 7)) = 0 then (some ((1 : Int32), σ18)) else (some ((0 : Int32), σ18)) else none))))))
set_option maxHeartbeats 2000000 in
set_option maxRecDepth 20000 in
theorem tX8_readParts {r : Int32} {σ' : St} {N : Nat} {σ : St} (hf : fX8_readParts N σ = some (r, σ')) : CI l (XWd D ad cs ts adK adV) yX8_readParts cX8_readParts 1 (some .boolean) 183 6085 [.ref (ad 5)] σ r σ' := by
  refine CI.of (by decide) (Nat.le_of_ble_eq_true rfl) ?_
  intro p e s m below meth c ls S hr hlk hw hl
  have hl : lv_has ls 1 [(0, .ref (ad 5))] := hl
  unfold fX8_readParts at hf
  refine lv_aload_n S.1 S.2.1 dX8_readParts_0 rfl (lv_at hl 0 rfl) ?_
  refine lv_sipush (v := 128) S.1 S.2.1 dX8_readParts_1 (by decide) ?_
  obtain ⟨r3, σ1, g2, hf⟩ := bd2_s hf
  refine g_Vi (rest := []) (XWd_ok D ad cs ts adK adV) S hw (tX8_accept g2) kt_X8_129 5 xe_5 rfl rfl ⟨Nat.le_of_ble_eq_true rfl, Nat.le_of_ble_eq_true rfl⟩ rfl hl.1 rfl (Nat.le_of_ble_eq_true rfl) ⟨Nat.zero_le _, Nat.zero_le _⟩ dX8_readParts_4 (fun H locs hw => ?_)
  refine lv_if_eq (tgt := 28) S.1 S.2.1 dX8_readParts_7 (by decide) (fun hc => ?_) (fun hc => ?_)
  · have hf := itt hf hc
    refine lv_iconst (v := 0) S.1 S.2.1 dX8_readParts_28 (by decide) ?_
    exact g_zret (XWd_ok D ad cs ts adK adV) S hr hlk hw rfl dX8_readParts_29 (Prod.mk.inj (Option.some.inj hf)).1 (Prod.mk.inj (Option.some.inj hf)).2
  · have hf := itf hf hc
    refine lv_aload_n S.1 S.2.1 dX8_readParts_10 rfl (lv_at hl 0 rfl) ?_
    refine lv_iconst (v := 0) S.1 S.2.1 dX8_readParts_11 (by decide) ?_
    refine lv_iconst (v := 0) S.1 S.2.1 dX8_readParts_12 (by decide) ?_
    obtain ⟨r6, σ4, g5, hf⟩ := bd2_s hf
    refine g_Vi (rest := []) (XWd_ok D ad cs ts adK adV) S hw (tRL 60 g5) kt_X8_132 5 xe_5 rfl rfl ⟨Nat.le_of_ble_eq_true rfl, Nat.le_of_ble_eq_true rfl⟩ rfl hl.1 rfl (Nat.le_of_ble_eq_true rfl) ⟨Nat.zero_le _, Nat.zero_le _⟩ dX8_readParts_13 (fun H locs hw => ?_)
    refine lv_if_eq (tgt := 28) S.1 S.2.1 dX8_readParts_16 (by decide) (fun hc => ?_) (fun hc => ?_)
    · have hf := itt hf hc
      refine lv_iconst (v := 0) S.1 S.2.1 dX8_readParts_28 (by decide) ?_
      exact g_zret (XWd_ok D ad cs ts adK adV) S hr hlk hw rfl dX8_readParts_29 (Prod.mk.inj (Option.some.inj hf)).1 (Prod.mk.inj (Option.some.inj hf)).2
    · have hf := itf hf hc
      refine lv_aload_n S.1 S.2.1 dX8_readParts_19 rfl (lv_at hl 0 rfl) ?_
      refine lv_bipush (v := 59) S.1 S.2.1 dX8_readParts_20 (by decide) ?_
      obtain ⟨r9, σ7, g8, hf⟩ := bd2_s hf
      refine g_Vi (rest := []) (XWd_ok D ad cs ts adK adV) S hw (tX8_accept g8) kt_X8_129 5 xe_5 rfl rfl ⟨Nat.le_of_ble_eq_true rfl, Nat.le_of_ble_eq_true rfl⟩ rfl hl.1 rfl (Nat.le_of_ble_eq_true rfl) ⟨Nat.zero_le _, Nat.zero_le _⟩ dX8_readParts_22 (fun H locs hw => ?_)
      refine lv_if_ne (tgt := 30) S.1 S.2.1 dX8_readParts_25 (by decide) (fun hc => ?_) (fun hc => ?_)
      · have hf := itf hf hc
        refine lv_aload_n S.1 S.2.1 dX8_readParts_30 rfl (lv_at hl 0 rfl) ?_
        refine lv_aload_n S.1 S.2.1 dX8_readParts_31 rfl (lv_at hl 0 rfl) ?_
        refine xg_Reader_length S hw kf_X8_53 dX8_readParts_32 ?_
        obtain ⟨σ10, e11⟩ : ∃ z : St, z = sI σ7 9 (σ7.1 8) := ⟨_, rfl⟩
        have hf := nm_s e11 hf
        refine xp_Reader_middle S hw e11 kf_X8_55 dX8_readParts_35 (fun H locs hw => ?_)
        refine lv_aload_n S.1 S.2.1 dX8_readParts_38 rfl (lv_at hl 0 rfl) ?_
        refine lv_sipush (v := 129) S.1 S.2.1 dX8_readParts_39 (by decide) ?_
        obtain ⟨r14, σ12, g13, hf⟩ := bd2_s hf
        refine g_Vi (rest := []) (XWd_ok D ad cs ts adK adV) S hw (tX8_accept g13) kt_X8_129 5 xe_5 rfl rfl ⟨Nat.le_of_ble_eq_true rfl, Nat.le_of_ble_eq_true rfl⟩ rfl hl.1 rfl (Nat.le_of_ble_eq_true rfl) ⟨Nat.zero_le _, Nat.zero_le _⟩ dX8_readParts_42 (fun H locs hw => ?_)
        refine lv_if_eq (tgt := 82) S.1 S.2.1 dX8_readParts_45 (by decide) (fun hc => ?_) (fun hc => ?_)
        · have hf := itt hf hc
          refine lv_iconst (v := 0) S.1 S.2.1 dX8_readParts_82 (by decide) ?_
          exact g_zret (XWd_ok D ad cs ts adK adV) S hr hlk hw rfl dX8_readParts_83 (Prod.mk.inj (Option.some.inj hf)).1 (Prod.mk.inj (Option.some.inj hf)).2
        · have hf := itf hf hc
          refine lv_aload_n S.1 S.2.1 dX8_readParts_48 rfl (lv_at hl 0 rfl) ?_
          refine lv_iconst (v := 0) S.1 S.2.1 dX8_readParts_49 (by decide) ?_
          refine lv_iconst (v := 0) S.1 S.2.1 dX8_readParts_50 (by decide) ?_
          obtain ⟨r17, σ15, g16, hf⟩ := bd2_s hf
          refine g_Vi (rest := []) (XWd_ok D ad cs ts adK adV) S hw (tRL 60 g16) kt_X8_132 5 xe_5 rfl rfl ⟨Nat.le_of_ble_eq_true rfl, Nat.le_of_ble_eq_true rfl⟩ rfl hl.1 rfl (Nat.le_of_ble_eq_true rfl) ⟨Nat.zero_le _, Nat.zero_le _⟩ dX8_readParts_51 (fun H locs hw => ?_)
          refine lv_if_eq (tgt := 82) S.1 S.2.1 dX8_readParts_54 (by decide) (fun hc => ?_) (fun hc => ?_)
          · have hf := itt hf hc
            refine lv_iconst (v := 0) S.1 S.2.1 dX8_readParts_82 (by decide) ?_
            exact g_zret (XWd_ok D ad cs ts adK adV) S hr hlk hw rfl dX8_readParts_83 (Prod.mk.inj (Option.some.inj hf)).1 (Prod.mk.inj (Option.some.inj hf)).2
          · have hf := itf hf hc
            refine lv_aload_n S.1 S.2.1 dX8_readParts_57 rfl (lv_at hl 0 rfl) ?_
            refine lv_bipush (v := 59) S.1 S.2.1 dX8_readParts_58 (by decide) ?_
            obtain ⟨r20, σ18, g19, hf⟩ := bd2_s hf
            refine g_Vi (rest := []) (XWd_ok D ad cs ts adK adV) S hw (tX8_accept g19) kt_X8_129 5 xe_5 rfl rfl ⟨Nat.le_of_ble_eq_true rfl, Nat.le_of_ble_eq_true rfl⟩ rfl hl.1 rfl (Nat.le_of_ble_eq_true rfl) ⟨Nat.zero_le _, Nat.zero_le _⟩ dX8_readParts_60 (fun H locs hw => ?_)
            refine lv_if_eq (tgt := 82) S.1 S.2.1 dX8_readParts_63 (by decide) (fun hc => ?_) (fun hc => ?_)
            · have hf := itt hf hc
              refine lv_iconst (v := 0) S.1 S.2.1 dX8_readParts_82 (by decide) ?_
              exact g_zret (XWd_ok D ad cs ts adK adV) S hr hlk hw rfl dX8_readParts_83 (Prod.mk.inj (Option.some.inj hf)).1 (Prod.mk.inj (Option.some.inj hf)).2
            · have hf := itf hf hc
              refine lv_aload_n S.1 S.2.1 dX8_readParts_66 rfl (lv_at hl 0 rfl) ?_
              refine xg_Reader_tokens S hw kf_X8_15 dX8_readParts_67 ?_
              refine lv_aload_n S.1 S.2.1 dX8_readParts_70 rfl (lv_at hl 0 rfl) ?_
              refine xg_Reader_at S hw kf_X8_50 dX8_readParts_71 ?_
              obtain ⟨h21, hf⟩ := gd_ix hf
              refine g_iald S hw 52 0 xe_52 rfl h21 dX8_readParts_74 ?_
              refine lv_if_ne (tgt := 82) S.1 S.2.1 dX8_readParts_75 (by decide) (fun hc => ?_) (fun hc => ?_)
              · have hf := itf hf hc
                refine lv_iconst (v := 0) S.1 S.2.1 dX8_readParts_82 (by decide) ?_
                exact g_zret (XWd_ok D ad cs ts adK adV) S hr hlk hw rfl dX8_readParts_83 (Prod.mk.inj (Option.some.inj hf)).1 (Prod.mk.inj (Option.some.inj hf)).2
              · have hf := itt hf hc
                refine lv_iconst (v := 1) S.1 S.2.1 dX8_readParts_78 (by decide) ?_
                refine lv_goto (tgt := 83) S.1 S.2.1 dX8_readParts_79 (by decide) ?_
                exact g_zret (XWd_ok D ad cs ts adK adV) S hr hlk hw rfl dX8_readParts_83 (Prod.mk.inj (Option.some.inj hf)).1 (Prod.mk.inj (Option.some.inj hf)).2
      · have hf := itt hf hc
        refine lv_iconst (v := 0) S.1 S.2.1 dX8_readParts_28 (by decide) ?_
        exact g_zret (XWd_ok D ad cs ts adK adV) S hr hlk hw rfl dX8_readParts_29 (Prod.mk.inj (Option.some.inj hf)).1 (Prod.mk.inj (Option.some.inj hf)).2
def fX8_behindBlanks_32 (N : Nat) (σ : St) (k2 : Int32 → Option Int32) (x2 : Int32) : Option Int32 :=
  nm (x2 + (1 : Int32)) fun v3 => k2 v3
set_option maxHeartbeats 2000000 in
set_option maxRecDepth 20000 in
theorem wX8_behindBlanks_32 {r : Int32} {N : Nat} {σ : St} (S : CallFix p m c cX8_behindBlanks 3 s av BG RX8) (hr : meth.sig.returnType = some .int) (hlk : meth.locks = false) {k2 : Int32 → Option Int32} (hk2 : ∀ (x2 : Int32) (ls : Array Slot) (H : Heap) (locs : List Loc), Hw (XWd D ad cs ts adK adV) s σ H locs → lv_has ls 3 [(0, .ref (ad 5)), (2, .int x2)] → k2 x2 = some r → W p l e (RM 0 0) s m av below meth c H locs 0 0 (QI below (XWd D ad cs ts adK adV) av s r σ) (F0 m 2 ls []))  {x2 : Int32} {ls : Array Slot} {H : Heap} {locs : List Loc} (hw : Hw (XWd D ad cs ts adK adV) s σ H locs) (hl : lv_has ls 3 [(0, .ref (ad 5)), (2, .int x2)]) (hf : fX8_behindBlanks_32 N σ k2 x2 = some r) : W p l e (RM 0 0) s m av below meth c H locs 0 0 (QI below (XWd D ad cs ts adK adV) av s r σ) (F0 m 32 ls []) := by
  unfold fX8_behindBlanks_32 at hf
  obtain ⟨v3, e4⟩ : ∃ z : Int32, z = x2 + (1 : Int32) := ⟨_, rfl⟩
  have hf := nm_s e4 hf
  refine lv_iinc (v := v3) (lv' := [(2, .int v3), (0, .ref (ad 5))]) S.1 S.2.1 dX8_behindBlanks_32 hl (k := 1) rfl (by rw [e4]; rfl) (by decide) rfl (fun ls hl => ?_)
  refine lv_goto (tgt := 2) S.1 S.2.1 dX8_behindBlanks_35 (by decide) ?_
  exact hk2 v3 _ _ _ hw (lv_sub hl [1, 0] rfl) hf
def fX8_behindBlanks_2b (N : Nat) (σ : St) (k2 : Int32 → Option Int32) (x2 : Int32) : Option Int32 :=
  if (σ.1 5) ≤ x2 then (some x2) else (if ix x2 160 = true then if (aR σ 51 x2) = (32 : Int32) then (fX8_behindBlanks_32 N σ k2 x2) else (if ix x2 160 = true then if (aR σ 51 x2) = (10 : Int32) then (fX8_behindBlanks_32 N σ k2 x2) else (some x2) else none) else none)
set_option maxHeartbeats 2000000 in
set_option maxRecDepth 20000 in
theorem wX8_behindBlanks_2b {r : Int32} {N : Nat} {σ : St} (S : CallFix p m c cX8_behindBlanks 3 s av BG RX8) (hr : meth.sig.returnType = some .int) (hlk : meth.locks = false) {k2 : Int32 → Option Int32} (hk2 : ∀ (x2 : Int32) (ls : Array Slot) (H : Heap) (locs : List Loc), Hw (XWd D ad cs ts adK adV) s σ H locs → lv_has ls 3 [(0, .ref (ad 5)), (2, .int x2)] → k2 x2 = some r → W p l e (RM 0 0) s m av below meth c H locs 0 0 (QI below (XWd D ad cs ts adK adV) av s r σ) (F0 m 2 ls []))  {x2 : Int32} {ls : Array Slot} {H : Heap} {locs : List Loc} (hw : Hw (XWd D ad cs ts adK adV) s σ H locs) (hl : lv_has ls 3 [(0, .ref (ad 5)), (2, .int x2)]) (hf : fX8_behindBlanks_2b N σ k2 x2 = some r) : W p l e (RM 0 0) s m av below meth c H locs 0 0 (QI below (XWd D ad cs ts adK adV) av s r σ) (F0 m 2 ls []) := by
  unfold fX8_behindBlanks_2b at hf
  refine lv_iload_n S.1 S.2.1 dX8_behindBlanks_2 rfl (lv_at hl 1 rfl) ?_
  refine lv_aload_n S.1 S.2.1 dX8_behindBlanks_3 rfl (lv_at hl 0 rfl) ?_
  refine xg_Reader_size S hw kf_X8_27 dX8_behindBlanks_4 ?_
  refine lv_icmp_ge (tgt := 38) S.1 S.2.1 dX8_behindBlanks_7 (by decide) (fun hc => ?_) (fun hc => ?_)
  · have hf := itt hf hc
    refine lv_iload_n S.1 S.2.1 dX8_behindBlanks_38 rfl (lv_at hl 1 rfl) ?_
    exact g_iret (XWd_ok D ad cs ts adK adV) S hr hlk hw dX8_behindBlanks_39 (Option.some.inj hf) rfl
  · have hf := itf hf hc
    refine lv_aload_n S.1 S.2.1 dX8_behindBlanks_10 rfl (lv_at hl 0 rfl) ?_
    refine xg_Reader_tape S hw kf_X8_9 dX8_behindBlanks_11 ?_
    refine lv_iload_n S.1 S.2.1 dX8_behindBlanks_14 rfl (lv_at hl 1 rfl) ?_
    obtain ⟨h1, hf⟩ := gd_ix hf
    refine g_iald S hw 51 0 xe_51 rfl h1 dX8_behindBlanks_15 ?_
    refine lv_bipush (v := 32) S.1 S.2.1 dX8_behindBlanks_16 (by decide) ?_
    refine lv_icmp_eq (tgt := 32) S.1 S.2.1 dX8_behindBlanks_18 (by decide) (fun hc => ?_) (fun hc => ?_)
    · have hf := itt hf hc
      exact wX8_behindBlanks_32 S hr hlk hk2 hw (lv_sub hl [0, 1] rfl) hf
    · have hf := itf hf hc
      refine lv_aload_n S.1 S.2.1 dX8_behindBlanks_21 rfl (lv_at hl 0 rfl) ?_
      refine xg_Reader_tape S hw kf_X8_9 dX8_behindBlanks_22 ?_
      refine lv_iload_n S.1 S.2.1 dX8_behindBlanks_25 rfl (lv_at hl 1 rfl) ?_
      obtain ⟨h2, hf⟩ := gd_ix hf
      refine g_iald S hw 51 0 xe_51 rfl h2 dX8_behindBlanks_26 ?_
      refine lv_bipush (v := 10) S.1 S.2.1 dX8_behindBlanks_27 (by decide) ?_
      refine lv_icmp_ne (tgt := 38) S.1 S.2.1 dX8_behindBlanks_29 (by decide) (fun hc => ?_) (fun hc => ?_)
      · have hf := itf hf hc
        refine lv_iload_n S.1 S.2.1 dX8_behindBlanks_38 rfl (lv_at hl 1 rfl) ?_
        exact g_iret (XWd_ok D ad cs ts adK adV) S hr hlk hw dX8_behindBlanks_39 (Option.some.inj hf) rfl
      · have hf := itt hf hc
        exact wX8_behindBlanks_32 S hr hlk hk2 hw (lv_sub hl [0, 1] rfl) hf
def fX8_behindBlanks_2 (N : Nat) (σ : St) : Nat → Int32 → Option Int32
  | 0 => fun _ => none
  | n + 1 => fX8_behindBlanks_2b N σ (fX8_behindBlanks_2 N σ n)
theorem wX8_behindBlanks_2 {r : Int32} {N : Nat} {σ : St} (S : CallFix p m c cX8_behindBlanks 3 s av BG RX8) (hr : meth.sig.returnType = some .int) (hlk : meth.locks = false) : ∀ (n : Nat), ∀ (x2 : Int32) (ls : Array Slot) (H : Heap) (locs : List Loc), Hw (XWd D ad cs ts adK adV) s σ H locs → lv_has ls 3 [(0, .ref (ad 5)), (2, .int x2)] → fX8_behindBlanks_2 N σ n x2 = some r → W p l e (RM 0 0) s m av below meth c H locs 0 0 (QI below (XWd D ad cs ts adK adV) av s r σ) (F0 m 2 ls []) := by
  intro n
  induction n with
  | zero => intro _ ls H locs hw hl hf; cases hf
  | succ n ih => intro _ ls H locs hw hl hf; exact wX8_behindBlanks_2b S hr hlk ih hw hl hf
def fX8_behindBlanks (N : Nat) (σ : St) (x1 : Int32) : Option Int32 :=
  fX8_behindBlanks_2 N σ N x1
set_option maxHeartbeats 2000000 in
set_option maxRecDepth 20000 in
theorem tX8_behindBlanks {r : Int32} {N : Nat} {σ : St} {x1 : Int32} (hf : fX8_behindBlanks N σ x1 = some r) : CI l (XWd D ad cs ts adK adV) yX8_behindBlanks cX8_behindBlanks 3 (some .int) 0 0 [.ref (ad 5), .int x1] σ r σ := by
  refine CI.of (by decide) (Nat.le_of_ble_eq_true rfl) ?_
  intro p e s m below meth c ls S hr hlk hw hl
  have hl : lv_has ls 3 [(0, .ref (ad 5)), (1, .int x1)] := hl
  unfold fX8_behindBlanks at hf
  refine lv_iload_n S.1 S.2.1 dX8_behindBlanks_0 rfl (lv_at hl 1 rfl) ?_
  refine lv_istore_n (lv' := [(2, .int x1), (0, .ref (ad 5)), (1, .int x1)]) S.1 S.2.1 dX8_behindBlanks_1 rfl hl (by decide) rfl (fun ls hl => ?_)
  exact wX8_behindBlanks_2 S hr hlk N x1 _ _ _ hw (lv_sub hl [1, 0] rfl) hf
end METH
